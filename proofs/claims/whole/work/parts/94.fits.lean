/-! THE PURE LAYER: rules that apply -/
set_option linter.unusedVariables false
theorem pu_lf_lt {x : Int32} (h : pu_tok x) (c : ¬ 2000 ≤ x) (c1 : 1000 ≤ x) : pu_lf x < 11 := by
  rcases h with ⟨n, n1, n2⟩ | ⟨n, n1, n2⟩ | ⟨n, n1, n2⟩ | ⟨n, n1, n2⟩ | ⟨n, n1, n2⟩
  · rw [n2, show (1000 : Int32) = nI 1000 from rfl, nI_leI (by omega) (by omega)] at c1; omega
  · have e1 : ¬ (1010 : Int32) ≤ x := by rw [n2, show (1010 : Int32) = nI 1010 from rfl, nI_leI (by omega) (by omega)]; omega
    unfold pu_lf
    rw [if_neg e1, n2, show (1000 : Int32) = nI 1000 from rfl, pk_sub (by omega), nI_clamp (by omega)]; omega
  · have e1 : (1010 : Int32) ≤ x := by rw [n2, show (1010 : Int32) = nI 1010 from rfl, nI_leI (by omega) (by omega)]; omega
    have e3 : ¬ (1020 : Int32) ≤ x := by rw [n2, show (1020 : Int32) = nI 1020 from rfl, nI_leI (by omega) (by omega)]; omega
    unfold pu_lf
    rw [if_pos e1, if_neg e3, n2, show (1010 : Int32) = nI 1010 from rfl, pk_sub (by omega), nI_clamp (by omega)]; omega
  · have e1 : (1010 : Int32) ≤ x := by rw [n2, show (1010 : Int32) = nI 1010 from rfl, nI_leI (by omega) (by omega)]; omega
    have e3 : (1020 : Int32) ≤ x := by rw [n2, show (1020 : Int32) = nI 1020 from rfl, nI_leI (by omega) (by omega)]; omega
    unfold pu_lf
    rw [if_pos e1, if_pos e3]
    by_cases d1 : x = 1020
    · rw [if_pos d1]; decide
    · rw [if_neg d1]
      by_cases d2 : x = 1021
      · rw [if_pos d2]; decide
      · rw [if_neg d2]; decide
  · exact absurd (by rw [n2, show (2000 : Int32) = nI 2000 from rfl, nI_leI (by omega) (by omega)]; omega) c
/-- only eleven numbers count -/
theorem pu_pe_c {m ρ ρ' : Nat → Int32} (hr : ∀ j, j < 11 → ρ' j = ρ j) : ∀ (k i : Nat) (v : Int32) (i2 : Nat), pu_pe k m ρ i = some (v, i2) → (∀ x, i ≤ x → x < i2 → pu_tok (m x)) → pu_pe k m ρ' i = some (v, i2) := by
  intro k
  induction k with
  | zero => intro i v i2 h; cases h
  | succ k ih =>
    intro i v i2 h ht
    have hlt := pu_pe_le _ _ _ _ h
    unfold pu_pe at h ⊢
    by_cases c1 : 1000 ≤ m i
    · rw [if_pos c1] at h ⊢
      by_cases c2 : 2000 ≤ m i
      · rw [if_pos c2] at h ⊢
        cases h1 : pu_pe k m ρ (i + 1) with
        | none => rw [h1] at h; cases h
        | some z =>
          obtain ⟨a, i1⟩ := z
          have g1 := pu_pe_le _ _ _ _ h1
          rw [h1] at h
          simp only at h
          by_cases c3 : m i = 2126
          · rw [if_pos c3] at h
            have e9 := Prod.mk.inj (Option.some.inj h)
            have e8 := e9.2
            rw [ih _ _ _ h1 (fun x h1 h2 => ht x (by omega) (by omega))]
            simp only
            rw [if_pos c3]; exact h
          · rw [if_neg c3] at h
            by_cases c4 : m i = 2033
            · rw [if_pos c4] at h
              have e9 := Prod.mk.inj (Option.some.inj h)
              have e8 := e9.2
              rw [ih _ _ _ h1 (fun x h1 h2 => ht x (by omega) (by omega))]
              simp only
              rw [if_neg c3, if_pos c4]; exact h
            · rw [if_neg c4] at h
              cases h2 : pu_pe k m ρ i1 with
              | none => rw [h2] at h; cases h
              | some y =>
                obtain ⟨b, i3⟩ := y
                have g2 := pu_pe_le _ _ _ _ h2
                rw [h2] at h
                have e9 := Prod.mk.inj (Option.some.inj h)
                have e8 := e9.2
                rw [ih _ _ _ h1 (fun x h1 h2 => ht x (by omega) (by omega))]
                simp only
                rw [if_neg c3, if_neg c4, ih _ _ _ h2 (fun x h1 h2 => ht x (by omega) (by omega))]
                exact h
      · rw [if_neg c2] at h ⊢
        rw [hr _ (pu_lf_lt (ht i (Nat.le_refl _) hlt) c2 c1)]; exact h
    · rw [if_neg c1] at h ⊢; exact h
theorem pu_Pre_c {m : Nat → Int32} {i n : Nat} {V : (Nat → Int32) → Int32} (h : pu_Pre m i n V) {ρ ρ' : Nat → Int32} (hr : ∀ j, j < 11 → ρ' j = ρ j) : V ρ' = V ρ := by
  have h1 := h.2 ρ n (Nat.le_refl _)
  have h2 := pu_pe_c hr n i _ _ h1 (fun x hx hx2 => by
    have := h.1 (x - i) (by omega)
    rwa [show i + (x - i) = x by omega] at this)
  rw [h.2 ρ' n (Nat.le_refl _)] at h2
  exact (Prod.mk.inj (Option.some.inj h2)).1
/-- what a condition is told of -/
def pu_env (s : Nat → Int32) (T : Int32) (u t : Nat) (a d : Int32) : Nat → Int32 := fun j => if j < 4 then s (4 * u + j) else if j < 8 then s (64 + 4 * t + (j - 4)) else if j = 8 then T else if j = 9 then a else d
/-- whether a condition holds: the class -/
theorem pu_meets {F : Nat → Nat → Int32} {s : Nat → Int32} (hv : pu_Vatt F s) {rule u t : Nat} {a : Int32} {n : Nat} (hn : n < 81) (hs : F 25 rule = nI n) (hu : u < 16) (ht : t < 16) {m : Nat → Int32} {V : (Nat → Int32) → Int32} (h1 : n ≠ 0 → pu_Pre m 0 n V) (h2 : n ≠ 0 → pu_Post (fun j => F 26 (rule * 80 + j)) 0 n V) : (fn_meets rule u a t F).1 = (decide (n = 0) || !decide (V (pu_env s (F 1 7) u t a (fn_stepsUp t (F 21 rule) F)) = 0)) := by
  unfold fn_meets
  have e80 : (if 80 < F 25 rule then 80 else F 25 rule) = nI n := by
    rw [hs, show (80 : Int32) = nI 80 from rfl, if_neg (nI_nlt (by omega) (by omega))]
  rw [e80]
  by_cases c : n = 0
  · subst c
    rw [if_pos (show nI 0 = 0 from rfl)]
    rfl
  · rw [if_neg (nI_ne0 (by omega) (by omega)), decide_eq_false c, Bool.false_or]
    obtain ⟨G, hG⟩ : ∃ G : Nat → Int32, G = upd (upd (upd (va_cpy (F 28) (va_cpy (F 27) (F 36) (u * 4) 0 4) (t * 4) 4 4) 8 (F 1 7)) 9 a) 10 (fn_stepsUp t (F 21 rule) F) := ⟨_, rfl⟩
    have hl : lf_meets_117 rule u a t F = pu_rn G (fun j => F 26 (rule * 80 + j)) n 0 (nI 0, F 37) := by
      unfold lf_meets_117 pu_rn
      rw [hs, nI_clamp (by omega)]
      refine pu_forC n (nI 0, F 37) (fun j z _ => ?_)
      obtain ⟨z1, z2⟩ := z
      subst hG
      rfl
    obtain ⟨st', p1, p2, p3⟩ := h2 c G 0 (F 37) (by omega)
    rw [hl, p1]
    show (if nI (0 + 1) = 1 then (if st' 0 = 0 then false else true) else false) = _
    rw [if_pos (show nI (0 + 1) = 1 from rfl), p2]
    have hV : V G = V (pu_env s (F 1 7) u t a (fn_stepsUp t (F 21 rule) F)) := by
      refine pu_Pre_c (h1 c) (fun j hj => ?_)
      subst hG
      unfold pu_env
      by_cases d10 : j = 10
      · subst d10; rw [pu_us, if_neg (by decide), if_neg (by decide), if_neg (by decide), if_neg (by decide)]
      · rw [pu_un d10]
        by_cases d9 : j = 9
        · subst d9; rw [pu_us, if_neg (by decide), if_neg (by decide), if_neg (by decide), if_pos rfl]
        · rw [pu_un d9]
          by_cases d8 : j = 8
          · subst d8; rw [pu_us, if_neg (by decide), if_neg (by decide), if_pos rfl]
          · rw [pu_un d8]
            by_cases d4 : j < 4
            · rw [if_pos d4, pk_cpy_out (by omega), pk_cpy_in (by omega) (by omega), hv.1 _ (by omega)]
              exact congrArg s (by omega)
            · rw [if_neg d4, if_pos (by omega), pk_cpy_in (by omega) (by omega), hv.2 _ (by omega)]
              exact congrArg s (by omega)
    rw [hV]
    by_cases e : V (pu_env s (F 1 7) u t a (fn_stepsUp t (F 21 rule) F)) = 0
    · rw [if_pos e, decide_eq_true e]; rfl
    · rw [if_neg e, decide_eq_false e]; rfl
/-- the rule as it must be for all that is asked, but for its role and kind -/
def pu_fit (F : Nat → Nat → Int32) (T : Int32) (r u a t : Nat) : Bool := pu_bt (F 20 r) a && !decide (F 24 r = 0) && !decide (T < F 22 r) && (decide (F 23 r = -1) || decide (T < F 23 r)) && !decide (fn_stepsUp t (F 21 r) F < 0) && (decide (fn_stepsUp t (F 21 r) F = 0) || pu_bt (F 18 10) r) && (fn_meets r u (nI a) t F).1
theorem pu_nat01 {x : Int32} (h : x = -1 ∨ ∃ i, i < 1000 ∧ x = nI i) : (x < 0 ↔ x = -1) ∧ (¬ x < 0 → (x ≤ 0 ↔ x = 0)) := by
  rcases h with h | ⟨i, i1, i2⟩
  · subst h; exact ⟨⟨fun _ => rfl, fun _ => by decide⟩, fun h => absurd (by decide) h⟩
  · subst i2
    refine ⟨⟨fun h => absurd h (nI_pos (by omega)), fun h => ?_⟩, fun _ => ?_⟩
    · have := congrArg Int32.toInt h
      rw [nI_toInt (by omega)] at this
      exact absurd this (by rw [show (-1 : Int32).toInt = -1 from rfl]; omega)
    · rw [show (0 : Int32) = nI 0 from rfl, nI_leI (by omega) (by omega), nI_eq (by omega) (by omega)]
      omega
/-- the reference's look at one rule -/
theorem pu_fits {F f' : Nat → Nat → Int32} (hc : pu_Cpar (f' 89)) (hcr : pu_Crl (f' 89)) (h1 : pu_Vatt F (f' 89)) (h2 : pu_Vpar F (f' 89)) (h8 : pu_Vrl F (f' 89)) (hT : F 1 7 = f' 89 200) {r u a t : Nat} (hr : r < (f' 89 202).toNatClampNeg) (hu : u < 16) (ha : a < 8) (ht : t < 16) : ∃ w : Nat → Int32, fn_m_fits (nI r) (nI u) (nI a) (nI t) f' = some (pu_fit F (F 1 7) r u a t, w) ∧ ∀ j, ¬ (16 ≤ j ∧ j ≤ 20) → w j = f' 88 j := by
  obtain ⟨R, r1, r2, r3, r4⟩ := id hcr
  have hR := (pu_cl r2 (by omega)).2
  obtain ⟨w1, w2, w3, w4, w5, w6, w7⟩ := h8.2.1 r (by omega)
  obtain ⟨-, ⟨th, th1, th2⟩⟩ := r3 r (by omega)
  obtain ⟨-, -, ⟨de, de1, de2⟩, -, ⟨n, n1, n2⟩⟩ := r4 r (by omega)
  have hdeep := (h8.2.2.2.1 r hr).2
  have hdep := pu_deps (F := F) hc h2 ht (nI th)
  have hstep : fn_stepsUp t (F 21 r) F = fn_stepsUp t (nI th) F := by rw [w3, th2]
  obtain ⟨d01, d02⟩ := pu_nat01 (x := fn_stepsUp t (nI th) F) (by
    rw [pu_stepsUp hc h2 ht]
    exact pu_dep_nn 16 0 _ _ (by omega))
  -- its condition
  have hcond : ∃ V : (Nat → Int32) → Int32, ∃ w : Nat → Int32, (fn_meets r u (nI a) t F).1 = (decide (n = 0) || !decide (V (pu_env (f' 89) (F 1 7) u t (nI a) (fn_stepsUp t (nI th) F)) = 0)) ∧ (n ≠ 0 → fn_m_part (am_row f' 88 (upd (upd (upd (upd (upd (f' 88) 17 (nI u)) 18 (nI a)) 19 (nI t)) 20 (fn_stepsUp t (nI th) F)) 16 (760 + (80 * nI r)))) = some (V (pu_env (f' 89) (F 1 7) u t (nI a) (fn_stepsUp t (nI th) F)), w)) ∧ ∀ j, ¬ (16 ≤ j ∧ j ≤ 20) → w j = f' 88 j := by
    by_cases c : n = 0
    · refine ⟨fun _ => 0, f' 88, ?_, fun h => absurd c h, fun _ _ => rfl⟩
      rw [pu_meets h1 n1 (w7.trans n2) hu ht (m := fun _ => 0) (V := fun _ => 0) (fun h => absurd c h) (fun h => absurd c h)]
    · have en : (f' 89 (490 + 9 * r + 8)).toNatClampNeg = n := (pu_cl n2 (by omega)).2
      obtain ⟨V, q1, q2⟩ := h8.2.2.2.2 r hr (by rw [n2]; exact nI_ne0 (by omega) (by omega))
      rw [en] at q1 q2
      refine ⟨V, upd (upd (upd (upd (upd (upd (f' 88) 17 (nI u)) 18 (nI a)) 19 (nI t)) 20 (fn_stepsUp t (nI th) F)) 16 (760 + (80 * nI r))) 16 (nI (760 + 80 * r + (0 + n))), ?_, fun _ => ?_, fun j hj => ?_⟩
      · rw [pu_meets h1 n1 (w7.trans n2) hu ht (m := fun j => f' 89 (760 + 80 * r + j)) (fun _ => q1) (fun _ => q2), hstep]
      · have hp := q1.2 (pu_env (f' 89) (F 1 7) u t (nI a) (fn_stepsUp t (nI th) F)) 81 (by omega)
        refine pu_part (m := fun j => f' 89 (760 + 80 * r + j)) (B := 760 + 80 * r) hu ht 81 0 _ _ hp _ (fun x _ hx => ⟨?_, rfl⟩) (by omega) ?_ ?_ ?_ (fun j hj => ?_) (fun j hj => ?_) ?_ ?_ ?_
        · have := q1.1 x (by omega)
          rwa [Nat.zero_add] at this
        · show upd (upd (upd (upd (upd (f' 88) 17 (nI u)) 18 (nI a)) 19 (nI t)) 20 (fn_stepsUp t (nI th) F)) 16 (760 + (80 * nI r)) 16 = _
          rw [pu_us, show (760 : Int32) = nI 760 from rfl, show (80 : Int32) = nI 80 from rfl, pk_mul, nI_add, Nat.add_zero]
        · show upd (upd (upd (upd (upd (f' 88) 17 (nI u)) 18 (nI a)) 19 (nI t)) 20 (fn_stepsUp t (nI th) F)) 16 (760 + (80 * nI r)) 17 = nI u
          rw [pu_un (by decide), pu_un (by decide), pu_un (by decide), pu_un (by decide), pu_us]
        · show upd (upd (upd (upd (upd (f' 88) 17 (nI u)) 18 (nI a)) 19 (nI t)) 20 (fn_stepsUp t (nI th) F)) 16 (760 + (80 * nI r)) 19 = nI t
          rw [pu_un (by decide), pu_un (by decide), pu_us]
        · show pu_env _ _ _ _ _ _ j = _
          unfold pu_env; rw [if_pos hj]; rfl
        · show pu_env _ _ _ _ _ _ (4 + j) = _
          unfold pu_env; rw [if_neg (by omega), if_pos (by omega), Nat.add_sub_cancel_left]; rfl
        · show pu_env _ _ _ _ _ _ 8 = f' 89 200
          exact hT
        · show pu_env _ _ _ _ _ _ 9 = upd (upd (upd (upd (upd (f' 88) 17 (nI u)) 18 (nI a)) 19 (nI t)) 20 (fn_stepsUp t (nI th) F)) 16 (760 + (80 * nI r)) 18
          rw [pu_un (by decide), pu_un (by decide), pu_un (by decide), pu_us]; rfl
        · show pu_env _ _ _ _ _ _ 10 = upd (upd (upd (upd (upd (f' 88) 17 (nI u)) 18 (nI a)) 19 (nI t)) 20 (fn_stepsUp t (nI th) F)) 16 (760 + (80 * nI r)) 20
          rw [pu_un (by decide), pu_us]; rfl
      · rw [pu_un (by omega), pu_un (by omega), pu_un (by omega), pu_un (by omega), pu_un (by omega), pu_un (by omega)]
  obtain ⟨V, w, k1, k2, k3⟩ := hcond
  unfold fn_m_fits pu_fit
  have er : ∀ k, fn_m_ruleAt (nI r).toNatClampNeg k f' = f' 89 (490 + 9 * r + k) := fun k => by rw [nI_clamp (by omega)]; rfl
  simp only [er]
  rw [am_chk_p (am_inbN (by omega) (by decide)), pu_mhas _ (by omega), ← w2, ← w6, th2, ← w4, ← w5, hdep, k1, ← hT, hstep]
  cases b1 : pu_bt (F 20 r) a with
  | false => exact ⟨f' 88, rfl, fun _ _ => rfl⟩
  | true =>
    rw [cond_true, Bool.true_and]
    by_cases b2 : F 24 r = 0
    · rw [if_pos b2, decide_eq_true b2]; exact ⟨f' 88, rfl, fun _ _ => rfl⟩
    · rw [if_neg b2, decide_eq_false b2, am_ob_s, Bool.not_false, Bool.true_and]
      by_cases b3 : F 1 7 < F 22 r
      · rw [if_pos b3, decide_eq_true b3]; exact ⟨f' 88, rfl, fun _ _ => rfl⟩
      · rw [if_neg b3, decide_eq_false b3, Bool.not_false, Bool.true_and]
        -- what is left, whatever its end
        have tail : ∃ w : Nat → Int32, (if fn_stepsUp t (nI th) F < 0 then some (false, f' 88) else (if fn_stepsUp t (nI th) F ≤ 0 then (if f' 89 (490 + 9 * r + 8) = 0 then some (true, f' 88) else am_ob (fn_m_part (am_row f' 88 (upd (upd (upd (upd (upd (f' 88) 17 (nI u)) 18 (nI a)) 19 (nI t)) 20 (fn_stepsUp t (nI th) F)) 16 (760 + (80 * nI r))))) (fun (y : Int32 × (Nat → Int32)) => some ((if y.1 = 0 then false else true), y.2))) else (if f' 89 (490 + 9 * r + 4) = 0 then some (false, f' 88) else (if f' 89 (490 + 9 * r + 8) = 0 then some (true, f' 88) else am_ob (fn_m_part (am_row f' 88 (upd (upd (upd (upd (upd (f' 88) 17 (nI u)) 18 (nI a)) 19 (nI t)) 20 (fn_stepsUp t (nI th) F)) 16 (760 + (80 * nI r))))) (fun (y : Int32 × (Nat → Int32)) => some ((if y.1 = 0 then false else true), y.2)))))) = some ((!decide (fn_stepsUp t (nI th) F < 0) && (decide (fn_stepsUp t (nI th) F = 0) || pu_bt (F 18 10) r) && (decide (n = 0) || !decide (V (pu_env (f' 89) (F 1 7) u t (nI a) (fn_stepsUp t (nI th) F)) = 0))), w) ∧ ∀ j, ¬ (16 ≤ j ∧ j ≤ 20) → w j = f' 88 j := by
          have last : ∃ w : Nat → Int32, (if f' 89 (490 + 9 * r + 8) = 0 then some (true, f' 88) else am_ob (fn_m_part (am_row f' 88 (upd (upd (upd (upd (upd (f' 88) 17 (nI u)) 18 (nI a)) 19 (nI t)) 20 (fn_stepsUp t (nI th) F)) 16 (760 + (80 * nI r))))) (fun (y : Int32 × (Nat → Int32)) => some ((if y.1 = 0 then false else true), y.2))) = some ((decide (n = 0) || !decide (V (pu_env (f' 89) (F 1 7) u t (nI a) (fn_stepsUp t (nI th) F)) = 0)), w) ∧ ∀ j, ¬ (16 ≤ j ∧ j ≤ 20) → w j = f' 88 j := by
            by_cases c : n = 0
            · rw [if_pos (by rw [n2, c]; rfl), decide_eq_true c]; exact ⟨f' 88, rfl, fun _ _ => rfl⟩
            · rw [if_neg (by rw [n2]; exact nI_ne0 (by omega) (by omega)), k2 c, am_ob_s, decide_eq_false c, Bool.false_or]
              refine ⟨w, ?_, k3⟩
              by_cases e : V (pu_env (f' 89) (F 1 7) u t (nI a) (fn_stepsUp t (nI th) F)) = 0
              · rw [if_pos e, decide_eq_true e]; rfl
              · rw [if_neg e, decide_eq_false e]; rfl
          by_cases c1 : fn_stepsUp t (nI th) F < 0
          · rw [if_pos c1, decide_eq_true c1]; exact ⟨f' 88, rfl, fun _ _ => rfl⟩
          · rw [if_neg c1, decide_eq_false c1, Bool.not_false, Bool.true_and]
            by_cases c2 : fn_stepsUp t (nI th) F ≤ 0
            · rw [if_pos c2, decide_eq_true ((d02 c1).mp c2), Bool.true_or, Bool.true_and]; exact last
            · rw [if_neg c2, decide_eq_false (fun z => c2 ((d02 c1).mpr z)), Bool.false_or]
              by_cases c3 : f' 89 (490 + 9 * r + 4) = 0
              · have : pu_bt (F 18 10) r = false := by
                  cases b : pu_bt (F 18 10) r with
                  | false => rfl
                  | true => have := hdeep.mp b; rw [c3] at this; exact absurd this (by decide)
                rw [if_pos c3, this, Bool.false_and]; exact ⟨f' 88, rfl, fun _ _ => rfl⟩
              · have : pu_bt (F 18 10) r = true := hdeep.mpr (by
                  rw [de2] at c3 ⊢
                  have : de ≠ 0 := fun z => c3 (by rw [z]; rfl)
                  rw [show de = 1 by omega]; rfl)
                rw [if_neg c3, this, Bool.true_and]; exact last
        by_cases b4 : F 23 r = -1
        · rw [if_pos b4, decide_eq_true b4, Bool.true_or, Bool.true_and]
          exact tail
        · rw [if_neg b4, decide_eq_false b4, Bool.false_or]
          by_cases b5 : F 23 r ≤ F 1 7
          · rw [if_pos b5, decide_eq_false (Int32.not_lt.mpr b5)]; exact ⟨f' 88, rfl, fun _ _ => rfl⟩
          · rw [if_neg b5, decide_eq_true (Int32.not_le.mp b5), Bool.true_and]
            exact tail
