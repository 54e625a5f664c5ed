/-! PAIRS OF CALLS: shadowed, clash -/
set_option linter.unusedVariables false
theorem pu_dep_pos {p : Nat → Int32} : ∀ (k m : Nat) (t o : Int32), k + m ≤ 1000 → 0 < m → pu_dep p k t o (nI m) ≠ 0 := by
  intro k
  induction k with
  | zero => intro m t o _ _; rw [pu_dep]; decide
  | succ k ih =>
    intro m t o h hm
    rw [pu_dep]
    by_cases c1 : t < 0
    · rw [if_pos c1]; decide
    · rw [if_neg c1]
      by_cases c2 : t = o
      · rw [if_pos c2]; exact nI_ne0 hm (by omega)
      · rw [if_neg c2, nI_1]; exact ih (m + 1) _ _ (by omega) (by omega)
theorem pu_step0 {F : Nat → Nat → Int32} {s : Nat → Int32} (hc : pu_Cpar s) (hv : pu_Vpar F s) {j o : Nat} (hj : j < 16) (ho : o < 16) : fn_stepsUp j (nI o) F = 0 ↔ j = o := by
  rw [pu_stepsUp hc hv hj]
  constructor
  · intro h
    refine Classical.byContradiction fun n => ?_
    rw [pu_dep, if_neg (nI_pos (by omega)), if_neg (fun e => n ((nI_eq (by omega) (by omega)).mp e))] at h
    exact pu_dep_pos 15 1 _ _ (by omega) (by omega) h
  · intro h; subst h; exact pu_dep_0 hj
theorem pu_endL (F : Nat → Nat → Int32) (x : Int32) (r : Nat) : (F 23 r = -1 ∨ x < F 23 r) ↔ x.toInt < (fn_end r F).toInt := by
  have h := pu_endT F r x
  rw [lg_cmp_ge, Int64.le_iff_toInt_le, Int32.toInt_toInt64] at h
  constructor
  · intro g
    refine Int.not_le.mp fun z => ?_
    exact h.mp z g
  · intro g
    refine Classical.byContradiction fun z => ?_
    have := h.mpr z
    omega
theorem pu_endC (F : Nat → Nat → Int32) (q r : Nat) : lg_cmp (fn_end q F) (fn_end r F) < 0 ↔ F 23 q ≠ -1 ∧ (F 23 r = -1 ∨ F 23 q < F 23 r) := by
  rw [lg_cmp_lt, pu_endL, Int64.lt_iff_toInt_lt]
  by_cases c : F 23 q = -1
  · have e : (fn_end q F).toInt = 1099511627776 := by unfold fn_end; rw [if_pos c]; rfl
    have e2 : (fn_end r F).toInt ≤ 1099511627776 := by
      unfold fn_end
      by_cases d : F 23 r = -1
      · rw [if_pos d]; decide
      · rw [if_neg d, Int32.toInt_toInt64]
        have := (F 23 r).toInt_lt
        omega
    rw [e]
    constructor
    · intro h; omega
    · rintro ⟨h, -⟩; exact absurd c h
  · have e : (fn_end q F).toInt = (F 23 q).toInt := by unfold fn_end; rw [if_neg c, Int32.toInt_toInt64]
    rw [e]
    exact ⟨fun h => ⟨c, h⟩, fun h => h.2⟩
theorem pu_clT (F : Nat → Nat → Int32) (r q : Nat) (hr : F 23 r = -1 ∨ F 22 r < F 23 r) (hq : F 23 q = -1 ∨ F 22 q < F 23 q) : (0 ≤ lg_cmp ((if (F 22 r) < (F 22 q) then (F 22 q) else (F 22 r)).toInt64) (if (fn_end q F) < (fn_end r F) then (fn_end q F) else (fn_end r F))) ↔ ¬ ((F 23 q = -1 ∨ F 22 r < F 23 q) ∧ (F 23 r = -1 ∨ F 22 q < F 23 r)) := by
  rw [pu_endL] at hr hq
  rw [lg_cmp_ge, pu_endL, pu_endL, Int64.le_iff_toInt_le, Int32.toInt_toInt64]
  by_cases a : F 22 r < F 22 q
  · rw [if_pos a]
    rw [Int32.lt_iff_toInt_lt] at a
    by_cases b : fn_end q F < fn_end r F
    · rw [if_pos b]
      rw [Int64.lt_iff_toInt_lt] at b
      omega
    · rw [if_neg b]
      rw [Int64.lt_iff_toInt_lt] at b
      omega
  · rw [if_neg a]
    rw [Int32.lt_iff_toInt_lt] at a
    by_cases b : fn_end q F < fn_end r F
    · rw [if_pos b]
      rw [Int64.lt_iff_toInt_lt] at b
      omega
    · rw [if_neg b]
      rw [Int64.lt_iff_toInt_lt] at b
      omega
section
variable {F f' : Nat → Nat → Int32}
/-- one thing within another's rule -/
theorem pu_isW (hc : pu_Cpar (f' 89)) (hcr : pu_Crl (f' 89)) (h2 : pu_Vpar F (f' 89)) (h8 : pu_Vrl F (f' 89)) {r q : Nat} (hr : r < (f' 89 202).toNatClampNeg) (hq : q < (f' 89 202).toNatClampNeg) : fn_m_isWithin (nI r) (nI q) f' = some (fn_reaches q ((F 21 r).toNatClampNeg) F) := by
  obtain ⟨R, r1, r2, r3, r4⟩ := id hcr
  have hR := (pu_cl r2 (by omega)).2
  obtain ⟨-, ⟨tr, tr1, tr2⟩⟩ := r3 r (by omega)
  obtain ⟨-, ⟨tq, tq1, tq2⟩⟩ := r3 q (by omega)
  have vr := (h8.2.1 r (by omega)).2.2.1
  have vq := (h8.2.1 q (by omega)).2.2.1
  obtain ⟨-, -, ⟨de, de1, de2⟩, -⟩ := r4 q (by omega)
  have hdeep := (h8.2.2.2.1 q hq).2
  have er : ∀ k, fn_m_ruleAt (nI r).toNatClampNeg k f' = f' 89 (490 + 9 * r + k) := fun k => by rw [nI_clamp (by omega)]; rfl
  have eq : ∀ k, fn_m_ruleAt (nI q).toNatClampNeg k f' = f' 89 (490 + 9 * q + k) := fun k => by rw [nI_clamp (by omega)]; rfl
  unfold fn_m_isWithin fn_reaches
  rw [am_chk_p (am_inbN (by omega) (by decide)), am_chk_p (am_inbN (by omega) (by decide))]
  simp only [er, eq]
  rw [vr, tr2, vq, tq2, nI_clamp (by omega), pu_deps (F := F) hc h2 tr1, am_ob_s, pu_has _ (by omega : q < 32)]
  by_cases c : tr = tq
  · rw [if_pos (congrArg nI c), if_pos ((pu_step0 hc h2 tr1 tq1).mpr c)]
  · rw [if_neg (fun e => c ((nI_eq (by omega) (by omega)).mp e)), if_neg (fun e => c ((pu_step0 hc h2 tr1 tq1).mp e))]
    by_cases d : fn_stepsUp tr (nI tq) F ≤ 0
    · rw [if_pos d, if_pos d]
    · rw [if_neg d, if_neg d]
      by_cases e : f' 89 (490 + 9 * q + 4) = 1
      · rw [if_pos e, hdeep.mpr e]; rfl
      · rw [if_neg e]
        cases b : pu_bt (F 18 10) q with
        | false => rfl
        | true => exact absurd (hdeep.mp b) e
theorem pu_kindEq (hcr : pu_Crl (f' 89)) (h8 : pu_Vrl F (f' 89)) {r q : Nat} (hr : r < (f' 89 202).toNatClampNeg) (hq : q < (f' 89 202).toNatClampNeg) (kr : f' 89 (490 + 9 * r + 0) ≠ 2) (kq : f' 89 (490 + 9 * q + 0) ≠ 2) : am_b (fn_has (F 18 9) (nI q)) = am_b (fn_has (F 18 9) (nI r)) ↔ f' 89 (490 + 9 * q + 0) = f' 89 (490 + 9 * r + 0) := by
  obtain ⟨R, r1, r2, r3, r4⟩ := id hcr
  have hR := (pu_cl r2 (by omega)).2
  have a := (h8.2.2.2.1 q hq).1 kq
  have b := (h8.2.2.2.1 r hr).1 kr
  have k01 : ∀ r, r < R → f' 89 (490 + 9 * r + 0) ≠ 2 → f' 89 (490 + 9 * r + 0) = 0 ∨ f' 89 (490 + 9 * r + 0) = 1 := fun r hr h => by
    obtain ⟨⟨k, k1, k2⟩, -⟩ := r4 r hr
    rw [k2] at h ⊢
    rcases (show k = 0 ∨ k = 1 ∨ k = 2 by omega) with e | e | e <;> subst e
    · exact .inl rfl
    · exact .inr rfl
    · exact absurd rfl h
  rw [pu_has _ (by omega : q < 32), pu_has _ (by omega : r < 32)]
  rcases k01 q (by omega) kq with e | e <;> rcases k01 r (by omega) kr with e' | e'
  · rw [e] at a; rw [e'] at b; rw [e, e']
    have z1 : pu_bt (F 18 9) q = false := Bool.eq_false_iff.mpr fun h => absurd (a.mp h) (by decide)
    have z2 : pu_bt (F 18 9) r = false := Bool.eq_false_iff.mpr fun h => absurd (b.mp h) (by decide)
    rw [z1, z2]; simp
  · rw [e] at a; rw [e'] at b; rw [e, e']
    have z1 : pu_bt (F 18 9) q = false := Bool.eq_false_iff.mpr fun h => absurd (a.mp h) (by decide)
    have z2 : pu_bt (F 18 9) r = true := b.mpr rfl
    rw [z1, z2]; decide
  · rw [e] at a; rw [e'] at b; rw [e, e']
    have z1 : pu_bt (F 18 9) q = true := a.mpr rfl
    have z2 : pu_bt (F 18 9) r = false := Bool.eq_false_iff.mpr fun h => absurd (b.mp h) (by decide)
    rw [z1, z2]; decide
  · rw [e] at a; rw [e'] at b; rw [e, e']
    have z1 : pu_bt (F 18 9) q = true := a.mpr rfl
    have z2 : pu_bt (F 18 9) r = true := b.mpr rfl
    rw [z1, z2]; simp
theorem pu_cover (hc : pu_Cpar (f' 89)) (hcr : pu_Crl (f' 89)) (h2 : pu_Vpar F (f' 89)) (h8 : pu_Vrl F (f' 89)) (hd : ∀ r, r < 20 → F 6 r = f' 92 r) {q r : Nat} (hq : q < (f' 89 202).toNatClampNeg) (hr : r < (f' 89 202).toNatClampNeg) (hk : f' 89 (490 + 9 * r + 0) ≠ 2) : fn_m_shadows (nI q) (nI r) f' = some (decide (q ≠ r) && (decide (f' 89 (490 + 9 * q + 0) ≠ 2) && fn_covers q r F)) := by
  obtain ⟨R, r1, r2, r3, r4⟩ := id hcr
  have hR := (pu_cl r2 (by omega)).2
  unfold fn_m_shadows
  by_cases e : q = r
  · rw [if_pos (congrArg nI e), decide_eq_false (fun h => h e)]; rfl
  · obtain ⟨⟨rq, rq1, rq2⟩, ⟨tq, tq1, tq2⟩⟩ := r3 q (by omega)
    obtain ⟨⟨rr, rr1, rr2⟩, ⟨tr, tr1, tr2⟩⟩ := r3 r (by omega)
    have vq := h8.2.1 q (by omega)
    have vr := h8.2.1 r (by omega)
    obtain ⟨-, -, ⟨dq, dq1, dq2⟩, -, ⟨mq, mq1, mq2⟩⟩ := r4 q (by omega)
    obtain ⟨-, -, ⟨dr, dr1, dr2⟩, -⟩ := r4 r (by omega)
    have deq := (h8.2.2.2.1 q hq).2
    have der := (h8.2.2.2.1 r hr).2
    have er : ∀ k, fn_m_ruleAt (nI r).toNatClampNeg k f' = f' 89 (490 + 9 * r + k) := fun k => by rw [nI_clamp (by omega)]; rfl
    have eq : ∀ k, fn_m_ruleAt (nI q).toNatClampNeg k f' = f' 89 (490 + 9 * q + k) := fun k => by rw [nI_clamp (by omega)]; rfl
    rw [if_neg (fun h => e ((nI_eq (by omega) (by omega)).mp h)), am_chk_p (am_inbN (by omega) (by decide)), am_chk_p (am_inbN (by omega) (by decide)), decide_eq_true e, Bool.true_and]
    simp only [er, eq]
    by_cases k : f' 89 (490 + 9 * q + 0) = f' 89 (490 + 9 * r + 0)
    · have kq : f' 89 (490 + 9 * q + 0) ≠ 2 := by rw [k]; exact hk
      rw [if_pos k, am_chk_p (pu_inb rr2 rr1 (by decide)), pu_isW hc hcr h2 h8 hr hq, am_ob_s, decide_eq_true kq, Bool.true_and]
      unfold fn_covers
      rw [if_pos ((pu_kindEq hcr h8 hr hq hk kq).mpr k)]
      -- the thing
      have hT : (if (fn_stepsUp ((F 21 r).toNatClampNeg) (F 21 q) F) = 0 then (bif (fn_has (F 18 10) (nI q)) then true else (bif (fn_has (F 18 10) (nI r)) then (if (fn_stepsUp ((F 21 r).toNatClampNeg) (F 21 q) F) ≤ 0 then false else (bif (fn_has (F 18 10) (nI q)) then true else false)) else true)) else (if (fn_stepsUp ((F 21 r).toNatClampNeg) (F 21 q) F) ≤ 0 then false else (bif (fn_has (F 18 10) (nI q)) then true else false))) = (fn_reaches q ((F 21 r).toNatClampNeg) F && decide (f' 89 (490 + 9 * r + 4) ≤ f' 89 (490 + 9 * q + 4))) := by
        unfold fn_reaches
        generalize fn_stepsUp ((F 21 r).toNatClampNeg) (F 21 q) F = st
        rw [pu_has _ (by omega : q < 32), pu_has _ (by omega : r < 32), dr2, dq2]
        rw [dq2] at deq
        rw [dr2] at der
        have hle : (nI dr ≤ nI dq) ↔ dr ≤ dq := nI_leI (by omega) (by omega)
        have e1 : pu_bt (F 18 10) q = decide (dq = 1) := by
          refine Bool.eq_iff_iff.mpr (deq.trans ?_)
          rw [decide_eq_true_eq]
          exact nI_eq (b := 1) (by omega) (by omega)
        have e2 : pu_bt (F 18 10) r = decide (dr = 1) := by
          refine Bool.eq_iff_iff.mpr (der.trans ?_)
          rw [decide_eq_true_eq]
          exact nI_eq (b := 1) (by omega) (by omega)
        rw [e1, e2]
        rcases (show dq = 0 ∨ dq = 1 by omega) with g | g <;> rcases (show dr = 0 ∨ dr = 1 by omega) with g' | g' <;> subst g <;> subst g' <;> by_cases c0 : st = 0
        all_goals first | (subst c0; decide) | skip
        all_goals by_cases c1 : st ≤ 0
        all_goals simp [c0, c1, hle]
      rw [hT]
      -- the roles
      rw [vr.1, rr2, vq.1, nI_clamp (by omega), hd rr rr1, pu_hm]
      rw [vr.2.1, vq.2.1, vr.2.2.2.1, vq.2.2.2.1, vq.2.2.2.2.2.2, mq2]
      have hm : (nI mq ≤ 0) ↔ (nI mq = 0) := (pu_nat01 (.inr ⟨mq, by omega, rfl⟩)).2 (nI_pos (by omega))
      have hE := pu_endC F q r
      rw [vq.2.2.2.2.1, vr.2.2.2.2.1] at hE
      generalize fn_m_has (f' 92 rr) (f' 89 (490 + 9 * q + 1)) = H
      generalize fn_reaches q ((F 21 r).toNatClampNeg) F = W
      generalize lg_cmp (fn_end q F) (fn_end r F) = Lg at hE
      have hb : (f' 89 (490 + 9 * r + 5) < f' 89 (490 + 9 * q + 5)) ↔ ¬ (f' 89 (490 + 9 * q + 5) ≤ f' 89 (490 + 9 * r + 5)) := Int32.not_le.symm
      cases H with
      | false => rfl
      | true =>
        rw [cond_true, cond_true]
        by_cases g0 : nI mq = 0
        · rw [if_pos (hm.mpr g0), if_pos g0]
          by_cases g1 : f' 89 (490 + 9 * r + 2) &&& (f' 89 (490 + 9 * q + 2) ^^^ (-1)) = 0
          · rw [if_pos g1, if_pos g1]
            cases W with
            | false => rfl
            | true =>
              rw [cond_true, Bool.true_and]
              by_cases g2 : f' 89 (490 + 9 * r + 4) ≤ f' 89 (490 + 9 * q + 4)
              · rw [if_pos g2, decide_eq_true g2, cond_true]
                by_cases g3 : f' 89 (490 + 9 * q + 5) ≤ f' 89 (490 + 9 * r + 5)
                · rw [if_pos g3, if_neg (fun h => hb.mp h g3)]
                  by_cases g4 : f' 89 (490 + 9 * q + 6) = -1
                  · rw [if_pos g4, if_neg (fun h => (hE.mp h).1 g4)]
                  · rw [if_neg g4]
                    by_cases g5 : f' 89 (490 + 9 * r + 6) = -1
                    · rw [if_pos g5, if_pos (hE.mpr ⟨g4, .inl g5⟩)]
                    · rw [if_neg g5]
                      by_cases g6 : f' 89 (490 + 9 * q + 6) < f' 89 (490 + 9 * r + 6)
                      · rw [if_pos g6, if_pos (hE.mpr ⟨g4, .inr g6⟩)]
                      · rw [if_neg g6, if_neg (fun h => (hE.mp h).2.elim g5 g6)]
                · rw [if_neg g3, if_pos (hb.mpr g3)]
              · rw [if_neg g2, decide_eq_false g2]; rfl
          · rw [if_neg g1, if_neg g1]
        · rw [if_neg (fun h => g0 (hm.mp h))]
          simp [g0]
    · rw [if_neg k]
      by_cases kq : f' 89 (490 + 9 * q + 0) = 2
      · rw [decide_eq_false (fun h => h kq)]; rfl
      · unfold fn_covers
        rw [if_neg (fun h => k ((pu_kindEq hcr h8 hr hq hk kq).mp h)), Bool.and_false]
theorem pu_clashes (hc : pu_Cpar (f' 89)) (hcr : pu_Crl (f' 89)) (h2 : pu_Vpar F (f' 89)) (h8 : pu_Vrl F (f' 89)) (hu : ∀ r, r < 20 → F 7 r = fn_m_allAbove (nI r) f') {q r : Nat} (hq : q < (f' 89 202).toNatClampNeg) (hr : r < (f' 89 202).toNatClampNeg) (hk : f' 89 (490 + 9 * r + 0) ≠ 2) : fn_m_clashes (nI r) (nI q) f' = some (decide (f' 89 (490 + 9 * q + 0) ≠ 2) && fn_clashWith r q F) := by
  obtain ⟨R, r1, r2, r3, r4⟩ := id hcr
  have hR := (pu_cl r2 (by omega)).2
  unfold fn_m_clashes
  obtain ⟨⟨rq, rq1, rq2⟩, ⟨tq, tq1, tq2⟩⟩ := r3 q (by omega)
  obtain ⟨⟨rr, rr1, rr2⟩, ⟨tr, tr1, tr2⟩⟩ := r3 r (by omega)
  have vq := h8.2.1 q (by omega)
  have vr := h8.2.1 r (by omega)
  obtain ⟨⟨kq, kq1, kq2⟩, -, -, ⟨bq, bq1, bq2, bq3⟩, -⟩ := r4 q (by omega)
  obtain ⟨⟨kr, kr1, kr2⟩, -, -, ⟨br, br1, br2, br3⟩, -⟩ := r4 r (by omega)
  have er : ∀ k, fn_m_ruleAt (nI r).toNatClampNeg k f' = f' 89 (490 + 9 * r + k) := fun k => by rw [nI_clamp (by omega)]; rfl
  have eq : ∀ k, fn_m_ruleAt (nI q).toNatClampNeg k f' = f' 89 (490 + 9 * q + k) := fun k => by rw [nI_clamp (by omega)]; rfl
  rw [am_chk_p (am_inbN (by omega) (by decide)), am_chk_p (am_inbN (by omega) (by decide))]
  simp only [er, eq]
  rw [pu_isW hc hcr h2 h8 hr hq, pu_isW hc hcr h2 h8 hq hr]
  simp only [am_ob_s]
  have ksum : (f' 89 (490 + 9 * r + 0) + f' 89 (490 + 9 * q + 0) = 1) ↔ kr + kq = 1 := by
    rw [kr2, kq2, nI_add]
    exact nI_eq (b := 1) (by omega) (by omega)
  have hk' : kr ≠ 2 := fun h => hk (by rw [kr2, h]; rfl)
  by_cases kq' : f' 89 (490 + 9 * q + 0) = 2
  · have : kq = 2 := (nI_eq (b := 2) (by omega) (by omega)).mp (by rw [← kq2]; exact kq')
    rw [if_neg (fun h => by have := ksum.mp h; omega), decide_eq_false (fun h => h kq')]; rfl
  · have hq2 : kq ≠ 2 := fun h => kq' (by rw [kq2, h]; rfl)
    have den : am_b (fn_has (F 18 9) (nI r)) = am_b (fn_has (F 18 9) (nI q)) ↔ ¬ kr + kq = 1 := by
      rw [pu_kindEq hcr h8 hq hr kq' hk, kr2, kq2, nI_eq (by omega) (by omega)]
      omega
    rw [decide_eq_true kq', Bool.true_and]
    unfold fn_clashWith
    by_cases k1 : kr + kq = 1
    · rw [if_pos (ksum.mpr k1), if_neg (fun h => den.mp h k1)]
      rw [vr.2.1, vq.2.1]
      have hT := pu_clT F r q (by rw [vr.2.2.2.1, vr.2.2.2.2.1]; exact br3) (by rw [vq.2.2.2.1, vq.2.2.2.2.1]; exact bq3)
      rw [vr.2.2.2.1, vq.2.2.2.1, vr.2.2.2.2.1, vq.2.2.2.2.1] at hT
      rw [vr.2.2.2.1, vq.2.2.2.1, vr.1, vq.1, rr2, rq2, nI_clamp (by omega : rr < 2147483648), nI_clamp (by omega : rq < 2147483648), hu rr rr1, hu rq rq1]
      generalize lg_cmp _ _ = Lg at hT ⊢
      generalize fn_reaches q ((F 21 r).toNatClampNeg) F = W
      generalize fn_reaches r ((F 21 q).toNatClampNeg) F = W'
      generalize (if (fn_m_allAbove (nI rr) f' &&& fn_m_allAbove (nI rq) f') = 0 then false else true) = B
      have tail : (bif W then some B else (bif W' then some B else some false)) = some (bif W' then B else (bif W then B else false)) := by cases W <;> cases W' <;> rfl
      by_cases g1 : f' 89 (490 + 9 * r + 2) &&& f' 89 (490 + 9 * q + 2) = 0
      · rw [if_pos g1, if_pos g1]
      · rw [if_neg g1, if_neg g1, tail]
        by_cases g2 : f' 89 (490 + 9 * r + 6) = -1
        · rw [if_pos g2]
          by_cases g3 : f' 89 (490 + 9 * q + 6) = -1
          · rw [if_pos g3, if_neg (fun h => hT.mp h ⟨.inl g3, .inl g2⟩)]
          · rw [if_neg g3]
            by_cases g4 : f' 89 (490 + 9 * r + 5) < f' 89 (490 + 9 * q + 6)
            · rw [if_pos g4, if_neg (fun h => hT.mp h ⟨.inr g4, .inl g2⟩)]
            · rw [if_neg g4, if_pos (hT.mpr (fun h => h.1.elim g3 g4))]
        · rw [if_neg g2]
          by_cases g5 : f' 89 (490 + 9 * r + 6) ≤ f' 89 (490 + 9 * q + 5)
          · rw [if_pos g5, if_pos (hT.mpr (fun h => h.2.elim g2 (fun z => Int32.not_lt.mpr g5 z)))]
          · rw [if_neg g5]
            have g5' := Int32.not_le.mp g5
            by_cases g3 : f' 89 (490 + 9 * q + 6) = -1
            · rw [if_pos g3, if_neg (fun h => hT.mp h ⟨.inl g3, .inr g5'⟩)]
            · rw [if_neg g3]
              by_cases g4 : f' 89 (490 + 9 * r + 5) < f' 89 (490 + 9 * q + 6)
              · rw [if_pos g4, if_neg (fun h => hT.mp h ⟨.inr g4, .inr g5'⟩)]
              · rw [if_neg g4, if_pos (hT.mpr (fun h => h.1.elim g3 g4))]
    · rw [if_neg (fun h => k1 (ksum.mp h)), if_pos (den.mpr k1)]
/-- a rule of its number is there -/
theorem pu_isRuleN (hcr : pu_Crl (f' 89)) (h8 : pu_Vrl F (f' 89)) {q : Nat} (hq : q < (f' 89 202).toNatClampNeg) : fn_isRule (nI q) F = decide (f' 89 (490 + 9 * q + 0) ≠ 2) := by
  obtain ⟨R, r1, r2, r3, r4⟩ := id hcr
  have hR := (pu_cl r2 (by omega)).2
  rw [pu_isRule h8 hcr]
  unfold fn_m_isRule
  have : fn_m_isIn (nI q) 0 (f' 89 202 - 1) = true := by
    rw [r2]
    obtain ⟨m, rfl⟩ : ∃ m, R = m + 1 := ⟨R - 1, by omega⟩
    rw [nI_pred]
    unfold fn_m_isIn
    rw [if_neg (nI_pos (by omega)), if_neg (nI_nlt (by omega) (by omega))]
  rw [this, cond_true, nI_clamp (by omega)]
  show (if f' 89 (490 + 9 * q + 0) = 2 then false else true) = _
  by_cases c : f' 89 (490 + 9 * q + 0) = 2
  · rw [if_pos c, decide_eq_false (fun h => h c)]
  · rw [if_neg c, decide_eq_true c]
end
theorem pp_shadowed : am_Pair pu_Inv 121 3 231 3 1 := pu_P1 fun f g hI x => by
  obtain ⟨hc, hv, hd, hk, ht, hg⟩ := hI
  obtain ⟨c1, c2, c3, c4, c5, c6, c7, c8⟩ := id hc
  obtain ⟨v1, v2, v3, v4, v5, v6, v7, v8, v9⟩ := id hv
  have hr := pu_pr c7 v8
  have hm := pu_mOK c6 c7
  have hD := pu_dn v3 hd
  have key : fn_m_shadowed x f = some (fn_shadowed x f) := by
    unfold fn_m_shadowed fn_shadowed
    rw [pu_isRule v8 c7]
    cases h1 : fn_m_isRule x f with
    | false => rfl
    | true =>
      obtain ⟨r, r1, r2, r3, r4⟩ := pu_ruleOf c7 h1
      subst r3
      rw [cond_true, cond_true, nI_clamp (by omega)]
      obtain ⟨R, R1, R2, -, -⟩ := id c7
      have hR := (pu_cl R2 (by omega)).2
      unfold lf_shadowed_12 lf_m_shadowed_12
      rw [v8.1]
      have L := pu_lockX (f := st_shadowed_12 r f) (st := st_m_shadowed_12 r f) (fun _ _ => True) (fun x y => x = y) (f 89 202).toNatClampNeg 0 () () trivial (by
        rintro j x y - hj -
        rw [Nat.zero_add] at hj
        unfold st_shadowed_12 st_m_shadowed_12
        rw [pu_cover c1 c7 v2 v8 hD hj r2 r4, am_ob_s, pu_isRuleN c7 v8 hj]
        by_cases e : j = r
        · rw [if_pos (congrArg nI e), decide_eq_false (fun h => h e)]
          exact .inl ⟨(), (), rfl, rfl, trivial⟩
        · have e' : ¬ nI j = nI r := fun h => e ((nI_eq (by omega) (by omega)).mp h)
          rw [if_neg e', decide_eq_true e, Bool.true_and]
          by_cases k : f 89 (490 + 9 * j + 0) = 2
          · rw [decide_eq_false (fun h => h k)]
            exact .inl ⟨(), (), rfl, rfl, trivial⟩
          · rw [decide_eq_true k, Bool.true_and, cond_true]
            cases fn_covers j r f with
            | false => exact .inl ⟨(), (), rfl, rfl, trivial⟩
            | true =>
              rw [cond_true, cond_true, pu_cover c1 c7 v2 v8 hD r2 hj k, am_ob_s, decide_eq_true (show r ≠ j from fun h => e h.symm), decide_eq_true r4, Bool.true_and, Bool.true_and]
              by_cases l : nI j < nI r
              · rw [if_pos l, if_pos (Int32.le_of_lt l)]
                exact .inr ⟨_, _, rfl, rfl, rfl⟩
              · rw [if_neg l, if_neg (fun h => l (by
                  rw [nI_leI (by omega) (by omega)] at h
                  rw [nI_ltI (by omega) (by omega)]
                  omega))]
                cases fn_covers r j f with
                | false => exact .inr ⟨_, _, rfl, rfl, rfl⟩
                | true => exact .inl ⟨(), (), rfl, rfl, trivial⟩)
      rcases L with ⟨x', y', g1, g2, -⟩ | ⟨u, v, g1, g2, g3⟩
      · rw [g1, g2, am_ob_s]; rfl
      · rw [g1, g2, am_ob_s, g3]; rfl
  exact ⟨_, _, _, _, _, pu_res (x_shadowed x f g hr.1 hr.2.1 (pu_pp c1 v2) hr.2.2.2.2.1 hr.2.2.2.2.2) (by decide) rfl, pu_res (x_m_shadowed x f g hm _ key) (by decide) rfl, hc, hv, hd, hk, ht, hg⟩
theorem pp_clash : am_Pair pu_Inv 123 5 234 5 2 := pu_P2 fun f g hI x i => by
  obtain ⟨hc, hv, hd, hk, ht, hg⟩ := hI
  obtain ⟨c1, c2, c3, c4, c5, c6, c7, c8⟩ := id hc
  obtain ⟨v1, v2, v3, v4, v5, v6, v7, v8, v9⟩ := id hv
  have hr := pu_pr c7 v8
  have hm := pu_mOK c6 c7
  have hU := pu_up c2 v3 hd
  have key : fn_m_clash x i f = some (fn_clash x i f) := by
    unfold fn_m_clash fn_clash
    rw [pu_isRule v8 c7]
    cases h1 : fn_m_isRule x f with
    | false => rfl
    | true =>
      obtain ⟨r, r1, r2, r3, r4⟩ := pu_ruleOf c7 h1
      subst r3
      rw [cond_true, cond_true, nI_clamp (by omega)]
      obtain ⟨R, R1, R2, -, -⟩ := id c7
      have hR := (pu_cl R2 (by omega)).2
      by_cases hi : -1 ≤ i
      · rw [if_pos hi, if_pos hi]
        unfold lf_clash_20 lf_m_clash_20
        rw [v8.1]
        have L := pu_lockX (f := st_clash_20 r i f) (st := st_m_clash_20 r i f) (fun x y => x = y) (fun x y => x = y) (f 89 202).toNatClampNeg 0 0 0 rfl (by
          rintro j x y - hj rfl
          rw [Nat.zero_add] at hj
          unfold st_clash_20 st_m_clash_20
          rw [pu_clashes c1 c7 v2 v8 hU hj r2 r4, am_ob_s, pu_isRuleN c7 v8 hj]
          cases decide (f 89 (490 + 9 * j + 0) ≠ 2) with
          | false => exact .inl ⟨_, _, rfl, rfl, rfl⟩
          | true =>
            rw [Bool.true_and, cond_true]
            cases fn_clashWith r j f with
            | false => exact .inl ⟨_, _, rfl, rfl, rfl⟩
            | true =>
              rw [cond_true, cond_true]
              by_cases c : x = i
              · rw [if_pos c, if_pos c]; exact .inr ⟨_, _, rfl, rfl, rfl⟩
              · rw [if_neg c, if_neg c]; exact .inl ⟨_, _, rfl, rfl, rfl⟩)
        rcases L with ⟨x', y', g1, g2, g3⟩ | ⟨u, v, g1, g2, g3⟩
        · rw [g1, g2, am_ob_s, g3]; rfl
        · rw [g1, g2, am_ob_s, g3]; rfl
      · rw [if_neg hi, if_neg hi]
  exact ⟨_, _, _, _, _, pu_res (x_clash x i f g hr.1 hr.2.1 (pu_pp c1 v2) hr.2.2.2.2.1 hr.2.2.2.2.2) (by decide) rfl, pu_res (x_m_clash x i f g hm _ key) (by decide) rfl, hc, hv, hd, hk, ht, hg⟩
