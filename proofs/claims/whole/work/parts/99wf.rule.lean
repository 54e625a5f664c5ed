/-! PAIRS OF CALLS: rule -/
set_option linter.unusedVariables false
def rl_K (f : Nat → Nat → Int32) (g : Nat → Nat → Int64) (z : Int32 × (Nat → Int32) × (Nat → Int32) × (Nat → Int32) × (Nat → Int32) × (Nat → Int32) × (Nat → Int32) × (Nat → Int32) × (Nat → Int32) × (Nat → Int32) × (Nat → Int32) × (Nat → Int32) × (Nat → Int32) × (Nat → Int32)) (z' : Int32 × (Nat → Int32) × (Nat → Int32) × (Nat → Int32)) : Prop := z.1 = z'.1 ∧ (z'.2.1 3 = f 88 3 ∧ z'.2.1 23 = f 88 23) ∧ (∃ n, n ≤ 80 ∧ z.2.2.2.2.2.2.2.2.2.2.1 1 = nI n ∧ z'.2.1 11 = nI n ∧ ∀ j, j < n → f 76 j = f 97 j ∧ ∃ b, 0 < b ∧ b < 256 ∧ f 97 j = nI b) ∧ pu_C z'.2.2.1 ∧ pu_V (am_row (am_row (am_row (am_row (am_row (am_row (am_row (am_row (am_row f 18 z.2.1) 19 z.2.2.1) 20 z.2.2.2.1) 21 z.2.2.2.2.1) 22 z.2.2.2.2.2.1) 23 z.2.2.2.2.2.2.1) 24 z.2.2.2.2.2.2.2.1) 25 z.2.2.2.2.2.2.2.2.1) 26 z.2.2.2.2.2.2.2.2.2.1) (g 11 6) z'.2.2.1 ∧ pu_CL (fun r => z'.2.2.1 (144 + r)) (f 92)
/-- what only answers -/
theorem rl_same {f F1 : Nat → Nat → Int32} {g : Nat → Nat → Int64} (hI : pu_I f g) (e89 : F1 89 = f 89) (v : Int32) (r75 r77 r78 r79 r88 r98 : Nat → Int32) (h3 : r88 3 = f 88 3) (h23 : r88 23 = f 88 23) (ht : ∃ n, n ≤ 80 ∧ r75 1 = nI n ∧ r88 11 = nI n ∧ ∀ j, j < n → f 76 j = f 97 j ∧ ∃ b, 0 < b ∧ b < 256 ∧ f 97 j = nI b) : rl_K f g (v, f 18, f 19, f 20, f 21, f 22, f 23, f 24, f 25, f 26, r75, r77, r78, r79) (v, r88, F1 89, r98) := by
  obtain ⟨hc, hv, hd, hk, -, hg⟩ := hI
  rw [e89]
  exact ⟨rfl, ⟨h3, h23⟩, ht, hc, hv, hd⟩
theorem rl_key {f F1 : Nat → Nat → Int32} {g : Nat → Nat → Int64} (hI : pu_I f g) (e88 : F1 88 = f 88) (e89 : F1 89 = f 89) (e97 : F1 97 = f 97) (role acts thing frm to : Int32) : ∃ z, fn_rule role acts thing frm to f = some z ∧ ∃ z', fn_m_rule role acts thing frm to F1 = some z' ∧ rl_K f g z z' := by
  have hI' := hI
  obtain ⟨hc, hv, hd, hk, ht, hg⟩ := hI
  obtain ⟨c1, c2, c3, c4, c5, c6, c7, c8⟩ := id hc
  obtain ⟨v1, v2, v3, v4, v5, v6, v7, v8, v9⟩ := id hv
  obtain ⟨R, R1, R2, R3, R4⟩ := id c7
  obtain ⟨N, N1, N2, N3, N4⟩ := id ht
  have h18 : f 18 11 = nI R := v8.1.trans R2
  have h202 : F1 89 202 = nI R := by rw [e89]; exact R2
  have same : ∀ v, fn_rule role acts thing frm to f = some (v, f 18, f 19, f 20, f 21, f 22, f 23, f 24, f 25, f 26, f 75, f 77, f 78, f 79) → fn_m_rule role acts thing frm to F1 = some (v, F1 88, F1 89, F1 98) → ∃ z, fn_rule role acts thing frm to f = some z ∧ ∃ z', fn_m_rule role acts thing frm to F1 = some z' ∧ rl_K f g z z' := fun v h1 h2 => ⟨_, h1, _, h2, rl_same hI' e89 v _ _ _ _ _ _ (congrFun e88 3) (congrFun e88 23) ⟨N, N1, N2, (congrFun e88 11).trans N3, N4⟩⟩
  rcases rl_role role with ⟨t1, t2⟩ | ⟨p, p1, p2, p3, p4, p5, p6⟩
  · refine same (-1) (by rw [rl_cU, t1, cond_false]) ?_
    rw [rl_mU]
    rcases t2 with t2 | t2
    · rw [t2, cond_false]
    · rw [t2, cond_false]; cases fn_m_isIn (role / 100) 0 1 <;> rfl
  rcases rl_thing thing with ⟨t1, t2⟩ | ⟨q, q1, q2, q3, q4, q5, q6⟩
  · refine same (-1) (by rw [rl_cU, p4, cond_true, t1, cond_false]) ?_
    rw [rl_mU, p5, p6, cond_true, cond_true]
    rcases t2 with t2 | t2
    · rw [t2, cond_false]; cases fn_m_isIn acts 1 255 <;> rfl
    · rw [t2, cond_false]; cases fn_m_isIn acts 1 255 <;> cases fn_m_isIn (thing / 100) 0 1 <;> rfl
  cases ta : fn_m_isIn acts 1 255 with
  | false =>
    refine same (-1) (by rw [rl_cU, p4, cond_true, q4, cond_true, show fn_between acts 1 255 = false from ta, cond_false]) ?_
    rw [rl_mU, p5, p6, cond_true, cond_true, ta, cond_false]
  | true =>
  cases tf : fn_m_isIn frm 0 9999 with
  | false =>
    refine same (-1) (by rw [rl_cU, p4, cond_true, q4, cond_true, show fn_between acts 1 255 = true from ta, cond_true, show fn_between frm 0 9999 = false from tf, cond_false]) ?_
    rw [rl_mU, p5, p6, cond_true, cond_true, ta, cond_true, q5, q6, cond_true, cond_true, tf, cond_false]
  | true =>
  have hU1 : fn_rule role acts thing frm to f = (if to = (-1) then rl_cb role acts thing frm to f else (if frm < to then rl_cb role acts thing frm to f else (some ((-1), f 18, f 19, f 20, f 21, f 22, f 23, f 24, f 25, f 26, f 75, f 77, f 78, f 79)))) := by rw [rl_cU, p4, cond_true, q4, cond_true, show fn_between acts 1 255 = true from ta, cond_true, show fn_between frm 0 9999 = true from tf, cond_true]
  have hU2 : fn_m_rule role acts thing frm to F1 = (if to = (-1) then rl_mb role acts thing frm to F1 else (if frm < to then rl_mb role acts thing frm to F1 else (some ((-1), F1 88, F1 89, F1 98)))) := by rw [rl_mU, p5, p6, cond_true, cond_true, ta, cond_true, q5, q6, cond_true, cond_true, tf, cond_true]
  by_cases hto : to = -1 ∨ frm < to
  · have hE1 : fn_rule role acts thing frm to f = rl_cb role acts thing frm to f := by
      rw [hU1]
      by_cases e : to = -1
      · rw [if_pos e]
      · rw [if_neg e, if_pos (hto.resolve_left e)]
    have hE2 : fn_m_rule role acts thing frm to F1 = rl_mb role acts thing frm to F1 := by
      rw [hU2]
      by_cases e : to = -1
      · rw [if_pos e]
      · rw [if_neg e, if_pos (hto.resolve_left e)]
    clear hU1 hU2
    by_cases cR : R = 30
    · subst cR
      exact same (-3) (hE1.trans (rl_c3 _ _ h18)) (hE2.trans (rl_m3 _ _ _ h202))
    · have hR30 : R < 30 := by omega
      clear same
      obtain ⟨a, a1, a2⟩ : ∃ a, a < 256 ∧ acts = nI a := by
        have h := am_mIn ta
        obtain ⟨j, j1, j2⟩ := nI_of2 (M := 255) (n := 255) (x := acts) rfl (fun hh => by
          have h1 := Int32.le_iff_toInt_le.mp h.1
          have h2 := Int32.lt_iff_toInt_lt.mp hh
          have e1 : (1 : Int32).toInt = 1 := rfl
          have e0 : (0 : Int32).toInt = 0 := rfl
          omega) h.2
        exact ⟨j, by omega, j2⟩
      obtain ⟨fr, fr1, fr2⟩ : ∃ a, a < 10000 ∧ frm = nI a := am_mInN tf rfl
      subst p3 q3 a2 fr2
      have hN80 : N ≤ 80 := N1
      have fin : ∀ (n : Nat) (c7 c8 c9 r98 r88 s' mm : Nat → Int32), n ≤ 80 → (n ≠ 0 → ∃ V, pu_Pre mm 0 n V ∧ pu_Post c8 0 n V) → rl_N (f 89) s' mm R (p / 100) (p % 100) a (q % 100) (q / 100) fr to n → r88 3 = f 88 3 → r88 23 = f 88 23 → r88 11 = 0 → rl_K f g (nI R, fn_openRule R (if nI (p / 100) = 1 then true else false) (if nI (q / 100) = 1 then true else false) f, upd (f 19) R (nI (p % 100)), upd (f 20) R (nI a), upd (f 21) R (nI (q % 100)), upd (f 22) R (nI fr), upd (f 23) R to, upd (f 24) R (-1), upd (f 25) R (nI n), va_cpy c8 (f 26) 0 (R * 80) n, upd (f 75) 1 0, c7, c8, c9) (nI R, r88, s', r98) := by
        intro n c7 c8 c9 r98 r88 s' mm hn hX hN h3 h23 h11
        have hk : ∀ k, k < 2 → ((if nI k = 1 then true else false) = true ↔ k = 1) := by decide
        obtain ⟨y1, y2, y3⟩ := rl_fin (f := f) (tk := g 11 6) (r8 := c8) (dk := if nI (p / 100) = 1 then true else false) (dd := if nI (q / 100) = 1 then true else false) hc hv R2 hR30 (by omega) p2 a1 q2 (by omega) fr1 hto hn (hk _ (by omega)) (hk _ (by omega)) hN hX
        exact ⟨rfl, ⟨h3, h23⟩, ⟨0, by omega, (show upd (f 75) 1 0 1 = nI 0 from pu_us), h11, fun j hj => absurd hj (Nat.not_lt_zero _)⟩, y1, y2, pu_CL_c (fun j h1 h2 => y3 j (by omega)) hd⟩
      by_cases cN : N = 0
      · subst cN
        have h11 : F1 88 11 ≤ 0 := by rw [e88, N3]; exact Int32.le_refl _
        obtain ⟨s', g1, g2⟩ := rl_m0 (f := F1) (a4 := to) (a := a) p1 q1 fr1 h202 hR30 h11 (f 98)
        rw [e89] at g2
        refine ⟨_, hE1.trans (rl_c0 p1 q1 h18 hR30 N2), _, hE2.trans g1, fin 0 _ _ _ _ _ _ _ (by omega) (fun h => absurd rfl h) g2 ?_ ?_ ?_⟩
        · rw [pu_un (by omega), e88]
        · rw [pu_un (by omega), e88]
        · rw [pu_un (by omega), e88]; exact N3
      · have hw : sn_tx (f 97) (fun j => (f 97 j).toNatClampNeg) N := ⟨N1, fun j hj => by
          obtain ⟨-, b, b1, b2, b3⟩ := N4 j hj
          show f 97 j = nI (f 97 j).toNatClampNeg ∧ 0 < (f 97 j).toNatClampNeg ∧ (f 97 j).toNatClampNeg < 256
          rw [b3, nI_clamp (by omega)]
          exact ⟨rfl, b1, b2⟩⟩
        have hw' : sn_tx (f 76) (fun j => (f 97 j).toNatClampNeg) N := ⟨N1, fun j hj => by
          rw [(N4 j hj).1]; exact hw.2 j hj⟩
        have hC := ma_read hw' N2
        obtain ⟨x, r, m, m1, m2, m3, m4, m5⟩ := mp_reads (F := am_row F1 88 (upd (F1 88) 15 0)) (t := fun j => (f 97 j).toNatClampNeg) (N := N) (show sn_tx (F1 97) _ N by rw [e97]; exact hw) (show upd (F1 88) 15 0 11 = nI N by rw [pu_un (by omega), e88]; exact N3)
        have hW := ap_w_all (t := fun j => (f 97 j).toNatClampNeg) (N := N)
        have n75 : ¬ f 75 1 = 0 := fun h => cN ((nI_eq (b := 0) (by omega) (by omega)).mp (N2.symm.trans h))
        have n11 : ¬ F1 88 11 ≤ 0 := by rw [e88, N3]; exact nI_ge (a := 0) (by omega) (by omega)
        have r3 : r 3 = f 88 3 := by rw [m4 3 (by omega) (by omega) (by omega) (by omega) (by omega)]; show upd (F1 88) 15 0 3 = _; rw [pu_un (by omega), e88]
        have r23 : r 23 = f 88 23 := by rw [m4 23 (by omega) (by omega) (by omega) (by omega) (by omega)]; show upd (F1 88) 15 0 23 = _; rw [pu_un (by omega), e88]
        obtain ⟨d1, d7, d8, d9, hRC⟩ : ∃ d1 d7 d8 d9, fn_readCondition f = (d1, d7, d8, d9) := ⟨_, _, _, _, rfl⟩
        rw [hRC] at hC
        dsimp only at hC
        cases hall : ap_all (fun j => (f 97 j).toNatClampNeg) N with
        | inl y =>
          rw [hall] at hC m5
          dsimp only at hC m5
          obtain ⟨y1, y2⟩ := hC
          obtain ⟨m6, -⟩ := m5
          subst y2
          rw [m6] at m1 m3
          refine ⟨_, hE1.trans (rl_c2 _ _ h18 hR30 n75 (by omega) hRC), _, hE2.trans (rl_m2 _ _ _ h202 hR30 n11 (by omega) m1 m3), rl_same hI' e89 _ _ _ _ _ _ _ r3 r23 ⟨0, by omega, (show upd (f 75) 1 0 1 = nI 0 from pu_us), m2, fun j hj => absurd hj (Nat.not_lt_zero _)⟩⟩
        | inr z =>
          obtain ⟨qq, ms, cs⟩ := z
          rw [hall] at hC m5 hW
          dsimp only at hC m5
          obtain ⟨y1, y2, y3⟩ := hC
          obtain ⟨m6, m7, m8⟩ := m5
          obtain ⟨-, w2, w3, w4, w5, V, w6, w7⟩ := hW
          subst y1
          rw [m6] at m1
          have hl : ms.length ≤ 80 := by omega
          rw [← w3] at y2
          obtain ⟨s', g1, g2⟩ := rl_m1 (f := F1) (a4 := to) (a := a) p1 q1 fr1 hl h202 hR30 n11 m1 m7
          rw [e89] at g2
          have hX1 := w6 m 0 m8
          have hX2 := w7 d8 0 y3
          rw [← w3] at hX2
          exact ⟨_, hE1.trans (rl_c1 p1 q1 h18 hR30 n75 hl hRC y2), _, hE2.trans g1, fin ms.length _ _ _ _ _ _ _ hl (fun _ => ⟨V, hX1, hX2⟩) g2 r3 r23 m2⟩
  · refine same (-1) ?_ ?_
    · rw [hU1, if_neg (fun h => hto (.inl h)), if_neg (fun h => hto (.inr h))]
    · rw [hU2, if_neg (fun h => hto (.inl h)), if_neg (fun h => hto (.inr h))]
theorem pp_rule : am_Pair pu_Inv 46 12 172 9 5 := pu_P5 fun f g hI role acts thing frm to => by
  have hI' := hI
  obtain ⟨hc, hv, hd, hk, ht, hg⟩ := hI
  obtain ⟨c1, c2, c3, c4, c5, c6, c7, c8⟩ := id hc
  obtain ⟨v1, v2, v3, v4, v5, v6, v7, v8, v9⟩ := id hv
  have hr := pu_pr c7 v8
  obtain ⟨z, hz, -⟩ := rl_key (F1 := f) hI' rfl rfl rfl role acts thing frm to
  have hx := x_rule role acts thing frm to f g hr.1 hr.2.1 z hz
  obtain ⟨z0, hz0, z', k1, k2, ⟨k3, k4⟩, k5, k6, k7, k8⟩ := rl_key (F1 := am_row (am_row (am_row (am_row (am_row (am_row (am_row (am_row (am_row (am_row (am_row (am_row (am_row f 18 z.2.1) 19 z.2.2.1) 20 z.2.2.2.1) 21 z.2.2.2.2.1) 22 z.2.2.2.2.2.1) 23 z.2.2.2.2.2.2.1) 24 z.2.2.2.2.2.2.2.1) 25 z.2.2.2.2.2.2.2.2.1) 26 z.2.2.2.2.2.2.2.2.2.1) 75 z.2.2.2.2.2.2.2.2.2.2.1) 77 z.2.2.2.2.2.2.2.2.2.2.2.1) 78 z.2.2.2.2.2.2.2.2.2.2.2.2.1) 79 z.2.2.2.2.2.2.2.2.2.2.2.2.2) hI' rfl rfl rfl role acts thing frm to
  have ez : z0 = z := Option.some.inj (hz0.symm.trans hz)
  subst ez
  clear hz hz0
  have hy := x_m_rule role acts thing frm to (am_row (am_row (am_row (am_row (am_row (am_row (am_row (am_row (am_row (am_row (am_row (am_row (am_row f 18 z0.2.1) 19 z0.2.2.1) 20 z0.2.2.2.1) 21 z0.2.2.2.2.1) 22 z0.2.2.2.2.2.1) 23 z0.2.2.2.2.2.2.1) 24 z0.2.2.2.2.2.2.2.1) 25 z0.2.2.2.2.2.2.2.2.1) 26 z0.2.2.2.2.2.2.2.2.2.1) 75 z0.2.2.2.2.2.2.2.2.2.2.1) 77 z0.2.2.2.2.2.2.2.2.2.2.2.1) 78 z0.2.2.2.2.2.2.2.2.2.2.2.2.1) 79 z0.2.2.2.2.2.2.2.2.2.2.2.2.2) g (pu_mOK c6 c7) z' k1
  refine ⟨_, _, _, _, _, pu_res hx (by decide) k2, pu_res hy (by decide) rfl, k6, k7, k8, ?_, k5, ?_⟩
  · obtain ⟨i1, i2, sk, i3, i4, i5⟩ := hk
    exact ⟨i1.trans k3.symm, i2, sk, i3, pu_V_eq i3.2.2.2.2.2.2.1 i4 ⟨rfl, rfl, rfl, rfl, rfl, rfl, rfl, rfl, rfl, fun _ _ => rfl, fun _ _ => rfl, fun _ _ => rfl, fun _ _ => rfl, fun _ _ => rfl, fun _ _ => rfl, fun _ _ => rfl, fun _ _ => rfl, fun _ _ => rfl, fun _ _ => rfl, fun _ _ => rfl, fun _ _ => rfl, fun _ _ => rfl, fun _ _ => rfl, fun _ _ => rfl, fun _ _ => rfl, fun _ _ => rfl, fun _ _ => rfl, fun _ _ => rfl, fun _ _ => rfl, fun _ _ => rfl, fun _ _ => rfl, fun _ _ => rfl, fun _ _ => rfl, fun _ _ => rfl, rfl⟩, i5⟩
  · obtain ⟨n, n1, n2, n3, n4⟩ := hg
    exact ⟨n, n1, n2, k4.trans n3, n4⟩
