/-! RULE: the pair -/
set_option linter.unusedVariables false
set_option maxRecDepth 4000 in
noncomputable def rl_cb (role : Int32) (acts : Int32) (thing : Int32) (frm : Int32) (to : Int32) (f : Nat → Nat → Int32) : Option (Int32 × (Nat → Int32) × (Nat → Int32) × (Nat → Int32) × (Nat → Int32) × (Nat → Int32) × (Nat → Int32) × (Nat → Int32) × (Nat → Int32) × (Nat → Int32) × (Nat → Int32) × (Nat → Int32) × (Nat → Int32) × (Nat → Int32)) := (if (f 18 11) < 30 then (if (f 75 1) = 0 then (am_chk ((f 18 11).toNatClampNeg < 30) (am_ob (fn_keepCode (f 18 11) 0 (am_row (am_row (am_row (am_row (am_row (am_row (am_row f 19 (upd (f 19) ((f 18 11).toNatClampNeg) (role - (100 * (am_b (if role < 100 then false else true)))))) 20 (upd (f 20) ((f 18 11).toNatClampNeg) acts)) 21 (upd (f 21) ((f 18 11).toNatClampNeg) (thing - (100 * (am_b (if thing < 100 then false else true)))))) 22 (upd (f 22) ((f 18 11).toNatClampNeg) frm)) 23 (upd (f 23) ((f 18 11).toNatClampNeg) to)) 24 (upd (f 24) ((f 18 11).toNatClampNeg) (-1))) 75 (upd (f 75) 1 0))) (fun (y16 : (Nat → Int32) × (Nat → Int32)) => (some (f 18 11, (fn_openRule ((f 18 11).toNatClampNeg) (if (am_b (if role < 100 then false else true)) = 1 then true else false) (if (am_b (if thing < 100 then false else true)) = 1 then true else false) (am_row (am_row (am_row (am_row (am_row (am_row (am_row (am_row (am_row f 19 (upd (f 19) ((f 18 11).toNatClampNeg) (role - (100 * (am_b (if role < 100 then false else true)))))) 20 (upd (f 20) ((f 18 11).toNatClampNeg) acts)) 21 (upd (f 21) ((f 18 11).toNatClampNeg) (thing - (100 * (am_b (if thing < 100 then false else true)))))) 22 (upd (f 22) ((f 18 11).toNatClampNeg) frm)) 23 (upd (f 23) ((f 18 11).toNatClampNeg) to)) 24 (upd (f 24) ((f 18 11).toNatClampNeg) (-1))) 25 y16.1) 26 y16.2) 75 (upd (f 75) 1 0))), upd (f 19) ((f 18 11).toNatClampNeg) (role - (100 * (am_b (if role < 100 then false else true)))), upd (f 20) ((f 18 11).toNatClampNeg) acts, upd (f 21) ((f 18 11).toNatClampNeg) (thing - (100 * (am_b (if thing < 100 then false else true)))), upd (f 22) ((f 18 11).toNatClampNeg) frm, upd (f 23) ((f 18 11).toNatClampNeg) to, upd (f 24) ((f 18 11).toNatClampNeg) (-1), y16.1, y16.2, upd (f 75) 1 0, f 77, f 78, f 79))))) else (if (fn_readCondition f).1 < 0 then (am_chk ((f 18 11).toNatClampNeg < 30) (am_ob (fn_keepCode (f 18 11) ((fn_readCondition f).2.1 2) (am_row (am_row (am_row (am_row (am_row (am_row (am_row (am_row (am_row (am_row f 19 (upd (f 19) ((f 18 11).toNatClampNeg) (role - (100 * (am_b (if role < 100 then false else true)))))) 20 (upd (f 20) ((f 18 11).toNatClampNeg) acts)) 21 (upd (f 21) ((f 18 11).toNatClampNeg) (thing - (100 * (am_b (if thing < 100 then false else true)))))) 22 (upd (f 22) ((f 18 11).toNatClampNeg) frm)) 23 (upd (f 23) ((f 18 11).toNatClampNeg) to)) 24 (upd (f 24) ((f 18 11).toNatClampNeg) (-1))) 75 (upd (f 75) 1 0)) 77 (fn_readCondition f).2.1) 78 (fn_readCondition f).2.2.1) 79 (fn_readCondition f).2.2.2)) (fun (y23 : (Nat → Int32) × (Nat → Int32)) => (some (f 18 11, (fn_openRule ((f 18 11).toNatClampNeg) (if (am_b (if role < 100 then false else true)) = 1 then true else false) (if (am_b (if thing < 100 then false else true)) = 1 then true else false) (am_row (am_row (am_row (am_row (am_row (am_row (am_row (am_row (am_row (am_row (am_row (am_row f 19 (upd (f 19) ((f 18 11).toNatClampNeg) (role - (100 * (am_b (if role < 100 then false else true)))))) 20 (upd (f 20) ((f 18 11).toNatClampNeg) acts)) 21 (upd (f 21) ((f 18 11).toNatClampNeg) (thing - (100 * (am_b (if thing < 100 then false else true)))))) 22 (upd (f 22) ((f 18 11).toNatClampNeg) frm)) 23 (upd (f 23) ((f 18 11).toNatClampNeg) to)) 24 (upd (f 24) ((f 18 11).toNatClampNeg) (-1))) 25 y23.1) 26 y23.2) 75 (upd (f 75) 1 0)) 77 (fn_readCondition f).2.1) 78 (fn_readCondition f).2.2.1) 79 (fn_readCondition f).2.2.2)), upd (f 19) ((f 18 11).toNatClampNeg) (role - (100 * (am_b (if role < 100 then false else true)))), upd (f 20) ((f 18 11).toNatClampNeg) acts, upd (f 21) ((f 18 11).toNatClampNeg) (thing - (100 * (am_b (if thing < 100 then false else true)))), upd (f 22) ((f 18 11).toNatClampNeg) frm, upd (f 23) ((f 18 11).toNatClampNeg) to, upd (f 24) ((f 18 11).toNatClampNeg) (-1), y23.1, y23.2, upd (f 75) 1 0, (fn_readCondition f).2.1, (fn_readCondition f).2.2.1, (fn_readCondition f).2.2.2))))) else (some ((-100) - (fn_readCondition f).1, f 18, f 19, f 20, f 21, f 22, f 23, f 24, f 25, f 26, upd (f 75) 1 0, (fn_readCondition f).2.1, (fn_readCondition f).2.2.1, (fn_readCondition f).2.2.2)))) else (some ((-3), f 18, f 19, f 20, f 21, f 22, f 23, f 24, f 25, f 26, f 75, f 77, f 78, f 79)))
noncomputable def rl_mb (a0 : Int32) (a1 : Int32) (a2 : Int32) (a3 : Int32) (a4 : Int32) (f : Nat → Nat → Int32) : Option (Int32 × (Nat → Int32) × (Nat → Int32) × (Nat → Int32)) := (if (f 89 202) = 30 then (some ((-3), f 88, f 89, f 98)) else (if (f 88 11) ≤ 0 then (some (f 89 202, upd (f 88) 15 0, upd (lf_m_rule_261 a0 a1 a2 (a3.toNatClampNeg) a4 f) 202 (((lf_m_rule_261 a0 a1 a2 (a3.toNatClampNeg) a4 f) 202) + 1), f 98)) else (am_ob (fn_m_reads (am_row f 88 (upd (f 88) 15 0))) (fun (y17 : Int32 × (Nat → Int32) × (Nat → Int32)) => (if y17.1 < 0 then (am_ob (lf_m_rule_261_26 a0 a1 a2 (a3.toNatClampNeg) a4 f y17) (fun zz => Sum.elim (fun (z261 : Int32 × (Nat → Int32)) => (some (f 89 202, y17.2.1, upd z261.2 202 ((z261.2 202) + 1), y17.2.2))) (fun (z : Empty) => z.elim) zz)) else (some ((-100) - (y17.2.1 13), y17.2.1, f 89, y17.2.2)))))))
theorem rl_cU (role acts thing frm to : Int32) (f : Nat → Nat → Int32) : fn_rule role acts thing frm to f = (bif (fn_isRole (role - (100 * (am_b (if role < 100 then false else true))))) then (bif (fn_isThing (thing - (100 * (am_b (if thing < 100 then false else true))))) then (bif (fn_between acts 1 255) then (bif (fn_between frm 0 9999) then (if to = (-1) then rl_cb role acts thing frm to f else (if frm < to then rl_cb role acts thing frm to f else (some ((-1), f 18, f 19, f 20, f 21, f 22, f 23, f 24, f 25, f 26, f 75, f 77, f 78, f 79)))) else (some ((-1), f 18, f 19, f 20, f 21, f 22, f 23, f 24, f 25, f 26, f 75, f 77, f 78, f 79))) else (some ((-1), f 18, f 19, f 20, f 21, f 22, f 23, f 24, f 25, f 26, f 75, f 77, f 78, f 79))) else (some ((-1), f 18, f 19, f 20, f 21, f 22, f 23, f 24, f 25, f 26, f 75, f 77, f 78, f 79))) else (some ((-1), f 18, f 19, f 20, f 21, f 22, f 23, f 24, f 25, f 26, f 75, f 77, f 78, f 79))) := rfl
theorem rl_mU (a0 a1 a2 a3 a4 : Int32) (f : Nat → Nat → Int32) : fn_m_rule a0 a1 a2 a3 a4 f = (bif (fn_m_isIn (a0 / 100) 0 1) then (bif (fn_m_isRole (a0 - a0 / 100 * 100)) then (bif (fn_m_isIn a1 1 255) then (bif (fn_m_isIn (a2 / 100) 0 1) then (bif (fn_m_isOne (a2 - a2 / 100 * 100)) then (bif (fn_m_isIn a3 0 9999) then (if a4 = (-1) then rl_mb a0 a1 a2 a3 a4 f else (if a3 < a4 then rl_mb a0 a1 a2 a3 a4 f else (some ((-1), f 88, f 89, f 98)))) else (some ((-1), f 88, f 89, f 98))) else (some ((-1), f 88, f 89, f 98))) else (some ((-1), f 88, f 89, f 98))) else (some ((-1), f 88, f 89, f 98))) else (some ((-1), f 88, f 89, f 98))) else (some ((-1), f 88, f 89, f 98))) := rfl
theorem rl_keep (F : Nat → Nat → Int32) {R n : Nat} (hR : R < 30) (hn : n ≤ 80) : fn_keepCode (nI R) (nI n) F = some (upd (F 25) R (nI n), va_cpy (F 78) (F 26) 0 (R * 80) n) := by
  have em : nI R * 80 = nI (R * 80) := pk_mul R 80
  unfold fn_keepCode
  rw [show (if (80 : Nat) < 80 then (80 : Int32) else 80) = 80 from rfl, if_neg (show ¬ (80 : Int32) < nI n from nI_nlt (a := 80) hn (by omega)), em, nI_clamp (show R * 80 < 2147483648 by omega), nI_clamp (show n < 2147483648 by omega), nI_clamp (show R < 2147483648 by omega), am_chk_p rfl, am_chk_p rfl, am_chk_p (by omega), am_chk_p (by omega), am_chk_p (am_inbN hR (by decide))]
theorem rl_keep0 (F : Nat → Nat → Int32) {R : Nat} (hR : R < 30) : fn_keepCode (nI R) 0 F = some (upd (F 25) R (nI 0), va_cpy (F 78) (F 26) 0 (R * 80) 0) := rl_keep F hR (Nat.zero_le _)
section
variable {f : Nat → Nat → Int32} {p q R : Nat} {acts frm to : Int32}
theorem rl_c3 (role thing : Int32) (h18 : f 18 11 = nI 30) : rl_cb role acts thing frm to f = some (-3, f 18, f 19, f 20, f 21, f 22, f 23, f 24, f 25, f 26, f 75, f 77, f 78, f 79) := by
  unfold rl_cb
  rw [h18, if_neg (show ¬ nI 30 < 30 by decide)]
theorem rl_c2 (role thing : Int32) (h18 : f 18 11 = nI R) (hR : R < 30) (h75 : ¬ f 75 1 = 0) {x : Nat} {c7 c8 c9 : Nat → Int32} (hx : x ≤ 80) (hRC : fn_readCondition f = (nI x, c7, c8, c9)) : rl_cb role acts thing frm to f = some ((-100) - nI x, f 18, f 19, f 20, f 21, f 22, f 23, f 24, f 25, f 26, upd (f 75) 1 0, c7, c8, c9) := by
  unfold rl_cb
  rw [h18, if_pos (show nI R < 30 from nI_lt (b := 30) hR (by omega)), if_neg h75, hRC]
  dsimp only
  rw [if_neg (show ¬ nI x < 0 from nI_pos (by omega))]
theorem rl_c0 (hp : p < 200) (hq : q < 200) (h18 : f 18 11 = nI R) (hR : R < 30) (h75 : f 75 1 = 0) : rl_cb (nI p) acts (nI q) frm to f = some (nI R, fn_openRule R (if nI (p / 100) = 1 then true else false) (if nI (q / 100) = 1 then true else false) f, upd (f 19) R (nI (p % 100)), upd (f 20) R acts, upd (f 21) R (nI (q % 100)), upd (f 22) R frm, upd (f 23) R to, upd (f 24) R (-1), upd (f 25) R (nI 0), va_cpy (f 78) (f 26) 0 (R * 80) 0, upd (f 75) 1 0, f 77, f 78, f 79) := by
  obtain ⟨e1, e2, -, -⟩ := rl_dm p hp
  obtain ⟨e3, e4, -, -⟩ := rl_dm q hq
  unfold rl_cb
  rw [h18, if_pos (show nI R < 30 from nI_lt (b := 30) hR (by omega)), if_pos h75, nI_clamp (show R < 2147483648 by omega), am_chk_p hR, e1, e2, e3, e4, rl_keep0 _ hR, am_ob_s]
  rfl
theorem rl_c1 (hp : p < 200) (hq : q < 200) (h18 : f 18 11 = nI R) (hR : R < 30) (h75 : ¬ f 75 1 = 0) {n : Nat} {c7 c8 c9 : Nat → Int32} (hn : n ≤ 80) (hRC : fn_readCondition f = (-1, c7, c8, c9)) (h2 : c7 2 = nI n) : rl_cb (nI p) acts (nI q) frm to f = some (nI R, fn_openRule R (if nI (p / 100) = 1 then true else false) (if nI (q / 100) = 1 then true else false) f, upd (f 19) R (nI (p % 100)), upd (f 20) R acts, upd (f 21) R (nI (q % 100)), upd (f 22) R frm, upd (f 23) R to, upd (f 24) R (-1), upd (f 25) R (nI n), va_cpy c8 (f 26) 0 (R * 80) n, upd (f 75) 1 0, c7, c8, c9) := by
  obtain ⟨e1, e2, -, -⟩ := rl_dm p hp
  obtain ⟨e3, e4, -, -⟩ := rl_dm q hq
  unfold rl_cb
  rw [h18, if_pos (show nI R < 30 from nI_lt (b := 30) hR (by omega)), if_neg h75, hRC]
  dsimp only
  rw [if_pos (show (-1 : Int32) < 0 by decide), nI_clamp (show R < 2147483648 by omega), am_chk_p hR, e1, e2, e3, e4, h2, rl_keep _ hR hn, am_ob_s]
  rfl
end
/-! the reference -/
section
variable {f : Nat → Nat → Int32} {p q R fr : Nat} {a1 a4 : Int32}
theorem rl_wh {y : Int32 × (Nat → Int32) × (Nat → Int32)} {n : Nat} (hR : f 89 202 = nI R) (hR30 : R < 30) (hn : n ≤ 80) (hy : y.2.1 15 = nI n) : ∀ d j s, j + d = n → ∃ s', am_while (st_m_rule_261_25 f y) (nI j, s) = some (.inl (nI n, s')) ∧ ∀ i, s' i = if 760 + 80 * R + j ≤ i ∧ i < 760 + 80 * R + n then y.2.2 (i - (760 + 80 * R)) else s i := by
  intro d
  induction d with
  | zero =>
    intro j s hj
    have e : j = n := by omega
    subst e
    refine ⟨s, sn_wh1 (z := .inl (nI j, s)) ?_, fun i => by rw [if_neg (by omega)]⟩
    unfold st_m_rule_261_25
    simp only
    rw [hy, if_pos (Int32.le_refl _)]
  | succ d ih =>
    intro j s hj
    obtain ⟨s', h1, h2⟩ := ih (j + 1) (upd s (760 + 80 * R + j) (y.2.2 j)) (by omega)
    have e : (760 + (80 * nI R)) + nI j = nI (760 + 80 * R + j) := by rw [show (80 : Int32) = nI 80 from rfl, pk_mul, show (760 : Int32) = nI 760 from rfl, nI_add, nI_add]
    refine ⟨s', sn_wh2 (b := (nI (j + 1), upd s (760 + 80 * R + j) (y.2.2 j))) ?_ h1, fun i => ?_⟩
    · unfold st_m_rule_261_25
      simp only
      rw [hy, if_neg (show ¬ nI n ≤ nI j from nI_ge (by omega) (by omega)), am_chk_p (am_inbN (show j < 81 by omega) (by decide)), hR, e, am_chk_p (am_inbN (show 760 + 80 * R + j < 3340 by omega) (by decide)), nI_clamp (show 760 + 80 * R + j < 2147483648 by omega), nI_clamp (show j < 2147483648 by omega), nI_1]
    · rw [h2 i]
      by_cases c : i = 760 + 80 * R + j
      · subst c
        rw [if_neg (by omega), if_pos (by omega), pu_us, show 760 + 80 * R + j - (760 + 80 * R) = j by omega]
      · by_cases c2 : 760 + 80 * R + (j + 1) ≤ i ∧ i < 760 + 80 * R + n
        · rw [if_pos c2, if_pos (by omega)]
        · rw [if_neg c2, if_neg (by omega), pu_un c]
theorem rl_m3 (a0 a2 a3 : Int32) (h : f 89 202 = nI 30) : rl_mb a0 a1 a2 a3 a4 f = some (-3, f 88, f 89, f 98) := by
  unfold rl_mb
  rw [h, if_pos (show nI 30 = 30 from rfl)]
theorem rl_m2 (a0 a2 a3 : Int32) (hR : f 89 202 = nI R) (hR30 : R < 30) (h11 : ¬ f 88 11 ≤ 0) {x : Nat} {r m : Nat → Int32} (hx : x ≤ 80) (hrd : fn_m_reads (am_row f 88 (upd (f 88) 15 0)) = some (nI x, r, m)) (h13 : r 13 = nI x) : rl_mb a0 a1 a2 a3 a4 f = some ((-100) - nI x, r, f 89, m) := by
  unfold rl_mb
  rw [hR, if_neg (show ¬ nI R = 30 from fun h => by have := (nI_eq (b := 30) (by omega) (by omega)).mp h; omega), if_neg h11, hrd, am_ob_s]
  dsimp only
  rw [if_neg (show ¬ nI x < 0 from nI_pos (by omega)), h13]
theorem rl_m0 (hp : p < 200) (hq : q < 200) (hfr : fr < 10000) {a : Nat} (hR : f 89 202 = nI R) (hR30 : R < 30) (h11 : f 88 11 ≤ 0) (mm : Nat → Int32) : ∃ s', rl_mb (nI p) (nI a) (nI q) (nI fr) a4 f = some (nI R, upd (f 88) 15 0, s', f 98) ∧ rl_N (f 89) s' mm R (p / 100) (p % 100) a (q % 100) (q / 100) fr a4 0 := by
  obtain ⟨-, -, e1, e2⟩ := rl_dm p hp
  obtain ⟨-, -, e3, e4⟩ := rl_dm q hq
  unfold rl_mb
  rw [if_neg (show ¬ f 89 202 = 30 by rw [hR]; exact fun h => by have := (nI_eq (b := 30) (by omega) (by omega)).mp h; omega), if_pos h11]
  have el : lf_m_rule_261 (nI p) (nI a) (nI q) (nI fr).toNatClampNeg a4 f = rl_ch (f 89) (490 + 9 * R) (nI (p / 100)) (nI (p % 100)) (nI a) (nI (q % 100)) (nI (q / 100)) (nI fr) a4 (-1) (nI 0) := by
    show rl_ch (f 89) (490 + 9 * (f 89 202).toNatClampNeg) (nI p / 100) (nI p - nI p / 100 * 100) (nI a) (nI q - nI q / 100 * 100) (nI q / 100) (nI (nI fr).toNatClampNeg) a4 (-1) 0 = _
    rw [hR, nI_clamp (show R < 2147483648 by omega), nI_clamp (show fr < 2147483648 by omega), e2, e1, e4, e3]
    rfl
  rw [el, hR]
  exact ⟨_, rfl, rl_mk hR hR30 (Nat.zero_le _) (fun i => by rw [if_neg (by omega)])⟩
theorem rl_m1 (hp : p < 200) (hq : q < 200) (hfr : fr < 10000) {a n : Nat} (hn : n ≤ 80) (hR : f 89 202 = nI R) (hR30 : R < 30) (h11 : ¬ f 88 11 ≤ 0) {r m : Nat → Int32} (hrd : fn_m_reads (am_row f 88 (upd (f 88) 15 0)) = some (-1, r, m)) (h15 : r 15 = nI n) : ∃ s', rl_mb (nI p) (nI a) (nI q) (nI fr) a4 f = some (nI R, r, s', m) ∧ rl_N (f 89) s' m R (p / 100) (p % 100) a (q % 100) (q / 100) fr a4 n := by
  obtain ⟨-, -, e1, e2⟩ := rl_dm p hp
  obtain ⟨-, -, e3, e4⟩ := rl_dm q hq
  obtain ⟨s1, g1, g2⟩ := rl_wh (f := f) (y := (-1, r, m)) hR hR30 hn h15 n 0 (rl_ch (f 89) (490 + 9 * R) (nI (p / 100)) (nI (p % 100)) (nI a) (nI (q % 100)) (nI (q / 100)) (nI fr) a4 (-1) (nI n)) (by omega)
  unfold rl_mb
  rw [if_neg (show ¬ f 89 202 = 30 by rw [hR]; exact fun h => by have := (nI_eq (b := 30) (by omega) (by omega)).mp h; omega), if_neg h11, hrd, am_ob_s]
  dsimp only
  rw [if_pos (show (-1 : Int32) < 0 by decide)]
  have el : lf_m_rule_261_26 (nI p) (nI a) (nI q) (nI fr).toNatClampNeg a4 f (-1, r, m) = some (.inl (nI n, s1)) := by
    show am_while (st_m_rule_261_25 f (-1, r, m)) (nI 0, rl_ch (f 89) (490 + 9 * (f 89 202).toNatClampNeg) (nI p / 100) (nI p - nI p / 100 * 100) (nI a) (nI q - nI q / 100 * 100) (nI q / 100) (nI (nI fr).toNatClampNeg) a4 (-1) (r 15)) = _
    rw [hR, nI_clamp (show R < 2147483648 by omega), nI_clamp (show fr < 2147483648 by omega), e2, e1, e4, e3, h15]
    exact g1
  rw [el, am_ob_s, hR]
  exact ⟨_, rfl, rl_mk hR hR30 hn g2⟩
end
