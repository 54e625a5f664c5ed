/-! THE PURE LAYER: how many bits of a long (wb_ rows: from the kit's bits to paste); PAIRS OF CALLS: off, count, takeBack, idle -/
set_option linter.unusedVariables false
theorem wb_tb (n : Nat) : (lN n).toBitVec = BitVec.ofNat 64 n := rfl
theorem wb_inj {a b : Int64} (h : a.toBitVec = b.toBitVec) : a = b := Int64.toBitVec_inj.mp h
theorem wb_tn {n : Nat} (h : n < 2 ^ 64) : (lN n).toBitVec.toNat = n := by rw [wb_tb, BitVec.toNat_ofNat, Nat.mod_eq_of_lt h]
theorem wb_of (x : Int64) : ∃ n, n < 2 ^ 64 ∧ x = lN n := ⟨x.toBitVec.toNat, x.toBitVec.isLt, wb_inj (by rw [wb_tb]; simp)⟩
theorem wb_cu : ∀ k, k < 64 → ((nI k).toInt64.toUInt64 &&& Int64.toUInt64 63) = UInt64.ofNat k := by decide +kernel
theorem wb_shr {n k : Nat} (hn : n < 2 ^ 64) (hk : k < 64) : ((lN n).toUInt64 >>> ((nI k).toInt64.toUInt64 &&& Int64.toUInt64 63)).toInt64 = lN (n / 2 ^ k) := by
  rw [wb_cu k hk]
  apply wb_inj
  apply BitVec.eq_of_toNat_eq
  show ((lN n).toUInt64 >>> UInt64.ofNat k).toNat = (BitVec.ofNat 64 _).toNat
  have h1 : (UInt64.ofNat k).toNat = k := by
    show (BitVec.ofNat 64 k).toNat = k
    rw [BitVec.toNat_ofNat, Nat.mod_eq_of_lt (by omega)]
  have h2 : (lN n).toUInt64.toNat = n := wb_tn hn
  rw [UInt64.toNat_shiftRight, h1, h2, Nat.mod_eq_of_lt hk, Nat.shiftRight_eq_div_pow, BitVec.toNat_ofNat, Nat.mod_eq_of_lt (Nat.lt_of_le_of_lt (Nat.div_le_self _ _) hn)]
theorem wb_and {a b : Nat} (ha : a < 2 ^ 64) (hb : b < 2 ^ 64) : lN a &&& lN b = lN (a &&& b) := by
  apply wb_inj
  rw [Int64.toBitVec_and, wb_tb, wb_tb, wb_tb]
  apply BitVec.eq_of_toNat_eq
  rw [BitVec.toNat_and, BitVec.toNat_ofNat, BitVec.toNat_ofNat, BitVec.toNat_ofNat, Nat.mod_eq_of_lt ha, Nat.mod_eq_of_lt hb, Nat.mod_eq_of_lt (Nat.and_lt_two_pow _ hb)]
theorem pu_bc64 (n : Nat) (hn : n < 18446744073709551616) : (pu_T 8 n + pu_T 8 n / 256 + (pu_T 8 n + pu_T 8 n / 256) / 65536 + (pu_T 8 n + pu_T 8 n / 256 + (pu_T 8 n + pu_T 8 n / 256) / 65536) / 4294967296) % 128 = pu_nb n 64 ∧ pu_T 8 n < 1152921504606846976 := by
  obtain ⟨b0, b1, b2, b3, b4, b5, b6, b7, h0, h1, h2, h3, h4, h5, h6, h7, rfl⟩ : ∃ b0 b1 b2 b3 b4 b5 b6 b7, b0 < 256 ∧ b1 < 256 ∧ b2 < 256 ∧ b3 < 256 ∧ b4 < 256 ∧ b5 < 256 ∧ b6 < 256 ∧ b7 < 256 ∧ n = 256 * (256 * (256 * (256 * (256 * (256 * (256 * (256 * 0 + b7) + b6) + b5) + b4) + b3) + b2) + b1) + b0 := ⟨n % 256, n / 256 % 256, n / 65536 % 256, n / 16777216 % 256, n / 4294967296 % 256, n / 1099511627776 % 256, n / 281474976710656 % 256, n / 72057594037927936 % 256, by omega, by omega, by omega, by omega, by omega, by omega, by omega, by omega, by omega⟩
  rw [pu_T_s 7 _ _ h0 (by omega), pu_T_s 6 _ _ h1 (by omega), pu_T_s 5 _ _ h2 (by omega), pu_T_s 4 _ _ h3 (by omega), pu_T_s 3 _ _ h4 (by omega), pu_T_s 2 _ _ h5 (by omega), pu_T_s 1 _ _ h6 (by omega), pu_T_s 0 _ _ h7 (by decide), pu_nb_s _ _ 56 h0, pu_nb_s _ _ 48 h1, pu_nb_s _ _ 40 h2, pu_nb_s _ _ 32 h3, pu_nb_s _ _ 24 h4, pu_nb_s _ _ 16 h5, pu_nb_s _ _ 8 h6, pu_nb_s _ _ 0 h7, show pu_T 0 0 = 0 from rfl, show pu_nb 0 0 = 0 from rfl]
  have e0 := (pu_d3 b0 h0 0 (by omega)).2.2.2.2
  have e1 := (pu_d3 b1 h1 0 (by omega)).2.2.2.2
  have e2 := (pu_d3 b2 h2 0 (by omega)).2.2.2.2
  have e3 := (pu_d3 b3 h3 0 (by omega)).2.2.2.2
  have e4 := (pu_d3 b4 h4 0 (by omega)).2.2.2.2
  have e5 := (pu_d3 b5 h5 0 (by omega)).2.2.2.2
  have e6 := (pu_d3 b6 h6 0 (by omega)).2.2.2.2
  have e7 := (pu_d3 b7 h7 0 (by omega)).2.2.2.2
  clear hn h0 h1 h2 h3 h4 h5 h6 h7
  generalize pu_pc b0 = p0 at *
  generalize pu_pc b1 = p1 at *
  generalize pu_pc b2 = p2 at *
  generalize pu_pc b3 = p3 at *
  generalize pu_pc b4 = p4 at *
  generalize pu_pc b5 = p5 at *
  generalize pu_pc b6 = p6 at *
  generalize pu_pc b7 = p7 at *
  generalize hT : 256 * (256 * (256 * (256 * (256 * (256 * (256 * (256 * 0 + p7) + p6) + p5) + p4) + p3) + p2) + p1) + p0 = T
  generalize hR1 : 256 * (256 * (256 * (256 * (256 * (256 * p7 + p6) + p5) + p4) + p3) + p2) + p1 = R1
  generalize hR2 : 256 * (256 * (256 * (256 * (256 * p7 + p6) + p5) + p4) + p3) + p2 = R2
  generalize hR3 : 256 * (256 * (256 * (256 * p7 + p6) + p5) + p4) + p3 = R3
  generalize hR4 : 256 * (256 * (256 * p7 + p6) + p5) + p4 = R4
  generalize hR5 : 256 * (256 * p7 + p6) + p5 = R5
  generalize hR6 : 256 * p7 + p6 = R6
  have k1 : T / 256 = R1 := by omega
  rw [k1]
  have k2 : T + R1 = 65536 * (R2 + R3) + (256 * (p1 + p2) + (p0 + p1)) := by omega
  have k3 : (T + R1) / 65536 = R2 + R3 := by
    rw [k2, Nat.mul_add_div (by decide), Nat.div_eq_of_lt (by omega)]; omega
  rw [k3, k2]
  have k4 : 65536 * (R2 + R3) + (256 * (p1 + p2) + (p0 + p1)) + (R2 + R3) = 4294967296 * (R4 + R5 + R6 + p7) + (16777216 * (p3 + p4 + p5 + p6) + 65536 * (p2 + p3 + p4 + p5) + 256 * (p1 + p2 + p3 + p4) + (p0 + p1 + p2 + p3)) := by omega
  rw [k4, Nat.mul_add_div (by decide), Nat.div_eq_of_lt (a := 16777216 * (p3 + p4 + p5 + p6) + 65536 * (p2 + p3 + p4 + p5) + 256 * (p1 + p2 + p3 + p4) + (p0 + p1 + p2 + p3)) (by omega)]
  refine ⟨?_, by omega⟩
  have k5 : 4294967296 * (R4 + R5 + R6 + p7) + (16777216 * (p3 + p4 + p5 + p6) + 65536 * (p2 + p3 + p4 + p5) + 256 * (p1 + p2 + p3 + p4) + (p0 + p1 + p2 + p3)) + (R4 + R5 + R6 + p7 + 0) = 128 * (33554432 * (R4 + R5 + R6 + p7) + 131072 * (p3 + p4 + p5 + p6) + 512 * (p2 + p3 + p4 + p5) + 2 * (p1 + p2 + p3 + p4) + 2 * (R5 + R6 + p7)) + (p0 + p1 + p2 + p3 + p4 + p5 + p6 + p7) := by omega
  rw [k5, Nat.mul_add_mod, Nat.mod_eq_of_lt (by omega)]
  omega
theorem pu_blN {n : Nat} (hn : n < 2 ^ 64) (i : Nat) : pu_bl (lN n) i = n.testBit i := by
  unfold pu_bl
  rw [← BitVec.testBit_toNat, wb_tn hn]
theorem pu_bitCountL (x : Int64) : fn_bitCountL x = nI (pu_sum (fun i => if pu_bl x i then 1 else 0) 64) := by
  obtain ⟨n, hn, rfl⟩ := wb_of x
  have e0 : pu_sum (fun i => if pu_bl (lN n) i then 1 else 0) 64 = pu_nb n 64 := pu_sum_c 64 fun i _ => by rw [pu_blN hn]
  obtain ⟨b1, b2⟩ := pu_bc64 n (by omega)
  rw [e0, ← b1]
  have m85 : pu_mk 85 8 = 6148914691236517205 := by decide
  have m51 : pu_mk 51 8 = 3689348814741910323 := by decide
  have m15 : pu_mk 15 8 = 1085102592571150095 := by decide
  have g9 : nm_bitCountL_9 (lN n) = lN (pu_S1 8 n) := by
    unfold nm_bitCountL_9
    rw [show (1 : Int32) = nI 1 from rfl, wb_shr hn (by decide), show (6148914691236517205 : Int64) = lN (pu_mk 85 8) from by rw [m85]; rfl, wb_and (by omega) (by omega), lN_sub (Nat.le_trans Nat.and_le_left (by omega))]
    rfl
  have l1 : pu_S1 8 n < 2 ^ 64 := by unfold pu_S1; omega
  have g23 : nm_bitCountL_23 (lN n) = lN (pu_S2 8 (pu_S1 8 n)) := by
    unfold nm_bitCountL_23
    rw [g9, show (2 : Int32) = nI 2 from rfl, wb_shr l1 (by decide), show (3689348814741910323 : Int64) = lN (pu_mk 51 8) from by rw [m51]; rfl, wb_and l1 (by omega), wb_and (by omega) (by omega), lN_add]
    rfl
  have l2 : pu_S2 8 (pu_S1 8 n) < 2 ^ 63 := by
    unfold pu_S2
    have h1 := Nat.and_le_right (n := pu_S1 8 n) (m := pu_mk 51 8)
    have h2 := Nat.and_le_right (n := pu_S1 8 n / 4) (m := pu_mk 51 8)
    omega
  have g33 : nm_bitCountL_33 (lN n) = lN (pu_T 8 n) := by
    unfold nm_bitCountL_33
    rw [g23, show (4 : Int32) = nI 4 from rfl, wb_shr (by omega) (by decide), lN_add, show (1085102592571150095 : Int64) = lN (pu_mk 15 8) from by rw [m15]; rfl, wb_and (by omega) (by omega)]
    rfl
  unfold fn_bitCountL nm_bitCountL_54 nm_bitCountL_47 nm_bitCountL_40
  rw [g33, show (8 : Int32) = nI 8 from rfl, wb_shr (by omega) (by decide), lN_add, show (16 : Int32) = nI 16 from rfl, wb_shr (by omega) (by decide), lN_add, show (32 : Int32) = nI 32 from rfl, wb_shr (by omega) (by decide), lN_add, lN_i, pk_and _ 7 (by decide)]
  refine congrArg nI ?_
  show (BitVec.ofNat 32 _).toNat % 2 ^ 7 = _
  rw [BitVec.toNat_ofNat]
  show _ % 2 ^ 32 % 128 = _ % 128
  omega
theorem pu_sum_z {g : Nat → Nat} {m : Nat} (h : ∀ i, m ≤ i → g i = 0) : ∀ n, m ≤ n → pu_sum g n = pu_sum g m := by
  intro n
  induction n with
  | zero => intro hm; rw [show m = 0 by omega]
  | succ n ih =>
    intro hm
    rcases Nat.lt_or_ge n m with c | c
    · rw [show m = n + 1 by omega]
    · show pu_sum g n + g n = _
      rw [ih c, h n c, Nat.add_zero]
/-- how many rules are there -/
theorem pu_there {F f' : Nat → Nat → Int32} (hv : pu_Vrl F (f' 89)) (hc : pu_Crl (f' 89)) : fn_bitCount (F 18 8) = fn_m_rulesThere f' := by
  obtain ⟨R, r1, r2, r3, r4⟩ := id hc
  have hR := (pu_cl r2 (by omega)).2
  rw [pu_bitCount]
  unfold fn_m_rulesThere lf_m_rulesThere_4
  rw [hR]
  have h := pu_for0 (f := st_m_rulesThere_4 f') (fun k y => y = nI (pu_sum (fun i => if pu_bt (F 18 8) i then 1 else 0) k)) R 0 rfl (fun k y hk hy => by
    unfold st_m_rulesThere_4
    have e : fn_m_isRule (nI k) f' = pu_bt (F 18 8) k := by
      rw [← pu_isRule hv hc]
      unfold fn_isRule
      have hb : fn_between (nI k) 0 (F 18 11 - 1) = true := by
        rw [hv.1, r2]
        have : nI R - 1 = nI (R - 1) := by rw [show R = (R - 1) + 1 by omega, nI_pred]; rfl
        rw [this]
        exact pu_btwN (lo := 0) (by omega) (by omega) (by omega)
      rw [hb, cond_true, pu_has _ (by omega)]
      cases pu_bt (F 18 8) k <;> rfl
    rw [e, hy]
    show _ = nI (pu_sum (fun i => if pu_bt (F 18 8) i then 1 else 0) k + (if pu_bt (F 18 8) k = true then 1 else 0))
    cases pu_bt (F 18 8) k with
    | true => rw [if_pos rfl]; exact nI_add _ 1
    | false => rw [if_neg (by decide)]; exact nI_add _ 0)
  rw [h]
  refine congrArg nI (pu_sum_z (fun i hi => ?_) 32 (by omega))
  rw [if_neg]
  intro hb
  rcases Nat.lt_or_ge i 32 with c | c
  · have := (hv.2.2.1 i c).mp hb; omega
  · rw [pu_big c] at hb; cases hb
/-- how many loans stand -/
theorem pu_stand {g : Nat → Nat → Int64} {L : Nat} {r : Nat → Int32} (hL : L ≤ 40) (h : ∀ l, l < L → (r l = 0 ∨ r l = 1) ∧ (pu_bl (g 1 5) l = true ↔ r l = 1)) (h2 : ∀ l, L ≤ l → pu_bl (g 1 5) l = false) (w : Nat → Int32) : fn_bitCountL (g 1 5) = am_for (st_m_standing_168_8 (w, r)) L 0 0 := by
  rw [pu_bitCountL]
  have hh := pu_for0 (f := st_m_standing_168_8 (w, r)) (fun k y => y = nI (pu_sum (fun i => if pu_bl (g 1 5) i then 1 else 0) k)) L 0 rfl (fun k y hk hy => by
    unfold st_m_standing_168_8
    rw [hy]
    obtain ⟨a, b⟩ := h k hk
    show _ + am_b (if r k = 0 then false else true) = nI (pu_sum (fun i => if pu_bl (g 1 5) i then 1 else 0) k + (if pu_bl (g 1 5) k = true then 1 else 0))
    rcases a with a | a
    · rw [if_pos a, if_neg (fun z => by rw [b.mp z] at a; exact absurd a (by decide))]; exact nI_add _ 0
    · rw [if_neg (by rw [a]; decide), if_pos (b.mpr a)]; exact nI_add _ 1)
  rw [hh]
  refine congrArg nI (pu_sum_z (fun i hi => ?_) 64 (by omega))
  rw [h2 i hi]; rfl
theorem pp_off : am_Pair pu_Inv 65 2 188 2 1 := pu_P1 fun f g hI x => by
  obtain ⟨hc, hv, hd, hk, ht, hg⟩ := hI
  obtain ⟨c1, c2, c3, c4, c5, c6, c7, c8⟩ := id hc
  obtain ⟨v1, v2, v3, v4, v5, v6, v7, v8, v9⟩ := id hv
  have hp := pu_pr c7 v8
  have hm := pu_mOK c6 c7
  have key : ((fn_off x f).1 = (fn_m_off x f).1 ∧ (fn_off x f).2 = f 18 ∧ (fn_m_off x f).2 = f 89) ∨ ∃ j, j < 30 ∧ j < (f 89 202).toNatClampNeg ∧ (fn_off x f).2 = upd (f 18) 8 (f 18 8 &&& ((1 <<< (nI j &&& 31)) ^^^ (-1))) ∧ (fn_m_off x f).2 = upd (f 89) (490 + 9 * j + 0) 2 ∧ (fn_off x f).1 = fn_bitCount (f 18 8 &&& ((1 <<< (nI j &&& 31)) ^^^ (-1))) ∧ (fn_m_off x f).1 = fn_m_rulesThere (am_row f 89 (upd (f 89) (490 + 9 * j + 0) 2)) := by
    unfold fn_off fn_m_off
    rw [pu_isRule v8 c7]
    cases h : fn_m_isRule x f with
    | false => exact .inl ⟨rfl, rfl, rfl⟩
    | true =>
      obtain ⟨j, j1, j2, j3, j4⟩ := pu_ruleOf c7 h
      subst j3
      rw [cond_true, cond_true, nI_clamp (by omega)]
      exact .inr ⟨j, j1, j2, rfl, rfl, rfl, rfl⟩
  rcases key with ⟨k1, k2, k3⟩ | ⟨j, j1, j2, k3, k4, k5, k6⟩
  · refine ⟨_, _, _, _, _, pu_res (x_off x f g hp.1 hp.2.1) (by decide) k1, pu_res (x_m_off x _ _ hm.2.2.1 hm.2.2.2.1) (by decide) rfl, ?_⟩
    show pu_I (am_row (am_row f 18 (fn_off x f).2) 89 (fn_m_off x f).2) g
    rw [k2, k3]
    exact ⟨hc, hv, hd, hk, ht, hg⟩
  · have H : ∀ i, i ≠ 490 + 9 * j + 0 → upd (f 89) (490 + 9 * j + 0) 2 i = f 89 i := fun i hi => pu_un hi
    have e202 : upd (f 89) (490 + 9 * j + 0) 2 202 = f 89 202 := H _ (by omega)
    have hcr : pu_Crl (upd (f 89) (490 + 9 * j + 0) 2) := by
      obtain ⟨R, r1, r2, r3, r4⟩ := c7
      refine ⟨R, r1, e202.trans r2, fun r hr => ?_, fun r hr => ?_⟩
      · rw [H _ (by omega), H _ (by omega)]; exact r3 r hr
      · rw [H (490 + 9 * r + 2) (by omega), H (490 + 9 * r + 4) (by omega), H (490 + 9 * r + 5) (by omega), H (490 + 9 * r + 6) (by omega), H (490 + 9 * r + 8) (by omega)]
        obtain ⟨u1, u2⟩ := r4 r hr
        refine ⟨?_, u2⟩
        by_cases e : r = j
        · subst e; rw [pu_us]; exact ⟨2, by omega, rfl⟩
        · rw [H _ (by omega)]; exact u1
    have hvr : pu_Vrl (am_row f 18 (upd (f 18) 8 (f 18 8 &&& ((1 <<< (nI j &&& 31)) ^^^ (-1))))) (upd (f 89) (490 + 9 * j + 0) 2) := by
      obtain ⟨w1, w2, w3, w4, w5⟩ := v8
      obtain ⟨R, r1, r2, r3, r4⟩ := c7
      have hR := (pu_cl r2 (by omega)).2
      refine ⟨?_, fun r hr => ?_, fun r hr => ?_, fun r hr => ?_, fun r hr hn => ?_⟩
      · show upd (f 18) 8 (f 18 8 &&& ((1 <<< (nI j &&& 31)) ^^^ (-1))) 11 = _
        rw [pu_un (by decide), e202]; exact w1
      · rw [H (490 + 9 * r + 1) (by omega), H (490 + 9 * r + 2) (by omega), H (490 + 9 * r + 3) (by omega), H (490 + 9 * r + 5) (by omega), H (490 + 9 * r + 6) (by omega), H (490 + 9 * r + 7) (by omega), H (490 + 9 * r + 8) (by omega)]
        exact w2 r hr
      · show pu_bt (upd (f 18) 8 (f 18 8 &&& ((1 <<< (nI j &&& 31)) ^^^ (-1))) 8) r = true ↔ _
        rw [e202, pu_us, pu_and, pu_not _ hr, pu_one j (by omega), Bool.and_eq_true, w3 r hr]
        by_cases e : r = j
        · subst e
          rw [pu_us]
          simp
        · rw [H _ (by omega)]
          simp [e]
      · rw [e202] at hr
        rw [H (490 + 9 * r + 4) (by omega)]
        show (_ → (pu_bt (upd (f 18) 8 (f 18 8 &&& ((1 <<< (nI j &&& 31)) ^^^ (-1))) 9) r = true ↔ _)) ∧ (pu_bt (upd (f 18) 8 (f 18 8 &&& ((1 <<< (nI j &&& 31)) ^^^ (-1))) 10) r = true ↔ _)
        rw [pu_un (f := f 18) (show (9 : Nat) ≠ 8 by decide), pu_un (f := f 18) (show (10 : Nat) ≠ 8 by decide)]
        by_cases e : r = j
        · subst e; rw [pu_us]
          exact ⟨fun h => absurd rfl h, (w4 r hr).2⟩
        · rw [H _ (by omega)]; exact w4 r hr
      · rw [e202] at hr
        rw [H (490 + 9 * r + 8) (by omega)] at hn ⊢
        obtain ⟨V, q1, q2⟩ := w5 r hr hn
        exact ⟨V, pu_Pre_mv q1 (fun y hy => H _ (by omega)), q2⟩
    refine ⟨_, _, _, _, _, pu_res (x_off x f g hp.1 hp.2.1) (by decide) rfl, pu_res (x_m_off x _ _ hm.2.2.1 hm.2.2.2.1) (by decide) ?_, ?_⟩
    · show (fn_m_off x f).1 = (fn_off x f).1
      rw [k5, k6]
      exact (pu_there (F := am_row f 18 (upd (f 18) 8 (f 18 8 &&& ((1 <<< (nI j &&& 31)) ^^^ (-1))))) (f' := am_row f 89 (upd (f 89) (490 + 9 * j + 0) 2)) hvr hcr).symm.trans (congrArg fn_bitCount (show upd (f 18) 8 (f 18 8 &&& ((1 <<< (nI j &&& 31)) ^^^ (-1))) 8 = (f 18 8 &&& ((1 <<< (nI j &&& 31)) ^^^ (-1))) from pu_us))
    · show pu_I (am_row (am_row f 18 (fn_off x f).2) 89 (fn_m_off x f).2) g
      rw [k3, k4]
      exact ⟨⟨pu_Cpar_c (fun j h1 h2 => H j (by omega)) c1, pu_Crol_c (fun j h1 h2 => H j (by omega)) (H _ (by omega)) c2, pu_Cunl_c (fun j h1 h2 => H j (by omega)) (H _ (by omega)) c3, pu_Cass_c (fun j h1 h2 => H j (by omega)) c4, pu_Ctick_c (H _ (by omega)) c5, pu_Cln_c (H _ (by omega)) (fun j h1 h2 => H j (by omega)) c6, hcr, pu_Cbk_c (H _ (by omega)) c8⟩, ⟨pu_Vatt_c (fun j h1 => H j (by omega)) v1, pu_Vpar_c (fun j h1 h2 => H j (by omega)) v2, pu_Vrol_c (fun j h1 h2 => H j (by omega)) (H _ (by omega)) v3, pu_Vbar_c (fun j h1 h2 => H j (by omega)) (H _ (by omega)) v4, pu_Vass_c (fun j h1 h2 => H j (by omega)) v5, pu_Vtick_c (H _ (by omega)) v6, pu_Vln_c (H _ (by omega)) (fun j h1 h2 => H j (by omega)) v7, hvr, pu_Vbk_c (fun j h1 h2 => H j (by omega)) (fun j h1 h2 => H j (by omega)) v9⟩, pu_CL_c (fun j h1 h2 => H j (by omega)) hd, hk, ht, hg⟩
theorem pp_count : am_Pair pu_Inv 142 2 247 2 1 := pu_P1 fun f g hI w => by
  obtain ⟨hc, hv, hd, hk, ht, hg⟩ := hI
  obtain ⟨c1, c2, c3, c4, c5, c6, c7, c8⟩ := id hc
  obtain ⟨v1, v2, v3, v4, v5, v6, v7, v8, v9⟩ := id hv
  have hp := pu_pl c6 v7
  have hr := pu_pr c7 v8
  have hm := pu_mOK c6 c7
  have key : ∀ F1 : Nat → Nat → Int32, F1 89 = f 89 → F1 92 = f 92 → F1 88 = f 88 → (fn_count w f g).1 = (fn_m_count_247 w F1).1 := by
    intro F1 e1 e2 e3
    obtain ⟨s1, s2, s3, s4, s5, s6, s7⟩ := pu_settle (f := f) (g := g) (f' := F1) (by rw [e1]; exact v7) (by rw [e1]; exact c6) (by rw [e1]; exact v5) (by rw [e2]; exact pu_dn v3 hd) _ rfl _ rfl
    unfold fn_count fn_m_count_247
    rw [show f 2 12 = F1 89 200 by rw [e1]; exact v6]
    by_cases d0 : w = 0
    · rw [if_pos d0, if_pos d0]
      exact pu_there (by rw [e1]; exact v8) (by rw [e1]; exact c7)
    · rw [if_neg d0, if_neg d0]
      by_cases d1 : w = 1
      · rw [if_pos d1, if_pos d1, e1]; exact v7.1
      · rw [if_neg d1, if_neg d1]
        by_cases d2 : w = 2
        · rw [if_pos d2, if_pos d2]
          obtain ⟨L, l1, l2, l3, l4⟩ := c6
          have hL := (pu_cl l2 (by omega)).2
          have := pu_stand (g := am_row g 1 (fn_settle (F1 89 200) f g).2.2.2) (L := (F1 89 201).toNatClampNeg) (r := (fn_m_stand_155 F1).2) (by rw [e1]; omega) s4 s5 (fn_m_stand_155 F1).1
          exact this
        · rw [if_neg d2, if_neg d2]
          by_cases d3 : w = 3
          · rw [if_pos d3, if_pos d3, e1]; exact v3.2.2.2.2
          · rw [if_neg d3, if_neg d3]
            by_cases d4 : w = 4
            · rw [if_pos d4, if_pos d4, e1]; exact v4.2
            · rw [if_neg d4, if_neg d4]
              by_cases d5 : w = 5
              · rw [if_pos d5, if_pos d5, e3]
                obtain ⟨n, n1, n2, n3, n4⟩ := ht
                exact n2.trans n3.symm
              · rw [if_neg d5, if_neg d5]
                by_cases d6 : w = 6
                · rw [if_pos d6, if_pos d6, e1]; exact v9.2.2 1 (by decide)
                · rw [if_neg d6, if_neg d6]
                  by_cases d7 : w = 7
                  · rw [if_pos d7, if_pos d7, e1]; exact v9.2.2 2 (by decide)
                  · rw [if_neg d7, if_neg d7]
                    by_cases d8 : w = 8
                    · rw [if_pos d8, if_pos d8, e1]; exact v9.2.2 0 (by decide)
                    · rw [if_neg d8, if_neg d8]
  exact ⟨_, _, _, _, _, pu_res (x_count w f g hp.1 hp.2.1 hp.2.2.1 hp.2.2.2.1 hp.2.2.2.2 hr.1 hr.2.1) (by decide) (key _ rfl rfl rfl), pu_res (x_m_count_247 w _ _ hm.1 hm.2.1 hm.2.2.1 hm.2.2.2.1 hm.2.2.2.2.1 hm.2.2.2.2.2.1 hm.2.2.2.2.2.2) (by decide) rfl, hc, hv, hd, hk, ht, hg⟩
theorem pp_takeBack : am_Pair pu_Inv 40 3 167 3 1 := pu_P1 fun f g hI x => by
  obtain ⟨hc, hv, hd, hk, ht, hg⟩ := hI
  obtain ⟨c1, c2, c3, c4, c5, c6, c7, c8⟩ := id hc
  obtain ⟨v1, v2, v3, v4, v5, v6, v7, v8, v9⟩ := id hv
  have hp := pu_pl c6 v7
  have hr := pu_pr c7 v8
  have hm := pu_mOK c6 c7
  have key : ∀ F1 : Nat → Nat → Int32, F1 89 = f 89 → F1 92 = f 92 → (fn_takeBack x f g).1 = (fn_m_takeBack x F1).1 ∧ (((fn_takeBack x f g).2.2.2.2.2 6 = g 11 6 ∧ (fn_m_takeBack x F1).2.1 = f 89) ∨ ∃ j, j < 40 ∧ j < (f 89 201).toNatClampNeg ∧ (fn_takeBack x f g).2.2.2.2.2 6 = g 11 6 ||| ((1 : Int64) <<< ((nI j).toInt64 &&& 63)) ∧ (fn_m_takeBack x F1).2.1 = upd (f 89) (210 + 7 * j + 6) 1) := by
    intro F1 e1 e2
    obtain ⟨L, l1, l2, l3, l4⟩ := id c6
    have hL := (pu_cl l2 (by omega)).2
    obtain ⟨s1, s2, s3, s4, s5, s6, s7⟩ := pu_settle (f := f) (g := g) (f' := F1) (by rw [e1]; exact v7) (by rw [e1]; exact c6) (by rw [e1]; exact v5) (by rw [e2]; exact pu_dn v3 hd) _ rfl _ rfl
    unfold fn_takeBack fn_m_takeBack
    rw [pu_isLoan (f' := F1) (tk := g 11 6) (by rw [e1]; exact v7), show f 2 12 = F1 89 200 by rw [e1]; exact v6]
    cases h1 : fn_m_isIn x 0 (F1 89 201 - 1) with
    | false => exact ⟨rfl, .inl ⟨rfl, e1⟩⟩
    | true =>
      obtain ⟨a, a0, a1, a2⟩ := pu_loanOf (by rw [e1]; exact c6) h1
      subst a2
      rw [cond_true, cond_true, nI_clamp (n := a) (by omega)]
      obtain ⟨m1, m2⟩ := s4 a a1
      have m2' : pu_bl ((fn_settle (F1 89 200) f g).2.2.2 5) a = true ↔ (fn_m_stand_155 F1).2 a = 1 := m2
      have m1' : (fn_m_stand_155 F1).2 a = 0 ∨ (fn_m_stand_155 F1).2 a = 1 := m1
      rw [show fn_isStanding (nI a) (am_row g 1 (fn_settle (F1 89 200) f g).2.2.2) = fn_hasLong ((fn_settle (F1 89 200) f g).2.2.2 5) (nI a) from rfl, pu_hasL _ (by omega), show (fn_m_standing_168 F1).2.2 a = (fn_m_stand_155 F1).2 a from rfl]
      rcases m1' with m | m
      · rw [if_pos m]
        have : pu_bl ((fn_settle (F1 89 200) f g).2.2.2 5) a = false := by
          cases b : pu_bl ((fn_settle (F1 89 200) f g).2.2.2 5) a with
          | false => rfl
          | true => have := m2'.mp b; rw [m] at this; exact absurd this (by decide)
        rw [this, cond_false]
        exact ⟨rfl, .inl ⟨rfl, e1⟩⟩
      · rw [if_neg (by rw [m]; decide), m2'.mpr m, cond_true]
        refine ⟨?_, .inr ⟨a, a0, by rw [← e1]; exact a1, (show vp_updL (g 11) 6 (g 11 6 ||| ((1 : Int64) <<< ((nI a).toInt64 &&& 63))) 6 = _ from pk_uLs), (show upd (F1 89) (210 + 7 * a + 6) 1 = upd (f 89) (210 + 7 * a + 6) 1 by rw [e1])⟩⟩
        have H : ∀ j, j ≠ 210 + 7 * a + 6 → upd (F1 89) (210 + 7 * a + 6) 1 j = f 89 j := fun j hj => (pu_un hj).trans (congrFun e1 j)
        have ec : pu_Cln (upd (F1 89) (210 + 7 * a + 6) 1) := by
          refine ⟨L, l1, (H _ (by omega)).trans l2, fun l hl => ?_, fun l hl hl' => ?_⟩
          · rw [H (210 + 7 * l + 0) (by omega), H (210 + 7 * l + 1) (by omega), H (210 + 7 * l + 2) (by omega), H (210 + 7 * l + 4) (by omega), H (210 + 7 * l + 5) (by omega)]
            obtain ⟨u0, u1, u2, u4, u5, u6⟩ := l3 l hl
            refine ⟨u0, u1, u2, u4, u5, ?_⟩
            by_cases e : l = a
            · subst e; rw [pu_us]; exact .inr rfl
            · rw [H _ (by omega)]; exact u6
          · rw [H _ (by rw [e1] at a1; omega)]; exact l4 l hl hl'
        have ev : pu_Vln f (g 11 6 ||| ((1 : Int64) <<< ((nI a).toInt64 &&& 63))) (upd (F1 89) (210 + 7 * a + 6) 1) := by
          refine ⟨v7.1.trans (H _ (by omega)).symm, fun l hl => ?_⟩
          rw [H (210 + 7 * l + 0) (by omega), H (210 + 7 * l + 1) (by omega), H (210 + 7 * l + 2) (by omega), H (210 + 7 * l + 3) (by omega), H (210 + 7 * l + 4) (by omega), H (210 + 7 * l + 5) (by omega)]
          obtain ⟨u0, u1, u2, u3, u4, u5, u6⟩ := v7.2 l hl
          refine ⟨u0, u1, u2, u3, u4, u5, ?_⟩
          rw [pu_orL, pu_oneL a (by omega)]
          by_cases e : l = a
          · subst e; rw [pu_us]; simp
          · rw [H _ (by omega), decide_eq_false e, Bool.or_false]; exact u6
        obtain ⟨q1, q2, q3, q4, q5, q6, q7⟩ := pu_settle (f := am_row (am_row (am_row f 1 (fn_settle (F1 89 200) f g).1) 34 (fn_settle (F1 89 200) f g).2.1) 35 (fn_settle (F1 89 200) f g).2.2.1) (g := am_row (am_row g 1 (fn_settle (F1 89 200) f g).2.2.2) 11 (vp_updL (g 11) 6 ((g 11 6) ||| ((1 : Int64) <<< ((nI a).toInt64 &&& 63))))) (f' := am_row (am_row (am_row F1 89 (upd (F1 89) (210 + 7 * a + 6) 1)) 93 (fn_m_standing_168 F1).2.1) 96 (fn_m_standing_168 F1).2.2) (by
            show pu_Vln f (vp_updL (g 11) 6 ((g 11 6) ||| ((1 : Int64) <<< ((nI a).toInt64 &&& 63))) 6) (upd (F1 89) (210 + 7 * a + 6) 1)
            rw [pk_uLs]; exact ev) ec (fun u hu => (v5 u hu).trans (H (184 + u) (by omega)).symm) (show ∀ r, r < 20 → f 6 r = F1 92 r by rw [e2]; exact pu_dn v3 hd) _ rfl _ rfl
        have t200 : upd (F1 89) (210 + 7 * a + 6) 1 200 = F1 89 200 := pu_un (by omega)
        have t201 : upd (F1 89) (210 + 7 * a + 6) 1 201 = F1 89 201 := pu_un (by omega)
        have b1 := pu_stand (g := am_row g 1 (fn_settle (F1 89 200) f g).2.2.2) (L := (F1 89 201).toNatClampNeg) (r := (fn_m_stand_155 F1).2) (by rw [e1]; omega) s4 s5 (fn_m_stand_155 F1).1
        have b2 := pu_stand (L := (upd (F1 89) (210 + 7 * a + 6) 1 201).toNatClampNeg) (by rw [t201, e1]; omega) q4 q5 (fn_m_stand_155 (am_row (am_row (am_row F1 89 (upd (F1 89) (210 + 7 * a + 6) 1)) 93 (fn_m_standing_168 F1).2.1) 96 (fn_m_standing_168 F1).2.2)).1
        have b2' : fn_bitCountL ((fn_settle (upd (F1 89) (210 + 7 * a + 6) 1 200) (am_row (am_row (am_row f 1 (fn_settle (F1 89 200) f g).1) 34 (fn_settle (F1 89 200) f g).2.1) 35 (fn_settle (F1 89 200) f g).2.2.1) (am_row (am_row g 1 (fn_settle (F1 89 200) f g).2.2.2) 11 (vp_updL (g 11) 6 ((g 11 6) ||| ((1 : Int64) <<< ((nI a).toInt64 &&& 63)))))).2.2.2 5) = (fn_m_standing_168 (am_row (am_row (am_row F1 89 (upd (F1 89) (210 + 7 * a + 6) 1)) 93 (fn_m_standing_168 F1).2.1) 96 (fn_m_standing_168 F1).2.2)).1 := b2
        rw [t200] at b2'
        have b1' : fn_bitCountL ((fn_settle (F1 89 200) f g).2.2.2 5) = (fn_m_standing_168 F1).1 := b1
        show fn_bitCountL ((fn_settle (F1 89 200) f g).2.2.2 5) - _ = (fn_m_standing_168 F1).1 - _
        rw [b1', b2']
  have key2 := key (am_row (am_row (am_row f 1 (fn_takeBack x f g).2.1) 34 (fn_takeBack x f g).2.2.1) 35 (fn_takeBack x f g).2.2.2.1) rfl rfl
  obtain ⟨k1, k2⟩ := key2
  refine ⟨_, _, _, _, _, pu_res (x_takeBack x f g hp.1 hp.2.1 hp.2.2.1 hp.2.2.2.1 hp.2.2.2.2 hr.1 hr.2.1) (by decide) k1, pu_res (x_m_takeBack x _ _ hm.1 hm.2.1 hm.2.2.1 hm.2.2.2.1 hm.2.2.2.2.1 hm.2.2.2.2.2.1 hm.2.2.2.2.2.2) (by decide) rfl, ?_⟩
  generalize fn_takeBack x f g = z at k2 ⊢
  generalize fn_m_takeBack x (am_row (am_row (am_row f 1 z.2.1) 34 z.2.2.1) 35 z.2.2.2.1) = y at k2 ⊢
  rcases k2 with ⟨k2, k3⟩ | ⟨j, j1, j2, k2, k3⟩
  · show pu_C y.2.1 ∧ pu_V f (z.2.2.2.2.2 6) y.2.1 ∧ pu_CL (fun r => y.2.1 (144 + r)) (f 92) ∧ pu_IK f g ∧ pu_IT f ∧ pu_IG f
    rw [k2, k3]
    exact ⟨hc, hv, hd, hk, ht, hg⟩
  · show pu_C y.2.1 ∧ pu_V f (z.2.2.2.2.2 6) y.2.1 ∧ pu_CL (fun r => y.2.1 (144 + r)) (f 92) ∧ pu_IK f g ∧ pu_IT f ∧ pu_IG f
    rw [k2, k3]
    have H : ∀ i, i ≠ 210 + 7 * j + 6 → upd (f 89) (210 + 7 * j + 6) 1 i = f 89 i := fun i hi => pu_un hi
    have ec : pu_Cln (upd (f 89) (210 + 7 * j + 6) 1) := by
      obtain ⟨L, l1, l2, l3, l4⟩ := id c6
      have hL := (pu_cl l2 (by omega)).2
      refine ⟨L, l1, (H _ (by omega)).trans l2, fun l hl => ?_, fun l hl hl' => ?_⟩
      · rw [H (210 + 7 * l + 0) (by omega), H (210 + 7 * l + 1) (by omega), H (210 + 7 * l + 2) (by omega), H (210 + 7 * l + 4) (by omega), H (210 + 7 * l + 5) (by omega)]
        obtain ⟨u0, u1, u2, u4, u5, u6⟩ := l3 l hl
        refine ⟨u0, u1, u2, u4, u5, ?_⟩
        by_cases e : l = j
        · subst e; rw [pu_us]; exact .inr rfl
        · rw [H _ (by omega)]; exact u6
      · rw [H _ (by omega)]; exact l4 l hl hl'
    have ev : pu_Vln f (g 11 6 ||| ((1 : Int64) <<< ((nI j).toInt64 &&& 63))) (upd (f 89) (210 + 7 * j + 6) 1) := by
      refine ⟨v7.1.trans (H _ (by omega)).symm, fun l hl => ?_⟩
      rw [H (210 + 7 * l + 0) (by omega), H (210 + 7 * l + 1) (by omega), H (210 + 7 * l + 2) (by omega), H (210 + 7 * l + 3) (by omega), H (210 + 7 * l + 4) (by omega), H (210 + 7 * l + 5) (by omega)]
      obtain ⟨u0, u1, u2, u3, u4, u5, u6⟩ := v7.2 l hl
      refine ⟨u0, u1, u2, u3, u4, u5, ?_⟩
      rw [pu_orL, pu_oneL j (by omega)]
      by_cases e : l = j
      · subst e; rw [pu_us]; simp
      · rw [H _ (by omega), decide_eq_false e, Bool.or_false]; exact u6
    exact ⟨⟨pu_Cpar_c (fun j h1 h2 => H j (by omega)) c1, pu_Crol_c (fun j h1 h2 => H j (by omega)) (H _ (by omega)) c2, pu_Cunl_c (fun j h1 h2 => H j (by omega)) (H _ (by omega)) c3, pu_Cass_c (fun j h1 h2 => H j (by omega)) c4, pu_Ctick_c (H _ (by omega)) c5, ec, pu_Crl_c (H _ (by omega)) (fun j h1 h2 => H j (by omega)) c7, pu_Cbk_c (H _ (by omega)) c8⟩, ⟨pu_Vatt_c (fun j h1 => H j (by omega)) v1, pu_Vpar_c (fun j h1 h2 => H j (by omega)) v2, pu_Vrol_c (fun j h1 h2 => H j (by omega)) (H _ (by omega)) v3, pu_Vbar_c (fun j h1 h2 => H j (by omega)) (H _ (by omega)) v4, pu_Vass_c (fun j h1 h2 => H j (by omega)) v5, pu_Vtick_c (H _ (by omega)) v6, ev, pu_Vrl_c (H _ (by omega)) c7 (fun j h1 h2 => H j (by omega)) v8, pu_Vbk_c (fun j h1 h2 => H j (by omega)) (fun j h1 h2 => H j (by omega)) v9⟩, pu_CL_c (fun j h1 h2 => H j (by omega)) hd, hk, ht, hg⟩
