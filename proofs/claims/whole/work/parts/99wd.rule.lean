/-! RULE: its arguments, its row, what holds behind it -/
set_option linter.unusedVariables false
theorem rl_div {x : Int32} (h : fn_m_isIn (x / 100) 0 1 = true) : -100 < x.toInt ∧ x.toInt < 200 ∧ (x.toInt < 0 → x / 100 = 0) := by
  have h0 := am_mIn h
  have e : (x / 100).toInt = x.toInt.tdiv 100 := Int32.toInt_div_of_ne_right x 100 (by decide)
  have h1 : (0 : Int) ≤ (x / 100).toInt := Int32.le_iff_toInt_le.mp h0.1
  have h2 : (x / 100).toInt ≤ 1 := Int32.le_iff_toInt_le.mp h0.2
  by_cases c : 0 ≤ x.toInt
  · rw [e, Int.tdiv_eq_ediv_of_nonneg c] at h1 h2
    exact ⟨by omega, by omega, fun h => by omega⟩
  · have e2 : x.toInt.tdiv 100 = -((-x.toInt) / 100) := by rw [← Int.tdiv_eq_ediv_of_nonneg (by omega), Int.neg_tdiv, Int.neg_neg]
    rw [e, e2] at h1 h2
    refine ⟨by omega, by omega, fun h => Int32.toInt_inj.mp ?_⟩
    rw [e, e2]
    show -((-x.toInt) / 100) = (0 : Int)
    omega
theorem rl_arg (x : Int32) {hi : Int32} (h9 : hi = 19 ∨ hi = 15) : (∃ m, m < 200 ∧ x = nI m) ∨ (fn_between (x - 100 * am_b (if x < 100 then false else true)) 0 hi = false ∧ (fn_m_isIn (x / 100) 0 1 = false ∨ fn_m_isIn (x - x / 100 * 100) 0 hi = false)) := by
  have hhi : 0 ≤ hi.toInt ∧ hi.toInt < 20 := by
    rcases h9 with h | h <;> subst h <;> decide
  by_cases c : x < 0
  · right
    have c' : x.toInt < 0 := Int32.lt_iff_toInt_lt.mp c
    have c1 : x < 100 := by rw [Int32.lt_iff_toInt_lt]; show x.toInt < 100; omega
    refine ⟨?_, ?_⟩
    · rw [if_pos c1, show (100 : Int32) * am_b false = 0 from rfl, Int32.sub_zero]
      unfold fn_between
      rw [if_pos c]
    · cases h : fn_m_isIn (x / 100) 0 1 with
      | false => exact .inl rfl
      | true =>
        right
        rw [(rl_div h).2.2 c', Int32.zero_mul, Int32.sub_zero]
        unfold fn_m_isIn
        rw [if_pos c]
  · obtain ⟨j, j1, j2⟩ := nI_of c
    by_cases c2 : j < 200
    · exact .inl ⟨j, c2, j2⟩
    · right
      have ej : x.toInt = (j : Int) := by rw [j2]; exact nI_toInt j1
      have c1 : ¬ x < 100 := by rw [Int32.lt_iff_toInt_lt]; show ¬ x.toInt < 100; omega
      refine ⟨?_, ?_⟩
      · rw [if_neg c1, show (100 : Int32) * am_b true = 100 from rfl]
        have e := am_subT (v := x) (k := 100) (by decide) (show (100 : Int) ≤ x.toInt by omega)
        have e' : (x - 100).toInt = x.toInt - 100 := e
        unfold fn_between
        rw [if_neg (by rw [Int32.lt_iff_toInt_lt]; show ¬ (x - 100).toInt < 0; omega), if_pos (by rw [Int32.lt_iff_toInt_lt]; omega)]
      · cases h : fn_m_isIn (x / 100) 0 1 with
        | false => exact .inl rfl
        | true => have := (rl_div h).2.1; omega
theorem rl_d19 : ∀ m, m < 200 → (fn_between (nI m - 100 * am_b (if nI m < 100 then false else true)) 0 19 = true ∧ fn_m_isIn (nI m / 100) 0 1 = true ∧ fn_m_isIn (nI m - nI m / 100 * 100) 0 19 = true ∧ m % 100 < 20) ∨ (fn_between (nI m - 100 * am_b (if nI m < 100 then false else true)) 0 19 = false ∧ fn_m_isIn (nI m - nI m / 100 * 100) 0 19 = false) := by decide +kernel
theorem rl_d15 : ∀ m, m < 200 → (fn_between (nI m - 100 * am_b (if nI m < 100 then false else true)) 0 15 = true ∧ fn_m_isIn (nI m / 100) 0 1 = true ∧ fn_m_isIn (nI m - nI m / 100 * 100) 0 15 = true ∧ m % 100 < 16) ∨ (fn_between (nI m - 100 * am_b (if nI m < 100 then false else true)) 0 15 = false ∧ fn_m_isIn (nI m - nI m / 100 * 100) 0 15 = false) := by decide +kernel
theorem rl_dm : ∀ m, m < 200 → nI m - 100 * am_b (if nI m < 100 then false else true) = nI (m % 100) ∧ am_b (if nI m < 100 then false else true) = nI (m / 100) ∧ nI m / 100 = nI (m / 100) ∧ nI m - nI m / 100 * 100 = nI (m % 100) := by decide +kernel
theorem rl_role (x : Int32) : (fn_isRole (x - 100 * am_b (if x < 100 then false else true)) = false ∧ (fn_m_isIn (x / 100) 0 1 = false ∨ fn_m_isRole (x - x / 100 * 100) = false)) ∨ ∃ m, m < 200 ∧ m % 100 < 20 ∧ x = nI m ∧ fn_isRole (x - 100 * am_b (if x < 100 then false else true)) = true ∧ fn_m_isIn (x / 100) 0 1 = true ∧ fn_m_isRole (x - x / 100 * 100) = true := by
  rcases rl_arg x (hi := 19) (.inl rfl) with ⟨m, m1, m2⟩ | h
  · subst m2
    rcases rl_d19 m m1 with ⟨h1, h2, h3, h4⟩ | ⟨h1, h2⟩
    · exact .inr ⟨m, m1, h4, rfl, h1, h2, h3⟩
    · exact .inl ⟨h1, .inr h2⟩
  · exact .inl h
theorem rl_thing (x : Int32) : (fn_isThing (x - 100 * am_b (if x < 100 then false else true)) = false ∧ (fn_m_isIn (x / 100) 0 1 = false ∨ fn_m_isOne (x - x / 100 * 100) = false)) ∨ ∃ m, m < 200 ∧ m % 100 < 16 ∧ x = nI m ∧ fn_isThing (x - 100 * am_b (if x < 100 then false else true)) = true ∧ fn_m_isIn (x / 100) 0 1 = true ∧ fn_m_isOne (x - x / 100 * 100) = true := by
  rcases rl_arg x (hi := 15) (.inr rfl) with ⟨m, m1, m2⟩ | h
  · subst m2
    rcases rl_d15 m m1 with ⟨h1, h2, h3, h4⟩ | ⟨h1, h2⟩
    · exact .inr ⟨m, m1, h4, rfl, h1, h2, h3⟩
    · exact .inl ⟨h1, .inr h2⟩
  · exact .inl h
/-! nine numbers of a rule -/
def rl_ch (s : Nat → Int32) (B : Nat) (v0 v1 v2 v3 v4 v5 v6 v7 v8 : Int32) : Nat → Int32 := upd (upd (upd (upd (upd (upd (upd (upd (upd (s) (B + 0) v0) (B + 1) v1) (B + 2) v2) (B + 3) v3) (B + 4) v4) (B + 5) v5) (B + 6) v6) (B + 7) v7) (B + 8) v8
theorem rl_chv (s : Nat → Int32) (B : Nat) (v0 v1 v2 v3 v4 v5 v6 v7 v8 : Int32) : (rl_ch s B v0 v1 v2 v3 v4 v5 v6 v7 v8 (B + 0) = v0 ∧ rl_ch s B v0 v1 v2 v3 v4 v5 v6 v7 v8 (B + 1) = v1 ∧ rl_ch s B v0 v1 v2 v3 v4 v5 v6 v7 v8 (B + 2) = v2 ∧ rl_ch s B v0 v1 v2 v3 v4 v5 v6 v7 v8 (B + 3) = v3 ∧ rl_ch s B v0 v1 v2 v3 v4 v5 v6 v7 v8 (B + 4) = v4 ∧ rl_ch s B v0 v1 v2 v3 v4 v5 v6 v7 v8 (B + 5) = v5 ∧ rl_ch s B v0 v1 v2 v3 v4 v5 v6 v7 v8 (B + 6) = v6 ∧ rl_ch s B v0 v1 v2 v3 v4 v5 v6 v7 v8 (B + 7) = v7 ∧ rl_ch s B v0 v1 v2 v3 v4 v5 v6 v7 v8 (B + 8) = v8) ∧ ∀ j, ¬ (B ≤ j ∧ j < B + 9) → rl_ch s B v0 v1 v2 v3 v4 v5 v6 v7 v8 j = s j := by
  refine ⟨⟨?_, ?_, ?_, ?_, ?_, ?_, ?_, ?_, ?_⟩, fun j hj => ?_⟩
  · unfold rl_ch; rw [pu_un (by omega), pu_un (by omega), pu_un (by omega), pu_un (by omega), pu_un (by omega), pu_un (by omega), pu_un (by omega), pu_un (by omega), pu_us]
  · unfold rl_ch; rw [pu_un (by omega), pu_un (by omega), pu_un (by omega), pu_un (by omega), pu_un (by omega), pu_un (by omega), pu_un (by omega), pu_us]
  · unfold rl_ch; rw [pu_un (by omega), pu_un (by omega), pu_un (by omega), pu_un (by omega), pu_un (by omega), pu_un (by omega), pu_us]
  · unfold rl_ch; rw [pu_un (by omega), pu_un (by omega), pu_un (by omega), pu_un (by omega), pu_un (by omega), pu_us]
  · unfold rl_ch; rw [pu_un (by omega), pu_un (by omega), pu_un (by omega), pu_un (by omega), pu_us]
  · unfold rl_ch; rw [pu_un (by omega), pu_un (by omega), pu_un (by omega), pu_us]
  · unfold rl_ch; rw [pu_un (by omega), pu_un (by omega), pu_us]
  · unfold rl_ch; rw [pu_un (by omega), pu_us]
  · unfold rl_ch; rw [pu_us]
  · unfold rl_ch
    rw [pu_un (by omega), pu_un (by omega), pu_un (by omega), pu_un (by omega), pu_un (by omega), pu_un (by omega), pu_un (by omega), pu_un (by omega), pu_un (by omega)]
def rl_N (s s' m : Nat → Int32) (R k b a th d fr : Nat) (to : Int32) (n : Nat) : Prop := s' 202 = nI (R + 1) ∧ (s' (490 + 9 * R + 0) = nI k ∧ s' (490 + 9 * R + 1) = nI b ∧ s' (490 + 9 * R + 2) = nI a ∧ s' (490 + 9 * R + 3) = nI th ∧ s' (490 + 9 * R + 4) = nI d ∧ s' (490 + 9 * R + 5) = nI fr ∧ s' (490 + 9 * R + 6) = to ∧ s' (490 + 9 * R + 7) = -1 ∧ s' (490 + 9 * R + 8) = nI n) ∧ (∀ j, j < n → s' (760 + 80 * R + j) = m j) ∧ ∀ j, j ≠ 202 → ¬ (490 + 9 * R ≤ j ∧ j < 490 + 9 * R + 9) → ¬ (760 + 80 * R ≤ j ∧ j < 760 + 80 * R + 80) → s' j = s j
theorem rl_mk {s s1 m : Nat → Int32} {R k b a th d fr n : Nat} {to : Int32} (hR : s 202 = nI R) (hR30 : R < 30) (hn : n ≤ 80) (h1 : ∀ i, s1 i = if 760 + 80 * R + 0 ≤ i ∧ i < 760 + 80 * R + n then m (i - (760 + 80 * R)) else rl_ch s (490 + 9 * R) (nI k) (nI b) (nI a) (nI th) (nI d) (nI fr) to (-1) (nI n) i) : rl_N s (upd s1 202 (s1 202 + 1)) m R k b a th d fr to n := by
  obtain ⟨⟨w0, w1, w2, w3, w4, w5, w6, w7, w8⟩, wo⟩ := rl_chv s (490 + 9 * R) (nI k) (nI b) (nI a) (nI th) (nI d) (nI fr) to (-1) (nI n)
  have hlow : ∀ i, i < 760 → s1 i = rl_ch s (490 + 9 * R) (nI k) (nI b) (nI a) (nI th) (nI d) (nI fr) to (-1) (nI n) i := fun i hi => by rw [h1, if_neg (by omega)]
  have h2 : s1 202 = nI R := by rw [hlow 202 (by omega), wo 202 (by omega)]; exact hR
  refine ⟨?_, ⟨?_, ?_, ?_, ?_, ?_, ?_, ?_, ?_, ?_⟩, fun j hj => ?_, fun j d1 d2 d3 => ?_⟩
  · rw [pu_us, h2, nI_1]
  · rw [pu_un (by omega), hlow _ (by omega)]; exact w0
  · rw [pu_un (by omega), hlow _ (by omega)]; exact w1
  · rw [pu_un (by omega), hlow _ (by omega)]; exact w2
  · rw [pu_un (by omega), hlow _ (by omega)]; exact w3
  · rw [pu_un (by omega), hlow _ (by omega)]; exact w4
  · rw [pu_un (by omega), hlow _ (by omega)]; exact w5
  · rw [pu_un (by omega), hlow _ (by omega)]; exact w6
  · rw [pu_un (by omega), hlow _ (by omega)]; exact w7
  · rw [pu_un (by omega), hlow _ (by omega)]; exact w8
  · rw [pu_un (by omega), h1, if_pos (by omega), show 760 + 80 * R + j - (760 + 80 * R) = j by omega]
  · rw [pu_un d1, h1, if_neg (by omega), wo j d2]
/-! bits of a rule -/
theorem rl_or (x : Int32) {R : Nat} (hR : R < 32) (i : Nat) : pu_bt (x ||| (1 <<< ((nI R) &&& 31))) i = (pu_bt x i || decide (i = R)) := by rw [pu_or, pu_one R hR]
theorem rl_bit (x : Int32) {R : Nat} (hR : R < 32) (D : Bool) {i : Nat} (hi : i < 32) : pu_bt (bif D then x ||| (1 <<< ((nI R) &&& 31)) else x &&& ((1 <<< ((nI R) &&& 31)) ^^^ (-1))) i = if i = R then D else pu_bt x i := by
  cases D with
  | false =>
    rw [cond_false, pu_and, pu_not _ hi, pu_one R hR]
    by_cases e : i = R
    · rw [if_pos e, decide_eq_true e]; simp
    · rw [if_neg e, decide_eq_false e]; simp
  | true =>
    rw [cond_true, rl_or x hR]
    by_cases e : i = R
    · rw [if_pos e, decide_eq_true e]; simp
    · rw [if_neg e, decide_eq_false e]; simp
theorem rl_op (R : Nat) (dk dd : Bool) (f : Nat → Nat → Int32) : fn_openRule R dk dd f 8 = f 18 8 ||| (1 <<< ((nI R) &&& 31)) ∧ fn_openRule R dk dd f 9 = (bif dk then (f 18 9) ||| (1 <<< ((nI R) &&& 31)) else (f 18 9) &&& ((1 <<< ((nI R) &&& 31)) ^^^ (-1))) ∧ fn_openRule R dk dd f 10 = (bif dd then (f 18 10) ||| (1 <<< ((nI R) &&& 31)) else (f 18 10) &&& ((1 <<< ((nI R) &&& 31)) ^^^ (-1))) ∧ fn_openRule R dk dd f 11 = nI (R + 1) := by
  unfold fn_openRule
  refine ⟨?_, ?_, ?_, ?_⟩
  · rw [pu_un (by omega), pu_un (by omega), pu_un (by omega), pu_us]
  · rw [pu_un (by omega), pu_un (by omega), pu_us]
  · rw [pu_un (by omega), pu_us]
  · rw [pu_us, nI_1]
/-- the row and the class's rows behind a new rule -/
theorem rl_fin {f : Nat → Nat → Int32} {tk : Int64} {s s' m r8 : Nat → Int32} {R k b a th d fr n : Nat} {to : Int32} {dk dd : Bool} (hc : pu_C s) (hv : pu_V f tk s) (hR : s 202 = nI R) (hR30 : R < 30) (hk : k < 2) (hb : b < 20) (ha : a < 256) (hth : th < 16) (hd : d < 2) (hfr : fr < 10000) (hto : to = -1 ∨ nI fr < to) (hn : n ≤ 80) (hdk : dk = true ↔ k = 1) (hdd : dd = true ↔ d = 1) (hN : rl_N s s' m R k b a th d fr to n) (hX : n ≠ 0 → ∃ V, pu_Pre m 0 n V ∧ pu_Post r8 0 n V) : pu_C s' ∧ pu_V (am_row (am_row (am_row (am_row (am_row (am_row (am_row (am_row (am_row f 18 (fn_openRule R dk dd f)) 19 (upd (f 19) R (nI b))) 20 (upd (f 20) R (nI a))) 21 (upd (f 21) R (nI th))) 22 (upd (f 22) R (nI fr))) 23 (upd (f 23) R to)) 24 (upd (f 24) R (-1))) 25 (upd (f 25) R (nI n))) 26 (va_cpy r8 (f 26) 0 (R * 80) n)) tk s' ∧ ∀ j, j < 202 → s' j = s j := by
  obtain ⟨c1, c2, c3, c4, c5, c6, c7, c8⟩ := hc
  obtain ⟨v1, v2, v3, v4, v5, v6, v7, v8, v9⟩ := hv
  obtain ⟨n202, ⟨w0, w1, w2, w3, w4, w5, w6, w7, w8⟩, wm, wo⟩ := hN
  obtain ⟨R', R1, R2, R3, R4⟩ := c7
  have eR : R' = R := (nI_eq (by omega) (by omega)).mp (R2.symm.trans hR)
  subst eR
  have o : ∀ j, j < 202 ∨ (203 ≤ j ∧ j < 490) ∨ 3160 ≤ j → s' j = s j := fun j hj => wo j (by omega) (by omega) (by omega)
  have o9 : ∀ r i, r < 30 → r ≠ R' → i < 9 → s' (490 + 9 * r + i) = s (490 + 9 * r + i) := fun r i h1 h2 h3 => wo _ (by omega) (by omega) (by omega)
  have hcl : (s 202).toNatClampNeg = R' := by rw [hR]; exact nI_clamp (by omega)
  have hcl' : (s' 202).toNatClampNeg = R' + 1 := by rw [n202]; exact nI_clamp (by omega)
  refine ⟨⟨pu_Cpar_c (fun j h1 h2 => o j (by omega)) c1, pu_Crol_c (fun j h1 h2 => o j (by omega)) (o _ (by omega)) c2, pu_Cunl_c (fun j h1 h2 => o j (by omega)) (o _ (by omega)) c3, pu_Cass_c (fun j h1 h2 => o j (by omega)) c4, pu_Ctick_c (o _ (by omega)) c5, pu_Cln_c (o _ (by omega)) (fun j h1 h2 => o j (by omega)) c6, ?_, pu_Cbk_c (o _ (by omega)) c8⟩, ⟨?_, ?_, ?_, ?_, ?_, ?_, ?_, ?_, ?_⟩, fun j hj => o j (by omega)⟩
  · refine ⟨R' + 1, by omega, n202, fun r hr => ?_, fun r hr => ?_⟩
    · by_cases e : r = R'
      · subst e; exact ⟨⟨b, hb, w1⟩, ⟨th, hth, w3⟩⟩
      · rw [o9 r 1 hr e (by omega), o9 r 3 hr e (by omega)]; exact R3 r hr
    · by_cases e : r = R'
      · subst e; exact ⟨⟨k, by omega, w0⟩, ⟨a, ha, w2⟩, ⟨d, hd, w4⟩, ⟨fr, hfr, w5, by rw [w5, w6]; exact hto⟩, ⟨n, by omega, w8⟩⟩
      · rw [o9 r 0 (by omega) e (by omega), o9 r 2 (by omega) e (by omega), o9 r 4 (by omega) e (by omega), o9 r 5 (by omega) e (by omega), o9 r 6 (by omega) e (by omega), o9 r 8 (by omega) e (by omega)]; exact R4 r (by omega)
  · exact (pu_Vatt_c (F := f) (fun j h1 => o j (by omega)) v1 : pu_Vatt f s')
  · exact (pu_Vpar_c (F := f) (fun j h1 h2 => o j (by omega)) v2 : pu_Vpar f s')
  · exact (pu_Vrol_c (F := f) (fun j h1 h2 => o j (by omega)) (o _ (by omega)) v3 : pu_Vrol f s')
  · exact (pu_Vbar_c (F := f) (fun j h1 h2 => o j (by omega)) (o _ (by omega)) v4 : pu_Vbar f s')
  · exact (pu_Vass_c (F := f) (fun j h1 h2 => o j (by omega)) v5 : pu_Vass f s')
  · exact (pu_Vtick_c (F := f) (o _ (by omega)) v6 : pu_Vtick f s')
  · exact (pu_Vln_c (F := f) (o _ (by omega)) (fun j h1 h2 => o j (by omega)) v7 : pu_Vln f tk s')
  · obtain ⟨p8, p9, p10, p11⟩ := rl_op R' dk dd f
    obtain ⟨x1, x2, x3, x4, x5⟩ := v8
    refine ⟨?_, fun r hr => ?_, fun r hr => ?_, fun r hr => ?_, fun r hr hz => ?_⟩
    · show fn_openRule R' dk dd f 11 = s' 202
      rw [p11, n202]
    · show upd (f 19) R' (nI b) r = s' (490 + 9 * r + 1) ∧ upd (f 20) R' (nI a) r = s' (490 + 9 * r + 2) ∧ upd (f 21) R' (nI th) r = s' (490 + 9 * r + 3) ∧ upd (f 22) R' (nI fr) r = s' (490 + 9 * r + 5) ∧ upd (f 23) R' to r = s' (490 + 9 * r + 6) ∧ upd (f 24) R' (-1) r = s' (490 + 9 * r + 7) ∧ upd (f 25) R' (nI n) r = s' (490 + 9 * r + 8)
      by_cases e : r = R'
      · subst e
        exact ⟨pu_us.trans w1.symm, pu_us.trans w2.symm, pu_us.trans w3.symm, pu_us.trans w5.symm, pu_us.trans w6.symm, pu_us.trans w7.symm, pu_us.trans w8.symm⟩
      · rw [pu_un e, pu_un e, pu_un e, pu_un e, pu_un e, pu_un e, pu_un e, o9 r 1 hr e (by omega), o9 r 2 hr e (by omega), o9 r 3 hr e (by omega), o9 r 5 hr e (by omega), o9 r 6 hr e (by omega), o9 r 7 hr e (by omega), o9 r 8 hr e (by omega)]
        exact x2 r hr
    · show pu_bt (fn_openRule R' dk dd f 8) r = true ↔ r < (s' 202).toNatClampNeg ∧ s' (490 + 9 * r + 0) ≠ 2
      rw [p8, rl_or _ (by omega), hcl']
      by_cases e : r = R'
      · subst e
        rw [decide_eq_true rfl, Bool.or_true, w0]
        refine ⟨fun _ => ⟨by omega, fun h => ?_⟩, fun _ => rfl⟩
        have := (nI_eq (b := 2) (by omega) (by omega)).mp h
        omega
      · have old := x3 r hr
        rw [hcl] at old
        rw [decide_eq_false e, Bool.or_false, old]
        refine ⟨fun ⟨h1, h2⟩ => ⟨by omega, by rw [o9 r 0 (by omega) e (by omega)]; exact h2⟩, fun ⟨h1, h2⟩ => ⟨by omega, by rw [← o9 r 0 (by omega) e (by omega)]; exact h2⟩⟩
    · rw [hcl'] at hr
      show (s' (490 + 9 * r + 0) ≠ 2 → (pu_bt (fn_openRule R' dk dd f 9) r = true ↔ s' (490 + 9 * r + 0) = 1)) ∧ (pu_bt (fn_openRule R' dk dd f 10) r = true ↔ s' (490 + 9 * r + 4) = 1)
      rw [p9, p10, rl_bit _ (by omega) dk (by omega), rl_bit _ (by omega) dd (by omega)]
      by_cases e : r = R'
      · subst e
        rw [if_pos rfl, if_pos rfl, w0, w4]
        exact ⟨fun _ => hdk.trans (nI_eq (b := 1) (by omega) (by omega)).symm, hdd.trans (nI_eq (b := 1) (by omega) (by omega)).symm⟩
      · rw [if_neg e, if_neg e, o9 r 0 (by omega) e (by omega), o9 r 4 (by omega) e (by omega)]
        exact x4 r (by omega)
    · rw [hcl'] at hr
      by_cases e : r = R'
      · subst e
        have hn0 : n ≠ 0 := fun h => hz (by rw [w8, h]; rfl)
        obtain ⟨V, y1, y2⟩ := hX hn0
        rw [w8, nI_clamp (by omega)]
        refine ⟨V, pu_Pre_mv y1 (fun x hx => ?_), pu_Post_mv y2 (fun x hx => ?_)⟩
        · show s' (760 + 80 * r + (0 + x)) = m (0 + x)
          rw [Nat.zero_add]; exact wm x hx
        · show va_cpy r8 (f 26) 0 (r * 80) n (r * 80 + (0 + x)) = r8 (0 + x)
          unfold va_cpy
          rw [Nat.zero_add, if_pos (by omega), show 0 + (r * 80 + x - r * 80) = x by omega]
      · rw [o9 r 8 (by omega) e (by omega)] at hz ⊢
        obtain ⟨V, y1, y2⟩ := x5 r (by omega) hz
        obtain ⟨-, -, -, -, ⟨q, q1, q2⟩⟩ := R4 r (by omega)
        have hq := (pu_cl q2 (by omega)).2
        refine ⟨V, pu_Pre_mv y1 (fun x hx => ?_), pu_Post_mv y2 (fun x hx => ?_)⟩
        · show s' (760 + 80 * r + (0 + x)) = s (760 + 80 * r + (0 + x))
          exact wo _ (by omega) (by omega) (by omega)
        · show va_cpy r8 (f 26) 0 (R' * 80) n (r * 80 + (0 + x)) = f 26 (r * 80 + (0 + x))
          unfold va_cpy
          rw [if_neg (by omega)]
  · exact (pu_Vbk_c (F := f) (fun j h1 h2 => o j (by omega)) (fun j h1 h2 => o j (by omega)) v9 : pu_Vbk f s')
