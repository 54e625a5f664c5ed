/-! THE PURE LAYER: how many bits -/
set_option linter.unusedVariables false
theorem pu_sum_app (g : Nat → Nat) (m : Nat) : ∀ n, pu_sum g (m + n) = pu_sum g m + pu_sum (fun i => g (m + i)) n := by
  intro n
  induction n with
  | zero => rfl
  | succ n ih =>
    show pu_sum g (m + n) + g (m + n) = pu_sum g m + (pu_sum (fun i => g (m + i)) n + g (m + n))
    rw [ih]; omega
def pu_s1 (b : Nat) : Nat := b - ((b / 2) &&& 85)
def pu_s2 (c : Nat) : Nat := (c &&& 51) + ((c / 4) &&& 51)
def pu_pc (b : Nat) : Nat := pu_sum (fun q => if b.testBit q then 1 else 0) 8
def pu_mk (m : Nat) : Nat → Nat
  | 0 => 0
  | k + 1 => 256 * pu_mk m k + m
def pu_S1 (k n : Nat) : Nat := n - ((n / 2) &&& pu_mk 85 k)
def pu_S2 (k n : Nat) : Nat := (n &&& pu_mk 51 k) + ((n / 4) &&& pu_mk 51 k)
def pu_S3 (k n : Nat) : Nat := (n + n / 16) &&& pu_mk 15 k
theorem pu_tb (h b j : Nat) (hb : b < 256) : (256 * h + b).testBit j = if j < 8 then b.testBit j else h.testBit (j - 8) := Nat.testBit_two_pow_mul_add h (i := 8) hb j
theorem pu_and8 (A B C D : Nat) (hB : B < 256) (hD : D < 256) : (256 * A + B) &&& (256 * C + D) = 256 * (A &&& C) + (B &&& D) := by
  refine Nat.eq_of_testBit_eq fun j => ?_
  have hBD : B &&& D < 256 := Nat.and_lt_two_pow B (n := 8) hD
  rw [Nat.testBit_and, pu_tb A B j hB, pu_tb C D j hD, pu_tb _ _ j hBD]
  by_cases c : j < 8
  · rw [if_pos c, if_pos c, if_pos c, Nat.testBit_and]
  · rw [if_neg c, if_neg c, if_neg c, Nat.testBit_and]
theorem pu_d1 : ∀ b, b < 256 → ∀ p, p < 2 → ((b / 2 + 128 * p) &&& 85) = ((b / 2) &&& 85) ∧ ((b / 2) &&& 85) ≤ b := by decide +kernel
theorem pu_d2 : ∀ c, c < 256 → ∀ p, p < 4 → ((c / 4 + 64 * p) &&& 51) = ((c / 4) &&& 51) ∧ (c &&& 51) + ((c / 4) &&& 51) < 256 := by decide +kernel
theorem pu_d3 : ∀ b, b < 256 → ∀ p, p < 5 → ((pu_s2 (pu_s1 b) + pu_s2 (pu_s1 b) / 16 + 16 * p) &&& 15) = pu_pc b ∧ pu_s2 (pu_s1 b) % 16 < 5 ∧ pu_s2 (pu_s1 b) < 80 ∧ pu_s1 b < 256 ∧ pu_pc b < 9 := by decide +kernel
theorem pu_L1 (k h b : Nat) (hb : b < 256) : pu_S1 (k + 1) (256 * h + b) = 256 * pu_S1 k h + pu_s1 b := by
  unfold pu_S1 pu_s1
  obtain ⟨d1, d2⟩ := pu_d1 b hb (h % 2) (by omega)
  have e : (256 * h + b) / 2 = 256 * (h / 2) + (b / 2 + 128 * (h % 2)) := by omega
  show 256 * h + b - ((256 * h + b) / 2 &&& (256 * pu_mk 85 k + 85)) = _
  rw [e, pu_and8 _ _ _ _ (by omega) (by decide), d1]
  have := Nat.and_le_left (n := h / 2) (m := pu_mk 85 k)
  omega
theorem pu_L2 (k H c : Nat) (hc : c < 256) : pu_S2 (k + 1) (256 * H + c) = 256 * pu_S2 k H + pu_s2 c := by
  unfold pu_S2 pu_s2
  obtain ⟨d1, d2⟩ := pu_d2 c hc (H % 4) (by omega)
  have e : (256 * H + c) / 4 = 256 * (H / 4) + (c / 4 + 64 * (H % 4)) := by omega
  show ((256 * H + c) &&& (256 * pu_mk 51 k + 51)) + ((256 * H + c) / 4 &&& (256 * pu_mk 51 k + 51)) = _
  rw [e, pu_and8 _ _ _ _ hc (by decide), pu_and8 _ _ _ _ (by omega) (by decide), d1]
  omega
theorem pu_L3 (k H d : Nat) (hd : d < 80) (hH : H % 16 < 5) : pu_S3 (k + 1) (256 * H + d) = 256 * pu_S3 k H + ((d + d / 16 + 16 * (H % 16)) &&& 15) := by
  unfold pu_S3
  have e : 256 * H + d + (256 * H + d) / 16 = 256 * (H + H / 16) + (d + d / 16 + 16 * (H % 16)) := by omega
  show (256 * H + d + (256 * H + d) / 16) &&& (256 * pu_mk 15 k + 15) = _
  rw [e, pu_and8 _ _ _ _ (by omega) (by decide)]
def pu_T (k n : Nat) : Nat := pu_S3 k (pu_S2 k (pu_S1 k n))
theorem pu_low : ∀ k n, n < 256 ^ k → pu_S2 k (pu_S1 k n) % 16 < 5 := by
  intro k n hn
  cases k with
  | zero =>
    have : n = 0 := by simpa using hn
    subst this
    decide
  | succ k =>
    have e : n = 256 * (n / 256) + n % 256 := by omega
    rw [e, pu_L1 _ _ _ (by omega)]
    obtain ⟨-, d2, d3, d4, -⟩ := pu_d3 (n % 256) (by omega) 0 (by omega)
    rw [pu_L2 _ _ _ d4]
    omega
theorem pu_T_s (k h b : Nat) (hb : b < 256) (hh : h < 256 ^ k) : pu_T (k + 1) (256 * h + b) = 256 * pu_T k h + pu_pc b := by
  unfold pu_T
  obtain ⟨-, d2, d3, d4, -⟩ := pu_d3 b hb 0 (by omega)
  have hl := pu_low k h hh
  rw [pu_L1 _ _ _ hb, pu_L2 _ _ _ d4, pu_L3 _ _ _ d3 hl, (pu_d3 b hb _ hl).1]
def pu_nb (n m : Nat) : Nat := pu_sum (fun i => if n.testBit i then 1 else 0) m
theorem pu_nb_s (h b m : Nat) (hb : b < 256) : pu_nb (256 * h + b) (8 + m) = pu_pc b + pu_nb h m := by
  unfold pu_nb
  rw [pu_sum_app]
  congr 1
  · refine pu_sum_c 8 fun i hi => ?_
    have e : (256 * h + b).testBit i = b.testBit i := by rw [pu_tb _ _ _ hb, if_pos hi]
    show (if (256 * h + b).testBit i = true then 1 else 0) = _
    rw [e]
  · refine pu_sum_c m fun i hi => ?_
    have e : (256 * h + b).testBit (8 + i) = h.testBit i := by rw [pu_tb _ _ _ hb, if_neg (by omega), Nat.add_sub_cancel_left]
    show (if (256 * h + b).testBit (8 + i) = true then 1 else 0) = _
    rw [e]
theorem pu_bc32 (n : Nat) (hn : n < 4294967296) : (pu_T 4 n + pu_T 4 n / 256 + (pu_T 4 n + pu_T 4 n / 256) / 65536) % 64 = pu_nb n 32 ∧ pu_T 4 n < 4294967296 := by
  obtain ⟨b0, b1, b2, b3, h0, h1, h2, h3, rfl⟩ : ∃ b0 b1 b2 b3, b0 < 256 ∧ b1 < 256 ∧ b2 < 256 ∧ b3 < 256 ∧ n = 256 * (256 * (256 * (256 * 0 + b3) + b2) + b1) + b0 := ⟨n % 256, n / 256 % 256, n / 65536 % 256, n / 16777216 % 256, by omega, by omega, by omega, by omega, by omega⟩
  rw [pu_T_s 3 _ _ h0 (by omega), pu_T_s 2 _ _ h1 (by omega), pu_T_s 1 _ _ h2 (by omega), pu_T_s 0 _ _ h3 (by decide), pu_nb_s _ _ 24 h0, pu_nb_s _ _ 16 h1, pu_nb_s _ _ 8 h2, pu_nb_s _ _ 0 h3, show pu_T 0 0 = 0 from rfl, show pu_nb 0 0 = 0 from rfl]
  have e0 := (pu_d3 b0 h0 0 (by omega)).2.2.2.2
  have e1 := (pu_d3 b1 h1 0 (by omega)).2.2.2.2
  have e2 := (pu_d3 b2 h2 0 (by omega)).2.2.2.2
  have e3 := (pu_d3 b3 h3 0 (by omega)).2.2.2.2
  generalize pu_pc b0 = p0 at *
  generalize pu_pc b1 = p1 at *
  generalize pu_pc b2 = p2 at *
  generalize pu_pc b3 = p3 at *
  have k1 : (256 * (256 * (256 * (256 * 0 + p3) + p2) + p1) + p0) / 256 = 256 * (256 * p3 + p2) + p1 := by omega
  rw [k1]
  have k2 : (256 * (256 * (256 * (256 * 0 + p3) + p2) + p1) + p0 + (256 * (256 * p3 + p2) + p1)) / 65536 = 256 * p3 + (p2 + p3) := by omega
  rw [k2]
  refine ⟨?_, by omega⟩
  have k3 : 256 * (256 * (256 * (256 * 0 + p3) + p2) + p1) + p0 + (256 * (256 * p3 + p2) + p1) + (256 * p3 + (p2 + p3)) = 64 * (4 * (256 * (256 * p3 + p2) + p1) + 4 * (256 * p3 + p2) + 4 * p3) + (p0 + p1 + p2 + p3) := by omega
  rw [k3, Nat.mul_add_mod, Nat.mod_eq_of_lt (by omega)]
  omega
theorem pu_of32 (x : Int32) : ∃ n, n < 4294967296 ∧ x = nI n := ⟨x.toBitVec.toNat, x.toBitVec.isLt, by
  refine Int32.toBitVec_inj.mp (BitVec.eq_of_toNat_eq ?_)
  rw [pk_tn x.toBitVec.isLt]⟩
theorem pu_btN {n : Nat} (hn : n < 4294967296) (i : Nat) : pu_bt (nI n) i = n.testBit i := by
  unfold pu_bt
  rw [← BitVec.testBit_toNat, pk_tn hn]
theorem pu_andN {a b : Nat} (ha : a < 4294967296) (hb : b < 4294967296) : nI a &&& nI b = nI (a &&& b) := by
  refine pu_ext fun i hi => ?_
  have : a &&& b < 4294967296 := Nat.lt_of_le_of_lt Nat.and_le_left ha
  rw [pu_and, pu_btN ha, pu_btN hb, pu_btN this, Nat.testBit_and]
theorem pu_ush {n : Nat} (hn : n < 4294967296) (k : Nat) (hk : (((nI k).toUInt32 &&& Int32.toUInt32 31).toBitVec % 32).toNat = k) : ((nI n).toUInt32 >>> ((nI k).toUInt32 &&& Int32.toUInt32 31)).toInt32 = nI (n / 2 ^ k) := pk_ushrN hn (nI k) k hk
theorem pu_bitCount (x : Int32) : fn_bitCount x = nI (pu_sum (fun i => if pu_bt x i then 1 else 0) 32) := by
  obtain ⟨n, hn, rfl⟩ := pu_of32 x
  have e0 : pu_sum (fun i => if pu_bt (nI n) i then 1 else 0) 32 = pu_nb n 32 := pu_sum_c 32 fun i _ => by rw [pu_btN hn]
  obtain ⟨b1, b2⟩ := pu_bc32 n hn
  rw [e0, ← b1]
  have hm : ∀ k m, m < 256 → k ≤ 4 → pu_mk m k < 4294967296 := by
    intro k m hm hk
    match k, hk with
    | 0, _ => show 0 < _; decide
    | 1, _ => show 256 * 0 + m < _; omega
    | 2, _ => show 256 * (256 * 0 + m) + m < _; omega
    | 3, _ => show 256 * (256 * (256 * 0 + m) + m) + m < _; omega
    | 4, _ => show 256 * (256 * (256 * (256 * 0 + m) + m) + m) + m < _; omega
    | k + 5, h => omega
  have g9 : nm_bitCount_9 (nI n) = nI (pu_S1 4 n) := by
    unfold nm_bitCount_9
    rw [show (1 : Int32) = nI 1 from rfl, pu_ush hn 1 (by decide), show (1431655765 : Int32) = nI (pu_mk 85 4) from by decide +kernel, pu_andN (by omega) (hm 4 85 (by decide) (by decide)), pk_sub (Nat.le_trans Nat.and_le_left (by omega))]
    rfl
  have l1 : pu_S1 4 n < 4294967296 := by unfold pu_S1; omega
  have g23 : nm_bitCount_23 (nI n) = nI (pu_S2 4 (pu_S1 4 n)) := by
    unfold nm_bitCount_23
    rw [g9, show (2 : Int32) = nI 2 from rfl, pu_ush l1 2 (by decide), show (858993459 : Int32) = nI (pu_mk 51 4) from by decide +kernel, pu_andN l1 (hm 4 51 (by decide) (by decide)), pu_andN (by omega) (hm 4 51 (by decide) (by decide)), nI_add]
    rfl
  have l2 : pu_S2 4 (pu_S1 4 n) < 2147483648 := by
    unfold pu_S2
    have h1 := Nat.and_le_right (n := pu_S1 4 n) (m := pu_mk 51 4)
    have h2 := Nat.and_le_right (n := pu_S1 4 n / 4) (m := pu_mk 51 4)
    have h3 : pu_mk 51 4 = 858993459 := by decide
    omega
  have g33 : nm_bitCount_33 (nI n) = nI (pu_T 4 n) := by
    unfold nm_bitCount_33
    rw [g23, show (4 : Int32) = nI 4 from rfl, pu_ush (by omega) 4 (by decide), nI_add, show (252645135 : Int32) = nI (pu_mk 15 4) from by decide +kernel, pu_andN (by omega) (hm 4 15 (by decide) (by decide))]
    rfl
  have l3 : pu_T 4 n < 268435456 := by
    have h1 := Nat.and_le_right (n := pu_S2 4 (pu_S1 4 n) + pu_S2 4 (pu_S1 4 n) / 16) (m := pu_mk 15 4)
    have h3 : pu_mk 15 4 = 252645135 := by decide
    have h4 : pu_T 4 n = (pu_S2 4 (pu_S1 4 n) + pu_S2 4 (pu_S1 4 n) / 16) &&& pu_mk 15 4 := rfl
    omega
  unfold fn_bitCount nm_bitCount_47 nm_bitCount_40
  rw [g33, show (8 : Int32) = nI 8 from rfl, pu_ush (by omega) 8 (by decide), nI_add, show (16 : Int32) = nI 16 from rfl, pu_ush (by omega) 16 (by decide), nI_add, pk_andN (by omega) 6 (by decide)]
theorem pu_ones (x : Int32) (h : pu_bt x 31 = false) : fn_m_ones x = nI (pu_sum (fun i => if pu_bt x i then 1 else 0) 32) := by
  unfold fn_m_ones lf_m_ones_4
  have := pu_for0 (f := st_m_ones_4 x) (fun k y => y = nI (pu_sum (fun i => if pu_bt x i then 1 else 0) k)) 31 0 rfl (fun k y hk hy => by
    unfold st_m_ones_4
    have e : pu_bt (x >>> (nI k &&& 31)) 0 = pu_bt x k := by rw [pu_sshr k (by omega) x (by omega), Nat.add_zero, if_pos (by omega)]
    rw [hy, pu_and1, e]
    show nI (pu_sum (fun i => if pu_bt x i then 1 else 0) k) + (if pu_bt x k = true then 1 else 0) = nI (pu_sum (fun i => if pu_bt x i then 1 else 0) k + (if pu_bt x k = true then 1 else 0))
    cases c : pu_bt x k with
    | true => rw [if_pos rfl, if_pos rfl, show (1 : Int32) = nI 1 from rfl, nI_add]
    | false => rw [if_neg (by decide), if_neg (by decide), show (0 : Int32) = nI 0 from rfl, nI_add])
  rw [this]
  show _ = nI (_ + (if pu_bt x 31 then 1 else 0))
  rw [h]
  rfl
