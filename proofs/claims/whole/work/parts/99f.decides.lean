/-! PAIRS OF CALLS: decides -/
set_option linter.unusedVariables false
theorem pu_ans_cc {P P' : Nat → Bool} {kd kd' : Nat → Int32} {R : Nat} (h1 : ∀ r, r < R → (P' r && decide (kd' r = 1)) = (P r && decide (kd r = 1))) (h0 : ∀ r, r < R → (P' r && decide (kd' r = 0)) = (P r && decide (kd r = 0))) : pu_ans P' kd' R = pu_ans P kd R := by
  unfold pu_ans
  rw [pu_fst_c R 0 (p := fun r => P r && decide (kd r = 1)) (p' := fun r => P' r && decide (kd' r = 1)) (fun j _ hj => h1 j (by omega)), pu_fst_c R 0 (p := fun r => P r && decide (kd r = 0)) (p' := fun r => P' r && decide (kd' r = 0)) (fun j _ hj => h0 j (by omega))]
theorem pu_dec_c {P P' : Nat → Bool} {kd : Nat → Int32} {R : Nat} (h : ∀ r, r < R → P r = P' r) : pu_dec P kd R = pu_dec P' kd R := by
  unfold pu_dec
  rw [pu_fst_c R 0 (p := fun r => P' r && decide (kd r = 1)) (p' := fun r => P r && decide (kd r = 1)) (fun j _ hj => by rw [h j (by omega)]), pu_fst_c R 0 (p := fun r => P' r && decide (kd r = 0)) (p' := fun r => P r && decide (kd r = 0)) (fun j _ hj => by rw [h j (by omega)])]
/-- by a rule that applies -/
theorem pu_dec_at {P : Nat → Bool} {kd : Nat → Int32} {R r : Nat} (hR : R ≤ 30) (hr : r < 32) (h : pu_dec P kd R = nI r) : P r = true := by
  unfold pu_dec at h
  cases e1 : pu_fst (fun r => P r && decide (kd r = 1)) R 0 with
  | some q =>
    rw [e1] at h
    obtain ⟨-, g1, g2, -⟩ := pu_fst_some R 0 q e1
    have e : q = r := (nI_eq (by omega) (by omega)).mp h
    subst e
    rw [Bool.and_eq_true] at g2
    exact g2.1
  | none =>
    rw [e1] at h
    simp only at h
    cases e2 : pu_fst (fun r => P r && decide (kd r = 0)) R 0 with
    | some q =>
      rw [e2] at h
      obtain ⟨-, g1, g2, -⟩ := pu_fst_some R 0 q e2
      have e : q = r := (nI_eq (by omega) (by omega)).mp h
      subst e
      rw [Bool.and_eq_true] at g2
      exact g2.1
    | none =>
      rw [e2] at h
      have := congrArg Int32.toInt (show (-1 : Int32) = nI r from h)
      rw [nI_toInt (by omega), show (-1 : Int32).toInt = -1 from rfl] at this
      omega
theorem pu_offC {s : Nat → Int32} (hcr : pu_Crl s) (j : Nat) : pu_Crl (upd s (490 + 9 * j + 0) 2) := by
  have H : ∀ i, i ≠ 490 + 9 * j + 0 → upd s (490 + 9 * j + 0) 2 i = s i := fun i hi => pu_un hi
  obtain ⟨R, r1, r2, r3, r4⟩ := hcr
  refine ⟨R, r1, (H 202 (by omega)).trans r2, fun r hr => ?_, fun r hr => ?_⟩
  · rw [H _ (by omega), H _ (by omega)]; exact r3 r hr
  · rw [H (490 + 9 * r + 2) (by omega), H (490 + 9 * r + 4) (by omega), H (490 + 9 * r + 5) (by omega), H (490 + 9 * r + 6) (by omega), H (490 + 9 * r + 8) (by omega)]
    obtain ⟨u1, u2⟩ := r4 r hr
    refine ⟨?_, u2⟩
    by_cases e : r = j
    · subst e; rw [pu_us]; exact ⟨2, by omega, rfl⟩
    · rw [H _ (by omega)]; exact u1
theorem pu_offV {F : Nat → Nat → Int32} {s : Nat → Int32} (hcr : pu_Crl s) (h8 : pu_Vrl F s) {j : Nat} (hj : j < 30) : pu_Vrl (am_row F 18 (upd (F 18) 8 (F 18 8 &&& ((1 <<< (nI j &&& 31)) ^^^ (-1))))) (upd s (490 + 9 * j + 0) 2) := by
  have H : ∀ i, i ≠ 490 + 9 * j + 0 → upd s (490 + 9 * j + 0) 2 i = s i := fun i hi => pu_un hi
  have e202 : upd s (490 + 9 * j + 0) 2 202 = s 202 := H _ (by omega)
  obtain ⟨w1, w2, w3, w4, w5⟩ := h8
  obtain ⟨R, r1, r2, r3, r4⟩ := hcr
  have hR := (pu_cl r2 (by omega)).2
  refine ⟨?_, fun r hr => ?_, fun r hr => ?_, fun r hr => ?_, fun r hr hn => ?_⟩
  · show upd (F 18) 8 (F 18 8 &&& ((1 <<< (nI j &&& 31)) ^^^ (-1))) 11 = _
    rw [pu_un (by decide), e202]; exact w1
  · rw [H (490 + 9 * r + 1) (by omega), H (490 + 9 * r + 2) (by omega), H (490 + 9 * r + 3) (by omega), H (490 + 9 * r + 5) (by omega), H (490 + 9 * r + 6) (by omega), H (490 + 9 * r + 7) (by omega), H (490 + 9 * r + 8) (by omega)]
    exact w2 r hr
  · show pu_bt (upd (F 18) 8 (F 18 8 &&& ((1 <<< (nI j &&& 31)) ^^^ (-1))) 8) r = true ↔ _
    rw [e202, pu_us, pu_and, pu_not _ hr, pu_one j (by omega), Bool.and_eq_true, w3 r hr]
    by_cases e : r = j
    · subst e
      rw [pu_us]
      simp
    · rw [H _ (by omega)]
      simp [e]
  · rw [e202] at hr
    rw [H (490 + 9 * r + 4) (by omega)]
    show (_ → (pu_bt (upd (F 18) 8 (F 18 8 &&& ((1 <<< (nI j &&& 31)) ^^^ (-1))) 9) r = true ↔ _)) ∧ (pu_bt (upd (F 18) 8 (F 18 8 &&& ((1 <<< (nI j &&& 31)) ^^^ (-1))) 10) r = true ↔ _)
    rw [pu_un (f := F 18) (show (9 : Nat) ≠ 8 by decide), pu_un (f := F 18) (show (10 : Nat) ≠ 8 by decide)]
    by_cases e : r = j
    · subst e; rw [pu_us]
      exact ⟨fun h => absurd rfl h, (w4 r hr).2⟩
    · rw [H _ (by omega)]; exact w4 r hr
  · rw [e202] at hr
    rw [H (490 + 9 * r + 8) (by omega)] at hn ⊢
    obtain ⟨V, q1, q2⟩ := w5 r hr hn
    obtain ⟨-, -, -, -, ⟨a, a1, a2⟩⟩ := r4 r (by omega)
    have ha := (pu_cl a2 (by omega)).2
    exact ⟨V, pu_Pre_mv q1 (fun x hx => H _ (by omega)), q2⟩
/-- the answer without one rule -/
def pu_tv (F M : Nat → Nat → Int32) (u a t r : Nat) : Int32 := pu_ans (fun q => pu_app F M (M 94 u) u a t q && decide (q ≠ r)) (fun q => M 89 (490 + 9 * q + 0)) (M 89 202).toNatClampNeg
theorem pu_dvX {F M : Nat → Nat → Int32} (h : pu_A F M) (x y : Nat → Int32) {u a t : Nat} (hu : u < 16) (ha : a < 8) (ht : t < 16) : (fn_decider u (nI a) t (fn_rulesOn (nI a) t F) (am_row (am_row F 36 x) 37 y)).1 = pu_dv F M u a t := by
  obtain ⟨h1, h2, h3, h4, h5, h6, h7, h8⟩ := id h
  have e := pu_decC (F := am_row (am_row F 36 x) 37 y) (f' := M) h1 h2 h3 h4 h5 h7 hu ha ht (fun _ => true) (fn_rulesOn (nI a) t F) (fun r _ => by
    rw [show fn_rulesOn (nI a) t (am_row (am_row F 36 x) 37 y) = fn_rulesOn (nI a) t F from rfl]; simp)
  rw [e]
  unfold pu_dv
  refine pu_dec_c fun r hr => ?_
  rw [Bool.and_true, pu_app_i h x y hu ht hr, show am_row (am_row F 36 x) 37 y 35 u = F 35 u from rfl, h8 u hu]
theorem pu_dvN {F M : Nat → Nat → Int32} (h : pu_A F M) {u a t r : Nat} (hu : u < 16) (ha : a < 8) (ht : t < 16) (hr : r < 30) (hb : pu_bt (fn_rulesOn (nI a) t F) r = false) : pu_dv F M u a t ≠ nI r := by
  obtain ⟨h1, h2, h3, h4, h5, h6, h7, h8⟩ := id h
  have e := pu_decC (F := am_row (am_row F 36 (F 36)) 37 (F 37)) (f' := M) h1 h2 h3 h4 h5 h7 hu ha ht (fun q => decide (q ≠ r)) (fn_rulesOn (nI a) t F) (fun q hq => by
    rw [show fn_rulesOn (nI a) t (am_row (am_row F 36 (F 36)) 37 (F 37)) = fn_rulesOn (nI a) t F from rfl, decide_eq_true_eq]
    exact ⟨fun h => ⟨h, fun e => by subst e; rw [hb] at h; cases h⟩, fun h => h.1⟩)
  rw [← pu_dvX h (F 36) (F 37) hu ha ht, e]
  obtain ⟨R, r1, r2, r3, r4⟩ := id h2
  have hR := (pu_cl r2 (by omega)).2
  intro hh
  have := pu_dec_at (by omega) (by omega) hh
  simp at this
theorem pu_tvX {F M : Nat → Nat → Int32} (h : pu_A F M) (x y : Nat → Int32) {u a t r : Nat} (hu : u < 16) (ha : a < 8) (ht : t < 16) (hr : r < 30) : fn_answerBy (fn_decider u (nI a) t (fn_rulesOn (nI a) t F &&& ((1 <<< (nI r &&& 31)) ^^^ (-1))) (am_row (am_row F 36 x) 37 y)).1 F = pu_tv F M u a t r := by
  obtain ⟨h1, h2, h3, h4, h5, h6, h7, h8⟩ := id h
  obtain ⟨R, r1, r2, r3, r4⟩ := id h2
  have hR := (pu_cl r2 (by omega)).2
  have e := pu_decC (F := am_row (am_row F 36 x) 37 y) (f' := M) h1 h2 h3 h4 h5 h7 hu ha ht (fun q => decide (q ≠ r)) (fn_rulesOn (nI a) t F &&& ((1 <<< (nI r &&& 31)) ^^^ (-1))) (fun q hq => by
    rw [show fn_rulesOn (nI a) t (am_row (am_row F 36 x) 37 y) = fn_rulesOn (nI a) t F from rfl, pu_and, pu_not _ (by omega), pu_one r (by omega), Bool.and_eq_true]
    simp)
  rw [e, pu_ansC (F := F) (f' := M) h2 h5]
  unfold pu_tv
  refine pu_ans_c fun q hq => ?_
  rw [pu_app_i h x y hu ht hq, show am_row (am_row F 36 x) 37 y 35 u = F 35 u from rfl, h8 u hu]
theorem pu_avD {F M : Nat → Nat → Int32} (h : pu_A F M) (u a t : Nat) : fn_answerBy (pu_dv F M u a t) F = pu_av F M u a t := by
  obtain ⟨h1, h2, h3, h4, h5, h6, h7, h8⟩ := id h
  exact pu_ansC (F := F) (f' := M) h2 h5 _
theorem pu_wT {F M : Nat → Nat → Int32} (h : pu_A F M) (x y : Nat → Int32) {u a t r : Nat} (hu : u < 16) (ha : a < 8) (ht : t < 16) (hr : r < 30) (hd : pu_dv F M u a t = nI r) : (fn_wouldTurn (nI r) u (nI a) t (fn_rulesOn (nI a) t F) (am_row (am_row F 36 x) 37 y)).1 = decide (pu_tv F M u a t r ≠ pu_av F M u a t) := by
  show (if fn_answerBy (fn_decider u (nI a) t (fn_rulesOn (nI a) t F &&& ((1 <<< (nI r &&& 31)) ^^^ (-1))) (am_row (am_row F 36 x) 37 y)).1 F = fn_answerBy (nI r) F then false else true) = _
  rw [pu_tvX h x y hu ha ht hr, ← hd, pu_avD h]
  by_cases c : pu_tv F M u a t r = pu_av F M u a t
  · rw [if_pos c]; simp [c]
  · rw [if_neg c]; simp [c]
theorem pu_avOff {F M M' : Nat → Nat → Int32} (h : pu_A F M) {u a t r : Nat} (hr : r < 30) (e1 : M' 89 = upd (M 89) (490 + 9 * r + 0) 2) (e2 : M' 94 = M 94) (hu : u < 16) (ha : a < 8) (ht : t < 16) : ∃ w, fn_m_answer (nI u) (nI a) (nI t) M' = some (pu_tv F M u a t r, w) ∧ pu_K8 (M' 88) w := by
  obtain ⟨h1, h2, h3, h4, h5, h6, h7, h8⟩ := h
  have H : ∀ i, i ≠ 490 + 9 * r + 0 → M' 89 i = M 89 i := fun i hi => by rw [e1]; exact pu_un hi
  obtain ⟨w, w1, w2, w3⟩ := pu_answer (F := am_row F 18 (upd (F 18) 8 (F 18 8 &&& ((1 <<< (nI r &&& 31)) ^^^ (-1))))) (f' := M') (pu_Cpar_c (fun j h1 h2 => H j (by omega)) h1) (by rw [e1]; exact pu_offC h2 r) (pu_Vatt_c (fun j h1 => H j (by omega)) h3) (pu_Vpar_c (fun j h1 h2 => H j (by omega)) h4) (by rw [e1]; exact pu_offV h2 h5 hr) ((show F 1 7 = M 89 200 from h6).trans (H 200 (by omega)).symm) hu ha ht
  refine ⟨w, ?_, w3⟩
  rw [w1]
  congr 2
  unfold pu_tv
  rw [H 202 (by omega)]
  have hq : ∀ q, pu_app (am_row F 18 (upd (F 18) 8 (F 18 8 &&& ((1 <<< (nI r &&& 31)) ^^^ (-1))))) M' (M' 94 u) u a t q = pu_app F M (M 94 u) u a t q := fun q => by
    unfold pu_app
    rw [H (490 + 9 * q + 1) (by omega), e2]
    rfl
  refine pu_ans_cc (fun q hq' => ?_) (fun q hq' => ?_)
  · rw [hq q]
    by_cases e : q = r
    · subst e; rw [e1, pu_us]; simp
    · rw [H _ (by omega)]; simp [e]
  · rw [hq q]
    by_cases e : q = r
    · subst e; rw [e1, pu_us]; simp
    · rw [H _ (by omega)]; simp [e]
def pu_gi (F M : Nat → Nat → Int32) (r w u p : Nat) : Nat := if pu_dv F M u (p / 16) (p % 16) = nI r ∧ (w = 0 ∨ pu_tv F M u (p / 16) (p % 16) r ≠ pu_av F M u (p / 16) (p % 16)) then 1 else 0
theorem pu_gi_n {F M : Nat → Nat → Int32} {r w u p : Nat} (h : pu_dv F M u (p / 16) (p % 16) ≠ nI r) : pu_gi F M r w u p = 0 := by
  unfold pu_gi; exact if_neg (fun z => h z.1)
theorem pu_div2 {k : Nat} (h : k < 2048) : nI k / 128 = nI (k / 128) ∧ (nI k / 16) - (nI k / 16) / 8 * 8 = nI (k % 128 / 16) ∧ nI k - nI k / 16 * 16 = nI (k % 128 % 16) := by
  have e1 : nI k / 16 = nI (k / 16) := pk_div (d := 16) (by omega) (by omega) (by omega)
  have e2 : nI (k / 16) - nI (k / 16) / 8 * 8 = nI (k / 16 % 8) := pk_rem (d := 8) (by omega) (by omega) (by omega)
  have e3 : nI k - nI k / 16 * 16 = nI (k % 16) := pk_rem (d := 16) (by omega) (by omega) (by omega)
  refine ⟨pk_div (d := 128) (by omega) (by omega) (by omega), ?_, ?_⟩
  · rw [e1, e2]; congr 1; omega
  · rw [e3]; congr 1; omega
theorem pu_dec_in {f : Nat → Nat → Int32} {g : Nat → Nat → Int64} {M : Nat → Nat → Int32} (hA : pu_A (pu_sF (f 2 12) f g) M) {r w p : Nat} (hr : r < 30) (hw : w < 2) (hp : p < 128) (a : Int32) (x1 x2 : Nat → Int32) : ∃ z, lf_decides_74 r (nI w) f (fn_settle (f 2 12) f g) p a x1 x2 = .inl z ∧ z.1 = a + nI (pu_sum (fun u => pu_gi (pu_sF (f 2 12) f g) M r w u p) 16) := by
  have hp8 : p / 16 < 8 := by omega
  have hp6 : p % 16 < 16 := by omega
  obtain ⟨d1, -⟩ := pu_div p hp
  have key := pu_forX0 (f := st_decides_74 r (nI w) f (fn_settle (f 2 12) f g) p x1 x2) (fun k z => z.1 = a + nI (pu_sum (fun u => pu_gi (pu_sF (f 2 12) f g) M r w u p) k)) (fun z => match z with | .inl z => z.1 = a + nI (pu_sum (fun u => pu_gi (pu_sF (f 2 12) f g) M r w u p) 16) | .inr _ => False) 16 (a, x1, x2) (by
    show a = a + nI 0
    rw [nI_0, Int32.add_zero]) (by
    rintro j ⟨b, x, y⟩ hj hb
    simp only at hb
    subst hb
    have hm : fn_rulesOn (nI (p / 16)) (p % 16) (am_row (am_row (am_row (am_row (am_row f 1 (fn_settle (f 2 12) f g).1) 34 (fn_settle (f 2 12) f g).2.1) 35 (fn_settle (f 2 12) f g).2.2.1) 36 x1) 37 x2) = fn_rulesOn (nI (p / 16)) (p % 16) (pu_sF (f 2 12) f g) := rfl
    have hD : (fn_decider j (nI (p / 16)) (p % 16) (fn_rulesOn (nI (p / 16)) (p % 16) (pu_sF (f 2 12) f g)) (am_row (am_row (am_row (am_row (am_row f 1 (fn_settle (f 2 12) f g).1) 34 (fn_settle (f 2 12) f g).2.1) 35 (fn_settle (f 2 12) f g).2.2.1) 36 x) 37 y)).1 = pu_dv (pu_sF (f 2 12) f g) M j (p / 16) (p % 16) := pu_dvX hA x y hj hp8 hp6
    have hs : pu_sum (fun u => pu_gi (pu_sF (f 2 12) f g) M r w u p) (j + 1) = pu_sum (fun u => pu_gi (pu_sF (f 2 12) f g) M r w u p) j + pu_gi (pu_sF (f 2 12) f g) M r w j p := rfl
    rw [hs]
    unfold st_decides_74
    simp only
    rw [d1, hm, pu_has _ (by omega : r < 32)]
    cases b : pu_bt (fn_rulesOn (nI (p / 16)) (p % 16) (pu_sF (f 2 12) f g)) r with
    | false =>
      refine .inr ⟨_, rfl, ?_⟩
      have z : ∀ m, m ≤ 16 → pu_sum (fun u => pu_gi (pu_sF (f 2 12) f g) M r w u p) m = 0 := fun m hm => by
        rw [pu_sum_c (g := fun _ => 0) m (fun u hu => pu_gi_n (pu_dvN hA (by omega) hp8 hp6 hr b)), pu_sum_0]
      show a + nI (pu_sum (fun u => pu_gi (pu_sF (f 2 12) f g) M r w u p) j) = a + nI (pu_sum (fun u => pu_gi (pu_sF (f 2 12) f g) M r w u p) 16)
      rw [z j (by omega), z 16 (by omega)]
    | true =>
      generalize (fn_decider j (nI (p / 16)) (p % 16) (fn_rulesOn (nI (p / 16)) (p % 16) (pu_sF (f 2 12) f g)) (am_row (am_row (am_row (am_row (am_row f 1 (fn_settle (f 2 12) f g).1) 34 (fn_settle (f 2 12) f g).2.1) 35 (fn_settle (f 2 12) f g).2.2.1) 36 x) 37 y)) = D at hD ⊢
      rw [cond_true, hD]
      by_cases c : pu_dv (pu_sF (f 2 12) f g) M j (p / 16) (p % 16) = nI r
      · rw [if_pos c]
        by_cases c0 : w = 0
        · rw [if_pos (show nI w = 0 by rw [c0]; rfl), show pu_gi (pu_sF (f 2 12) f g) M r w j p = 1 from if_pos ⟨c, .inl c0⟩, ← nI_1, ← Int32.add_assoc]
          exact .inl ⟨_, rfl, rfl⟩
        · have hW : (fn_wouldTurn (nI r) j (nI (p / 16)) (p % 16) (fn_rulesOn (nI (p / 16)) (p % 16) (pu_sF (f 2 12) f g)) (am_row (am_row (am_row (am_row (am_row f 1 (fn_settle (f 2 12) f g).1) 34 (fn_settle (f 2 12) f g).2.1) 35 (fn_settle (f 2 12) f g).2.2.1) 36 D.2.1) 37 D.2.2)).1 = _ := pu_wT hA D.2.1 D.2.2 hj hp8 hp6 hr c
          rw [if_neg (nI_ne0 (by omega) (by omega)), hW]
          by_cases c2 : pu_tv (pu_sF (f 2 12) f g) M j (p / 16) (p % 16) r ≠ pu_av (pu_sF (f 2 12) f g) M j (p / 16) (p % 16)
          · rw [decide_eq_true c2, cond_true, show pu_gi (pu_sF (f 2 12) f g) M r w j p = 1 from if_pos ⟨c, .inr c2⟩, ← nI_1, ← Int32.add_assoc]
            exact .inl ⟨_, rfl, rfl⟩
          · rw [decide_eq_false c2, cond_false, show pu_gi (pu_sF (f 2 12) f g) M r w j p = 0 from if_neg (fun z => z.2.elim c0 c2), Nat.add_zero]
            exact .inl ⟨_, rfl, rfl⟩
      · rw [if_neg c, pu_gi_n c, Nat.add_zero]
        exact .inl ⟨_, rfl, rfl⟩) (fun x hx => hx)
  unfold lf_decides_74
  cases e : am_forX (st_decides_74 r (nI w) f (fn_settle (f 2 12) f g) p x1 x2) 16 0 (a, x1, x2) with
  | inl z => rw [e] at key; exact ⟨z, rfl, key⟩
  | inr z => rw [e] at key; exact key.elim
theorem pu_dec_out {f : Nat → Nat → Int32} {g : Nat → Nat → Int64} {M : Nat → Nat → Int32} (hA : pu_A (pu_sF (f 2 12) f g) M) {r w : Nat} (hr : r < 30) (hw : w < 2) : (lf_decides_36 r (nI w) f (fn_settle (f 2 12) f g)).1 = nI (pu_sum (fun p => pu_sum (fun u => pu_gi (pu_sF (f 2 12) f g) M r w u p) 16) 128) := by
  unfold lf_decides_36
  refine pu_for0 (f := st_decides_36 r (nI w) f (fn_settle (f 2 12) f g)) (fun k z => z.1 = nI (pu_sum (fun p => pu_sum (fun u => pu_gi (pu_sF (f 2 12) f g) M r w u p) 16) k)) 128 (0, f 36, f 37) rfl ?_
  rintro j ⟨b, x, y⟩ hj hb
  simp only at hb
  obtain ⟨z, z1, z2⟩ := pu_dec_in hA hr hw hj b x y
  unfold st_decides_36
  simp only
  rw [z1]
  show z.1 = nI (pu_sum (fun p => pu_sum (fun u => pu_gi (pu_sF (f 2 12) f g) M r w u p) 16) j + pu_sum (fun u => pu_gi (pu_sF (f 2 12) f g) M r w u j) 16)
  rw [z2, hb, nI_add]
theorem pu_gi_sum (G : Nat → Nat → Nat) : pu_sum (fun k => G (k / 128) (k % 128)) 2048 = pu_sum (fun p => pu_sum (fun u => G u p) 16) 128 := by
  have h := pu_sum_grid (fun k => G (k / 128) (k % 128)) 128 16
  rw [show (16 * 128 : Nat) = 2048 from rfl] at h
  rw [h, ← pu_sum_swap G 128 16]
  refine pu_sum_c 16 fun u hu => pu_sum_c 128 fun p hp => ?_
  show G ((u * 128 + p) / 128) ((u * 128 + p) % 128) = G u p
  rw [show (u * 128 + p) / 128 = u by omega, show (u * 128 + p) % 128 = p by omega]
theorem pu_dec_ref {f : Nat → Nat → Int32} {g : Nat → Nat → Int64} {F1 : Nat → Nat → Int32} (hA : pu_A (pu_sF (f 2 12) f g) (pu_sM F1)) (e1 : F1 89 = f 89) (c6 : pu_Cln (f 89)) (c7 : pu_Crl (f 89)) {r w : Nat} (r1 : r < 30) (w1 : w < 2) : ∃ z, lf_m_decides_36 r w F1 (fn_m_holders_154 F1) = some (.inl z) ∧ z.1 = nI (pu_sum (fun p => pu_sum (fun u => pu_gi (pu_sF (f 2 12) f g) (pu_sM F1) r w u p) 16) 128) ∧ pu_K8 (F1 88) z.2.1 ∧ z.2.2 = F1 89 := by
  have hm := pu_mOK c6 c7
  obtain ⟨z, z1, z2⟩ := pu_forO0 (f := st_m_decides_36 r w F1 (fn_m_holders_154 F1)) (fun k z => z.1 = nI (pu_sum (fun k => pu_gi (pu_sF (f 2 12) f g) (pu_sM F1) r w (k / 128) (k % 128)) k) ∧ pu_K8 (F1 88) z.2.1 ∧ z.2.2 = F1 89) (fun z => match z with
    | .inl z => z.1 = nI (pu_sum (fun k => pu_gi (pu_sF (f 2 12) f g) (pu_sM F1) r w (k / 128) (k % 128)) 2048) ∧ pu_K8 (F1 88) z.2.1 ∧ z.2.2 = F1 89
    | .inr _ => False) 2048 (0, F1 88, F1 89) ⟨rfl, fun _ _ _ => rfl, rfl⟩ (by
    rintro k ⟨b, r88, r89⟩ hk ⟨q1, q2, q3⟩
    simp only at q1 q2 q3
    subst q1 q3
    obtain ⟨d1, d2, d3⟩ := pu_div2 hk
    have ku : k / 128 < 16 := by omega
    have ka : k % 128 / 16 < 8 := by omega
    have kt : k % 128 % 16 < 16 := by omega
    obtain ⟨p, p1, p2, p3⟩ := pu_avM hA (M' := am_row (am_row (am_row (am_row (am_row F1 88 r88) 89 (F1 89)) 93 (fn_m_holders_154 F1).1) 94 (fn_m_holders_154 F1).2.1) 96 (fn_m_holders_154 F1).2.2) rfl rfl ku ka kt
    have K : pu_K8 (F1 88) p := fun i i1 i2 => (p3 i i1 i2).trans (q2 i i1 i2)
    have hs : pu_sum (fun k => pu_gi (pu_sF (f 2 12) f g) (pu_sM F1) r w (k / 128) (k % 128)) (k + 1) = pu_sum (fun k => pu_gi (pu_sF (f 2 12) f g) (pu_sM F1) r w (k / 128) (k % 128)) k + pu_gi (pu_sF (f 2 12) f g) (pu_sM F1) r w (k / 128) (k % 128) := rfl
    rw [hs]
    unfold st_m_decides_36
    simp only
    rw [am_chk_p (show am_mOK (F1 89) by rw [e1]; exact hm), d1, d2, d3, p1, am_ob_s]
    simp only
    rw [p2]
    by_cases c : pu_dv (pu_sF (f 2 12) f g) (pu_sM F1) (k / 128) (k % 128 / 16) (k % 128 % 16) = nI r
    · rw [if_pos c]
      by_cases c0 : w = 0
      · rw [if_pos (show nI w = 0 by rw [c0]; rfl), show pu_gi (pu_sF (f 2 12) f g) (pu_sM F1) r w (k / 128) (k % 128) = 1 from if_pos ⟨c, .inl c0⟩, ← nI_1]
        exact .inl ⟨_, rfl, rfl, K, rfl⟩
      · obtain ⟨o, o1, o2⟩ := pu_avOff hA r1 (M' := am_row (am_row (am_row (am_row (am_row F1 88 p) 89 (upd (F1 89) ((490 + (9 * r)) + 0) 2)) 93 (fn_m_holders_154 F1).1) 94 (fn_m_holders_154 F1).2.1) 96 (fn_m_holders_154 F1).2.2) rfl rfl ku ka kt
        rw [if_neg (nI_ne0 (by omega) (by omega)), am_chk_p (show am_mOK (upd (F1 89) ((490 + (9 * r)) + 0) 2) by
          rw [e1]
          exact pu_mOK (pu_Cln_c (pu_un (by omega)) (fun j h1 h2 => pu_un (by omega)) c6) (pu_offC c7 r)), o1, am_ob_s]
        simp only
        have K2 : pu_K8 (F1 88) o := fun i i1 i2 => (o2 i i1 i2).trans (K i i1 i2)
        have eb : upd (upd (F1 89) (490 + 9 * r + 0) 2) (490 + 9 * r + 0) (fn_m_ruleAt r 0 (am_row (am_row (am_row F1 93 (fn_m_holders_154 F1).1) 94 (fn_m_holders_154 F1).2.1) 96 (fn_m_holders_154 F1).2.2)) = F1 89 := by
          rw [pu_uu]
          exact pu_uid (F1 89) (490 + 9 * r + 0)
        rw [eb]
        by_cases c2 : pu_tv (pu_sF (f 2 12) f g) (pu_sM F1) (k / 128) (k % 128 / 16) (k % 128 % 16) r = pu_av (pu_sF (f 2 12) f g) (pu_sM F1) (k / 128) (k % 128 / 16) (k % 128 % 16)
        · rw [if_pos c2, show pu_gi (pu_sF (f 2 12) f g) (pu_sM F1) r w (k / 128) (k % 128) = 0 from if_neg (fun z => z.2.elim c0 (fun h => h c2)), Nat.add_zero]
          exact .inl ⟨_, rfl, Int32.add_zero _, K2, rfl⟩
        · rw [if_neg c2, show pu_gi (pu_sF (f 2 12) f g) (pu_sM F1) r w (k / 128) (k % 128) = 1 from if_pos ⟨c, .inr c2⟩, ← nI_1]
          exact .inl ⟨_, rfl, rfl, K2, rfl⟩
    · rw [if_neg c, pu_gi_n c, Nat.add_zero]
      exact .inl ⟨_, rfl, rfl, K, rfl⟩) (fun x hx => hx)
  unfold lf_m_decides_36
  rw [z1]
  rcases z with z | z
  · refine ⟨z, rfl, ?_, z2.2.1, z2.2.2⟩
    rw [z2.1, pu_gi_sum (pu_gi (pu_sF (f 2 12) f g) (pu_sM F1) r w)]
  · exact z2.elim
theorem pp_decides : am_Pair pu_Inv 132 9 242 8 2 := pu_P2 fun f g hI x y => by
  have hI' := hI
  obtain ⟨hc, hv, hd, hk, ht, hg⟩ := hI
  obtain ⟨c1, c2, c3, c4, c5, c6, c7, c8⟩ := id hc
  obtain ⟨v1, v2, v3, v4, v5, v6, v7, v8, v9⟩ := id hv
  have hp := pu_pl c6 v7
  have hr := pu_pr c7 v8
  have hm := pu_mOK c6 c7
  have key : ∀ F1 : Nat → Nat → Int32, F1 89 = f 89 → F1 92 = f 92 → ∃ z, fn_m_decides x y F1 = some z ∧ (fn_decides x y f g).1 = z.1 ∧ pu_K8 (F1 88) z.2.1 ∧ z.2.2.1 = f 89 := by
    intro F1 e1 e2
    have hA := pu_A_mk hI' e1 e2
    unfold fn_decides fn_m_decides
    rw [pu_isRule (F := f) (f' := F1) (by rw [e1]; exact v8) (by rw [e1]; exact c7), pu_01]
    cases h1 : fn_m_isRule x F1 with
    | false => simp only [cond_false]; exact ⟨_, rfl, rfl, fun _ _ _ => rfl, e1⟩
    | true =>
      rw [cond_true, cond_true]
      cases h2 : fn_m_isIn y 0 1 with
      | false => simp only [cond_false]; exact ⟨_, rfl, rfl, fun _ _ _ => rfl, e1⟩
      | true =>
        obtain ⟨r, r1, r2, r3, r4⟩ := pu_ruleOf (f' := F1) (by rw [e1]; exact c7) h1
        obtain ⟨w, w1, w2⟩ := am_mInN (N := 2) h2 (by decide)
        subst r3 w2
        rw [cond_true, cond_true, nI_clamp (by omega), nI_clamp (by omega), pu_dec_out hA r1 w1]
        obtain ⟨z, z1, z2, z3, z4⟩ := pu_dec_ref hA e1 c6 c7 r1 w1
        rw [z1, am_ob_s]
        exact ⟨_, rfl, z2.symm, z3, z4.trans e1⟩
  have key2 := key (am_row (am_row (am_row (am_row (am_row f 1 (fn_decides x y f g).2.1) 34 (fn_decides x y f g).2.2.1) 35 (fn_decides x y f g).2.2.2.1) 36 (fn_decides x y f g).2.2.2.2.1) 37 (fn_decides x y f g).2.2.2.2.2.1) rfl rfl
  have hx := x_decides x y f g hp.1 hp.2.1 hp.2.2.1 hp.2.2.2.1 hp.2.2.2.2 hr.1 hr.2.1 hr.2.2.1 (pu_pp c1 v2) hr.2.2.2.1
  clear key
  generalize fn_decides x y f g = Y at key2 hx
  obtain ⟨z, k1, k2, k3, k4⟩ := key2
  have hy := x_m_decides x y (am_row (am_row (am_row (am_row (am_row f 1 Y.2.1) 34 Y.2.2.1) 35 Y.2.2.2.1) 36 Y.2.2.2.2.1) 37 Y.2.2.2.2.2.1) (am_row g 1 Y.2.2.2.2.2.2) hm z k1
  exact ⟨_, _, _, _, _, pu_res hx (by decide) k2, pu_res hy (by decide) rfl, pu_I_q9 hI' k3 k4 _ _ _ _ _ _ _ _ _⟩
