/-! PAIRS OF CALLS: level, ways -/
set_option linter.unusedVariables false
theorem pu_height {d c : Nat → Int32} (hok : pu_ok d) (hnr : ∀ r q, pu_E d r q → ¬ pu_R d q r) (hcl : pu_CL d c) : ∃ h : Nat → Nat, (∀ r, r < 20 → h r ≤ 20 ∧ 1 ≤ h r) ∧ ∀ r, r < 20 → ∀ q, q < 20 → pu_bt (d r) q = true → h q < h r := by
  refine ⟨fun r => pu_sum (fun q => if pu_bt (c r) q = true then 1 else 0) 20, fun r hr => ⟨?_, ?_⟩, fun r hr q hq hb => ?_⟩
  · have h2 := pu_sum_le (g := fun q => if pu_bt (c r) q = true then 1 else 0) (g' := fun _ => 1) 20 (fun j _ => by
      show (if pu_bt (c r) j = true then 1 else 0) ≤ 1
      by_cases x : pu_bt (c r) j = true
      · rw [if_pos x]; exact Nat.le_refl _
      · rw [if_neg x]; omega)
    rw [pu_sum_one] at h2
    exact h2
  · have h2 := pu_sum_lt (g := fun _ => 0) (g' := fun q => if pu_bt (c r) q = true then 1 else 0) 20 r (fun _ _ => Nat.zero_le _) hr (by
      show 0 < if pu_bt (c r) r = true then 1 else 0
      rw [if_pos ((hcl r hr r (by omega)).mpr (pu_R_r d r))]; omega)
    rw [pu_sum_0] at h2
    exact h2
  · have hE : pu_E d r q := ⟨hr, hb⟩
    refine pu_sum_lt 20 r (fun x hx => ?_) hr ?_
    · show (if pu_bt (c q) x = true then 1 else 0) ≤ if pu_bt (c r) x = true then 1 else 0
      by_cases y : pu_bt (c q) x = true
      · have := (hcl q hq x (by omega)).mp y
        rw [if_pos y, if_pos ((hcl r hr x (by omega)).mpr (pu_R_t hok (pu_R_e hE) this))]
        exact Nat.le_refl _
      · rw [if_neg y]; exact Nat.zero_le _
    · show (if pu_bt (c q) r = true then 1 else 0) < if pu_bt (c r) r = true then 1 else 0
      rw [if_pos ((hcl r hr r (by omega)).mpr (pu_R_r d r)), if_neg (fun y => hnr r q hE ((hcl q hq r (by omega)).mp y))]
      omega
/-- a way of that many steps -/
def pu_lp (e : Nat → Nat → Bool) : Nat → Nat → Bool
  | 0, _ => true
  | n + 1, r => pu_any (fun q => e r q && pu_lp e n q) 20 0
theorem pu_lp_s {e : Nat → Nat → Bool} (n r : Nat) : pu_lp e (n + 1) r = true ↔ ∃ q, q < 20 ∧ e r q = true ∧ pu_lp e n q = true := by
  rw [pu_lp, pu_any_iff]
  constructor
  · rintro ⟨q, -, q2, q3⟩
    rw [Bool.and_eq_true] at q3
    exact ⟨q, by omega, q3.1, q3.2⟩
  · rintro ⟨q, q1, q2, q3⟩
    exact ⟨q, Nat.zero_le _, by omega, by rw [q2, q3]; rfl⟩
theorem pu_lp_p {e : Nat → Nat → Bool} : ∀ n r, pu_lp e (n + 1) r = true → pu_lp e n r = true := by
  intro n
  induction n with
  | zero => intro r _; rfl
  | succ n ih =>
    intro r h
    obtain ⟨q, q1, q2, q3⟩ := (pu_lp_s (n + 1) r).mp h
    exact (pu_lp_s n r).mpr ⟨q, q1, q2, ih q q3⟩
theorem pu_lp_le {e : Nat → Nat → Bool} {n m r : Nat} (h : pu_lp e n r = true) (hm : m ≤ n) : pu_lp e m r = true := by
  induction n with
  | zero => rw [show m = 0 by omega]; rfl
  | succ n ih =>
    by_cases c : m = n + 1
    · subst c; exact h
    · exact ih (pu_lp_p n r h) (by omega)
theorem pu_lp_h {e : Nat → Nat → Bool} {h : Nat → Nat} (h1 : ∀ r, r < 20 → h r ≤ 20 ∧ 1 ≤ h r) (h2 : ∀ r, r < 20 → ∀ q, q < 20 → e r q = true → h q < h r) : ∀ n r, r < 20 → pu_lp e n r = true → n + 1 ≤ h r := by
  intro n
  induction n with
  | zero => intro r hr _; exact (h1 r hr).2
  | succ n ih =>
    intro r hr hl
    obtain ⟨q, q1, q2, q3⟩ := (pu_lp_s n r).mp hl
    have := ih q q1 q3
    have := h2 r hr q q1 q2
    omega
theorem pu_longest {f : Nat → Nat → Int32} (hok : pu_ok (f 4)) {h : Nat → Nat} (h1 : ∀ r, r < 20 → h r ≤ 20 ∧ 1 ≤ h r) (h2 : ∀ r, r < 20 → ∀ q, q < 20 → pu_bt (f 4 r) q = true → h q < h r) {role : Nat} (hr : role < 20) : ∃ k, k < 20 ∧ fn_longestDown role f = nI k ∧ pu_lp (fun r q => pu_bt (f 4 r) q) k role = true ∧ pu_lp (fun r q => pu_bt (f 4 r) q) (k + 1) role = false := by
  have hin : ∀ (lay : Int32) i, pu_bt (lf_longestDown_29 f lay) i = true ↔ ∃ k, k < 20 ∧ pu_bt lay k = true ∧ pu_bt (f 4 k) i = true := fun lay i => by
    unfold lf_longestDown_29
    rw [pu_gather (p := fun k => pu_bt lay k) (v := f 4) (st_longestDown_29 f lay) 20 0 (fun j x hj => by
      unfold st_longestDown_29
      rw [pu_has _ (by omega : j < 32)]
      cases pu_bt lay j with
      | true => rfl
      | false => exact pu_or0 x) i, pu_0]
    exact ⟨fun h => h.elim (fun h => by cases h) id, .inr⟩
  have key := pu_forX0 (f := st_longestDown_12 f) (fun k z => z.2 = nI k ∧ (∀ q, 20 ≤ q → pu_bt z.1 q = false) ∧ (∀ m, (∃ i, i < 20 ∧ pu_bt z.1 i = true ∧ pu_lp (fun r q => pu_bt (f 4 r) q) m i = true) ↔ pu_lp (fun r q => pu_bt (f 4 r) q) (k + 1 + m) role = true) ∧ pu_lp (fun r q => pu_bt (f 4 r) q) k role = true) (fun z => match z with
    | .inl z => ∃ k, k < 20 ∧ z.2 = nI k ∧ pu_lp (fun r q => pu_bt (f 4 r) q) k role = true ∧ pu_lp (fun r q => pu_bt (f 4 r) q) (k + 1) role = false
    | .inr _ => False) 20 (f 4 role, 0) ⟨rfl, fun q hq => hok role hr q hq, fun m => by
      rw [show 0 + 1 + m = m + 1 by omega]
      exact (pu_lp_s (e := fun r q => pu_bt (f 4 r) q) m role).symm, rfl⟩ (by
    rintro k ⟨lay, n⟩ hk ⟨g1, g2, g3, g4⟩
    simp only at g1 g2 g3
    subst g1
    unfold st_longestDown_12
    simp only
    by_cases c : lay = 0
    · rw [if_pos c]
      refine .inr ⟨_, rfl, k, hk, rfl, g4, Bool.eq_false_iff.mpr fun hh => ?_⟩
      obtain ⟨i, -, i2, -⟩ := (g3 0).mpr hh
      rw [c, pu_0] at i2; cases i2
    · rw [if_neg c]
      refine .inl ⟨_, rfl, nI_1 k, fun q hq => Bool.eq_false_iff.mpr fun hh => ?_, fun m => ?_, ?_⟩
      · obtain ⟨x, x1, -, x3⟩ := (hin lay q).mp hh
        rw [hok x x1 q hq] at x3; cases x3
      · rw [show k + 1 + 1 + m = k + 1 + (m + 1) by omega, ← g3 (m + 1)]
        constructor
        · rintro ⟨i, i1, i2, i3⟩
          obtain ⟨x, x1, x2, x3⟩ := (hin lay i).mp i2
          exact ⟨x, x1, x2, (pu_lp_s m x).mpr ⟨i, i1, x3, i3⟩⟩
        · rintro ⟨x, x1, x2, x3⟩
          obtain ⟨i, i1, i2, i3⟩ := (pu_lp_s m x).mp x3
          exact ⟨i, i1, (hin lay i).mpr ⟨x, x1, x2, i2⟩, i3⟩
      · refine (g3 0).mp (Classical.byContradiction fun hn => c (pu_zero.mpr fun i hi => ?_))
        by_cases h20 : i < 20
        · cases b : pu_bt lay i with
          | false => rfl
          | true => exact absurd ⟨i, h20, b, rfl⟩ hn
        · exact g2 i (by omega)) (fun z hz => by
    have := pu_lp_h h1 h2 20 role hr hz.2.2.2
    have := (h1 role hr).1
    omega)
  unfold fn_longestDown lf_longestDown_12
  cases e : am_forX (st_longestDown_12 f) 20 0 (f 4 role, 0) with
  | inl z => rw [e] at key; exact key
  | inr z => rw [e] at key; exact key.elim
theorem pu_levels {f : Nat → Nat → Int32} {e : Nat → Nat → Bool} (he : ∀ r, r < 20 → ∀ q, q < 20 → fn_m_has (f 89 (144 + r)) (nI q) = e r q) {h : Nat → Nat} (h1 : ∀ r, r < 20 → h r ≤ 20 ∧ 1 ≤ h r) (h2 : ∀ r, r < 20 → ∀ q, q < 20 → e r q = true → h q < h r) {r : Nat} (hr : r < 20) : ∃ v, v < 20 ∧ fn_m_levels f r = nI v ∧ pu_lp e v r = true ∧ ∀ m, m ≤ 20 → pu_lp e m r = true → m ≤ v := by
  have lt20 : ∀ v i, i < 20 → pu_lp e v i = true → v < 20 := fun v i hi hl => by
    have := pu_lp_h h1 h2 v i hi hl
    have := (h1 i hi).1
    omega
  -- one role in one round
  have hq : ∀ n r, r < 20 → ∀ z : Nat → Int32, (∃ V : Nat → Nat, ∀ i, i < 20 → z i = nI (V i) ∧ pu_lp e (V i) i = true ∧ (∀ m, m ≤ n → pu_lp e m i = true → m ≤ V i) ∧ (i < r → ∀ m, m ≤ n + 1 → pu_lp e m i = true → m ≤ V i)) → ∃ V : Nat → Nat, ∀ i, i < 20 → lf_m_levels_39 f r z i = nI (V i) ∧ pu_lp e (V i) i = true ∧ (∀ m, m ≤ n → pu_lp e m i = true → m ≤ V i) ∧ (i < r + 1 → ∀ m, m ≤ n + 1 → pu_lp e m i = true → m ≤ V i) := by
    intro n r hr z hz
    unfold lf_m_levels_39
    have key := pu_for0 (f := st_m_levels_39 f r) (fun q x => ∃ V : Nat → Nat, (∀ i, i < 20 → x i = nI (V i) ∧ pu_lp e (V i) i = true ∧ (∀ m, m ≤ n → pu_lp e m i = true → m ≤ V i) ∧ (i < r → ∀ m, m ≤ n + 1 → pu_lp e m i = true → m ≤ V i)) ∧ ∀ q', q' < q → e r q' = true → V q' + 1 ≤ V r) 20 z (by
      obtain ⟨V, hV⟩ := hz
      exact ⟨V, hV, fun q hq => absurd hq (Nat.not_lt_zero _)⟩) (by
      rintro q x hq ⟨V, hV, hV2⟩
      unfold st_m_levels_39
      rw [he r hr q hq]
      cases c : e r q with
      | false =>
        rw [cond_false, pu_uid]
        refine ⟨V, hV, fun q' hq' hc => ?_⟩
        by_cases eq : q' = q
        · subst eq; rw [c] at hc; cases hc
        · exact hV2 q' (by omega) hc
      | true =>
        have hqr : q ≠ r := fun eq => by
          have := h2 r hr q hq c
          rw [eq] at this; omega
        obtain ⟨a1, a2, a3, a4⟩ := hV r hr
        obtain ⟨b1, b2, b3, b4⟩ := hV q hq
        have va := lt20 _ r hr a2
        have vb := lt20 _ q hq b2
        rw [cond_true, a1, b1, nI_1]
        by_cases d : nI (V r) < nI (V q + 1)
        · rw [if_pos d]
          rw [nI_ltI (by omega) (by omega)] at d
          refine ⟨fun i => if i = r then V q + 1 else V i, fun i hi => ?_, fun q' hq' hc => ?_⟩
          · by_cases eq : i = r
            · subst eq
              simp only [if_true]
              refine ⟨pu_us, (pu_lp_s _ _).mpr ⟨q, hq, c, b2⟩, fun m hm hl => ?_, fun hlt => absurd hlt (Nat.lt_irrefl _)⟩
              have := a3 m hm hl
              omega
            · simp only [if_neg eq]
              rw [pu_un eq]
              exact hV i hi
          · have hne : q' ≠ r := fun eq => by
              by_cases h20 : q' < 20
              · have := h2 r hr q' h20 hc
                rw [eq] at this; omega
              · omega
            simp only [if_neg hne, if_true]
            by_cases eq : q' = q
            · subst eq; exact Nat.le_refl _
            · have := hV2 q' (by omega) hc
              omega
        · rw [if_neg d, ← a1, pu_uid]
          rw [nI_ltI (by omega) (by omega)] at d
          refine ⟨V, hV, fun q' hq' hc => ?_⟩
          by_cases eq : q' = q
          · subst eq; omega
          · exact hV2 q' (by omega) hc)
    obtain ⟨V, hV, hV2⟩ := key
    refine ⟨V, fun i hi => ?_⟩
    obtain ⟨a1, a2, a3, a4⟩ := hV i hi
    refine ⟨a1, a2, a3, fun hlt m hm hl => ?_⟩
    by_cases eq : i = r
    · subst eq
      cases m with
      | zero => exact Nat.zero_le _
      | succ m =>
        obtain ⟨q, q1, q2, q3⟩ := (pu_lp_s m i).mp hl
        have := (hV q q1).2.2.1 m (by omega) q3
        have := hV2 q q1 q2
        omega
    · exact a4 (by omega) m hm hl
  unfold fn_m_levels lf_m_levels_23
  have h0 : ∀ i, i < 20 → lf_m_levels_2 f i = 0 := (pu_fill (v := fun _ => 0) (g := st_m_levels_2) 20 (f 95) (fun _ _ _ => rfl)).1
  have key := pu_for0 (f := st_m_levels_23 f) (fun n z => ∃ V : Nat → Nat, ∀ i, i < 20 → z i = nI (V i) ∧ pu_lp e (V i) i = true ∧ ∀ m, m ≤ n → pu_lp e m i = true → m ≤ V i) 20 (lf_m_levels_2 f) ⟨fun _ => 0, fun i hi => ⟨h0 i hi, rfl, fun m hm _ => hm⟩⟩ (by
    rintro n z hn ⟨V, hV⟩
    show ∃ V : Nat → Nat, ∀ i, i < 20 → lf_m_levels_31 f z i = nI (V i) ∧ _
    unfold lf_m_levels_31
    have k2 := pu_for0 (f := st_m_levels_31 f) (fun r x => ∃ V : Nat → Nat, ∀ i, i < 20 → x i = nI (V i) ∧ pu_lp e (V i) i = true ∧ (∀ m, m ≤ n → pu_lp e m i = true → m ≤ V i) ∧ (i < r → ∀ m, m ≤ n + 1 → pu_lp e m i = true → m ≤ V i)) 20 z ⟨V, fun i hi => ⟨(hV i hi).1, (hV i hi).2.1, (hV i hi).2.2, fun hlt => absurd hlt (Nat.not_lt_zero _)⟩⟩ (fun r x hr hx => hq n r hr x hx)
    obtain ⟨V2, hV2⟩ := k2
    exact ⟨V2, fun i hi => ⟨(hV2 i hi).1, (hV2 i hi).2.1, (hV2 i hi).2.2.2 hi⟩⟩)
  obtain ⟨V, hV⟩ := key
  exact ⟨V r, lt20 _ r hr (hV r hr).2.1, (hV r hr).1, (hV r hr).2.1, (hV r hr).2.2⟩
theorem pp_level : am_Pair pu_Inv 128 2 238 2 1 := pu_P1 fun f g hI x => by
  have hI' := hI
  obtain ⟨hc, hv, hd, hk, ht, hg⟩ := hI
  obtain ⟨c1, c2, c3, c4, c5, c6, c7, c8⟩ := id hc
  obtain ⟨v1, v2, v3, v4, v5, v6, v7, v8, v9⟩ := id hv
  have key : fn_level x f = (fn_m_level x f).1 := by
    unfold fn_level fn_m_level
    rw [show fn_isRole x = fn_m_isRole x from rfl]
    cases h1 : fn_m_isRole x with
    | false => rfl
    | true =>
      obtain ⟨a, a1, a2⟩ := am_mRole h1
      subst a2
      rw [cond_true, cond_true, nI_clamp (by omega)]
      have hok : pu_ok (f 4) := fun r hr q hq => by rw [v3.1 r hr]; exact c2.1 r hr q hq
      obtain ⟨h, g1, g2⟩ := pu_height (d := f 4) (c := f 6) hok (fun r q hE hR => by
        rw [pu_E_c (d := fun r => f 89 (144 + r)) (d' := f 4) v3.1] at hE
        exact c2.2.1 r q hE ((pu_R_congr v3.1).mp hR)) v3.2.2.1
      obtain ⟨k, k1, k2, k3, k4⟩ := pu_longest hok g1 g2 a1
      obtain ⟨v, w1, w2, w3, w4⟩ := pu_levels (f := f) (e := fun r q => pu_bt (f 4 r) q) (fun r hr q hq => by
        rw [pu_mhas _ (by omega : q < 32)]
        show _ = pu_bt (f 4 r) q
        rw [v3.1 r hr]) g1 g2 a1
      show fn_longestDown a f = fn_m_levels f a
      rw [k2, w2]
      refine congrArg nI ?_
      have := w4 k (by omega) k3
      by_cases c : v ≤ k
      · omega
      · rw [pu_lp_le w3 (show k + 1 ≤ v by omega)] at k4; cases k4
  exact ⟨_, _, _, _, _, pu_res (x_level x f g) (by decide) key, pu_res (x_m_level x f g) (by decide) rfl, pu_I_s hI' ⟨rfl, rfl, rfl, rfl, rfl, rfl, rfl, rfl, rfl, rfl, rfl, rfl, rfl, rfl, rfl, rfl, rfl, rfl, rfl, rfl, rfl, rfl, rfl, rfl, rfl, rfl, rfl, rfl, rfl, rfl, rfl, rfl, rfl, rfl, rfl, rfl, rfl, rfl, rfl, rfl, rfl, rfl, rfl, rfl, rfl, rfl, rfl, rfl, rfl, rfl, rfl, rfl, rfl, rfl, rfl, rfl, rfl, rfl, rfl, rfl, rfl, rfl, rfl, rfl, rfl, rfl, rfl, rfl, rfl, rfl⟩ (pu_K8_r _) rfl rfl⟩
/-! how many ways -/
theorem pu_sum_mul (c : Nat) (g : Nat → Nat) : ∀ n, pu_sum (fun i => c * g i) n = c * pu_sum g n := by
  intro n
  induction n with
  | zero => rfl
  | succ n ih =>
    show pu_sum (fun i => c * g i) n + c * g n = c * (pu_sum g n + g n)
    rw [ih, Nat.mul_add]
def pu_w (e : Nat → Nat → Bool) (role : Nat) : Nat → Nat → Nat
  | 0, i => if i = role then 1 else 0
  | n + 1, i => pu_sum (fun k => if e i k = true then pu_w e role n k else 0) 20
def pu_ws (e : Nat → Nat → Bool) (role i : Nat) : Nat := pu_sum (fun n => pu_w e role n i) 20
section
variable {e : Nat → Nat → Bool} {role : Nat} {h : Nat → Nat}
theorem pu_w_0 (h1 : ∀ r, r < 20 → h r ≤ 20 ∧ 1 ≤ h r) (h2 : ∀ r, r < 20 → ∀ q, q < 20 → e r q = true → h q < h r) : ∀ n i, i < 20 → h i ≤ n → pu_w e role n i = 0 := by
  intro n
  induction n with
  | zero => intro i hi hn; have := (h1 i hi).2; omega
  | succ n ih =>
    intro i hi hn
    show pu_sum (fun k => if e i k = true then pu_w e role n k else 0) 20 = 0
    rw [pu_sum_c (g := fun _ => 0) 20 (fun k hk => ?_), pu_sum_0]
    show (if e i k = true then pu_w e role n k else 0) = 0
    by_cases c : e i k = true
    · rw [if_pos c]
      exact ih k hk (by have := h2 i hi k hk c; omega)
    · rw [if_neg c]
theorem pu_ws_s (h1 : ∀ r, r < 20 → h r ≤ 20 ∧ 1 ≤ h r) (h2 : ∀ r, r < 20 → ∀ q, q < 20 → e r q = true → h q < h r) {i : Nat} (hi : i < 20) : pu_ws e role i = (if i = role then 1 else 0) + pu_sum (fun k => if e i k = true then pu_ws e role k else 0) 20 := by
  have a1 : pu_ws e role i = pu_sum (fun n => pu_w e role n i) 1 + pu_sum (fun n => pu_w e role (1 + n) i) 19 := pu_sum_app (fun n => pu_w e role n i) 1 19
  have a2 : pu_sum (fun n => pu_w e role (1 + n) i) 19 = pu_sum (fun n => pu_sum (fun k => if e i k = true then pu_w e role n k else 0) 20) 19 := pu_sum_c 19 fun n _ => by
    show pu_w e role (1 + n) i = _
    rw [Nat.add_comm]; rfl
  have a3 : pu_sum (fun n => pu_w e role n i) 1 = if i = role then 1 else 0 := Nat.zero_add _
  rw [a1, a2, a3, pu_sum_swap (fun n k => if e i k = true then pu_w e role n k else 0) 20 19]
  congr 1
  refine (pu_sum_c 20 fun k hk => ?_).symm
  show (if e i k = true then pu_ws e role k else 0) = pu_sum (fun n => if e i k = true then pu_w e role n k else 0) 19
  by_cases c : e i k = true
  · rw [if_pos c]
    have b1 : pu_sum (fun n => if e i k = true then pu_w e role n k else 0) 19 = pu_sum (fun n => pu_w e role n k) 19 := pu_sum_c 19 fun n _ => if_pos c
    rw [b1]
    show pu_sum (fun n => pu_w e role n k) 19 + pu_w e role 19 k = _
    rw [pu_w_0 h1 h2 19 k hk (by have := h2 i hi k hk c; have := (h1 i hi).1; omega), Nat.add_zero]
  · rw [if_neg c]
    have b1 : pu_sum (fun n => if e i k = true then pu_w e role n k else 0) 19 = pu_sum (fun _ => 0) 19 := pu_sum_c 19 fun n _ => if_neg c
    rw [b1, pu_sum_0]
/-- no way where the role isn't below -/
theorem pu_ws_0 {R : Nat → Bool} (h1 : ∀ q, q < 20 → R q = false → q ≠ role) (h2 : ∀ q, q < 20 → ∀ k, k < 20 → e q k = true → R q = false → R k = false) {i : Nat} (hi : i < 20) (hR : R i = false) : pu_ws e role i = 0 := by
  have key : ∀ n q, q < 20 → R q = false → pu_w e role n q = 0 := by
    intro n
    induction n with
    | zero => intro q hq hr; exact if_neg (h1 q hq hr)
    | succ n ih =>
      intro q hq hr
      show pu_sum (fun k => if e q k = true then pu_w e role n k else 0) 20 = 0
      rw [pu_sum_c (g := fun _ => 0) 20 (fun k hk => ?_), pu_sum_0]
      show (if e q k = true then pu_w e role n k else 0) = 0
      by_cases c : e q k = true
      · rw [if_pos c]; exact ih k hk (h2 q hq k hk c hr)
      · rw [if_neg c]
  unfold pu_ws
  rw [pu_sum_c (g := fun _ => 0) 20 (fun n _ => key n i hi hR), pu_sum_0]
theorem pu_waysFrom {f : Nat → Nat → Int32} (he : ∀ r, r < 20 → ∀ q, q < 20 → fn_m_has (f 89 (144 + r)) (nI q) = e r q) (hrole : role < 20) (h1 : ∀ r, r < 20 → h r ≤ 20 ∧ 1 ≤ h r) (h2 : ∀ r, r < 20 → ∀ q, q < 20 → e r q = true → h q < h r) (h3 : ∀ q, q < 20 → pu_bt (f 92 q) role = false → q ≠ role) (h4 : ∀ q, q < 20 → ∀ k, k < 20 → e q k = true → pu_bt (f 92 q) role = false → pu_bt (f 92 k) role = false) : ∀ N r, r < 20 → h r ≤ N → fn_m_waysFromN N (nI r) (nI role) f = some (nI (pu_ws e role r)) := by
  intro N
  induction N with
  | zero => intro r hr hN; have := (h1 r hr).2; omega
  | succ N ih =>
    intro r hr hN
    show fn_m_waysFromS (fn_m_waysFromN N) (nI r) (nI role) f = _
    unfold fn_m_waysFromS lf_m_waysFromS_14
    obtain ⟨z, z1, z2⟩ := pu_forO0 (f := st_m_waysFromS_14 (fn_m_waysFromN N) (nI r) (nI role) f) (fun k a => a = nI ((if r = role then 1 else 0) + pu_sum (fun k => if e r k = true then pu_ws e role k else 0) k)) (fun z => z = .inl (nI (pu_ws e role r))) 20 (am_b (if nI r = nI role then true else false)) (by
      by_cases c : r = role
      · rw [if_pos (congrArg nI c), if_pos c]; rfl
      · rw [if_neg (fun z => c ((nI_eq (by omega) (by omega)).mp z)), if_neg c]; rfl) (by
      rintro k a hk rfl
      unfold st_m_waysFromS_14
      have e144 : (144 : Int32) + nI r = nI (144 + r) := by rw [show (144 : Int32) = nI 144 from rfl, nI_add]
      rw [e144, am_chk_p (am_inbN (by omega) (by decide)), nI_clamp (by omega), he r hr k hk, pu_mhas _ (by omega : role < 32)]
      have hs : pu_sum (fun k => if e r k = true then pu_ws e role k else 0) (k + 1) = pu_sum (fun k => if e r k = true then pu_ws e role k else 0) k + (if e r k = true then pu_ws e role k else 0) := rfl
      rw [hs]
      cases c : e r k with
      | false => exact .inl ⟨_, rfl, Int32.add_zero _⟩
      | true =>
        rw [cond_true, if_pos rfl]
        cases c2 : pu_bt (f 92 k) role with
        | false =>
          rw [cond_false, pu_ws_0 (R := fun q => pu_bt (f 92 q) role) h3 h4 hk c2]
          exact .inl ⟨_, rfl, Int32.add_zero _⟩
        | true =>
          rw [cond_true, ih k hk (by have := h2 r hr k hk c; omega), am_ob_s]
          refine .inl ⟨_, rfl, ?_⟩
          rw [nI_add, Nat.add_assoc]) (fun x hx => by rw [hx, ← pu_ws_s h1 h2 hr])
    rw [z1, z2]
    rfl
end
theorem pu_countWays {F : Nat → Nat → Int32} {role : Nat} (hr : role < 20) {S : Nat → Nat} (hS : ∀ i, i < 20 → F 87 i = nI (S i)) : (fn_countWays (nI role) F).1 = nI (pu_sum (fun n => pu_sum (fun i => S i * pu_w (fun r q => pu_bt (F 4 r) q) role n i) 20) 20) := by
  have h0 : ∀ i, i < 20 → lf_countWays_2 (nI role) F i = nI (pu_w (fun r q => pu_bt (F 4 r) q) role 0 i) := fun i hi => by
    have := (pu_fill (v := fun i => am_b (if nI i = nI role then true else false)) (g := st_countWays_2 (nI role)) 20 (F 9) (fun _ _ _ => rfl)).1 i hi
    unfold lf_countWays_2
    rw [this]
    show am_b (if nI i = nI role then true else false) = nI (if i = role then 1 else 0)
    by_cases c : i = role
    · rw [if_pos (congrArg nI c), if_pos c]; rfl
    · rw [if_neg (fun z => c ((nI_eq (by omega) (by omega)).mp z)), if_neg c]; rfl
  have h85 : ∀ n (wk lg : Nat → Int32) i, i < 20 → (∀ k, k < 20 → wk k = nI (pu_w (fun r q => pu_bt (F 4 r) q) role n k)) → lf_countWays_85 F wk i lg i = nI (pu_w (fun r q => pu_bt (F 4 r) q) role (n + 1) i) ∧ ∀ j, j ≠ i → lf_countWays_85 F wk i lg j = lg j := fun n wk lg i hi hw => by
    unfold lf_countWays_85
    exact pu_for0 (f := st_countWays_85 F wk i) (fun k x => x i = nI (pu_sum (fun k => if pu_bt (F 4 i) k = true then pu_w (fun r q => pu_bt (F 4 r) q) role n k else 0) k) ∧ ∀ j, j ≠ i → x j = lg j) 20 (upd lg i 0) ⟨pu_us, fun j hj => pu_un hj⟩ (by
      rintro k x hk ⟨g1, g2⟩
      unfold st_countWays_85
      refine ⟨?_, fun j hj => (pu_un hj).trans (g2 j hj)⟩
      rw [pu_us, g1, pu_has _ (by omega : k < 32)]
      show _ = nI (pu_sum (fun k => if pu_bt (F 4 i) k = true then pu_w (fun r q => pu_bt (F 4 r) q) role n k else 0) k + (if pu_bt (F 4 i) k = true then pu_w (fun r q => pu_bt (F 4 r) q) role n k else 0))
      cases pu_bt (F 4 i) k with
      | true => rw [cond_true, if_pos rfl, hw k hk, nI_add]
      | false => rw [cond_false, if_neg (by decide), Int32.add_zero, Nat.add_zero])
  have h45 : ∀ n (a : Int32) (wk lg : Nat → Int32), (∀ k, k < 20 → wk k = nI (pu_w (fun r q => pu_bt (F 4 r) q) role n k)) → ∃ z, lf_countWays_45 F a wk lg = .inl z ∧ z.1 = a + nI (pu_sum (fun i => S i * pu_w (fun r q => pu_bt (F 4 r) q) role n i) 20) ∧ ∀ i, i < 20 → z.2 i = nI (pu_w (fun r q => pu_bt (F 4 r) q) role (n + 1) i) := fun n a wk lg hw => by
    have key := pu_forX0 (f := st_countWays_45 F wk) (fun k z => z.1 = a + nI (pu_sum (fun i => S i * pu_w (fun r q => pu_bt (F 4 r) q) role n i) k) ∧ ∀ i, i < k → z.2 i = nI (pu_w (fun r q => pu_bt (F 4 r) q) role (n + 1) i)) (fun z => match z with
      | .inl z => z.1 = a + nI (pu_sum (fun i => S i * pu_w (fun r q => pu_bt (F 4 r) q) role n i) 20) ∧ ∀ i, i < 20 → z.2 i = nI (pu_w (fun r q => pu_bt (F 4 r) q) role (n + 1) i)
      | .inr _ => False) 20 (a, lg) ⟨by
        show a = a + nI 0
        rw [nI_0, Int32.add_zero], fun i hi => absurd hi (Nat.not_lt_zero _)⟩ (by
      rintro k ⟨b, x⟩ hk ⟨g1, g2⟩
      simp only at g1 g2
      subst g1
      obtain ⟨q1, q2⟩ := h85 n wk x k hk hw
      unfold st_countWays_45
      simp only
      rw [if_neg (show ¬ (20 : Int32) ≤ nI k from nI_ge (b := 20) hk (by omega))]
      refine .inl ⟨_, rfl, ?_, fun i hi => ?_⟩
      · simp only
        rw [hS k hk, hw k hk, pk_mul, Int32.add_assoc, nI_add]
        rfl
      · simp only
        by_cases c : i = k
        · subst c; exact q1
        · rw [q2 i c]; exact g2 i (by omega)) (fun z hz => hz)
    unfold lf_countWays_45
    cases c : am_forX (st_countWays_45 F wk) 20 0 (a, lg) with
    | inl z => rw [c] at key; exact ⟨z, rfl, key.1, key.2⟩
    | inr z => rw [c] at key; exact key.elim
  show (lf_countWays_35 F (lf_countWays_2 (nI role) F)).1 = _
  unfold lf_countWays_35
  refine (pu_for0 (f := st_countWays_35 F) (fun n z => z.1 = nI (pu_sum (fun n => pu_sum (fun i => S i * pu_w (fun r q => pu_bt (F 4 r) q) role n i) 20) n) ∧ ∀ k, k < 20 → z.2.1 k = nI (pu_w (fun r q => pu_bt (F 4 r) q) role n k)) 20 (0, lf_countWays_2 (nI role) F, F 10) ⟨rfl, h0⟩ ?_).1
  rintro n ⟨a, wk, lg⟩ hn ⟨g1, g2⟩
  simp only at g1 g2
  obtain ⟨z, z1, z2, z3⟩ := h45 n a wk lg g2
  unfold st_countWays_35
  simp only
  rw [z1]
  refine ⟨?_, fun k hk => ?_⟩
  · show z.1 = nI (pu_sum (fun n => pu_sum (fun i => S i * pu_w (fun r q => pu_bt (F 4 r) q) role n i) 20) n + pu_sum (fun i => S i * pu_w (fun r q => pu_bt (F 4 r) q) role n i) 20)
    rw [z2, g1, nI_add]
  · show va_cpy z.2 wk 0 0 20 k = _
    rw [pk_cpy_in (by omega) (by omega), Nat.zero_add, Nat.sub_zero]
    exact z3 k hk
theorem pp_ways : am_Pair pu_Inv 116 5 226 5 2 := pu_P2 fun f g hI x y => by
  have hI' := hI
  obtain ⟨hc, hv, hd, hk, ht, hg⟩ := hI
  obtain ⟨c1, c2, c3, c4, c5, c6, c7, c8⟩ := id hc
  obtain ⟨v1, v2, v3, v4, v5, v6, v7, v8, v9⟩ := id hv
  have hp := pu_pl c6 v7
  have hr := pu_pr c7 v8
  have hm := pu_mOK c6 c7
  have key : ∀ F1 : Nat → Nat → Int32, F1 89 = f 89 → F1 92 = f 92 → ∃ z, fn_m_ways x y F1 = some z ∧ (fn_ways x y f g).1 = z.1 := by
    intro F1 e1 e2
    obtain ⟨w, hw⟩ : ∃ w, w = fn_m_stand_155 F1 := ⟨_, rfl⟩
    obtain ⟨Y, hY⟩ : ∃ Y, Y = fn_settle (F1 89 200) f g := ⟨_, rfl⟩
    obtain ⟨s1, s2, s3, s4, s5, s6, s7⟩ := pu_settle (f := f) (g := g) (f' := F1) (by rw [e1]; exact v7) (by rw [e1]; exact c6) (by rw [e1]; exact v5) (by rw [e2]; exact pu_dn v3 hd) Y hY w hw
    unfold fn_ways fn_m_ways
    rw [show fn_isUser x = fn_m_isOne x from rfl, show fn_isRole y = fn_m_isRole y from rfl, show f 2 12 = F1 89 200 by rw [e1]; exact v6, ← hY, ← hw]
    clear hY hw
    cases h1 : fn_m_isOne x with
    | false => exact ⟨_, rfl, rfl⟩
    | true =>
      rw [cond_true, cond_true]
      cases h2 : fn_m_isRole y with
      | false => exact ⟨_, rfl, rfl⟩
      | true =>
        obtain ⟨u, u1, u2⟩ := am_mOne h1
        obtain ⟨role, r1, r2⟩ := am_mRole h2
        subst u2 r2
        rw [cond_true, cond_true, nI_clamp (by omega), nI_clamp (by omega)]
        have hok : pu_ok (f 4) := fun r hr q hq => by rw [v3.1 r hr]; exact c2.1 r hr q hq
        obtain ⟨h, g1, g2⟩ := pu_height (d := f 4) (c := f 6) hok (fun r q hE hR => by
          rw [pu_E_c (d := fun r => f 89 (144 + r)) (d' := f 4) v3.1] at hE
          exact c2.2.1 r q hE ((pu_R_congr v3.1).mp hR)) v3.2.2.1
        have hD := pu_dn v3 hd
        have hcl := v3.2.2.1
        -- what the reference looks up
        have from' : ∀ G : Nat → Nat → Int32, G 89 = f 89 → G 92 = f 92 → ∀ r, r < 20 → fn_m_waysFrom (nI r) (nI role) G = some (nI (pu_ws (fun r q => pu_bt (f 4 r) q) role r)) := fun G k1 k2 r hr => by
          unfold fn_m_waysFrom
          have hq : ∀ q, q < 20 → (pu_bt (G 92 q) role = false ↔ ¬ pu_R (f 4) q role) := fun q hq => by
            rw [k2, ← hD q hq, ← hcl q hq role (by omega), Bool.not_eq_true]
          refine pu_waysFrom (e := fun r q => pu_bt (f 4 r) q) (h := h) (fun r hr q hq => ?_) r1 g1 g2 (fun q hq1 hb e => ?_) (fun q hq1 k hk he hb => ?_) 21 r hr (by have := (g1 r hr).1; omega)
          · rw [k1, pu_mhas _ (by omega : q < 32)]
            show _ = pu_bt (f 4 r) q
            rw [v3.1 r hr]
          · rw [hq q hq1] at hb
            subst e
            exact hb (pu_R_r _ _)
          · rw [hq q hq1] at hb
            rw [hq k hk]
            exact fun hR => hb (pu_R_t hok (pu_R_e ⟨hq1, he⟩) hR)
        obtain ⟨z, z1, z2⟩ := pu_forO0 (f := st_m_ways_22 role F1 w) (fun k x => ∀ i, i < k → x i = nI (pu_ws (fun r q => pu_bt (f 4 r) q) role i)) (fun z => match z with
          | .inl x => ∀ i, i < 20 → x i = nI (pu_ws (fun r q => pu_bt (f 4 r) q) role i)
          | .inr _ => False) 20 (F1 95) (fun i hi => absurd hi (Nat.not_lt_zero _)) (by
          intro k x hk hx
          unfold st_m_ways_22
          rw [from' (am_row (am_row (am_row F1 93 w.1) 95 x) 96 w.2) e1 e2 k hk, am_ob_s]
          refine .inl ⟨_, rfl, fun i hi => ?_⟩
          by_cases c : i = k
          · subst c; exact pu_us
          · rw [pu_un c]; exact hx i (by omega)) (fun x hx => hx)
        unfold lf_m_ways_22
        rw [z1, am_ob_s]
        rcases z with z | z
        · refine ⟨_, rfl, ?_⟩
          simp only
          have hz : ∀ i, i < 20 → z i = nI (pu_ws (fun r q => pu_bt (f 4 r) q) role i) := z2
          obtain ⟨L, L1, L2, L3, L4⟩ := id c6
          have hL := (pu_cl L2 (by omega)).2
          -- assigned
          have m1 : lf_m_ways_51 u F1 z = nI (pu_sum (fun i => (if pu_bt (f 30 u) i = true then 1 else 0) * pu_ws (fun r q => pu_bt (f 4 r) q) role i) 20) := by
            unfold lf_m_ways_51
            refine pu_for0 (f := st_m_ways_51 u F1 z) (fun k a => a = nI (pu_sum (fun i => (if pu_bt (f 30 u) i = true then 1 else 0) * pu_ws (fun r q => pu_bt (f 4 r) q) role i) k)) 20 0 rfl ?_
            rintro k a hk rfl
            unfold st_m_ways_51
            rw [e1, ← v5 u u1, pu_mhas _ (by omega : k < 32)]
            show _ = nI (pu_sum (fun i => (if pu_bt (f 30 u) i = true then 1 else 0) * pu_ws (fun r q => pu_bt (f 4 r) q) role i) k + (if pu_bt (f 30 u) k = true then 1 else 0) * pu_ws (fun r q => pu_bt (f 4 r) q) role k)
            cases pu_bt (f 30 u) k with
            | true => rw [cond_true, if_pos rfl, hz k hk, nI_add, Nat.one_mul]
            | false => rw [cond_false, if_neg (by decide), Int32.add_zero, Nat.zero_mul, Nat.add_zero]
          have m2 : lf_m_ways_99 u F1 w z (lf_m_ways_51 u F1 z) = nI (pu_sum (fun i => (if pu_bt (f 30 u) i = true then 1 else 0) * pu_ws (fun r q => pu_bt (f 4 r) q) role i) 20 + pu_sum (fun l => if w.2 l = 1 ∧ f 13 l = nI u then pu_ws (fun r q => pu_bt (f 4 r) q) role (f 14 l).toNatClampNeg else 0) L) := by
            unfold lf_m_ways_99
            rw [e1, hL]
            refine pu_for0 (f := st_m_ways_99 u F1 w z) (fun k a => a = nI (pu_sum (fun i => (if pu_bt (f 30 u) i = true then 1 else 0) * pu_ws (fun r q => pu_bt (f 4 r) q) role i) 20 + pu_sum (fun l => if w.2 l = 1 ∧ f 13 l = nI u then pu_ws (fun r q => pu_bt (f 4 r) q) role (f 14 l).toNatClampNeg else 0) k)) L _ m1 ?_
            rintro k a hk rfl
            unfold st_m_ways_99
            have w01 := (s4 k (show k < (F1 89 201).toNatClampNeg by rw [e1, hL]; exact hk)).1
            have q1 : fn_m_loanAt k 1 (am_row (am_row (am_row F1 93 w.1) 95 z) 96 w.2) = f 13 k := by
              show F1 89 (210 + 7 * k + 1) = _
              rw [e1]; exact (v7.2 k (by omega)).2.1.symm
            have q2 : fn_m_loanAt k 2 (am_row (am_row (am_row F1 93 w.1) 95 z) 96 w.2) = f 14 k := by
              show F1 89 (210 + 7 * k + 2) = _
              rw [e1]; exact (v7.2 k (by omega)).2.2.1.symm
            rw [q1, q2]
            have hr14 := (am_inbQ (hp.2.2.2.2 k (by rw [v7.1, hL]; exact hk))).2
            have hs : pu_sum (fun l => if w.2 l = 1 ∧ f 13 l = nI u then pu_ws (fun r q => pu_bt (f 4 r) q) role (f 14 l).toNatClampNeg else 0) (k + 1) = pu_sum (fun l => if w.2 l = 1 ∧ f 13 l = nI u then pu_ws (fun r q => pu_bt (f 4 r) q) role (f 14 l).toNatClampNeg else 0) k + (if w.2 k = 1 ∧ f 13 k = nI u then pu_ws (fun r q => pu_bt (f 4 r) q) role (f 14 k).toNatClampNeg else 0) := rfl
            rw [hs, ← Nat.add_assoc]
            refine Eq.trans (congrArg (HAdd.hAdd _) ?_) (nI_add _ _)
            rcases (show w.2 k = 0 ∨ w.2 k = 1 from w01) with c | c
            · rw [if_pos c, if_neg (fun h => by rw [c] at h; exact absurd h.1 (by decide))]; rfl
            · rw [if_neg (by rw [c]; decide)]
              by_cases c2 : f 13 k = nI u
              · rw [if_pos c2, if_pos ⟨c, c2⟩]; exact hz _ hr14
              · rw [if_neg c2, if_neg (fun h => c2 h.2)]; rfl
          rw [m2]
          -- starts
          have t0 : ∀ i, i < 20 → lf_ways_32 u f i = nI (if pu_bt (f 30 u) i = true then 1 else 0) := fun i hi => by
            have := (pu_fill (v := fun i => am_b (bif (fn_has (f 30 u) (nI i)) then true else false)) (g := st_ways_32 u f) 20 (f 87) (fun _ _ _ => rfl)).1 i hi
            unfold lf_ways_32
            rw [this, pu_has _ (by omega : i < 32)]
            cases pu_bt (f 30 u) i <;> rfl
          obtain ⟨S, S1, S2⟩ : ∃ S : Nat → Nat, (∀ i, i < 20 → lf_ways_82 u f g Y (lf_ways_32 u f) i = nI (S i)) ∧ pu_sum (fun i => S i * pu_ws (fun r q => pu_bt (f 4 r) q) role i) 20 = pu_sum (fun i => (if pu_bt (f 30 u) i = true then 1 else 0) * pu_ws (fun r q => pu_bt (f 4 r) q) role i) 20 + pu_sum (fun l => if w.2 l = 1 ∧ f 13 l = nI u then pu_ws (fun r q => pu_bt (f 4 r) q) role (f 14 l).toNatClampNeg else 0) L := by
            unfold lf_ways_82
            rw [show (f 11 7).toNatClampNeg = L by rw [v7.1]; exact hL]
            refine pu_for0 (f := st_ways_82 u f g Y) (fun k x => ∃ S : Nat → Nat, (∀ i, i < 20 → x i = nI (S i)) ∧ pu_sum (fun i => S i * pu_ws (fun r q => pu_bt (f 4 r) q) role i) 20 = pu_sum (fun i => (if pu_bt (f 30 u) i = true then 1 else 0) * pu_ws (fun r q => pu_bt (f 4 r) q) role i) 20 + pu_sum (fun l => if w.2 l = 1 ∧ f 13 l = nI u then pu_ws (fun r q => pu_bt (f 4 r) q) role (f 14 l).toNatClampNeg else 0) k) L _ ⟨fun i => if pu_bt (f 30 u) i = true then 1 else 0, t0, rfl⟩ ?_
            rintro k x hk ⟨S, S1, S2⟩
            have hs : pu_sum (fun l => if w.2 l = 1 ∧ f 13 l = nI u then pu_ws (fun r q => pu_bt (f 4 r) q) role (f 14 l).toNatClampNeg else 0) (k + 1) = pu_sum (fun l => if w.2 l = 1 ∧ f 13 l = nI u then pu_ws (fun r q => pu_bt (f 4 r) q) role (f 14 l).toNatClampNeg else 0) k + (if w.2 k = 1 ∧ f 13 k = nI u then pu_ws (fun r q => pu_bt (f 4 r) q) role (f 14 k).toNatClampNeg else 0) := rfl
            rw [hs]
            have w01 := s4 k (show k < (F1 89 201).toNatClampNeg by rw [e1, hL]; exact hk)
            have st : fn_isStanding (nI k) (am_row g 1 Y.2.2.2) = pu_bl (am_row g 1 Y.2.2.2 1 5) k := pu_hasL _ (by omega)
            unfold st_ways_82
            rw [st]
            have hr14 := (am_inbQ (hp.2.2.2.2 k (by rw [v7.1, hL]; exact hk))).2
            cases c : pu_bl (am_row g 1 Y.2.2.2 1 5) k with
            | false =>
              have : ¬ (w.2 k = 1 ∧ f 13 k = nI u) := fun h => by
                have := w01.2.mpr h.1
                rw [c] at this; cases this
              rw [if_neg this, Nat.add_zero]
              exact ⟨S, S1, S2⟩
            | true =>
              have c1 : w.2 k = 1 := w01.2.mp c
              rw [cond_true]
              by_cases c2 : f 13 k = nI u
              · rw [if_pos c2, if_pos ⟨c1, c2⟩]
                refine ⟨fun i => if i = (f 14 k).toNatClampNeg then S i + 1 else S i, fun i hi => ?_, ?_⟩
                · by_cases e : i = (f 14 k).toNatClampNeg
                  · simp only [if_pos e]
                    rw [e, pu_us, S1 _ hr14, nI_1]
                  · simp only [if_neg e]
                    rw [pu_un e]; exact S1 i hi
                · have := pu_sum_at (g := fun i => S i * pu_ws (fun r q => pu_bt (f 4 r) q) role i) (g' := fun i => (if i = (f 14 k).toNatClampNeg then S i + 1 else S i) * pu_ws (fun r q => pu_bt (f 4 r) q) role i) 20 (f 14 k).toNatClampNeg hr14 (fun i hi he => by simp only [if_neg he])
                  simp only [if_true] at this
                  rw [Nat.add_mul, Nat.one_mul] at this
                  refine Eq.trans (show _ = pu_sum (fun i => (if i = (f 14 k).toNatClampNeg then S i + 1 else S i) * pu_ws (fun r q => pu_bt (f 4 r) q) role i) 20 from rfl) ?_
                  omega
              · rw [if_neg c2, if_neg (fun h => c2 h.2), Nat.add_zero]
                exact ⟨S, S1, S2⟩
          rw [← S2, pu_countWays (F := am_row (am_row (am_row (am_row f 1 Y.1) 34 Y.2.1) 35 Y.2.2.1) 87 (lf_ways_82 u f g Y (lf_ways_32 u f))) r1 S1]
          refine congrArg nI ?_
          show pu_sum (fun n => pu_sum (fun i => S i * pu_w (fun r q => pu_bt (f 4 r) q) role n i) 20) 20 = _
          rw [pu_sum_swap (fun n i => S i * pu_w (fun r q => pu_bt (f 4 r) q) role n i) 20 20]
          exact pu_sum_c 20 fun i _ => pu_sum_mul (S i) (fun n => pu_w (fun r q => pu_bt (f 4 r) q) role n i) 20
        · exact z2.elim
  have key2 := key (am_row (am_row (am_row (am_row (am_row (am_row f 1 (fn_ways x y f g).2.1) 9 (fn_ways x y f g).2.2.1) 10 (fn_ways x y f g).2.2.2.1) 34 (fn_ways x y f g).2.2.2.2.1) 35 (fn_ways x y f g).2.2.2.2.2.1) 87 (fn_ways x y f g).2.2.2.2.2.2.1) rfl rfl
  have hx := x_ways x y f g hp.1 hp.2.1 hp.2.2.1 hp.2.2.2.1 hp.2.2.2.2 hr.1 hr.2.1
  clear key
  generalize fn_ways x y f g = Y at key2 hx
  obtain ⟨z, k1, k2⟩ := key2
  have hy := x_m_ways x y (am_row (am_row (am_row (am_row (am_row (am_row f 1 Y.2.1) 9 Y.2.2.1) 10 Y.2.2.2.1) 34 Y.2.2.2.2.1) 35 Y.2.2.2.2.2.1) 87 Y.2.2.2.2.2.2.1) (am_row g 1 Y.2.2.2.2.2.2.2) hm z k1
  exact ⟨_, _, _, _, _, pu_res hx (by decide) k2, pu_res hy (by decide) rfl, pu_I_s hI' ⟨rfl, rfl, rfl, rfl, rfl, rfl, rfl, rfl, rfl, rfl, rfl, rfl, rfl, rfl, rfl, rfl, rfl, rfl, rfl, rfl, rfl, rfl, rfl, rfl, rfl, rfl, rfl, rfl, rfl, rfl, rfl, rfl, rfl, rfl, rfl, rfl, rfl, rfl, rfl, rfl, rfl, rfl, rfl, rfl, rfl, rfl, rfl, rfl, rfl, rfl, rfl, rfl, rfl, rfl, rfl, rfl, rfl, rfl, rfl, rfl, rfl, rfl, rfl, rfl, rfl, rfl, rfl, rfl, rfl, rfl⟩ (pu_K8_r _) rfl rfl⟩
