/-! THE PURE LAYER: what a change of the row leaves as it was -/
set_option linter.unusedVariables false
theorem pu_sum_c {g g' : Nat → Nat} : ∀ n, (∀ i, i < n → g' i = g i) → pu_sum g' n = pu_sum g n := by
  intro n
  induction n with
  | zero => intro _; rfl
  | succ n ih => intro h; show pu_sum g' n + g' n = pu_sum g n + g n; rw [ih (fun i hi => h i (by omega)), h n (by omega)]
theorem pu_cn_c {d d' : Nat → Int32} (h : ∀ r, r < 20 → d' r = d r) : pu_cn d' = pu_cn d := pu_sum_c 20 fun r hr => by rw [h r hr]
theorem pu_E_c {d d' : Nat → Int32} (h : ∀ r, r < 20 → d' r = d r) : pu_E d' = pu_E d := by
  funext r q
  unfold pu_E
  by_cases hr : r < 20
  · rw [h r hr]
  · simp [hr]
section
variable {s s' : Nat → Int32} {F : Nat → Nat → Int32} {tk : Int64}
theorem pu_Cpar_c (h : ∀ j, 128 ≤ j → j < 144 → s' j = s j) (hc : pu_Cpar s) : pu_Cpar s' := by
  obtain ⟨h1, k, hk⟩ := hc
  exact ⟨fun t ht => by rw [h _ (by omega) (by omega)]; exact h1 t ht, k, fun t ht j hj e => hk t ht j hj (by rw [← h _ (by omega) (by omega)]; exact e)⟩
theorem pu_Crol_c (h : ∀ j, 144 ≤ j → j < 164 → s' j = s j) (h3 : s' 203 = s 203) (hc : pu_Crol s) : pu_Crol s' := by
  obtain ⟨h1, h2, h4, h5⟩ := hc
  have e : ∀ r, r < 20 → (fun r => s' (144 + r)) r = (fun r => s (144 + r)) r := fun r hr => h _ (by omega) (by omega)
  refine ⟨fun r hr q hq => ?_, fun r q hE hR => ?_, ?_, ?_⟩
  · show pu_bt (s' (144 + r)) q = false
    rw [h _ (by omega) (by omega)]; exact h1 r hr q hq
  · rw [pu_E_c e] at hE
    exact h2 r q hE ((pu_R_congr e).mp hR)
  · rw [pu_cn_c e, h3]; exact h4
  · rw [pu_cn_c e]; exact h5
theorem pu_Cunl_c (h : ∀ j, 164 ≤ j → j < 184 → s' j = s j) (h3 : s' 204 = s 204) (hc : pu_Cunl s) : pu_Cunl s' := by
  obtain ⟨h1, h2, h4, n, n1, n2, n3⟩ := hc
  have e : ∀ r, r < 20 → (fun r => s' (164 + r)) r = (fun r => s (164 + r)) r := fun r hr => h _ (by omega) (by omega)
  refine ⟨fun r hr q hq => ?_, fun a ha b hb => ?_, fun a ha => ?_, n, n1, h3.trans n2, (pu_cn_c e).trans n3⟩
  · show pu_bt (s' (164 + r)) q = false
    rw [h _ (by omega) (by omega)]; exact h1 r hr q hq
  · rw [h _ (by omega) (by omega), h _ (by omega) (by omega)]; exact h2 a ha b hb
  · rw [h _ (by omega) (by omega)]; exact h4 a ha
theorem pu_Cass_c (h : ∀ j, 184 ≤ j → j < 200 → s' j = s j) (hc : pu_Cass s) : pu_Cass s' := fun u hu q hq => by rw [h _ (by omega) (by omega)]; exact hc u hu q hq
theorem pu_Ctick_c (h : s' 200 = s 200) (hc : pu_Ctick s) : pu_Ctick s' := by obtain ⟨n, n1, n2⟩ := hc; exact ⟨n, n1, h.trans n2⟩
theorem pu_Cln_c (h3 : s' 201 = s 201) (h : ∀ j, 210 ≤ j → j < 490 → s' j = s j) (hc : pu_Cln s) : pu_Cln s' := by
  obtain ⟨L, l1, l2, l3, l4⟩ := hc
  refine ⟨L, l1, h3.trans l2, fun l hl => ?_, fun l hl hl' => ?_⟩
  · have := l3 l hl
    rw [h (210 + 7 * l + 0) (by omega) (by omega), h (210 + 7 * l + 1) (by omega) (by omega), h (210 + 7 * l + 2) (by omega) (by omega), h (210 + 7 * l + 4) (by omega) (by omega), h (210 + 7 * l + 5) (by omega) (by omega), h (210 + 7 * l + 6) (by omega) (by omega)]
    exact this
  · rw [h _ (by omega) (by omega)]; exact l4 l hl hl'
theorem pu_Crl_c (h3 : s' 202 = s 202) (h : ∀ j, 490 ≤ j → j < 760 → s' j = s j) (hc : pu_Crl s) : pu_Crl s' := by
  obtain ⟨R, r1, r2, r3, r4⟩ := hc
  refine ⟨R, r1, h3.trans r2, fun r hr => ?_, fun r hr => ?_⟩
  · have := r3 r hr
    rw [h (490 + 9 * r + 1) (by omega) (by omega), h (490 + 9 * r + 3) (by omega) (by omega)]
    exact this
  · have := r4 r hr
    rw [h (490 + 9 * r + 0) (by omega) (by omega), h (490 + 9 * r + 2) (by omega) (by omega), h (490 + 9 * r + 4) (by omega) (by omega), h (490 + 9 * r + 5) (by omega) (by omega), h (490 + 9 * r + 6) (by omega) (by omega), h (490 + 9 * r + 8) (by omega) (by omega)]
    exact this
theorem pu_Cbk_c (h : s' 208 = s 208) (hc : pu_Cbk s) : pu_Cbk s' := by obtain ⟨n, n1, n2⟩ := hc; exact ⟨n, n1, h.trans n2⟩
theorem pu_Vatt_c (h : ∀ j, j < 128 → s' j = s j) (hv : pu_Vatt F s) : pu_Vatt F s' := ⟨fun k hk => by rw [h _ (by omega)]; exact hv.1 k hk, fun k hk => by rw [h _ (by omega)]; exact hv.2 k hk⟩
theorem pu_Vpar_c (h : ∀ j, 128 ≤ j → j < 144 → s' j = s j) (hv : pu_Vpar F s) : pu_Vpar F s' := fun t ht => by rw [h _ (by omega) (by omega)]; exact hv t ht
theorem pu_Vrol_c (h : ∀ j, 144 ≤ j → j < 164 → s' j = s j) (h3 : s' 203 = s 203) (hv : pu_Vrol F s) : pu_Vrol F s' := ⟨fun r hr => by rw [h _ (by omega) (by omega)]; exact hv.1 r hr, hv.2.1, hv.2.2.1, hv.2.2.2.1, hv.2.2.2.2.trans h3.symm⟩
theorem pu_Vbar_c (h : ∀ j, 164 ≤ j → j < 184 → s' j = s j) (h3 : s' 204 = s 204) (hv : pu_Vbar F s) : pu_Vbar F s' := ⟨fun r hr => by rw [h _ (by omega) (by omega)]; exact hv.1 r hr, hv.2.trans h3.symm⟩
theorem pu_Vass_c (h : ∀ j, 184 ≤ j → j < 200 → s' j = s j) (hv : pu_Vass F s) : pu_Vass F s' := fun u hu => by rw [h _ (by omega) (by omega)]; exact hv u hu
theorem pu_Vtick_c (h : s' 200 = s 200) (hv : pu_Vtick F s) : pu_Vtick F s' := Eq.trans hv h.symm
theorem pu_Vln_c (h3 : s' 201 = s 201) (h : ∀ j, 210 ≤ j → j < 490 → s' j = s j) (hv : pu_Vln F tk s) : pu_Vln F tk s' := by
  refine ⟨hv.1.trans h3.symm, fun l hl => ?_⟩
  have := hv.2 l hl
  rw [h (210 + 7 * l + 0) (by omega) (by omega), h (210 + 7 * l + 1) (by omega) (by omega), h (210 + 7 * l + 2) (by omega) (by omega), h (210 + 7 * l + 3) (by omega) (by omega), h (210 + 7 * l + 4) (by omega) (by omega), h (210 + 7 * l + 5) (by omega) (by omega), h (210 + 7 * l + 6) (by omega) (by omega)]
  exact this
theorem pu_Vrl_c (h3 : s' 202 = s 202) (hc : pu_Crl s) (h : ∀ j, 490 ≤ j → j < 3160 → s' j = s j) (hv : pu_Vrl F s) : pu_Vrl F s' := by
  obtain ⟨R, R1, R2, R3, R4⟩ := hc
  have hR : (s 202).toNatClampNeg = R := (pu_cl R2 (by omega)).2
  obtain ⟨v1, v2, v3, v4, v5⟩ := hv
  refine ⟨v1.trans h3.symm, fun r hr => ?_, fun r hr => ?_, fun r hr => ?_, fun r hr hn => ?_⟩
  · have := v2 r hr
    rw [h (490 + 9 * r + 1) (by omega) (by omega), h (490 + 9 * r + 2) (by omega) (by omega), h (490 + 9 * r + 3) (by omega) (by omega), h (490 + 9 * r + 5) (by omega) (by omega), h (490 + 9 * r + 6) (by omega) (by omega), h (490 + 9 * r + 7) (by omega) (by omega), h (490 + 9 * r + 8) (by omega) (by omega)]
    exact this
  · rw [h3, h (490 + 9 * r + 0) (by omega) (by omega)]; exact v3 r hr
  · rw [h3] at hr
    rw [h (490 + 9 * r + 0) (by omega) (by omega), h (490 + 9 * r + 4) (by omega) (by omega)]; exact v4 r hr
  · rw [h3] at hr
    rw [h (490 + 9 * r + 8) (by omega) (by omega)] at hn ⊢
    obtain ⟨V, w1, w2⟩ := v5 r hr hn
    obtain ⟨-, -, -, -, ⟨a, a1, a2⟩⟩ := R4 r (by omega)
    have ha := (pu_cl a2 (by omega)).2
    exact ⟨V, pu_Pre_mv w1 (fun x hx => h _ (by omega) (by omega)), w2⟩
theorem pu_Vbk_c (h : ∀ j, 205 ≤ j → j < 209 → s' j = s j) (h2 : ∀ j, 3160 ≤ j → j < 3340 → s' j = s j) (hv : pu_Vbk F s) : pu_Vbk F s' := ⟨hv.1.trans (h 208 (by omega) (by omega)).symm, fun j hj => by rw [h2 _ (by omega) (by omega)]; exact hv.2.1 j hj, fun j hj => by rw [h _ (by omega) (by omega)]; exact hv.2.2 j hj⟩
theorem pu_CL_c {d : Nat → Int32} (h : ∀ j, 144 ≤ j → j < 164 → s' j = s j) (hd : pu_CL (fun r => s (144 + r)) d) : pu_CL (fun r => s' (144 + r)) d := fun r hr q hq => (hd r hr q hq).trans (pu_R_congr fun r hr => (h _ (by omega) (by omega)).symm)
end
/-! pairs of calls -/
theorem pu_res {d j n : Nat} {vs : List Value} {μ μ1 : am_M} {x r : Int32} (h : am_D d j n vs μ (some (.int x), μ1)) (hd : d ≤ 900) (e : x = r) : am_D 900 j n vs μ (some (.int r), μ1) := e ▸ h.le hd
def pu_pair (f : Nat → Nat → Int32) (g : Nat → Nat → Int64) (jx nx jm nm : Nat) (vs : List Value) : Prop := ∃ (r : Int32) (f1 : Nat → Nat → Int32) (g1 : Nat → Nat → Int64) (f2 : Nat → Nat → Int32) (g2 : Nat → Nat → Int64), am_D 900 jx nx (.ref 0 :: vs) (am_S f g) (some (.int r), am_S f1 g1) ∧ am_D 900 jm nm (.ref 88 :: vs) (am_S f1 g1) (some (.int r), am_S f2 g2) ∧ pu_I f2 g2
theorem pu_P {jx nx jm nm n : Nat} (h : ∀ f g, pu_I f g → ∀ as : List Int32, as.length = n → pu_pair f g jx nx jm nm (as.map .int)) : am_Pair pu_Inv jx nx jm nm n := by
  rintro μ as hn ⟨f, g, rfl, hI⟩
  obtain ⟨r, f1, g1, f2, g2, h1, h2, h3⟩ := h f g hI as hn
  exact ⟨r, am_S f1 g1, am_S f2 g2, h1, h2, ⟨f2, g2, rfl, h3⟩, rfl, rfl, rfl, rfl, rfl⟩
theorem pu_P0 {jx nx jm nm : Nat} (h : ∀ f g, pu_I f g → pu_pair f g jx nx jm nm []) : am_Pair pu_Inv jx nx jm nm 0 := pu_P fun f g hI as hn => by
  match as, hn with
  | [], _ => exact h f g hI
theorem pu_P1 {jx nx jm nm : Nat} (h : ∀ f g, pu_I f g → ∀ a, pu_pair f g jx nx jm nm [.int a]) : am_Pair pu_Inv jx nx jm nm 1 := pu_P fun f g hI as hn => by
  match as, hn with
  | [a], _ => exact h f g hI a
theorem pu_P2 {jx nx jm nm : Nat} (h : ∀ f g, pu_I f g → ∀ a b, pu_pair f g jx nx jm nm [.int a, .int b]) : am_Pair pu_Inv jx nx jm nm 2 := pu_P fun f g hI as hn => by
  match as, hn with
  | [a, b], _ => exact h f g hI a b
theorem pu_P3 {jx nx jm nm : Nat} (h : ∀ f g, pu_I f g → ∀ a b c, pu_pair f g jx nx jm nm [.int a, .int b, .int c]) : am_Pair pu_Inv jx nx jm nm 3 := pu_P fun f g hI as hn => by
  match as, hn with
  | [a, b, c], _ => exact h f g hI a b c
theorem pu_P4 {jx nx jm nm : Nat} (h : ∀ f g, pu_I f g → ∀ a b c d, pu_pair f g jx nx jm nm [.int a, .int b, .int c, .int d]) : am_Pair pu_Inv jx nx jm nm 4 := pu_P fun f g hI as hn => by
  match as, hn with
  | [a, b, c, d], _ => exact h f g hI a b c d
theorem pu_P5 {jx nx jm nm : Nat} (h : ∀ f g, pu_I f g → ∀ a b c d e, pu_pair f g jx nx jm nm [.int a, .int b, .int c, .int d, .int e]) : am_Pair pu_Inv jx nx jm nm 5 := pu_P fun f g hI as hn => by
  match as, hn with
  | [a, b, c, d, e], _ => exact h f g hI a b c d e
theorem pu_01 (v : Int32) : fn_within01 v = fn_m_isIn v 0 1 := by
  unfold fn_within01 fn_m_isIn
  have h0 : (0 : Int32).toInt = 0 := rfl
  have h1 : (1 : Int32).toInt = 1 := rfl
  by_cases c : v = 0
  · subst c; rfl
  · by_cases d : v = 1
    · subst d; rfl
    · rw [if_neg c, if_neg d]
      by_cases e : v < 0
      · rw [if_pos e]
      · rw [if_neg e, if_pos]
        rw [Int32.lt_iff_toInt_lt] at e ⊢
        have c' : v.toInt ≠ 0 := fun z => c (Int32.toInt_inj.mp z)
        have d' : v.toInt ≠ 1 := fun z => d (Int32.toInt_inj.mp z)
        omega
theorem pu_isRule {F f' : Nat → Nat → Int32} (hv : pu_Vrl F (f' 89)) (hc : pu_Crl (f' 89)) (v : Int32) : fn_isRule v F = fn_m_isRule v f' := by
  obtain ⟨R, r1, r2, r3, r4⟩ := hc
  have hR := (pu_cl r2 (by omega)).2
  unfold fn_isRule fn_m_isRule
  rw [hv.1]
  show (bif fn_m_isIn v 0 (f' 89 202 - 1) then _ else false) = _
  cases h : fn_m_isIn v 0 (f' 89 202 - 1) with
  | false => rfl
  | true =>
    obtain ⟨j, j1, j2⟩ := am_mInM h r2 (by omega)
    subst j2
    rw [cond_true, cond_true, pu_has _ (by omega : j < 32), nI_clamp (by omega)]
    have h2 := hv.2.2.1 j (by omega)
    show _ = (if f' 89 (490 + 9 * j + 0) = 2 then false else true)
    by_cases c : f' 89 (490 + 9 * j + 0) = 2
    · rw [if_pos c]
      cases d : pu_bt (F 18 8) j with
      | false => rfl
      | true => exact absurd c (h2.mp d).2
    · rw [if_neg c, h2.mpr ⟨by omega, c⟩]; rfl
/-- a rule that is there -/
theorem pu_ruleOf {f' : Nat → Nat → Int32} (hc : pu_Crl (f' 89)) {v : Int32} (h : fn_m_isRule v f' = true) : ∃ r, r < 30 ∧ r < (f' 89 202).toNatClampNeg ∧ v = nI r ∧ f' 89 (490 + 9 * r + 0) ≠ 2 := by
  obtain ⟨R, r1, r2, r3, r4⟩ := hc
  have hR := (pu_cl r2 (by omega)).2
  unfold fn_m_isRule at h
  cases h1 : fn_m_isIn v 0 (f' 89 202 - 1) with
  | false => rw [h1] at h; cases h
  | true =>
    obtain ⟨j, j1, j2⟩ := am_mInM h1 r2 (by omega)
    rw [h1, cond_true, j2, nI_clamp (by omega)] at h
    refine ⟨j, by omega, by omega, j2, fun e => ?_⟩
    rw [show fn_m_ruleAt j 0 f' = f' 89 (490 + 9 * j + 0) from rfl, if_pos e] at h
    cases h
theorem pu_isLoan {F f' : Nat → Nat → Int32} {tk : Int64} (hv : pu_Vln F tk (f' 89)) (v : Int32) : fn_isLoan v F = fn_m_isIn v 0 (f' 89 201 - 1) := by
  unfold fn_isLoan
  rw [hv.1]
  rfl
theorem pu_loanOf {f' : Nat → Nat → Int32} (hc : pu_Cln (f' 89)) {v : Int32} (h : fn_m_isIn v 0 (f' 89 201 - 1) = true) : ∃ l, l < 40 ∧ l < (f' 89 201).toNatClampNeg ∧ v = nI l := by
  obtain ⟨L, l1, l2, l3⟩ := hc
  have hL := (pu_cl l2 (by omega)).2
  obtain ⟨j, j1, j2⟩ := am_mInM h l2 (by omega)
  exact ⟨j, by omega, by omega, j2⟩
