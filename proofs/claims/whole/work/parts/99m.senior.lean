/-! PAIRS OF CALLS: senior -/
set_option linter.unusedVariables false
theorem pu_R_add {d d' : Nat → Int32} (hd : pu_ok d) {role other : Nat} (hE : ∀ r q, pu_E d' r q → pu_E d r q ∨ (r = role ∧ q = other)) {i q : Nat} (h : pu_R d' i q) : pu_R d i q ∨ (pu_R d i role ∧ pu_R d other q) := by
  refine pu_W_le (T := fun i q => pu_R d i q ∨ (pu_R d i role ∧ pu_R d other q)) (fun i => .inl (pu_R_r d i)) (fun i q e => ?_) (fun i j q h1 h2 => ?_) 20 i q h
  · rcases hE i q e with e | ⟨e1, e2⟩
    · exact .inl (pu_R_e e)
    · subst e1 e2; exact .inr ⟨pu_R_r d _, pu_R_r d _⟩
  · rcases h1 with h1 | ⟨a1, a2⟩ <;> rcases h2 with h2 | ⟨b1, b2⟩
    · exact .inl (pu_R_t hd h1 h2)
    · exact .inr ⟨pu_R_t hd h1 b1, b2⟩
    · exact .inr ⟨a1, pu_R_t hd a2 h2⟩
    · exact .inr ⟨a1, b2⟩
section
variable {s s' : Nat → Int32} {role other : Nat}
theorem pu_E_x (hr : role < 20) (ho : other < 20) (h1 : s' (144 + role) = s (144 + role) ^^^ (1 <<< (nI other &&& 31))) (h2 : ∀ r, r < 20 → r ≠ role → s' (144 + r) = s (144 + r)) (r q : Nat) : pu_E (fun r => s' (144 + r)) r q ↔ r < 20 ∧ (pu_bt (s (144 + r)) q ^^ decide (r = role ∧ q = other)) = true := by
  unfold pu_E
  refine and_congr_right fun hr2 => ?_
  simp only
  by_cases e : r = role
  · subst e
    rw [h1, pu_bx _ (by omega : other < 32)]
    simp
  · rw [h2 r hr2 e]
    simp [e]
theorem pu_ok_x (hc : pu_ok (fun r => s (144 + r))) (hr : role < 20) (ho : other < 20) (h1 : s' (144 + role) = s (144 + role) ^^^ (1 <<< (nI other &&& 31))) (h2 : ∀ r, r < 20 → r ≠ role → s' (144 + r) = s (144 + r)) : pu_ok (fun r => s' (144 + r)) := by
  intro r hr2 q hq
  simp only
  have h0 : pu_bt (s (144 + r)) q = false := hc r hr2 q hq
  by_cases e : r = role
  · subst e
    rw [h1, pu_bx _ (by omega : other < 32), h0, decide_eq_false (by omega)]; rfl
  · rw [h2 r hr2 e]; exact h0
theorem pu_cn_x (hr : role < 20) (ho : other < 20) (h1 : s' (144 + role) = s (144 + role) ^^^ (1 <<< (nI other &&& 31))) (h2 : ∀ r, r < 20 → r ≠ role → s' (144 + r) = s (144 + r)) : pu_cn (fun r => s' (144 + r)) + (if pu_bt (s (144 + role)) other = true then 1 else 0) = pu_cn (fun r => s (144 + r)) + (if pu_bt (s (144 + role)) other = true then 0 else 1) := by
  have a := pu_sum_at (g := fun r => pu_ct (s (144 + r))) (g' := fun r => pu_ct (s' (144 + r))) 20 role hr (fun r hr2 e => congrArg pu_ct (h2 r hr2 e))
  have b := pu_ct_x (s (144 + role)) ho
  simp only [h1] at a
  show pu_sum (fun r => pu_ct (s' (144 + r))) 20 + _ = pu_sum (fun r => pu_ct (s (144 + r))) 20 + _
  omega
theorem pu_Crol_add (hc : pu_Crol s) (hr : role < 20) (ho : other < 20) (hb : pu_bt (s (144 + role)) other = false) (hn : ¬ pu_R (fun r => s (144 + r)) other role) (h40 : s 203 ≠ 40) (h1 : s' (144 + role) = s (144 + role) ^^^ (1 <<< (nI other &&& 31))) (h2 : ∀ r, r < 20 → r ≠ role → s' (144 + r) = s (144 + r)) (h3 : s' 203 = s 203 + 1) : pu_Crol s' := by
  obtain ⟨g1, g2, g3, g4⟩ := hc
  have hE : ∀ r q, pu_E (fun r => s' (144 + r)) r q → pu_E (fun r => s (144 + r)) r q ∨ (r = role ∧ q = other) := fun r q h => by
    obtain ⟨a, b⟩ := (pu_E_x hr ho h1 h2 r q).mp h
    by_cases e : r = role ∧ q = other
    · exact .inr e
    · rw [decide_eq_false e, Bool.xor_false] at b
      exact .inl ⟨a, b⟩
  have cn := pu_cn_x hr ho h1 h2
  rw [hb, if_neg (by decide), if_neg (by decide)] at cn
  refine ⟨pu_ok_x g1 hr ho h1 h2, fun r q h hR => ?_, ?_, ?_⟩
  · have hR' := pu_R_add g1 hE hR
    rcases hE r q h with e | ⟨e1, e2⟩
    · rcases hR' with hR' | ⟨a, b⟩
      · exact g2 r q e hR'
      · exact hn (pu_R_t g1 (pu_R_t g1 b (pu_R_e e)) a)
    · subst e1 e2
      rcases hR' with hR' | ⟨a, b⟩
      · exact hn hR'
      · exact hn a
  · rw [h3, g3, nI_1]
    exact congrArg nI (by omega)
  · have : pu_cn (fun r => s (144 + r)) ≠ 40 := fun e => h40 (by rw [g3, e]; rfl)
    omega
theorem pu_Crol_del (hc : pu_Crol s) (hr : role < 20) (ho : other < 20) (hb : pu_bt (s (144 + role)) other = true) (h1 : s' (144 + role) = s (144 + role) ^^^ (1 <<< (nI other &&& 31))) (h2 : ∀ r, r < 20 → r ≠ role → s' (144 + r) = s (144 + r)) (h3 : s' 203 = s 203 + (-1)) : pu_Crol s' := by
  obtain ⟨g1, g2, g3, g4⟩ := hc
  have hE : ∀ r q, pu_E (fun r => s' (144 + r)) r q → pu_E (fun r => s (144 + r)) r q := fun r q h => by
    obtain ⟨a, b⟩ := (pu_E_x hr ho h1 h2 r q).mp h
    by_cases e : r = role ∧ q = other
    · obtain ⟨e1, e2⟩ := e
      subst e1 e2
      exact ⟨a, hb⟩
    · rw [decide_eq_false e, Bool.xor_false] at b
      exact ⟨a, b⟩
  have cn := pu_cn_x hr ho h1 h2
  rw [hb, if_pos rfl, if_pos rfl] at cn
  refine ⟨pu_ok_x g1 hr ho h1 h2, fun r q h hR => ?_, ?_, ?_⟩
  · refine g2 r q (hE r q h) ?_
    exact pu_W_le (T := fun i q => pu_R (fun r => s (144 + r)) i q) (fun i => pu_R_r _ i) (fun i q e => pu_R_e (hE i q e)) (fun i j q a b => pu_R_t g1 a b) 20 q r hR
  · rw [h3, g3, show pu_cn (fun r => s (144 + r)) = pu_cn (fun r => s' (144 + r)) + 1 by omega]
    exact pk_m1 _
  · omega
end
theorem pu_bits (on : Bool) (x : Int32) {b : Nat} (hb : b < 32) (h : pu_bt x b = !on) : (bif on then x ||| (1 <<< (nI b &&& 31)) else x &&& ((1 <<< (nI b &&& 31)) ^^^ (-1))) = x ^^^ (1 <<< (nI b &&& 31)) := by
  refine pu_ext fun i hi => ?_
  rw [pu_bx _ hb]
  cases on with
  | true =>
    rw [cond_true, pu_or, pu_one b hb]
    by_cases e : i = b
    · subst e; rw [h]; simp
    · simp [e]
  | false =>
    rw [cond_false, pu_and, pu_not _ hi, pu_one b hb]
    by_cases e : i = b
    · subst e; rw [h]; simp
    · simp [e]
theorem pu_putV {f : Nat → Nat → Int32} {s s' : Nat → Int32} (on : Bool) {role other : Nat} (v3 : pu_Vrol f s) (hr : role < 20) (ho : other < 20) (hok : pu_ok (fun r => s' (144 + r))) (hb : pu_bt (s (144 + role)) other = !on) (h1 : s' (144 + role) = s (144 + role) ^^^ (1 <<< (nI other &&& 31))) (h2 : ∀ r, r < 20 → r ≠ role → s' (144 + r) = s (144 + r)) (h3 : s' 203 = s 203 + (bif on then 1 else (-1))) : pu_Vrol (am_row (am_row (am_row (am_row (am_row f 3 (fn_put role other on f).1) 4 (fn_put role other on f).2.1) 5 (fn_put role other on f).2.2.1) 6 (fn_put role other on f).2.2.2.1) 7 (fn_put role other on f).2.2.2.2) s' := by
  obtain ⟨w1, w2, w3, w4, w5⟩ := v3
  have q4 : ∀ r, r < 20 → (fn_put role other on f).2.1 r = s' (144 + r) := fun r hr2 => by
    show upd (f 4) role (bif on then (f 4 role) ||| (1 <<< ((nI other) &&& 31)) else (f 4 role) &&& ((1 <<< ((nI other) &&& 31)) ^^^ (-1))) r = _
    by_cases e : r = role
    · subst e
      rw [pu_us, pu_bits on _ (by omega : other < 32) (by rw [w1 r hr2]; exact hb), w1 r hr2, h1]
    · rw [pu_un e, w1 r hr2, h2 r hr2 e]
  have q5 : ∀ r, r < 20 → ∀ q, q < 32 → (pu_bt ((fn_put role other on f).2.2.1 r) q = true ↔ pu_E ((fn_put role other on f).2.1) q r) := fun r hr2 q hq => by
    have E1 : pu_E ((fn_put role other on f).2.1) q r ↔ pu_E (fun r => s' (144 + r)) q r := by
      unfold pu_E
      refine and_congr_right fun hq2 => ?_
      rw [q4 q hq2]
    have E0 : pu_E (f 4) q r ↔ pu_E (fun r => s (144 + r)) q r := by
      unfold pu_E
      refine and_congr_right fun hq2 => ?_
      rw [w1 q hq2]
    rw [E1, pu_E_x hr ho h1 h2]
    show pu_bt (upd (f 5) other (bif on then (f 5 other) ||| (1 <<< ((nI role) &&& 31)) else (f 5 other) &&& ((1 <<< ((nI role) &&& 31)) ^^^ (-1))) r) q = true ↔ _
    have w2' := w2 r hr2 q hq
    rw [E0] at w2'
    have hb5 : pu_bt (f 5 other) role = !on := by
      have := w2 other ho role (by omega)
      rw [← hb]
      refine Bool.eq_iff_iff.mpr (this.trans ⟨fun h => ?_, fun h => ⟨hr, ?_⟩⟩)
      · rw [← w1 role hr]; exact h.2
      · rw [w1 role hr]; exact h
    by_cases e : r = other
    · subst e
      rw [pu_us, pu_bits on _ (by omega : role < 32) hb5, pu_bx _ (by omega : role < 32)]
      by_cases e2 : q = role
      · subst e2
        rw [hb5]
        have : pu_bt (s (144 + q)) r = !on := hb
        rw [this]
        simp [hr]
      · simp only [e2, decide_false, Bool.xor_false, false_and]
        exact w2'
    · rw [pu_un e]
      simp only [e, and_false, decide_false, Bool.xor_false]
      exact w2'
  have hok4 : pu_ok ((fn_put role other on f).2.1) := fun r hr2 q hq => by rw [q4 r hr2]; exact hok r hr2 q hq
  have hcl := pu_close (am_row (am_row (am_row f 3 (upd (f 3) 7 ((f 3 7) + (bif on then 1 else (-1))))) 4 (upd (f 4) role (bif on then (f 4 role) ||| (1 <<< ((nI other) &&& 31)) else (f 4 role) &&& ((1 <<< ((nI other) &&& 31)) ^^^ (-1))))) 5 (upd (f 5) other (bif on then (f 5 other) ||| (1 <<< ((nI role) &&& 31)) else (f 5 other) &&& ((1 <<< ((nI role) &&& 31)) ^^^ (-1))))) hok4 q5
  refine ⟨q4, q5, hcl.1, hcl.2, ?_⟩
  show upd (f 3) 7 ((f 3 7) + (bif on then 1 else (-1))) 7 = s' 203
  rw [pu_us, w5, h3]
theorem pu_CV_rol {f : Nat → Nat → Int32} {tk : Int64} {s s' p3 p4 p5 p6 p7 : Nat → Int32} (hc : pu_C s) (hv : pu_V f tk s) (H : ∀ j, ¬ (144 ≤ j ∧ j < 164) → j ≠ 203 → s' j = s j) (h2 : pu_Crol s') (hV : pu_Vrol (am_row (am_row (am_row (am_row (am_row f 3 p3) 4 p4) 5 p5) 6 p6) 7 p7) s') : pu_C s' ∧ pu_V (am_row (am_row (am_row (am_row (am_row f 3 p3) 4 p4) 5 p5) 6 p6) 7 p7) tk s' := by
  obtain ⟨c1, c2, c3, c4, c5, c6, c7, c8⟩ := id hc
  obtain ⟨v1, v2, v3, v4, v5, v6, v7, v8, v9⟩ := id hv
  exact ⟨⟨pu_Cpar_c (fun j h1 h2 => H j (by omega) (by omega)) c1, h2, pu_Cunl_c (fun j h1 h2 => H j (by omega) (by omega)) (H _ (by omega) (by omega)) c3, pu_Cass_c (fun j h1 h2 => H j (by omega) (by omega)) c4, pu_Ctick_c (H _ (by omega) (by omega)) c5, pu_Cln_c (H _ (by omega) (by omega)) (fun j h1 h2 => H j (by omega) (by omega)) c6, pu_Crl_c (H _ (by omega) (by omega)) (fun j h1 h2 => H j (by omega) (by omega)) c7, pu_Cbk_c (H _ (by omega) (by omega)) c8⟩, ⟨pu_Vatt_c (fun j h1 => H j (by omega) (by omega)) v1, pu_Vpar_c (fun j h1 h2 => H j (by omega) (by omega)) v2, hV, pu_Vbar_c (fun j h1 h2 => H j (by omega) (by omega)) (H _ (by omega) (by omega)) v4, pu_Vass_c (fun j h1 h2 => H j (by omega) (by omega)) v5, pu_Vtick_c (H _ (by omega) (by omega)) v6, pu_Vln_c (H _ (by omega) (by omega)) (fun j h1 h2 => H j (by omega) (by omega)) v7, pu_Vrl_c (H _ (by omega) (by omega)) c7 (fun j h1 h2 => H j (by omega) (by omega)) v8, pu_Vbk_c (fun j h1 h2 => H j (by omega) (by omega)) (fun j h1 h2 => H j (by omega) (by omega)) v9⟩⟩
theorem pu_x2 (s : Nat → Int32) (k : Nat) (b : Int32) : upd (upd s k (s k ^^^ b)) k ((upd s k (s k ^^^ b)) k ^^^ b) = s := by
  rw [pu_us, pu_xx, pu_uu, pu_uid]
theorem pu_addS {f F1 : Nat → Nat → Int32} {g : Nat → Nat → Int64} (hc : pu_C (F1 89)) (hv : pu_V f (g 11 6) (F1 89)) (hd : pu_CL (fun r => F1 89 (144 + r)) (F1 92)) {role other : Nat} (hr : role < 20) (ho : other < 20) : ∃ z, fn_m_senior (nI role) (nI other) 1 F1 = some z ∧ (fn_addSenior role other f g).1 = z.1 ∧ pu_Crol z.2.1 ∧ pu_Vrol (am_row (am_row (am_row (am_row (am_row f 3 (fn_addSenior role other f g).2.2.1) 4 (fn_addSenior role other f g).2.2.2.1) 5 (fn_addSenior role other f g).2.2.2.2.1) 6 (fn_addSenior role other f g).2.2.2.2.2.1) 7 (fn_addSenior role other f g).2.2.2.2.2.2.1) z.2.1 ∧ pu_CL (fun r => z.2.1 (144 + r)) z.2.2.1 ∧ ∀ j, ¬ (144 ≤ j ∧ j < 164) → j ≠ 203 → z.2.1 j = F1 89 j := by
  obtain ⟨c1, c2, c3, c4, c5, c6, c7, c8⟩ := id hc
  obtain ⟨v1, v2, v3, v4, v5, v6, v7, v8, v9⟩ := id hv
  obtain ⟨g1, g2, g3, g4⟩ := id c2
  have i20 : ∀ n, n < 20 → fn_m_isRole (nI n) = true := by decide
  have hD := pu_dn v3 hd
  unfold fn_m_senior fn_addSenior
  rw [i20 role hr, i20 other ho, show fn_m_isIn 1 0 1 = true from by decide, cond_true, cond_true, cond_true, nI_clamp (show role < 2147483648 by omega), nI_clamp (show other < 2147483648 by omega), pu_mhas _ (by omega : other < 32), pu_has _ (by omega : other < 32), v3.1 role hr]
  cases hb : pu_bt (F1 89 (144 + role)) other with
  | true => exact ⟨_, rfl, rfl, c2, v3, hd, fun _ _ _ => rfl⟩
  | false =>
    rw [cond_false, if_neg (show ¬ am_b false = am_b (if (1 : Int32) = 1 then true else false) by decide), if_pos (show (1 : Int32) = 1 from rfl), v3.2.2.2.2]
    by_cases h40 : F1 89 203 = 40
    · rw [if_pos h40, if_neg (by rw [h40]; decide)]
      exact ⟨_, rfl, rfl, c2, v3, hd, fun _ _ _ => rfl⟩
    · have lt40 : F1 89 203 < 40 := by
        have : pu_cn (fun r => F1 89 (144 + r)) ≠ 40 := fun e => h40 (by rw [g3, e]; rfl)
        rw [g3]
        exact nI_lt (b := 40) (by omega) (by omega)
      rw [if_neg h40, if_pos lt40, pu_mhas _ (by omega : role < 32), pu_has _ (by omega : role < 32), hD other ho]
      cases hR : pu_bt (F1 92 other) role with
      | true => exact ⟨_, rfl, rfl, c2, v3, hd, fun _ _ _ => rfl⟩
      | false =>
        have hn : ¬ pu_R (fun r => F1 89 (144 + r)) other role := fun h => by
          rw [(hd other ho role (by omega)).mpr h] at hR; cases hR
        rw [cond_false, cond_false]
        obtain ⟨s1, hs1⟩ : ∃ s1, s1 = upd (F1 89) (144 + role) (F1 89 (144 + role) ^^^ (1 <<< (nI other &&& 31))) := ⟨_, rfl⟩
        have a1 : s1 (144 + role) = F1 89 (144 + role) ^^^ (1 <<< (nI other &&& 31)) := by rw [hs1]; exact pu_us
        have a2 : ∀ j, j ≠ 144 + role → s1 j = F1 89 j := fun j hj => by rw [hs1]; exact pu_un hj
        have ok1 := pu_ok_x g1 hr ho a1 (fun r hr2 e => a2 _ (by omega))
        have hs2 : upd s1 (144 + role) (s1 (144 + role) ^^^ (1 <<< (nI other &&& 31))) = F1 89 := by rw [hs1]; exact pu_x2 _ _ _
        rw [← hs1, hs2]
        clear hs1
        -- with its number
        have b1 : upd s1 203 (F1 89 203 + 1) (144 + role) = F1 89 (144 + role) ^^^ (1 <<< (nI other &&& 31)) := (pu_un (by omega)).trans a1
        have b2 : ∀ r, r < 20 → r ≠ role → upd s1 203 (F1 89 203 + 1) (144 + r) = F1 89 (144 + r) := fun r hr2 e => (pu_un (by omega)).trans (a2 _ (by omega))
        have b3 : upd s1 203 (F1 89 203 + 1) 203 = F1 89 203 + 1 := pu_us
        have R1 := pu_Crol_add c2 hr ho hb hn h40 b1 b2 b3
        have V1 := pu_putV (f := f) true v3 hr ho R1.1 hb b1 b2 b3
        obtain ⟨y14, l1, l2⟩ := pu_lattice (am_row F1 89 s1) ok1
        have l2' : pu_CL (fun r => s1 (144 + r)) y14 := l2
        have l3 : pu_CL (fun r => upd s1 203 (F1 89 203 + 1) (144 + r)) y14 := pu_CL_c (s := s1) (fun j h1 h2 => pu_un (by omega)) l2'
        have m1 : am_mOK s1 := pu_mOK (pu_Cln_c (a2 _ (by omega)) (fun j h1 h2 => a2 j (by omega)) c6) (pu_Crl_c (a2 _ (by omega)) (fun j h1 h2 => a2 j (by omega)) c7)
        have hsb : (fn_someBarred (am_row (am_row (am_row (am_row (am_row f 3 (fn_put role other true f).1) 4 (fn_put role other true f).2.1) 5 (fn_put role other true f).2.2.1) 6 (fn_put role other true f).2.2.2.1) 7 (fn_put role other true f).2.2.2.2) g).1 = (fn_m_isAnyUnlike_153 (am_row (am_row F1 89 s1) 92 y14)).1 := pu_some (f := (am_row (am_row (am_row (am_row (am_row f 3 (fn_put role other true f).1) 4 (fn_put role other true f).2.1) 5 (fn_put role other true f).2.2.1) 6 (fn_put role other true f).2.2.2.1) 7 (fn_put role other true f).2.2.2.2)) (f' := am_row (am_row F1 89 s1) 92 y14) ((show f 2 12 = F1 89 200 from v6).trans (a2 200 (by omega)).symm) (pu_Vln_c (a2 _ (by omega)) (fun j h1 h2 => a2 j (by omega)) v7) (pu_Cln_c (a2 _ (by omega)) (fun j h1 h2 => a2 j (by omega)) c6) (pu_Vass_c (fun j h1 h2 => a2 j (by omega)) v5) (pu_dn V1 l3) (fun r hr2 => (v4.1 r hr2).trans (a2 _ (by omega)).symm)
        rw [l1, am_ob_s, am_chk_p m1]
        generalize fn_put role other true f = P at V1 hsb ⊢
        generalize fn_someBarred (am_row (am_row (am_row (am_row (am_row f 3 P.1) 4 P.2.1) 5 P.2.2.1) 6 P.2.2.2.1) 7 P.2.2.2.2) g = SB at hsb ⊢
        generalize fn_m_isAnyUnlike_153 (am_row (am_row F1 89 s1) 92 y14) = AU at hsb ⊢
        rw [hsb]
        cases AU.1 with
        | true =>
          rw [cond_true, cond_true]
          obtain ⟨y18, l4, l5⟩ := pu_lattice (am_row (am_row (am_row (am_row (am_row F1 89 (F1 89)) 92 y14) 93 AU.2.1) 94 AU.2.2.1) 96 AU.2.2.2) g1
          have l5' : pu_CL (fun r => F1 89 (144 + r)) y18 := l5
          rw [l4, am_ob_s]
          have V2 := pu_putV (f := am_row (am_row (am_row (am_row (am_row (am_row (am_row (am_row f 1 SB.2.1) 3 P.1) 4 P.2.1) 5 P.2.2.1) 6 P.2.2.2.1) 7 P.2.2.2.2) 34 SB.2.2.1) 35 SB.2.2.2.1) (s := upd s1 203 (F1 89 203 + 1)) (s' := F1 89) false V1 hr ho g1 (by rw [b1, pu_bx _ (by omega : other < 32), hb]; simp) (by rw [b1, pu_xx]) (fun r hr2 e => (b2 r hr2 e).symm) (by rw [b3, g3, nI_1]; exact (pk_m1 _).symm)
          exact ⟨_, rfl, rfl, c2, V2, l5', fun _ _ _ => rfl⟩
        | false =>
          rw [cond_false, cond_false, a2 203 (by omega)]
          refine ⟨_, rfl, ?_, R1, V1, l3, fun j h1 h2 => (pu_un h2).trans (a2 j (by omega))⟩
          exact V1.2.2.2.2.trans b3
theorem pp_senior : am_Pair pu_Inv 18 4 151 4 3 := pu_P3 fun f g hI x y w => by
  have hI' := hI
  obtain ⟨hc, hv, hd, hk, ht, hg⟩ := hI
  obtain ⟨c1, c2, c3, c4, c5, c6, c7, c8⟩ := id hc
  obtain ⟨v1, v2, v3, v4, v5, v6, v7, v8, v9⟩ := id hv
  have hp := pu_pl c6 v7
  have hr := pu_pr c7 v8
  have key : ∀ F1 : Nat → Nat → Int32, F1 89 = f 89 → F1 92 = f 92 → ∃ z, fn_m_senior x y w F1 = some z ∧ (fn_senior x y w f g).1 = z.1 ∧ pu_Crol z.2.1 ∧ pu_Vrol (am_row (am_row (am_row (am_row (am_row f 3 (fn_senior x y w f g).2.2.1) 4 (fn_senior x y w f g).2.2.2.1) 5 (fn_senior x y w f g).2.2.2.2.1) 6 (fn_senior x y w f g).2.2.2.2.2.1) 7 (fn_senior x y w f g).2.2.2.2.2.2.1) z.2.1 ∧ pu_CL (fun r => z.2.1 (144 + r)) z.2.2.1 ∧ ∀ j, ¬ (144 ≤ j ∧ j < 164) → j ≠ 203 → z.2.1 j = f 89 j := by
    intro F1 e1 e2
    by_cases hw : w = 1
    · subst hw
      unfold fn_senior
      rw [show fn_isRole x = fn_m_isRole x from rfl, show fn_isRole y = fn_m_isRole y from rfl, show fn_within01 1 = true from by decide, if_pos (show (1 : Int32) = 1 from rfl)]
      cases h1 : fn_m_isRole x with
      | false =>
        refine ⟨((-1), F1 89, F1 92, F1 93, F1 94, F1 96), ?_, rfl, by rw [e1]; exact c2, by rw [e1]; exact v3, by rw [e1, e2]; exact hd, fun j _ _ => by rw [e1]⟩
        unfold fn_m_senior; rw [h1]; rfl
      | true =>
        cases h2 : fn_m_isRole y with
        | false =>
          refine ⟨((-1), F1 89, F1 92, F1 93, F1 94, F1 96), ?_, rfl, by rw [e1]; exact c2, by rw [e1]; exact v3, by rw [e1, e2]; exact hd, fun j _ _ => by rw [e1]⟩
          unfold fn_m_senior; rw [h1, h2]; rfl
        | true =>
          obtain ⟨role, r1, r2⟩ := am_mRole h1
          obtain ⟨other, o1, o2⟩ := am_mRole h2
          subst r2 o2
          rw [nI_clamp (show role < 2147483648 by omega), nI_clamp (show other < 2147483648 by omega)]
          obtain ⟨z, z1, z2, z3, z4, z5, z6⟩ := pu_addS (f := f) (F1 := F1) (g := g) (by rw [e1]; exact hc) (by rw [e1]; exact hv) (by rw [e1, e2]; exact hd) r1 o1
          exact ⟨z, z1, z2, z3, z4, z5, by rw [← e1]; exact z6⟩
    · unfold fn_senior fn_m_senior
      rw [show fn_isRole x = fn_m_isRole x from rfl, show fn_isRole y = fn_m_isRole y from rfl, pu_01]
      have none' : ∀ q : Int32, ∃ z : Int32 × (Nat → Int32) × (Nat → Int32) × (Nat → Int32) × (Nat → Int32) × (Nat → Int32), some (q, F1 89, F1 92, F1 93, F1 94, F1 96) = some z ∧ q = z.1 ∧ pu_Crol z.2.1 ∧ pu_Vrol (am_row (am_row (am_row (am_row (am_row f 3 (f 3)) 4 (f 4)) 5 (f 5)) 6 (f 6)) 7 (f 7)) z.2.1 ∧ pu_CL (fun r => z.2.1 (144 + r)) z.2.2.1 ∧ ∀ j, ¬ (144 ≤ j ∧ j < 164) → j ≠ 203 → z.2.1 j = f 89 j := fun q => ⟨_, rfl, rfl, by rw [e1]; exact c2, by rw [e1]; exact v3, by rw [e1, e2]; exact hd, fun j _ _ => by rw [e1]⟩
      cases h1 : fn_m_isRole x with
      | false => exact none' (-1)
      | true =>
        rw [cond_true, cond_true]
        cases h2 : fn_m_isRole y with
        | false => exact none' (-1)
        | true =>
          rw [cond_true, cond_true]
          cases h3 : fn_m_isIn w 0 1 with
          | false => exact none' (-1)
          | true =>
            obtain ⟨role, r1, r2⟩ := am_mRole h1
            obtain ⟨other, o1, o2⟩ := am_mRole h2
            subst r2 o2
            rw [cond_true, cond_true, if_neg hw, if_neg hw, if_neg hw, nI_clamp (show role < 2147483648 by omega), nI_clamp (show other < 2147483648 by omega), pu_mhas _ (by omega : other < 32), pu_has _ (by omega : other < 32), e1, v3.1 role r1]
            cases hb : pu_bt (f 89 (144 + role)) other with
            | false =>
              rw [if_pos rfl, cond_false]
              exact ⟨_, rfl, rfl, c2, v3, by rw [e2]; exact hd, fun j _ _ => rfl⟩
            | true =>
              rw [if_neg (show ¬ am_b true = am_b false by decide), cond_true]
              obtain ⟨s1, hs1⟩ : ∃ s1, s1 = upd (f 89) (144 + role) (f 89 (144 + role) ^^^ (1 <<< (nI other &&& 31))) := ⟨_, rfl⟩
              have a1 : s1 (144 + role) = f 89 (144 + role) ^^^ (1 <<< (nI other &&& 31)) := by rw [hs1]; exact pu_us
              have a2 : ∀ j, j ≠ 144 + role → s1 j = f 89 j := fun j hj => by rw [hs1]; exact pu_un hj
              rw [← hs1]
              clear hs1
              have b1 : upd s1 203 (f 89 203 + (-1)) (144 + role) = f 89 (144 + role) ^^^ (1 <<< (nI other &&& 31)) := (pu_un (by omega)).trans a1
              have b2 : ∀ r, r < 20 → r ≠ role → upd s1 203 (f 89 203 + (-1)) (144 + r) = f 89 (144 + r) := fun r hr2 e => (pu_un (by omega)).trans (a2 _ (by omega))
              have b3 : upd s1 203 (f 89 203 + (-1)) 203 = f 89 203 + (-1) := pu_us
              have R1 := pu_Crol_del c2 r1 o1 hb b1 b2 b3
              have V1 := pu_putV (f := f) false v3 r1 o1 R1.1 hb b1 b2 b3
              obtain ⟨y14, l1, l2⟩ := pu_lattice (am_row F1 89 s1) (pu_ok_x c2.1 r1 o1 a1 (fun r hr2 e => a2 _ (by omega)))
              have l3 : pu_CL (fun r => upd s1 203 (f 89 203 + (-1)) (144 + r)) y14 := pu_CL_c (s := s1) (fun j h1 h2 => pu_un (by omega)) l2
              rw [l1, am_ob_s, a2 203 (by omega)]
              refine ⟨_, rfl, ?_, R1, V1, l3, fun j h1 h2 => (pu_un h2).trans (a2 j (by omega))⟩
              exact V1.2.2.2.2.trans b3
  have key2 := key (am_row (am_row (am_row (am_row (am_row (am_row (am_row (am_row f 1 (fn_senior x y w f g).2.1) 3 (fn_senior x y w f g).2.2.1) 4 (fn_senior x y w f g).2.2.2.1) 5 (fn_senior x y w f g).2.2.2.2.1) 6 (fn_senior x y w f g).2.2.2.2.2.1) 7 (fn_senior x y w f g).2.2.2.2.2.2.1) 34 (fn_senior x y w f g).2.2.2.2.2.2.2.1) 35 (fn_senior x y w f g).2.2.2.2.2.2.2.2.1) rfl rfl
  have hx := x_senior x y w f g hp.1 hp.2.1 hp.2.2.1 hp.2.2.2.1 hp.2.2.2.2 hr.1 hr.2.1
  clear key
  generalize fn_senior x y w f g = Y at key2 hx
  obtain ⟨z, k1, k2, k3, k4, k5, k6⟩ := key2
  have hy := x_m_senior x y w (am_row (am_row (am_row (am_row (am_row (am_row (am_row (am_row f 1 Y.2.1) 3 Y.2.2.1) 4 Y.2.2.2.1) 5 Y.2.2.2.2.1) 6 Y.2.2.2.2.2.1) 7 Y.2.2.2.2.2.2.1) 34 Y.2.2.2.2.2.2.2.1) 35 Y.2.2.2.2.2.2.2.2.1) (am_row g 1 Y.2.2.2.2.2.2.2.2.2) z k1
  obtain ⟨dC, dV⟩ := pu_CV_rol hc hv k6 k3 k4
  refine ⟨_, _, _, _, _, pu_res hx (by decide) k2, pu_res hy (by decide) rfl, dC, dV, k5, ?_, ht, hg⟩
  obtain ⟨i1, i2, sk, i3, i4, i5⟩ := hk
  exact ⟨i1, i2, sk, i3, pu_V_eq i3.2.2.2.2.2.2.1 i4 ⟨rfl, rfl, rfl, rfl, rfl, rfl, rfl, rfl, rfl, fun _ _ => rfl, fun _ _ => rfl, fun _ _ => rfl, fun _ _ => rfl, fun _ _ => rfl, fun _ _ => rfl, fun _ _ => rfl, fun _ _ => rfl, fun _ _ => rfl, fun _ _ => rfl, fun _ _ => rfl, fun _ _ => rfl, fun _ _ => rfl, fun _ _ => rfl, fun _ _ => rfl, fun _ _ => rfl, fun _ _ => rfl, fun _ _ => rfl, fun _ _ => rfl, fun _ _ => rfl, fun _ _ => rfl, fun _ _ => rfl, fun _ _ => rfl, fun _ _ => rfl, fun _ _ => rfl, rfl⟩, i5⟩
