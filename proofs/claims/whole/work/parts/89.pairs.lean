/-! PAIRS OF CALLS: within, under, roles, join, uses, holds, loan -/
set_option linter.unusedVariables false
theorem pu_inter {p : Prop} (h : p) : p := h
/-- what the class keeps upwards is what the reference looks up -/
theorem pu_up {F f' : Nat → Nat → Int32} {s : Nat → Int32} (hc : pu_Crol s) (hv : pu_Vrol F s) (hd : pu_CL (fun r => s (144 + r)) (f' 92)) : ∀ r, r < 20 → F 7 r = fn_m_allAbove (nI r) f' := by
  intro r hr
  refine pu_ext fun q hq => Bool.eq_iff_iff.mpr ?_
  rw [pu_above r hr, hv.2.2.2.1 r hr q hq]
  have e := pu_R_congr (i := q) (q := r) (fun r hr => hv.1 r hr : ∀ r, r < 20 → F 4 r = (fun r => s (144 + r)) r)
  rw [e]
  constructor
  · intro h
    have hq' : q < 20 := by rcases pu_R_lt hc.1 h with e | e <;> omega
    exact ⟨hq', (hd q hq' r (by omega)).mpr h⟩
  · rintro ⟨h1, h2⟩
    exact (hd q h1 r (by omega)).mp h2
theorem pp_within : am_Pair pu_Inv 16 4 149 4 2 := pu_P2 fun f g hI x o => by
  obtain ⟨hc, hv, hd, hk, ht, hg⟩ := hI
  obtain ⟨c1, c2, c3, c4, c5, c6, c7, c8⟩ := id hc
  obtain ⟨v1, v2, v3, v4, v5, v6, v7, v8, v9⟩ := id hv
  have key : ∀ F1 : Nat → Nat → Int32, F1 89 = f 89 → ∃ z, fn_m_within x o F1 = some z ∧ (fn_within x o f).1 = z.1 ∧ (∀ j, ¬ (128 ≤ j ∧ j < 144) → z.2 j = f 89 j) ∧ pu_Cpar z.2 ∧ ∀ t, t < 16 → (fn_within x o f).2 t = z.2 (128 + t) := by
    intro F1 e1
    unfold fn_within fn_m_within
    rw [show fn_isThing x = fn_m_isOne x from rfl, show fn_between o (-1) 15 = fn_m_isIn o (-1) 15 from rfl, e1]
    have triv : ∀ y : Int32, ∃ z : Int32 × (Nat → Int32), (some (y, f 89) : Option (Int32 × (Nat → Int32))) = some z ∧ ((y, f 29) : Int32 × (Nat → Int32)).1 = z.1 ∧ (∀ j, ¬ (128 ≤ j ∧ j < 144) → z.2 j = f 89 j) ∧ pu_Cpar z.2 ∧ ∀ t, t < 16 → ((y, f 29) : Int32 × (Nat → Int32)).2 t = z.2 (128 + t) := fun y => ⟨_, rfl, rfl, fun _ _ => rfl, c1, v2⟩
    cases h1 : fn_m_isOne x with
    | false => exact triv _
    | true =>
      rw [cond_true, cond_true]
      cases h2 : fn_m_isIn o (-1) 15 with
      | false => exact triv _
      | true =>
        rw [cond_true, cond_true]
        obtain ⟨a, a1, a2⟩ := am_mOne h1
        subst a2
        rw [nI_clamp (by omega)]
        have done : ∀ v : Int32, (v = -1 ∨ ∃ b, b < 16 ∧ v = nI b ∧ ¬ pu_on (fun t => f 89 (128 + t)) b a) → ∃ z : Int32 × (Nat → Int32), (some (f 89 (128 + a), upd (f 89) (128 + a) v) : Option (Int32 × (Nat → Int32))) = some z ∧ ((f 29 a, upd (f 29) a v) : Int32 × (Nat → Int32)).1 = z.1 ∧ (∀ j, ¬ (128 ≤ j ∧ j < 144) → z.2 j = f 89 j) ∧ pu_Cpar z.2 ∧ ∀ t, t < 16 → ((f 29 a, upd (f 29) a v) : Int32 × (Nat → Int32)).2 t = z.2 (128 + t) := fun v hv => by
          refine ⟨_, rfl, v2 a a1, fun j hj => pu_un (by omega), pu_within c1 a1 hv, fun t ht => ?_⟩
          show upd (f 29) a v t = upd (f 89) (128 + a) v (128 + t)
          by_cases e : t = a
          · subst e; rw [pu_us, pu_us]
          · rw [pu_un e, pu_un (by omega)]; exact v2 t ht
        by_cases c : o < 0
        · rw [if_pos c, if_pos c]
          refine done o (.inl ?_)
          obtain ⟨g1, g2⟩ := am_mIn h2
          rw [Int32.le_iff_toInt_le] at g1
          rw [Int32.lt_iff_toInt_lt] at c
          have e1 : (0 : Int32).toInt = 0 := rfl
          have e2 : (-1 : Int32).toInt = -1 := rfl
          exact Int32.toInt_inj.mp (by omega)
        · rw [if_neg c, if_neg c]
          obtain ⟨b, b1, b2⟩ := am_btwP (N := 16) (show fn_between o (-1) 15 = true from h2) c (by decide)
          subst b2
          rw [nI_clamp (by omega), pu_deps (F := f) (f' := F1) (by rw [e1]; exact c1) (by rw [e1]; exact v2) b1, am_ob_s]
          by_cases d : fn_stepsUp b (nI a) f < 0
          · rw [if_pos d, if_pos d]
            exact done (nI b) (.inr ⟨b, b1, rfl, fun h => h (by rw [← pu_stepsUp c1 v2 b1]; exact d)⟩)
          · rw [if_neg d, if_neg d]
            exact triv _
  obtain ⟨z, k0, k1, H', k3, k4⟩ := key (am_row f 29 (fn_within x o f).2) rfl
  have H : ∀ j, ¬ (128 ≤ j ∧ j < 144) → z.2 j = f 89 j := H'
  exact ⟨_, _, _, _, _, pu_res (x_within x o f g (pu_pp c1 v2)) (by decide) k1, pu_res (x_m_within x o _ _ z k0) (by decide) rfl, ⟨k3, pu_Crol_c (fun j h1 h2 => H j (by omega)) (H _ (by omega)) c2, pu_Cunl_c (fun j h1 h2 => H j (by omega)) (H _ (by omega)) c3, pu_Cass_c (fun j h1 h2 => H j (by omega)) c4, pu_Ctick_c (H _ (by omega)) c5, pu_Cln_c (H _ (by omega)) (fun j h1 h2 => H j (by omega)) c6, pu_Crl_c (H _ (by omega)) (fun j h1 h2 => H j (by omega)) c7, pu_Cbk_c (H _ (by omega)) c8⟩, ⟨pu_Vatt_c (fun j h1 => H j (by omega)) v1, k4, pu_Vrol_c (fun j h1 h2 => H j (by omega)) (H _ (by omega)) v3, pu_Vbar_c (fun j h1 h2 => H j (by omega)) (H _ (by omega)) v4, pu_Vass_c (fun j h1 h2 => H j (by omega)) v5, pu_Vtick_c (H _ (by omega)) v6, pu_Vln_c (H _ (by omega)) (fun j h1 h2 => H j (by omega)) v7, pu_Vrl_c (H _ (by omega)) c7 (fun j h1 h2 => H j (by omega)) v8, pu_Vbk_c (fun j h1 h2 => H j (by omega)) (fun j h1 h2 => H j (by omega)) v9⟩, pu_CL_c (fun j h1 h2 => H j (by omega)) hd, hk, ht, hg⟩
theorem pp_under : am_Pair pu_Inv 131 4 241 4 1 := pu_P1 fun f g hI x => by
  obtain ⟨hc, hv, hd, hk, ht, hg⟩ := hI
  obtain ⟨c1, c2, c3, c4, c5, c6, c7, c8⟩ := id hc
  obtain ⟨v1, v2, v3, v4, v5, v6, v7, v8, v9⟩ := id hv
  have key : fn_m_under x f = some (fn_under x f) := by
    unfold fn_under fn_m_under
    rw [show fn_isThing x = fn_m_isOne x from rfl]
    cases h1 : fn_m_isOne x with
    | false => rfl
    | true =>
      rw [cond_true, cond_true]
      obtain ⟨a, a1, a2⟩ := am_mOne h1
      subst a2
      rw [nI_clamp (by omega)]
      obtain ⟨z, hz, hQ⟩ := pu_forO0 (f := st_m_under_13 a f) (fun k y => y = am_for (st_under_13 a f) k 0 0) (fun z => z = .inl (lf_under_13 a f)) 16 0 rfl (fun j y hj hy => by
        refine .inl ⟨am_for (st_under_13 a f) (j + 1) 0 0, ?_, rfl⟩
        subst hy
        unfold st_m_under_13
        rw [pu_deps c1 v2 hj, am_ob_s, pu_for_app (st_under_13 a f) j 1 0 0, Nat.zero_add]
        show some (Sum.inl _) = some (Sum.inl (st_under_13 a f j _))
        unfold st_under_13
        by_cases c : fn_stepsUp j (nI a) f ≤ 0
        · rw [if_pos c, if_pos c, pu_or0]
        · rw [if_neg c, if_neg c]) (fun y hy => by rw [hy]; rfl)
      rw [show lf_m_under_13 a f = some z from hz, hQ]
      rfl
  exact ⟨_, _, _, _, _, pu_res (x_under x f g (pu_pp c1 v2)) (by decide) rfl, pu_res (x_m_under x f g _ key) (by decide) rfl, hc, hv, hd, hk, ht, hg⟩
theorem pp_roles : am_Pair pu_Inv 127 4 237 3 2 := pu_P2 fun f g hI x w => by
  obtain ⟨hc, hv, hd, hk, ht, hg⟩ := hI
  obtain ⟨c1, c2, c3, c4, c5, c6, c7, c8⟩ := id hc
  obtain ⟨v1, v2, v3, v4, v5, v6, v7, v8, v9⟩ := id hv
  refine ⟨_, _, _, _, _, pu_res (x_roles x w f g) (by decide) ?_, pu_res (x_m_roles x w f g) (by decide) rfl, hc, hv, hd, hk, ht, hg⟩
  unfold fn_roles fn_m_roles
  rw [show fn_isRole x = fn_m_isRole x from rfl, pu_01]
  cases h1 : fn_m_isRole x with
  | false => simp only [cond_false]
  | true =>
    obtain ⟨a, a1, a2⟩ := am_mRole h1
    subst a2
    rw [cond_true, cond_true, nI_clamp (by omega), pu_up c2 v3 hd a a1, pu_dn v3 hd a a1]
    cases h2 : fn_m_isIn w 0 1 with
    | false => simp only [cond_false]
    | true =>
      rw [cond_true, cond_true]
      by_cases c : w = 0
      · rw [if_pos c, if_pos c]
      · rw [if_neg c, if_neg c]
theorem pp_join : am_Pair pu_Inv 126 7 236 6 3 := pu_P3 fun f g hI x y w => by
  obtain ⟨hc, hv, hd, hk, ht, hg⟩ := hI
  obtain ⟨c1, c2, c3, c4, c5, c6, c7, c8⟩ := id hc
  obtain ⟨v1, v2, v3, v4, v5, v6, v7, v8, v9⟩ := id hv
  refine ⟨_, _, _, _, _, pu_res (x_join x y w f g) (by decide) ?_, pu_res (x_m_join x y w f g) (by decide) rfl, hc, hv, hd, hk, ht, hg⟩
  unfold fn_join fn_m_join
  rw [show fn_isRole x = fn_m_isRole x from rfl, show fn_isRole y = fn_m_isRole y from rfl, pu_01]
  cases h1 : fn_m_isRole x with
  | false => simp only [cond_false]
  | true =>
    obtain ⟨a, a1, a2⟩ := am_mRole h1
    rw [cond_true, cond_true]
    cases h2 : fn_m_isRole y with
    | false => simp only [cond_false]
    | true =>
      obtain ⟨b, b1, b2⟩ := am_mRole h2
      rw [cond_true, cond_true]
      cases h3 : fn_m_isIn w 0 1 with
      | false => simp only [cond_false]
      | true =>
        obtain ⟨k, k1, k2⟩ := am_mInN (N := 2) h3 (by decide)
        subst a2; subst b2; subst k2
        rw [cond_true, cond_true, nI_clamp (n := a) (by omega), nI_clamp (n := b) (by omega), nI_clamp (n := k) (by omega)]
        have hU := pu_up c2 v3 hd
        have hD := pu_dn v3 hd
        rcases (show k = 0 ∨ k = 1 by omega) with e | e
        · subst e
          rw [if_pos (show nI 0 = 0 from rfl)]
          have : lf_join_66 a b f = lf_m_join_61 a b 0 f := by
            unfold lf_join_66 lf_m_join_61
            refine pu_forXC 20 0 () (fun j _ _ hj => ?_)
            unfold st_join_66 st_m_join_61
            rw [if_pos (show nI 0 = 0 from rfl), if_pos (show nI 0 = 0 from rfl), hU a a1, hU b b1, hU j (by omega), pu_hm]
          rw [this]
        · subst e
          rw [if_neg (show ¬ nI 1 = 0 by decide)]
          have : lf_join_66_11 a b f = lf_m_join_61 a b 1 f := by
            unfold lf_join_66_11 lf_m_join_61
            refine pu_forXC 20 0 () (fun j _ _ hj => ?_)
            unfold st_join_66_10 st_m_join_61
            rw [if_neg (show ¬ nI 1 = 0 by decide), if_neg (show ¬ nI 1 = 0 by decide), hD a a1, hD b b1, hD j (by omega), pu_hm]
          rw [this]
theorem pp_uses : am_Pair pu_Inv 68 3 193 3 2 := pu_P2 fun f g hI x n => by
  obtain ⟨hc, hv, hd, hk, ht, hg⟩ := hI
  obtain ⟨c1, c2, c3, c4, c5, c6, c7, c8⟩ := id hc
  obtain ⟨v1, v2, v3, v4, v5, v6, v7, v8, v9⟩ := id hv
  have hp := pu_pr c7 v8
  have hm := pu_mOK c6 c7
  have key : (fn_uses x n f).1 = (fn_m_uses x n f).1 ∧ ((fn_uses x n f).2 = f 24 ∧ (fn_m_uses x n f).2 = f 89 ∨ ∃ j, j < 30 ∧ (fn_uses x n f).2 = upd (f 24) j n ∧ (fn_m_uses x n f).2 = upd (f 89) (490 + 9 * j + 7) n) := by
    unfold fn_uses fn_m_uses
    rw [pu_isRule v8 c7]
    cases h : fn_m_isRule x f with
    | false => exact ⟨rfl, .inl ⟨rfl, rfl⟩⟩
    | true =>
      obtain ⟨j, j1, j2, j3, j4⟩ := pu_ruleOf c7 h
      subst j3
      rw [cond_true, cond_true, nI_clamp (by omega)]
      by_cases c : n = -1
      · rw [if_pos c, if_pos c]; exact ⟨rfl, .inr ⟨j, j1, rfl, rfl⟩⟩
      · rw [if_neg c, if_neg c, show fn_between n 1 99 = fn_m_isIn n 1 99 from rfl]
        cases h2 : fn_m_isIn n 1 99 with
        | false => exact ⟨rfl, .inl ⟨rfl, rfl⟩⟩
        | true => exact ⟨rfl, .inr ⟨j, j1, rfl, rfl⟩⟩
  obtain ⟨k1, k2⟩ := key
  refine ⟨_, _, _, _, _, pu_res (x_uses x n f g hp.1 hp.2.1) (by decide) k1, pu_res (x_m_uses x n _ _ hm.2.2.1 hm.2.2.2.1) (by decide) rfl, ?_⟩
  show pu_I (am_row (am_row f 24 (fn_uses x n f).2) 89 (fn_m_uses x n f).2) g
  rcases k2 with ⟨e1, e2⟩ | ⟨j, j1, e1, e2⟩
  · rw [e1, e2]
    exact ⟨hc, hv, hd, hk, ht, hg⟩
  · rw [e1, e2]
    have H : ∀ i, i ≠ 490 + 9 * j + 7 → upd (f 89) (490 + 9 * j + 7) n i = f 89 i := fun i hi => pu_un hi
    have hcr : pu_Crl (upd (f 89) (490 + 9 * j + 7) n) := by
      obtain ⟨R, r1, r2, r3, r4⟩ := c7
      refine ⟨R, r1, (H _ (by omega)).trans r2, fun r hr => ?_, fun r hr => ?_⟩
      · rw [H _ (by omega), H _ (by omega)]; exact r3 r hr
      · rw [H (490 + 9 * r + 0) (by omega), H (490 + 9 * r + 2) (by omega), H (490 + 9 * r + 4) (by omega), H (490 + 9 * r + 5) (by omega), H (490 + 9 * r + 6) (by omega), H (490 + 9 * r + 8) (by omega)]; exact r4 r hr
    have hvr : pu_Vrl (am_row f 24 (upd (f 24) j n)) (upd (f 89) (490 + 9 * j + 7) n) := by
      obtain ⟨w1, w2, w3, w4, w5⟩ := v8
      obtain ⟨R, r1, r2, r3, r4⟩ := c7
      have hR := (pu_cl r2 (by omega)).2
      have e202 : upd (f 89) (490 + 9 * j + 7) n 202 = f 89 202 := H _ (by omega)
      refine ⟨w1.trans e202.symm, fun r hr => ?_, fun r hr => ?_, fun r hr => ?_, fun r hr hn => ?_⟩
      · rw [H (490 + 9 * r + 1) (by omega), H (490 + 9 * r + 2) (by omega), H (490 + 9 * r + 3) (by omega), H (490 + 9 * r + 5) (by omega), H (490 + 9 * r + 6) (by omega), H (490 + 9 * r + 8) (by omega)]
        obtain ⟨u1, u2, u3, u4, u5, u6, u7⟩ := w2 r hr
        refine ⟨u1, u2, u3, u4, u5, ?_, u7⟩
        show upd (f 24) j n r = _
        by_cases e : r = j
        · subst e; rw [pu_us, pu_us]
        · rw [pu_un e, H _ (by omega)]; exact u6
      · rw [e202, H _ (by omega)]; exact w3 r hr
      · rw [e202] at hr
        rw [H (490 + 9 * r + 0) (by omega), H (490 + 9 * r + 4) (by omega)]; exact w4 r hr
      · rw [e202] at hr
        rw [H (490 + 9 * r + 8) (by omega)] at hn ⊢
        obtain ⟨V, q1, q2⟩ := w5 r hr hn
        exact ⟨V, pu_Pre_mv q1 (fun y hy => H _ (by omega)), q2⟩
    exact ⟨⟨pu_Cpar_c (fun j h1 h2 => H j (by omega)) c1, pu_Crol_c (fun j h1 h2 => H j (by omega)) (H _ (by omega)) c2, pu_Cunl_c (fun j h1 h2 => H j (by omega)) (H _ (by omega)) c3, pu_Cass_c (fun j h1 h2 => H j (by omega)) c4, pu_Ctick_c (H _ (by omega)) c5, pu_Cln_c (H _ (by omega)) (fun j h1 h2 => H j (by omega)) c6, hcr, pu_Cbk_c (H _ (by omega)) c8⟩, ⟨pu_Vatt_c (fun j h1 => H j (by omega)) v1, pu_Vpar_c (fun j h1 h2 => H j (by omega)) v2, pu_Vrol_c (fun j h1 h2 => H j (by omega)) (H _ (by omega)) v3, pu_Vbar_c (fun j h1 h2 => H j (by omega)) (H _ (by omega)) v4, pu_Vass_c (fun j h1 h2 => H j (by omega)) v5, pu_Vtick_c (H _ (by omega)) v6, pu_Vln_c (H _ (by omega)) (fun j h1 h2 => H j (by omega)) v7, hvr, pu_Vbk_c (fun j h1 h2 => H j (by omega)) (fun j h1 h2 => H j (by omega)) v9⟩, pu_CL_c (fun j h1 h2 => H j (by omega)) hd, hk, ht, hg⟩
theorem pp_holds : am_Pair pu_Inv 44 3 170 3 2 := pu_P2 fun f g hI u w => by
  obtain ⟨hc, hv, hd, hk, ht, hg⟩ := hI
  obtain ⟨c1, c2, c3, c4, c5, c6, c7, c8⟩ := id hc
  obtain ⟨v1, v2, v3, v4, v5, v6, v7, v8, v9⟩ := id hv
  have hp := pu_pl c6 v7
  have hr := pu_pr c7 v8
  have hm := pu_mOK c6 c7
  have key : ∀ F1 : Nat → Nat → Int32, F1 89 = f 89 → F1 92 = f 92 → (fn_holds u w f g).1 = (fn_m_holds_170 u w F1).1 := by
    intro F1 e1 e2
    have hS := pu_settle (f := f) (g := g) (f' := F1) (by rw [e1]; exact v7) (by rw [e1]; exact c6) (by rw [e1]; exact v5) (by rw [e2]; exact pu_dn v3 hd) _ rfl _ rfl
    obtain ⟨s1, s2, s3, s4, s5, s6, s7⟩ := hS
    unfold fn_holds fn_m_holds_170
    rw [show fn_isUser u = fn_m_isOne u from rfl, show fn_between w 0 2 = fn_m_isIn w 0 2 from rfl, show f 2 12 = F1 89 200 by rw [e1]; exact v6]
    cases h1 : fn_m_isOne u with
    | false => rfl
    | true =>
      obtain ⟨a, a1, a2⟩ := am_mOne h1
      subst a2
      rw [cond_true, cond_true, nI_clamp (by omega)]
      cases h2 : fn_m_isIn w 0 2 with
      | false => rfl
      | true =>
        obtain ⟨k, k1, k2⟩ := am_mInN (N := 3) h2 (by decide)
        subst k2
        rw [cond_true, cond_true]
        rcases (show k = 0 ∨ k = 1 ∨ k = 2 by omega) with e | e | e
        · subst e
          rw [if_neg (show ¬ nI 0 = 1 by decide), if_neg (show ¬ nI 0 = 1 by decide), if_neg (show ¬ nI 0 = 2 by decide), if_pos (show nI 0 = 0 from rfl)]
          exact s3 a a1
        · subst e
          rw [if_pos (show nI 1 = 1 from rfl), if_pos (show nI 1 = 1 from rfl)]
          show f 30 a = F1 89 (184 + a)
          rw [e1]; exact v5 a a1
        · subst e
          rw [if_neg (show ¬ nI 2 = 1 by decide), if_neg (show ¬ nI 2 = 1 by decide), if_pos (show nI 2 = 2 from rfl), if_neg (show ¬ nI 2 = 0 by decide)]
          exact s1 a a1
  exact ⟨_, _, _, _, _, pu_res (x_holds u w f g hp.1 hp.2.1 hp.2.2.1 hp.2.2.2.1 hp.2.2.2.2 hr.1 hr.2.1) (by decide) (key _ rfl rfl), pu_res (x_m_holds_170 u w _ _ hm.1 hm.2.1 hm.2.2.1 hm.2.2.2.1 hm.2.2.2.2.1 hm.2.2.2.2.2.1 hm.2.2.2.2.2.2) (by decide) rfl, hc, hv, hd, hk, ht, hg⟩
theorem pp_loan : am_Pair pu_Inv 43 4 169 3 2 := pu_P2 fun f g hI l w => by
  obtain ⟨hc, hv, hd, hk, ht, hg⟩ := hI
  obtain ⟨c1, c2, c3, c4, c5, c6, c7, c8⟩ := id hc
  obtain ⟨v1, v2, v3, v4, v5, v6, v7, v8, v9⟩ := id hv
  have hp := pu_pl c6 v7
  have hr := pu_pr c7 v8
  have hm := pu_mOK c6 c7
  have key : ∀ F1 : Nat → Nat → Int32, F1 89 = f 89 → F1 92 = f 92 → (fn_loan l w f g).1 = (fn_m_loan_169 l w F1).1 := by
    intro F1 e1 e2
    have hS := pu_settle (f := f) (g := g) (f' := F1) (by rw [e1]; exact v7) (by rw [e1]; exact c6) (by rw [e1]; exact v5) (by rw [e2]; exact pu_dn v3 hd) _ rfl _ rfl
    obtain ⟨s1, s2, s3, s4, s5, s6, s7⟩ := hS
    unfold fn_loan fn_m_loan_169
    rw [pu_isLoan (f' := F1) (tk := g 11 6) (by rw [e1]; exact v7), show f 2 12 = F1 89 200 by rw [e1]; exact v6]
    cases h1 : fn_m_isIn l 0 (F1 89 201 - 1) with
    | false => rfl
    | true =>
      obtain ⟨a, a0, a1, a2⟩ := pu_loanOf (by rw [e1]; exact c6) h1
      subst a2
      rw [cond_true, cond_true, nI_clamp (n := a) (by omega)]
      obtain ⟨w0, w1, w2, w3, w4, w5, w6⟩ := v7.2 a a0
      cases h2 : fn_m_isIn w 0 6 with
      | false =>
        rw [cond_false]
        have : ∀ k : Nat, k < 7 → ¬ w = nI k := fun k hk e => by
          rw [e] at h2
          exact absurd ((pu_btwN (lo := 0) (hi := 6) (v := k) (by omega) (by omega) (by decide)).symm.trans h2) (by decide)
        rw [if_neg (show ¬ w = 0 from this 0 (by omega)), if_neg (show ¬ w = 1 from this 1 (by omega)), if_neg (show ¬ w = 2 from this 2 (by omega)), if_neg (show ¬ w = 3 from this 3 (by omega)), if_neg (show ¬ w = 4 from this 4 (by omega)), if_neg (show ¬ w = 5 from this 5 (by omega)), if_neg (show ¬ w = 6 from this 6 (by omega))]
      | true =>
        obtain ⟨k, k1, k2⟩ := am_mInN (N := 7) h2 (by decide)
        subst k2
        rw [cond_true, nI_clamp (n := k) (by omega)]
        match k, k1 with
        | 0, _ =>
          rw [if_pos (show nI 0 = 0 from rfl), if_neg (show ¬ (6 : Int32) ≤ nI 0 by decide)]
          show f 12 a = F1 89 (210 + 7 * a + 0)
          rw [e1]; exact w0
        | 1, _ =>
          rw [if_neg (show ¬ nI 1 = 0 by decide), if_pos (show nI 1 = 1 from rfl), if_neg (show ¬ (6 : Int32) ≤ nI 1 by decide)]
          show f 13 a = F1 89 (210 + 7 * a + 1)
          rw [e1]; exact w1
        | 2, _ =>
          rw [if_neg (show ¬ nI 2 = 0 by decide), if_neg (show ¬ nI 2 = 1 by decide), if_pos (show nI 2 = 2 from rfl), if_neg (show ¬ (6 : Int32) ≤ nI 2 by decide)]
          show f 14 a = F1 89 (210 + 7 * a + 2)
          rw [e1]; exact w2
        | 3, _ =>
          rw [if_neg (show ¬ nI 3 = 0 by decide), if_neg (show ¬ nI 3 = 1 by decide), if_neg (show ¬ nI 3 = 2 by decide), if_pos (show nI 3 = 3 from rfl), if_neg (show ¬ (6 : Int32) ≤ nI 3 by decide)]
          show f 15 a = F1 89 (210 + 7 * a + 3)
          rw [e1]; exact w3
        | 4, _ =>
          rw [if_neg (show ¬ nI 4 = 0 by decide), if_neg (show ¬ nI 4 = 1 by decide), if_neg (show ¬ nI 4 = 2 by decide), if_neg (show ¬ nI 4 = 3 by decide), if_pos (show nI 4 = 4 from rfl), if_neg (show ¬ (6 : Int32) ≤ nI 4 by decide)]
          show f 16 a = F1 89 (210 + 7 * a + 4)
          rw [e1]; exact w4
        | 5, _ =>
          rw [if_neg (show ¬ nI 5 = 0 by decide), if_neg (show ¬ nI 5 = 1 by decide), if_neg (show ¬ nI 5 = 2 by decide), if_neg (show ¬ nI 5 = 3 by decide), if_neg (show ¬ nI 5 = 4 by decide), if_pos (show nI 5 = 5 from rfl), if_neg (show ¬ (6 : Int32) ≤ nI 5 by decide)]
          show f 17 a = F1 89 (210 + 7 * a + 5)
          rw [e1]; exact w5
        | 6, _ =>
          rw [if_neg (show ¬ nI 6 = 0 by decide), if_neg (show ¬ nI 6 = 1 by decide), if_neg (show ¬ nI 6 = 2 by decide), if_neg (show ¬ nI 6 = 3 by decide), if_neg (show ¬ nI 6 = 4 by decide), if_neg (show ¬ nI 6 = 5 by decide), if_pos (show nI 6 = 6 from rfl), if_pos (show (6 : Int32) ≤ nI 6 by decide)]
          obtain ⟨m1, m2⟩ := s4 a a1
          have m2' : pu_bl ((fn_settle (F1 89 200) f g).2.2.2 5) a = true ↔ (fn_m_stand_155 F1).2 a = 1 := m2
          have m1' : (fn_m_stand_155 F1).2 a = 0 ∨ (fn_m_stand_155 F1).2 a = 1 := m1
          show am_b (bif fn_isStanding (nI a) (am_row g 1 (fn_settle (F1 89 200) f g).2.2.2) then true else false) = am_b (if (fn_m_stand_155 F1).2 a = 0 then false else true)
          rw [show fn_isStanding (nI a) (am_row g 1 (fn_settle (F1 89 200) f g).2.2.2) = fn_hasLong ((fn_settle (F1 89 200) f g).2.2.2 5) (nI a) from rfl, pu_hasL _ (by omega)]
          rcases m1' with m | m
          · rw [if_pos m]
            cases b : pu_bl ((fn_settle (F1 89 200) f g).2.2.2 5) a with
            | false => rfl
            | true => have := m2'.mp b; rw [m] at this; exact absurd this (by decide)
          · rw [if_neg (by rw [m]; decide), m2'.mpr m]; rfl
        | k + 7, q => omega
  exact ⟨_, _, _, _, _, pu_res (x_loan l w f g hp.1 hp.2.1 hp.2.2.1 hp.2.2.2.1 hp.2.2.2.2 hr.1 hr.2.1) (by decide) (key _ rfl rfl), pu_res (x_m_loan_169 l w _ _ hm.1 hm.2.1 hm.2.2.1 hm.2.2.2.1 hm.2.2.2.2.1 hm.2.2.2.2.2.1 hm.2.2.2.2.2.2) (by decide) rfl, hc, hv, hd, hk, ht, hg⟩
