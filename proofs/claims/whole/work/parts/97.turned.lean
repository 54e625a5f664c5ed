/-! THE PURE LAYER: class and reference side by side at one settled moment; pairs of calls: who, where, unlike -/
set_option linter.unusedVariables false
theorem pu_lock {α β γ : Type} {f : Nat → α → α} {st : Nat → β → Option (β ⊕ (β ⊕ γ))} (P : α → β → Prop) : ∀ (n i : Nat) (a : α) (b : β), P a b → (∀ j x y, i ≤ j → j < i + n → P x y → ∃ y', st j y = some (.inl y') ∧ P (f j x) y') → ∃ y', am_forO st n i b = some (.inl y') ∧ P (am_for f n i a) y' := by
  intro n
  induction n with
  | zero => intro i a b h _; exact ⟨b, rfl, h⟩
  | succ n ih =>
    intro i a b h hs
    obtain ⟨y, y1, y2⟩ := hs i a b (Nat.le_refl _) (by omega) h
    obtain ⟨z, z1, z2⟩ := ih (i + 1) (f i a) y y2 (fun j x y h1 h2 => hs j x y (by omega) (by omega))
    refine ⟨z, ?_, z2⟩
    rw [am_forO_s, y1]
    exact z1
theorem pu_lockX {α β γ δ : Type} {f : Nat → α → α ⊕ (α ⊕ γ)} {st : Nat → β → Option (β ⊕ (β ⊕ δ))} (P : α → β → Prop) (Q : γ → δ → Prop) : ∀ (n i : Nat) (a : α) (b : β), P a b → (∀ j x y, i ≤ j → j < i + n → P x y → (∃ x' y', f j x = .inl x' ∧ st j y = some (.inl y') ∧ P x' y') ∨ (∃ u v, f j x = .inr (.inr u) ∧ st j y = some (.inr (.inr v)) ∧ Q u v)) → (∃ x' y', am_forX f n i a = .inl x' ∧ am_forO st n i b = some (.inl y') ∧ P x' y') ∨ (∃ u v, am_forX f n i a = .inr u ∧ am_forO st n i b = some (.inr v) ∧ Q u v) := by
  intro n
  induction n with
  | zero => intro i a b h _; exact .inl ⟨a, b, rfl, rfl, h⟩
  | succ n ih =>
    intro i a b h hs
    rw [am_forX_s, am_forO_s]
    rcases hs i a b (Nat.le_refl _) (by omega) h with ⟨x, y, y1, y2, y3⟩ | ⟨x, y, y1, y2, y3⟩
    · rw [y1, y2]
      exact ih (i + 1) x y y3 (fun j x y h1 h2 => hs j x y (by omega) (by omega))
    · rw [y1, y2]
      exact .inr ⟨x, y, rfl, rfl, y3⟩
theorem pu_ans_c {P P' : Nat → Bool} {kd : Nat → Int32} {R : Nat} (h : ∀ r, r < R → P r = P' r) : pu_ans P kd R = pu_ans P' kd R := by
  unfold pu_ans
  rw [pu_fst_c R 0 (p := fun r => P' r && decide (kd r = 1)) (p' := fun r => P r && decide (kd r = 1)) (fun j _ hj => by rw [h j (by omega)]), pu_fst_c R 0 (p := fun r => P' r && decide (kd r = 0)) (p' := fun r => P r && decide (kd r = 0)) (fun j _ hj => by rw [h j (by omega)])]
/-- one settled moment -/
def pu_A (F M : Nat → Nat → Int32) : Prop := pu_Cpar (M 89) ∧ pu_Crl (M 89) ∧ pu_Vatt F (M 89) ∧ pu_Vpar F (M 89) ∧ pu_Vrl F (M 89) ∧ F 1 7 = M 89 200 ∧ F 1 6 = fn_timely (F 1 7) F ∧ ∀ u, u < 16 → F 35 u = M 94 u
def pu_K8 (r z : Nat → Int32) : Prop := ∀ j, ¬ (16 ≤ j ∧ j ≤ 20) → j ≠ 24 → z j = r j
def pu_av (F M : Nat → Nat → Int32) (u a t : Nat) : Int32 := pu_ans (pu_app F M (M 94 u) u a t) (fun r => M 89 (490 + 9 * r + 0)) (M 89 202).toNatClampNeg
def pu_dv (F M : Nat → Nat → Int32) (u a t : Nat) : Int32 := pu_dec (pu_app F M (M 94 u) u a t) (fun r => M 89 (490 + 9 * r + 0)) (M 89 202).toNatClampNeg
theorem pu_A_i {F M : Nat → Nat → Int32} (h : pu_A F M) (x y : Nat → Int32) : pu_A (am_row (am_row F 36 x) 37 y) M := h
theorem pu_avM {F M M' : Nat → Nat → Int32} (h : pu_A F M) (e1 : M' 89 = M 89) (e2 : M' 94 = M 94) {u a t : Nat} (hu : u < 16) (ha : a < 8) (ht : t < 16) : ∃ w, fn_m_answer (nI u) (nI a) (nI t) M' = some (pu_av F M u a t, w) ∧ w 24 = pu_dv F M u a t ∧ pu_K8 (M' 88) w := by
  obtain ⟨h1, h2, h3, h4, h5, h6, h7, h8⟩ := h
  obtain ⟨w, w1, w2, w3⟩ := pu_answer (F := F) (f' := M') (by rw [e1]; exact h1) (by rw [e1]; exact h2) (by rw [e1]; exact h3) (by rw [e1]; exact h4) (by rw [e1]; exact h5) (by rw [e1]; exact h6) hu ha ht
  unfold pu_av pu_dv
  unfold pu_app at w1 w2 ⊢
  rw [e1, e2] at w1 w2
  exact ⟨w, w1, w2, w3⟩
theorem pu_app_i {F M : Nat → Nat → Int32} (h : pu_A F M) (x y : Nat → Int32) {hd : Int32} {u a t r : Nat} (hu : u < 16) (ht : t < 16) (hr : r < (M 89 202).toNatClampNeg) : pu_app (am_row (am_row F 36 x) 37 y) M hd u a t r = pu_app F M hd u a t r := by
  obtain ⟨h1, h2, h3, h4, h5, h6, h7, h8⟩ := h
  unfold pu_app pu_fit
  rw [pu_meets_i h3 h2 h5 hr hu ht x y]
  rfl
theorem pu_avX {F M : Nat → Nat → Int32} (h : pu_A F M) (x y p q : Nat → Int32) {u a t : Nat} (hu : u < 16) (ha : a < 8) (ht : t < 16) : fn_answerBy (fn_decider u (nI a) t (fn_rulesOn (nI a) t F) (am_row (am_row F 36 x) 37 y)).1 (am_row (am_row F 36 p) 37 q) = pu_av F M u a t := by
  obtain ⟨h1, h2, h3, h4, h5, h6, h7, h8⟩ := id h
  have e := pu_decC (F := am_row (am_row F 36 x) 37 y) (f' := M) h1 h2 h3 h4 h5 h7 hu ha ht (fun _ => true) (fn_rulesOn (nI a) t F) (fun r _ => by
    rw [show fn_rulesOn (nI a) t (am_row (am_row F 36 x) 37 y) = fn_rulesOn (nI a) t F from rfl]; simp)
  rw [e, pu_ansC (F := am_row (am_row F 36 p) 37 q) (f' := M) h2 h5]
  unfold pu_av
  refine pu_ans_c fun r hr => ?_
  rw [Bool.and_true, pu_app_i h x y hu ht hr, show am_row (am_row F 36 x) 37 y 35 u = F 35 u from rfl, h8 u hu]
theorem pu_avC {F M : Nat → Nat → Int32} (h : pu_A F M) (x y : Nat → Int32) {u a t : Nat} (hu : u < 16) (ha : a < 8) (ht : t < 16) : (fn_answer u (nI a) t (am_row (am_row F 36 x) 37 y)).1 = pu_av F M u a t := by
  unfold fn_answer
  rw [show fn_rulesOn (nI a) t (am_row (am_row F 36 x) 37 y) = fn_rulesOn (nI a) t F from rfl]
  exact pu_avX h x y _ _ hu ha ht
def pu_sM (F1 : Nat → Nat → Int32) : Nat → Nat → Int32 := am_row (am_row (am_row F1 93 (fn_m_holders_154 F1).1) 94 (fn_m_holders_154 F1).2.1) 96 (fn_m_holders_154 F1).2.2
def pu_sF (T : Int32) (f : Nat → Nat → Int32) (g : Nat → Nat → Int64) : Nat → Nat → Int32 := am_row (am_row (am_row f 1 (fn_settle T f g).1) 34 (fn_settle T f g).2.1) 35 (fn_settle T f g).2.2.1
theorem pu_A_mk {f F1 : Nat → Nat → Int32} {g : Nat → Nat → Int64} (hI : pu_I f g) (e1 : F1 89 = f 89) (e2 : F1 92 = f 92) : pu_A (pu_sF (f 2 12) f g) (pu_sM F1) := by
  obtain ⟨hc, hv, hd, hk, ht, hg⟩ := hI
  obtain ⟨c1, c2, c3, c4, c5, c6, c7, c8⟩ := id hc
  obtain ⟨v1, v2, v3, v4, v5, v6, v7, v8, v9⟩ := id hv
  have e6 : f 2 12 = F1 89 200 := by rw [e1]; exact v6
  rw [e6]
  obtain ⟨y, hy⟩ : ∃ y, y = fn_settle (F1 89 200) f g := ⟨_, rfl⟩
  obtain ⟨w, hw⟩ : ∃ w, w = fn_m_stand_155 F1 := ⟨_, rfl⟩
  obtain ⟨o, ho⟩ : ∃ o, o = fn_m_holders_154 F1 := ⟨_, rfl⟩
  obtain ⟨s1, s2, s3, s4, s5, s6, s7⟩ := pu_settle (f := f) (g := g) (f' := F1) (by rw [e1]; exact v7) (by rw [e1]; exact c6) (by rw [e1]; exact v5) (by rw [e2]; exact pu_dn v3 hd) y hy w hw
  obtain ⟨-, -, o3⟩ := pu_holders (f' := F1)
  rw [← ho, ← hw] at o3
  unfold pu_sF pu_sM
  rw [← hy, ← ho]
  clear hy hw ho
  have d1 : pu_Cpar (F1 89) := by rw [e1]; exact c1
  have d2 : pu_Crl (F1 89) := by rw [e1]; exact c7
  have d3 : pu_Vatt f (F1 89) := by rw [e1]; exact v1
  have d4 : pu_Vpar f (F1 89) := by rw [e1]; exact v2
  have d5 : pu_Vrl f (F1 89) := by rw [e1]; exact v8
  have d6 : y.1 7 = F1 89 200 := s6
  have d7 : y.1 6 = fn_timely (F1 89 200) (am_row (am_row (am_row f 1 y.1) 34 y.2.1) 35 y.2.2.1) := s7
  rw [← d6] at d7
  exact ⟨d1, d2, d3, d4, d5, d6, d7, fun u hu => (s3 u hu).trans (o3 u hu).symm⟩
theorem pu_users {F F1 : Nat → Nat → Int32} (hA : pu_A F (pu_sM F1)) {a t : Nat} (ha : a < 8) (ht : t < 16) (v : Int32) : ∃ z : Int32 × (Nat → Int32), fn_m_whoBy (nI a) (nI t) v F1 = some (z.1, z.2, (fn_m_holders_154 F1).1, (fn_m_holders_154 F1).2.1, (fn_m_holders_154 F1).2.2) ∧ (fn_usersWith v (nI a) t F).1 = z.1 ∧ pu_K8 (F1 88) z.2 := by
  obtain ⟨z, q1, q2, q3⟩ := pu_lock (f := st_usersWith_14 v (nI a) t F) (st := st_m_whoBy_10 (nI a) (nI t) v F1 (fn_m_holders_154 F1)) (fun x y => x.1 = y.1 ∧ pu_K8 (F1 88) y.2) 16 0 (0, F 36, F 37) (0, F1 88) ⟨rfl, fun _ _ _ => rfl⟩ (by
    rintro j ⟨b, x1, x2⟩ ⟨b', r⟩ - hj ⟨hb, hr⟩
    simp only at hb hr
    subst hb
    have hv := pu_avX hA x1 x2 (fn_decider j (nI a) t (fn_rulesOn (nI a) t F) (am_row (am_row F 36 x1) 37 x2)).2.1 (fn_decider j (nI a) t (fn_rulesOn (nI a) t F) (am_row (am_row F 36 x1) 37 x2)).2.2 (show j < 16 by omega) ha ht
    obtain ⟨w, w1, w2, w3⟩ := pu_avM hA (M' := am_row (am_row (am_row (am_row F1 88 r) 93 (fn_m_holders_154 F1).1) 94 (fn_m_holders_154 F1).2.1) 96 (fn_m_holders_154 F1).2.2) rfl rfl (show j < 16 by omega) ha ht
    refine ⟨(b ||| (if pu_av F (pu_sM F1) j a t = v then (1 : Int32) <<< ((nI j) &&& 31) else 0), w), ?_, ?_, fun i i1 i2 => (w3 i i1 i2).trans (hr i i1 i2)⟩
    · unfold st_m_whoBy_10
      simp only
      rw [w1, am_ob_s]
    · unfold st_usersWith_14
      simp only
      rw [hv]
      by_cases c : pu_av F (pu_sM F1) j a t = v
      · rw [if_pos c, if_pos c]
      · rw [if_neg c, if_neg c, pu_or0])
  refine ⟨z, ?_, ?_, q3⟩
  · unfold fn_m_whoBy lf_m_whoBy_10
    rw [q1, am_ob_s]
    rfl
  · unfold fn_usersWith lf_usersWith_14
    dsimp only
    exact q2
theorem pu_I_q {f : Nat → Nat → Int32} {g : Nat → Nat → Int64} (hI : pu_I f g) {z : Nat → Int32} (h : pu_K8 (f 88) z) (y1 y34 y35 y36 y37 m93 m94 m96 : Nat → Int32) (G1 : Nat → Int64) : pu_I (am_row (am_row (am_row (am_row (am_row (am_row (am_row (am_row (am_row f 1 y1) 34 y34) 35 y35) 36 y36) 37 y37) 88 z) 93 m93) 94 m94) 96 m96) (am_row g 1 G1) := by
  obtain ⟨hc, hv, hd, hk, ht, hg⟩ := hI
  refine ⟨hc, hv, hd, ?_, ?_, ?_⟩
  · obtain ⟨n1, n2, sk, n3, n4, n5⟩ := hk
    exact ⟨n1.trans (h 3 (by decide) (by decide)).symm, n2, sk, n3, pu_V_eq n3.2.2.2.2.2.2.1 n4 ⟨rfl, rfl, rfl, rfl, rfl, rfl, rfl, rfl, rfl, fun _ _ => rfl, fun _ _ => rfl, fun _ _ => rfl, fun _ _ => rfl, fun _ _ => rfl, fun _ _ => rfl, fun _ _ => rfl, fun _ _ => rfl, fun _ _ => rfl, fun _ _ => rfl, fun _ _ => rfl, fun _ _ => rfl, fun _ _ => rfl, fun _ _ => rfl, fun _ _ => rfl, fun _ _ => rfl, fun _ _ => rfl, fun _ _ => rfl, fun _ _ => rfl, fun _ _ => rfl, fun _ _ => rfl, fun _ _ => rfl, fun _ _ => rfl, fun _ _ => rfl, fun _ _ => rfl, rfl⟩, n5⟩
  · obtain ⟨n, n1, n2, n3, n4⟩ := ht
    exact ⟨n, n1, n2, (h 11 (by decide) (by decide)).trans n3, n4⟩
  · obtain ⟨n, n1, n2, n3, n4⟩ := hg
    exact ⟨n, n1, n2, (h 23 (by decide) (by decide)).trans n3, n4⟩
theorem pp_who : am_Pair pu_Inv 97 4 210 4 3 := pu_P3 fun f g hI x y w => by
  have hI' := hI
  obtain ⟨hc, hv, hd, hk, ht, hg⟩ := hI
  obtain ⟨c1, c2, c3, c4, c5, c6, c7, c8⟩ := id hc
  obtain ⟨v1, v2, v3, v4, v5, v6, v7, v8, v9⟩ := id hv
  have hp := pu_pl c6 v7
  have hr := pu_pr c7 v8
  have hm := pu_mOK c6 c7
  have key : ∀ F1 : Nat → Nat → Int32, F1 89 = f 89 → F1 92 = f 92 → ∃ z, fn_m_who x y w F1 = some z ∧ (fn_who x y w f g).1 = z.1 ∧ pu_K8 (F1 88) z.2.1 := by
    intro F1 e1 e2
    have hA := pu_A_mk hI' e1 e2
    unfold fn_who fn_m_who fn_m_isAsk
    rw [show fn_m_isOne 0 = true from rfl, cond_true, show fn_isAct x = fn_m_isAct x from rfl, show fn_isThing y = fn_m_isOne y from rfl, pu_01]
    cases h1 : fn_m_isAct x with
    | false => simp only [cond_false]; exact ⟨_, rfl, rfl, fun _ _ _ => rfl⟩
    | true =>
      rw [cond_true, cond_true]
      cases h2 : fn_m_isOne y with
      | false => simp only [cond_false]; exact ⟨_, rfl, rfl, fun _ _ _ => rfl⟩
      | true =>
        rw [cond_true, cond_true, cond_true]
        cases h3 : fn_m_isIn w 0 1 with
        | false => simp only [cond_false]; exact ⟨_, rfl, rfl, fun _ _ _ => rfl⟩
        | true =>
          rw [cond_true, cond_true]
          obtain ⟨a, a1, a2⟩ := am_mInN (N := 8) (show fn_m_isIn x 0 7 = true from h1) (by decide)
          obtain ⟨t, t1, t2⟩ := am_mOne h2
          subst a2 t2
          rw [nI_clamp (by omega)]
          obtain ⟨z, z1, z2, z3⟩ := pu_users hA a1 t1 (if w = 0 then 1 else 2)
          rw [z1, am_ob_s]
          refine ⟨_, rfl, ?_, z3⟩
          dsimp only
          exact z2
  have key2 := key (am_row (am_row (am_row (am_row (am_row f 1 (fn_who x y w f g).2.1) 34 (fn_who x y w f g).2.2.1) 35 (fn_who x y w f g).2.2.2.1) 36 (fn_who x y w f g).2.2.2.2.1) 37 (fn_who x y w f g).2.2.2.2.2.1) rfl rfl
  have hx := x_who x y w f g hp.1 hp.2.1 hp.2.2.1 hp.2.2.2.1 hp.2.2.2.2 hr.1 hr.2.1 hr.2.2.1 (pu_pp c1 v2) hr.2.2.2.1
  clear key
  generalize fn_who x y w f g = Y at key2 hx
  obtain ⟨z, k1, k2, k3⟩ := key2
  have hy := x_m_who x y w (am_row (am_row (am_row (am_row (am_row f 1 Y.2.1) 34 Y.2.2.1) 35 Y.2.2.2.1) 36 Y.2.2.2.2.1) 37 Y.2.2.2.2.2.1) (am_row g 1 Y.2.2.2.2.2.2) hm z k1
  exact ⟨_, _, _, _, _, pu_res hx (by decide) k2, pu_res hy (by decide) rfl, pu_I_q hI' k3 _ _ _ _ _ _ _ _ _⟩
theorem pp_where : am_Pair pu_Inv 99 5 212 5 2 := pu_P2 fun f g hI x y => by
  have hI' := hI
  obtain ⟨hc, hv, hd, hk, ht, hg⟩ := hI
  obtain ⟨c1, c2, c3, c4, c5, c6, c7, c8⟩ := id hc
  obtain ⟨v1, v2, v3, v4, v5, v6, v7, v8, v9⟩ := id hv
  have hp := pu_pl c6 v7
  have hr := pu_pr c7 v8
  have hm := pu_mOK c6 c7
  have key : ∀ F1 : Nat → Nat → Int32, F1 89 = f 89 → F1 92 = f 92 → ∃ z, fn_m_where x y F1 = some z ∧ (fn_where x y f g).1 = z.1 ∧ pu_K8 (F1 88) z.2.1 := by
    intro F1 e1 e2
    have hA := pu_A_mk hI' e1 e2
    unfold fn_where fn_m_where fn_m_isAsk
    rw [show fn_m_isOne 0 = true from rfl, show fn_isAct y = fn_m_isAct y from rfl, show fn_isUser x = fn_m_isOne x from rfl]
    cases h1 : fn_m_isOne x with
    | false => simp only [cond_false]; exact ⟨_, rfl, rfl, fun _ _ _ => rfl⟩
    | true =>
      rw [cond_true, cond_true]
      cases h2 : fn_m_isAct y with
      | false => simp only [cond_false]; exact ⟨_, rfl, rfl, fun _ _ _ => rfl⟩
      | true =>
        simp only [cond_true]
        obtain ⟨u, u1, u2⟩ := am_mOne h1
        obtain ⟨a, a1, a2⟩ := am_mInN (N := 8) (show fn_m_isIn y 0 7 = true from h2) (by decide)
        subst u2 a2
        rw [nI_clamp (by omega), nI_clamp (by omega)]
        obtain ⟨z, q1, q2, q3⟩ := pu_lock (f := st_where_35 u a f (fn_settle (f 2 12) f g)) (st := st_m_where_20 u a F1 (fn_m_holders_154 F1)) (fun x y => x.1 = y.1 ∧ pu_K8 (F1 88) y.2) 16 0 (0, f 36, f 37) (0, F1 88) ⟨rfl, fun _ _ _ => rfl⟩ (by
          rintro j ⟨b, x1, x2⟩ ⟨b', r⟩ - hj ⟨hb, hr⟩
          simp only at hb hr
          subst hb
          have hv : (fn_answer u (nI a) j (am_row (am_row (am_row (am_row (am_row f 1 (fn_settle (f 2 12) f g).1) 34 (fn_settle (f 2 12) f g).2.1) 35 (fn_settle (f 2 12) f g).2.2.1) 36 x1) 37 x2)).1 = _ := pu_avC hA x1 x2 u1 a1 (show j < 16 by omega)
          obtain ⟨w, w1, w2, w3⟩ := pu_avM hA (M' := am_row (am_row (am_row (am_row F1 88 r) 93 (fn_m_holders_154 F1).1) 94 (fn_m_holders_154 F1).2.1) 96 (fn_m_holders_154 F1).2.2) rfl rfl u1 a1 (show j < 16 by omega)
          refine ⟨(b ||| (if pu_av (pu_sF (f 2 12) f g) (pu_sM F1) u a j = 1 then (1 : Int32) <<< ((nI j) &&& 31) else 0), w), ?_, ?_, fun i i1 i2 => (w3 i i1 i2).trans (hr i i1 i2)⟩
          · unfold st_m_where_20
            simp only
            rw [w1, am_ob_s]
          · unfold st_where_35
            simp only
            rw [hv]
            by_cases c : pu_av (pu_sF (f 2 12) f g) (pu_sM F1) u a j = 1
            · rw [if_pos c, if_pos c]
            · rw [if_neg c, if_neg c, pu_or0])
        unfold lf_where_35 lf_m_where_20
        rw [q1, am_ob_s]
        refine ⟨_, rfl, ?_, q3⟩
        dsimp only
        exact q2
  have key2 := key (am_row (am_row (am_row (am_row (am_row f 1 (fn_where x y f g).2.1) 34 (fn_where x y f g).2.2.1) 35 (fn_where x y f g).2.2.2.1) 36 (fn_where x y f g).2.2.2.2.1) 37 (fn_where x y f g).2.2.2.2.2.1) rfl rfl
  have hx := x_where x y f g hp.1 hp.2.1 hp.2.2.1 hp.2.2.2.1 hp.2.2.2.2 hr.1 hr.2.1 hr.2.2.1 (pu_pp c1 v2) hr.2.2.2.1
  clear key
  generalize fn_where x y f g = Y at key2 hx
  obtain ⟨z, k1, k2, k3⟩ := key2
  have hy := x_m_where x y (am_row (am_row (am_row (am_row (am_row f 1 Y.2.1) 34 Y.2.2.1) 35 Y.2.2.2.1) 36 Y.2.2.2.2.1) 37 Y.2.2.2.2.2.1) (am_row g 1 Y.2.2.2.2.2.2) hm z k1
  exact ⟨_, _, _, _, _, pu_res hx (by decide) k2, pu_res hy (by decide) rfl, pu_I_q hI' k3 _ _ _ _ _ _ _ _ _⟩
theorem pu_div : ∀ j : Nat, j < 128 → nI j / 16 = nI (j / 16) ∧ nI j - nI (j / 16) * 16 = nI (j % 16) := by decide
theorem pp_unlike : am_Pair pu_Inv 119 8 229 6 3 := pu_P3 fun f g hI x y w => by
  have hI' := hI
  obtain ⟨hc, hv, hd, hk, ht, hg⟩ := hI
  obtain ⟨c1, c2, c3, c4, c5, c6, c7, c8⟩ := id hc
  obtain ⟨v1, v2, v3, v4, v5, v6, v7, v8, v9⟩ := id hv
  have hp := pu_pl c6 v7
  have hr := pu_pr c7 v8
  have hm := pu_mOK c6 c7
  have key : ∀ F1 : Nat → Nat → Int32, F1 89 = f 89 → F1 92 = f 92 → ∃ z, fn_m_unlike x y w F1 = some z ∧ (fn_unlike x y w f g).1 = z.1 ∧ pu_K8 (F1 88) z.2.1 := by
    intro F1 e1 e2
    have hA := pu_A_mk hI' e1 e2
    unfold fn_unlike fn_m_unlike
    rw [show fn_isUser x = fn_m_isOne x from rfl, show fn_isUser y = fn_m_isOne y from rfl]
    cases h1 : fn_m_isOne x with
    | false => simp only [cond_false]; exact ⟨_, rfl, rfl, fun _ _ _ => rfl⟩
    | true =>
      rw [cond_true, cond_true]
      cases h2 : fn_m_isOne y with
      | false => simp only [cond_false]; exact ⟨_, rfl, rfl, fun _ _ _ => rfl⟩
      | true =>
        simp only [cond_true]
        by_cases h3 : -1 ≤ w
        · rw [if_pos h3, if_pos h3]
          obtain ⟨u, u1, u2⟩ := am_mOne h1
          obtain ⟨o, o1, o2⟩ := am_mOne h2
          subst u2 o2
          rw [nI_clamp (by omega), nI_clamp (by omega)]
          have L := pu_lockX (f := st_unlike_41 u o w f (fn_settle (f 2 12) f g)) (st := st_m_unlike_31 u o w F1 (fn_m_holders_154 F1)) (fun x y => x.1 = y.1 ∧ pu_K8 (F1 88) y.2) (fun x y => x.1 = y.1 ∧ pu_K8 (F1 88) y.2.1) 128 0 (0, f 36, f 37) (0, F1 88) ⟨rfl, fun _ _ _ => rfl⟩ (by
            rintro j ⟨b, x1, x2⟩ ⟨b', r⟩ - hj ⟨hb, hr⟩
            simp only at hb hr
            subst hb
            have hj8 : j / 16 < 8 := by omega
            have hj6 : j % 16 < 16 := by omega
            obtain ⟨d1, d2⟩ := pu_div j (by omega)
            have hv : (fn_answer u (nI (j / 16)) (j % 16) (am_row (am_row (am_row (am_row (am_row f 1 (fn_settle (f 2 12) f g).1) 34 (fn_settle (f 2 12) f g).2.1) 35 (fn_settle (f 2 12) f g).2.2.1) 36 x1) 37 x2)).1 = _ := pu_avC hA x1 x2 u1 hj8 hj6
            have hv2 : (fn_answer o (nI (j / 16)) (j % 16) (am_row (am_row (am_row (am_row (am_row f 1 (fn_settle (f 2 12) f g).1) 34 (fn_settle (f 2 12) f g).2.1) 35 (fn_settle (f 2 12) f g).2.2.1) 36 (fn_answer u (nI (j / 16)) (j % 16) (am_row (am_row (am_row (am_row (am_row f 1 (fn_settle (f 2 12) f g).1) 34 (fn_settle (f 2 12) f g).2.1) 35 (fn_settle (f 2 12) f g).2.2.1) 36 x1) 37 x2)).2.1) 37 (fn_answer u (nI (j / 16)) (j % 16) (am_row (am_row (am_row (am_row (am_row f 1 (fn_settle (f 2 12) f g).1) 34 (fn_settle (f 2 12) f g).2.1) 35 (fn_settle (f 2 12) f g).2.2.1) 36 x1) 37 x2)).2.2)).1 = _ := pu_avC hA (fn_answer u (nI (j / 16)) (j % 16) (am_row (am_row (am_row (am_row (am_row f 1 (fn_settle (f 2 12) f g).1) 34 (fn_settle (f 2 12) f g).2.1) 35 (fn_settle (f 2 12) f g).2.2.1) 36 x1) 37 x2)).2.1 (fn_answer u (nI (j / 16)) (j % 16) (am_row (am_row (am_row (am_row (am_row f 1 (fn_settle (f 2 12) f g).1) 34 (fn_settle (f 2 12) f g).2.1) 35 (fn_settle (f 2 12) f g).2.2.1) 36 x1) 37 x2)).2.2 o1 hj8 hj6
            obtain ⟨p, p1, p2, p3⟩ := pu_avM hA (M' := am_row (am_row (am_row (am_row F1 88 r) 93 (fn_m_holders_154 F1).1) 94 (fn_m_holders_154 F1).2.1) 96 (fn_m_holders_154 F1).2.2) rfl rfl u1 hj8 hj6
            obtain ⟨q, q1, q2, q3⟩ := pu_avM hA (M' := am_row (am_row (am_row (am_row F1 88 p) 93 (fn_m_holders_154 F1).1) 94 (fn_m_holders_154 F1).2.1) 96 (fn_m_holders_154 F1).2.2) rfl rfl o1 hj8 hj6
            have K : pu_K8 (F1 88) q := fun i i1 i2 => (q3 i i1 i2).trans ((p3 i i1 i2).trans (hr i i1 i2))
            unfold st_unlike_41 st_m_unlike_31
            simp only
            rw [d1, d2, hv, hv2, p1, am_ob_s]
            simp only
            rw [q1, am_ob_s]
            simp only
            by_cases c : pu_av (pu_sF (f 2 12) f g) (pu_sM F1) u (j / 16) (j % 16) = pu_av (pu_sF (f 2 12) f g) (pu_sM F1) o (j / 16) (j % 16)
            · rw [if_pos c, if_pos c]
              exact .inl ⟨_, _, rfl, rfl, rfl, K⟩
            · rw [if_neg c, if_neg c]
              by_cases c2 : b = w
              · rw [if_pos c2, if_pos c2]
                exact .inr ⟨_, _, rfl, rfl, rfl, K⟩
              · rw [if_neg c2, if_neg c2]
                exact .inl ⟨_, _, rfl, rfl, rfl, K⟩)
          unfold lf_unlike_41 lf_m_unlike_31
          rcases L with ⟨x', y', g1, g2, g3, g4⟩ | ⟨x', y', g1, g2, g3, g4⟩
          · rw [g1, g2, am_ob_s]
            refine ⟨_, rfl, ?_, g4⟩
            dsimp only [Sum.elim_inl]
            rw [g3]
          · rw [g1, g2, am_ob_s]
            exact ⟨_, rfl, g3, g4⟩
        · rw [if_neg h3, if_neg h3]
          exact ⟨_, rfl, rfl, fun _ _ _ => rfl⟩
  have key2 := key (am_row (am_row (am_row (am_row (am_row f 1 (fn_unlike x y w f g).2.1) 34 (fn_unlike x y w f g).2.2.1) 35 (fn_unlike x y w f g).2.2.2.1) 36 (fn_unlike x y w f g).2.2.2.2.1) 37 (fn_unlike x y w f g).2.2.2.2.2.1) rfl rfl
  have hx := x_unlike x y w f g hp.1 hp.2.1 hp.2.2.1 hp.2.2.2.1 hp.2.2.2.2 hr.1 hr.2.1 hr.2.2.1 (pu_pp c1 v2) hr.2.2.2.1
  clear key
  generalize fn_unlike x y w f g = Y at key2 hx
  obtain ⟨z, k1, k2, k3⟩ := key2
  have hy := x_m_unlike x y w (am_row (am_row (am_row (am_row (am_row f 1 Y.2.1) 34 Y.2.2.1) 35 Y.2.2.2.1) 36 Y.2.2.2.2.1) 37 Y.2.2.2.2.2.1) (am_row g 1 Y.2.2.2.2.2.2) hm z k1
  exact ⟨_, _, _, _, _, pu_res hx (by decide) k2, pu_res hy (by decide) rfl, pu_I_q hI' k3 _ _ _ _ _ _ _ _ _⟩
