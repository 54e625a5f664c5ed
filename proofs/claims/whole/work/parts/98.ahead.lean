/-! THE PURE LAYER: moments to come; pairs of calls: could -/
set_option linter.unusedVariables false
/-- the class turned to a tick, the reference with that tick -/
theorem pu_A_turn {F f' : Nat → Nat → Int32} {g : Nat → Nat → Int64} (c1 : pu_Cpar (f' 89)) (c6 : pu_Cln (f' 89)) (c7 : pu_Crl (f' 89)) (v1 : pu_Vatt F (f' 89)) (v2 : pu_Vpar F (f' 89)) (v7 : pu_Vln F (g 11 6) (f' 89)) (v8 : pu_Vrl F (f' 89)) (hd : ∀ r, r < 20 → F 6 r = f' 92 r) (ho : ∀ u, u < 16 → F 34 u = fn_m_allUnder (f' 89 (184 + u)) f') (y : (Nat → Int32) × (Nat → Int32) × (Nat → Int64)) (hy : y = fn_turnTo (f' 89 200) F g) : pu_A (am_row (am_row F 1 y.1) 35 y.2.1) (pu_sM f') := by
  obtain ⟨w, hw⟩ : ∃ w, w = fn_m_stand_155 f' := ⟨_, rfl⟩
  obtain ⟨o, ho'⟩ : ∃ o, o = fn_m_holders_154 f' := ⟨_, rfl⟩
  obtain ⟨s1, s2, s3, s4, s5, s6, s7⟩ := pu_turn (f := F) (g := g) (f' := f') v7 c6 hd ho y hy w hw
  obtain ⟨-, -, o3⟩ := pu_holders (f' := f')
  rw [← ho', ← hw] at o3
  unfold pu_sM
  rw [← ho']
  clear hy hw ho'
  have d6 : y.1 7 = f' 89 200 := s6
  have d7 : y.1 6 = fn_timely (f' 89 200) (am_row (am_row F 1 y.1) 35 y.2.1) := s7
  rw [← d6] at d7
  exact ⟨c1, c7, v1, v2, v8, d6, d7, fun u hu => (s3 u hu).trans (o3 u hu).symm⟩
theorem pu_restore {s s0 : Nat → Int32} (h : ∀ j, j ≠ 200 → s j = s0 j) : upd s 200 (s0 200) = s0 := by
  funext j
  by_cases e : j = 200
  · subst e; exact pu_us
  · exact (pu_un e).trans (h j e)
/-- at any tick to come, whatever was kept meanwhile -/
theorem pu_A_at {f : Nat → Nat → Int32} {g : Nat → Nat → Int64} (hI : pu_I f g) {F1 : Nat → Nat → Int32} (e1 : F1 89 = f 89) (e2 : F1 92 = f 92) (T : Int32) {s : Nat → Int32} (hs : ∀ j, j ≠ 200 → s j = f 89 j) (hT : s 200 = T) (r1 r35 r36 r37 r88 r93 r94 r96 : Nat → Int32) (l1 : Nat → Int64) (y : (Nat → Int32) × (Nat → Int32) × (Nat → Int64)) (hy : y = fn_turnTo T (am_row (am_row (am_row (am_row (am_row f 1 r1) 34 (fn_settle (f 2 12) f g).2.1) 35 r35) 36 r36) 37 r37) (am_row g 1 l1)) : pu_A (am_row (am_row (am_row (am_row (am_row f 1 y.1) 34 (fn_settle (f 2 12) f g).2.1) 35 y.2.1) 36 r36) 37 r37) (pu_sM (am_row (am_row (am_row (am_row (am_row F1 88 r88) 89 s) 93 r93) 94 r94) 96 r96)) := by
  obtain ⟨hc, hv, hd, hk, ht, hg⟩ := hI
  obtain ⟨c1, c2, c3, c4, c5, c6, c7, c8⟩ := id hc
  obtain ⟨v1, v2, v3, v4, v5, v6, v7, v8, v9⟩ := id hv
  have e6 : f 2 12 = F1 89 200 := by rw [e1]; exact v6
  have ho : ∀ u, u < 16 → (fn_settle (f 2 12) f g).2.1 u = fn_m_allUnder (F1 89 (184 + u)) F1 := by
    rw [e6]
    obtain ⟨s1, -⟩ := pu_settle (f := f) (g := g) (f' := F1) (by rw [e1]; exact v7) (by rw [e1]; exact c6) (by rw [e1]; exact v5) (by rw [e2]; exact pu_dn v3 hd) _ rfl _ rfl
    exact s1
  generalize (fn_settle (f 2 12) f g).2.1 = O at ho hy ⊢
  have c6' : pu_Cln s := pu_Cln_c (hs _ (by omega)) (fun j h1 h2 => hs j (by omega)) c6
  have c7' : pu_Crl s := pu_Crl_c (hs _ (by omega)) (fun j h1 h2 => hs j (by omega)) c7
  have v8' : pu_Vrl f s := pu_Vrl_c (hs _ (by omega)) c7 (fun j h1 h2 => hs j (by omega)) v8
  have v7' : pu_Vln f (g 11 6) s := pu_Vln_c (hs _ (by omega)) (fun j h1 h2 => hs j (by omega)) v7
  have v2' : pu_Vpar f s := pu_Vpar_c (fun j h1 h2 => hs j (by omega)) v2
  have v1' : pu_Vatt f s := pu_Vatt_c (fun j h1 => hs j (by omega)) v1
  have c1' : pu_Cpar s := pu_Cpar_c (fun j h1 h2 => hs j (by omega)) c1
  have hd' : ∀ r, r < 20 → f 6 r = F1 92 r := by rw [e2]; exact pu_dn v3 hd
  have A := pu_A_turn (F := am_row (am_row (am_row (am_row (am_row f 1 r1) 34 O) 35 r35) 36 r36) 37 r37) (f' := am_row (am_row (am_row (am_row (am_row F1 88 r88) 89 s) 93 r93) 94 r94) 96 r96) (g := am_row g 1 l1) c1' c6' c7' v1' v2' v7' v8' hd' (fun u hu => by
    have h1 : s (184 + u) = F1 89 (184 + u) := by rw [e1]; exact hs _ (by omega)
    show O u = fn_m_allUnder (s (184 + u)) _
    rw [h1]
    exact ho u hu) y (by
    show y = fn_turnTo (s 200) _ _
    rw [hT]
    exact hy)
  exact A
theorem pu_I_q9 {f : Nat → Nat → Int32} {g : Nat → Nat → Int64} (hI : pu_I f g) {z : Nat → Int32} (h : pu_K8 (f 88) z) {s : Nat → Int32} (e : s = f 89) (y1 y34 y35 y36 y37 m93 m94 m96 : Nat → Int32) (G1 : Nat → Int64) : pu_I (am_row (am_row (am_row (am_row (am_row (am_row (am_row (am_row (am_row (am_row f 1 y1) 34 y34) 35 y35) 36 y36) 37 y37) 88 z) 89 s) 93 m93) 94 m94) 96 m96) (am_row g 1 G1) := by
  subst e
  obtain ⟨hc, hv, hd, hk, ht, hg⟩ := pu_I_q hI h y1 y34 y35 y36 y37 m93 m94 m96 G1
  exact ⟨hc, hv, hd, hk, ht, hg⟩
theorem pp_could : am_Pair pu_Inv 101 6 213 7 3 := pu_P3 fun f g hI x y w => by
  have hI' := hI
  obtain ⟨hc, hv, hd, hk, ht, hg⟩ := hI
  obtain ⟨c1, c2, c3, c4, c5, c6, c7, c8⟩ := id hc
  obtain ⟨v1, v2, v3, v4, v5, v6, v7, v8, v9⟩ := id hv
  have hp := pu_pl c6 v7
  have hr := pu_pr c7 v8
  have hm := pu_mOK c6 c7
  have key : ∀ F1 : Nat → Nat → Int32, F1 89 = f 89 → F1 92 = f 92 → ∃ z, fn_m_could x y w F1 = some z ∧ (fn_could x y w f g).1 = z.1 ∧ pu_K8 (F1 88) z.2.1 ∧ z.2.2.1 = f 89 := by
    intro F1 e1 e2
    have e6 : f 2 12 = F1 89 200 := by rw [e1]; exact v6
    unfold fn_could fn_m_could fn_m_isAsk
    rw [show fn_m_isOne 0 = true from rfl, cond_true, show fn_isAct x = fn_m_isAct x from rfl, show fn_isThing y = fn_m_isOne y from rfl, show fn_between w 0 200 = fn_m_isIn w 0 200 from rfl]
    cases h1 : fn_m_isAct x with
    | false => simp only [cond_false]; exact ⟨_, rfl, rfl, fun _ _ _ => rfl, e1⟩
    | true =>
      rw [cond_true, cond_true]
      cases h2 : fn_m_isOne y with
      | false => simp only [cond_false]; exact ⟨_, rfl, rfl, fun _ _ _ => rfl, e1⟩
      | true =>
        rw [cond_true, cond_true, cond_true]
        cases h3 : fn_m_isIn w 0 200 with
        | false => simp only [cond_false]; exact ⟨_, rfl, rfl, fun _ _ _ => rfl, e1⟩
        | true =>
          rw [cond_true, cond_true]
          obtain ⟨a, a1, a2⟩ := am_mInN (N := 8) (show fn_m_isIn x 0 7 = true from h1) (by decide)
          obtain ⟨t, t1, t2⟩ := am_mOne h2
          subst a2 t2
          rw [nI_clamp (by omega), nI_clamp (by omega)]
          generalize w.toNatClampNeg = N
          obtain ⟨z, q1, q2, q3, q4⟩ := pu_lock (f := st_could_47 a t f g (fn_settle (f 2 12) f g)) (st := st_m_could_38 a t F1) (fun x y => x.1 = y.1 ∧ pu_K8 (F1 88) y.2.1 ∧ ∀ j, j ≠ 200 → y.2.2.1 j = f 89 j) (N + 1) 0 (0, (fn_settle (f 2 12) f g).1, (fn_settle (f 2 12) f g).2.2.1, f 36, f 37, (fn_settle (f 2 12) f g).2.2.2) (0, F1 88, F1 89, F1 93, F1 94, F1 96) ⟨rfl, fun _ _ _ => rfl, fun j _ => congrFun e1 j⟩ (by
            rintro j ⟨b, r1, r35, r36, r37, l1⟩ ⟨b', r88, r89, r93, r94, r96⟩ - hj ⟨hb, hr8, hr9⟩
            simp only at hb hr8 hr9
            subst hb
            obtain ⟨s, hs⟩ : ∃ s, s = upd r89 200 (F1 89 200 + nI j) := ⟨_, rfl⟩
            have hs1 : ∀ j, j ≠ 200 → s j = f 89 j := fun j hj => by rw [hs]; exact (pu_un hj).trans (hr9 j hj)
            have hs2 : s 200 = f 2 12 + nI j := by rw [hs, e6]; exact pu_us
            have hok : am_mOK s := pu_mOK (pu_Cln_c (hs1 _ (by omega)) (fun j h1 h2 => hs1 j (by omega)) c6) (pu_Crl_c (hs1 _ (by omega)) (fun j h1 h2 => hs1 j (by omega)) c7)
            obtain ⟨z, z1, z2, z3⟩ := pu_users (pu_A_at hI' e1 e2 (f 2 12 + nI j) hs1 hs2 r1 r35 r36 r37 r88 r93 r94 r96 l1 _ rfl) a1 t1 1
            refine ⟨(b ||| z.1, z.2, s, (fn_m_holders_154 (am_row (am_row (am_row (am_row (am_row F1 88 r88) 89 s) 93 r93) 94 r94) 96 r96)).1, (fn_m_holders_154 (am_row (am_row (am_row (am_row (am_row F1 88 r88) 89 s) 93 r93) 94 r94) 96 r96)).2.1, (fn_m_holders_154 (am_row (am_row (am_row (am_row (am_row F1 88 r88) 89 s) 93 r93) 94 r94) 96 r96)).2.2), ?_, ?_, fun i i1 i2 => (z3 i i1 i2).trans (hr8 i i1 i2), hs1⟩
            · unfold st_m_could_38
              simp only
              rw [← hs, am_chk_p hok, z1, am_ob_s]
            · unfold st_could_47
              dsimp only
              rw [z2])
          unfold lf_could_47 lf_m_could_38
          rw [q1, am_ob_s]
          refine ⟨_, rfl, ?_, q3, ?_⟩
          · dsimp only
            exact q2
          · dsimp only
            rw [e1]
            exact pu_restore q4
  have key2 := key (am_row (am_row (am_row (am_row (am_row f 1 (fn_could x y w f g).2.1) 34 (fn_could x y w f g).2.2.1) 35 (fn_could x y w f g).2.2.2.1) 36 (fn_could x y w f g).2.2.2.2.1) 37 (fn_could x y w f g).2.2.2.2.2.1) rfl rfl
  have hx := x_could x y w f g hp.1 hp.2.1 hp.2.2.1 hp.2.2.2.1 hp.2.2.2.2 hr.1 hr.2.1 hr.2.2.1 (pu_pp c1 v2) hr.2.2.2.1
  clear key
  generalize fn_could x y w f g = Y at key2 hx
  obtain ⟨z, k1, k2, k3, k4⟩ := key2
  have hy := x_m_could x y w (am_row (am_row (am_row (am_row (am_row f 1 Y.2.1) 34 Y.2.2.1) 35 Y.2.2.2.1) 36 Y.2.2.2.2.1) 37 Y.2.2.2.2.2.1) (am_row g 1 Y.2.2.2.2.2.2) hm z k1
  exact ⟨_, _, _, _, _, pu_res hx (by decide) k2, pu_res hy (by decide) rfl, pu_I_q9 hI' k3 k4 _ _ _ _ _ _ _ _ _⟩
