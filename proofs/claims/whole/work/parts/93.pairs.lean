/-! PAIRS OF CALLS: image, back -/
set_option linter.unusedVariables false
/-- the same cells -/
def pu_EQ (F F' : Nat → Nat → Int32) (tk tk' : Int64) : Prop := F' 2 10 = F 2 10 ∧ F' 2 11 = F 2 11 ∧ F' 2 12 = F 2 12 ∧ F' 3 7 = F 3 7 ∧ F' 11 7 = F 11 7 ∧ F' 18 8 = F 18 8 ∧ F' 18 9 = F 18 9 ∧ F' 18 10 = F 18 10 ∧ F' 18 11 = F 18 11 ∧ (∀ j, j < 20 → F' 4 j = F 4 j) ∧ (∀ j, j < 20 → F' 5 j = F 5 j) ∧ (∀ j, j < 20 → F' 6 j = F 6 j) ∧ (∀ j, j < 20 → F' 7 j = F 7 j) ∧ (∀ j, j < 40 → F' 12 j = F 12 j) ∧ (∀ j, j < 40 → F' 13 j = F 13 j) ∧ (∀ j, j < 40 → F' 14 j = F 14 j) ∧ (∀ j, j < 40 → F' 15 j = F 15 j) ∧ (∀ j, j < 40 → F' 16 j = F 16 j) ∧ (∀ j, j < 40 → F' 17 j = F 17 j) ∧ (∀ j, j < 30 → F' 19 j = F 19 j) ∧ (∀ j, j < 30 → F' 20 j = F 20 j) ∧ (∀ j, j < 30 → F' 21 j = F 21 j) ∧ (∀ j, j < 30 → F' 22 j = F 22 j) ∧ (∀ j, j < 30 → F' 23 j = F 23 j) ∧ (∀ j, j < 30 → F' 24 j = F 24 j) ∧ (∀ j, j < 30 → F' 25 j = F 25 j) ∧ (∀ j, j < 2400 → F' 26 j = F 26 j) ∧ (∀ j, j < 64 → F' 27 j = F 27 j) ∧ (∀ j, j < 64 → F' 28 j = F 28 j) ∧ (∀ j, j < 16 → F' 29 j = F 29 j) ∧ (∀ j, j < 16 → F' 30 j = F 30 j) ∧ (∀ j, j < 20 → F' 31 j = F 31 j) ∧ (∀ j, j < 180 → F' 32 j = F 32 j) ∧ (∀ j, j < 3 → F' 33 j = F 33 j) ∧ tk' = tk
theorem pu_V_eq {F F' : Nat → Nat → Int32} {tk tk' : Int64} {s : Nat → Int32} (hc : pu_Crl s) (hv : pu_V F tk s) (he : pu_EQ F F' tk tk') : pu_V F' tk' s := by
  obtain ⟨e210, e211, e212, e37, e117, e188, e189, e1810, e1811, e4, e5, e6, e7, e12, e13, e14, e15, e16, e17, e19, e20, e21, e22, e23, e24, e25, e26, e27, e28, e29, e30, e31, e32, e33, etk⟩ := he
  obtain ⟨v1, v2, v3, v4, v5, v6, v7, v8, v9⟩ := hv
  subst etk
  have eE : pu_E (F' 4) = pu_E (F 4) := pu_E_c e4
  have eR : ∀ i q, pu_R (F' 4) i q ↔ pu_R (F 4) i q := fun i q => pu_R_congr e4
  refine ⟨⟨fun k hk => (e27 k hk).trans (v1.1 k hk), fun k hk => (e28 k hk).trans (v1.2 k hk)⟩, fun t ht => (e29 t ht).trans (v2 t ht), ⟨fun r hr => (e4 r hr).trans (v3.1 r hr), fun r hr q hq => ?_, fun r hr q hq => ?_, fun r hr q hq => ?_, e37.trans v3.2.2.2.2⟩, ⟨fun r hr => (e31 r hr).trans (v4.1 r hr), e210.trans v4.2⟩, fun u hu => (e30 u hu).trans (v5 u hu), Eq.trans e212 v6, ⟨e117.trans v7.1, fun l hl => ?_⟩, ⟨e1811.trans v8.1, fun r hr => ?_, fun r hr => ?_, fun r hr => ?_, fun r hr hn => ?_⟩, ⟨e211.trans v9.1, fun j hj => (e32 j hj).trans (v9.2.1 j hj), fun j hj => (e33 j hj).trans (v9.2.2 j hj)⟩⟩
  · rw [e5 r hr, eE]; exact v3.2.1 r hr q hq
  · rw [e6 r hr, eR]; exact v3.2.2.1 r hr q hq
  · rw [e7 r hr, eR]; exact v3.2.2.2.1 r hr q hq
  · rw [e12 l hl, e13 l hl, e14 l hl, e15 l hl, e16 l hl, e17 l hl]; exact v7.2 l hl
  · rw [e19 r hr, e20 r hr, e21 r hr, e22 r hr, e23 r hr, e24 r hr, e25 r hr]; exact v8.2.1 r hr
  · rw [e188]; exact v8.2.2.1 r hr
  · rw [e189, e1810]; exact v8.2.2.2.1 r hr
  · obtain ⟨V, w1, w2⟩ := v8.2.2.2.2 r hr hn
    obtain ⟨R, r1, r2, r3, r4⟩ := hc
    have hR := (pu_cl r2 (by omega)).2
    obtain ⟨-, -, -, -, ⟨a, a1, a2⟩⟩ := r4 r (by omega)
    have ha := (pu_cl a2 (by omega)).2
    exact ⟨V, w1, pu_Post_mv w2 (fun x hx => e26 _ (by omega))⟩
theorem pu_cp (f g : Nat → Int32) {n j : Nat} (h : j < n) : va_cpy f g 0 0 n j = f j := by
  rw [pk_cpy_in (by omega) (by omega)]
  exact congrArg f (by omega)
theorem pu_img {d j n : Nat} {vs : List Value} {μ : am_M} {x : Int32} {F1 : Nat → Nat → Int32} {g1 : Nat → Nat → Int64} {s s8 : Nat → Int32} (hX : am_D d j n vs μ (some (.int x), am_S F1 g1)) (h : F1 89 = s) (h8 : F1 88 = s8) : ∃ y : Int32 × (Nat → Int32) × (Nat → Int32), am_D 1 245 1 [.ref 88] (am_S F1 g1) (some (.int y.1), am_S (am_row (am_row F1 88 y.2.1) 90 y.2.2) g1) ∧ y.1 = s 200 ∧ y.2.1 = upd s8 3 1 ∧ ∀ j, j < 3340 → y.2.2 j = s j := by
  refine ⟨fn_m_image F1, x_m_image F1 g1, congrFun h 200, ?_, fun j hj => ?_⟩
  · unfold fn_m_image; rw [h8]
  · have e := (pu_fill (v := F1 89) (g := st_m_copiesSI_2 F1) 3340 (F1 90) (fun _ _ _ => rfl)).1 j hj
    have e2 : (fn_m_image F1).2.2 = fn_m_copiesSI F1 := by simp only [fn_m_image]
    rw [e2]
    unfold fn_m_copiesSI lf_m_copiesSI_2
    rw [e, h]
theorem pu_bck {d j n : Nat} {vs : List Value} {μ : am_M} {x : Int32} {F1 : Nat → Nat → Int32} {g1 : Nat → Nat → Int64} {s s8 : Nat → Int32} (hX : am_D d j n vs μ (some (.int x), am_S F1 g1)) (h8 : F1 88 = s8) (hk : s8 3 = 1) (h : ∀ j, j < 3340 → F1 90 j = s j) (hs : pu_Crol s) : ∃ y : Int32 × (Nat → Int32) × (Nat → Int32), am_D 2 246 1 [.ref 88] (am_S F1 g1) (some (.int y.1), am_S (am_row (am_row F1 89 y.2.1) 92 y.2.2) g1) ∧ y.1 = s 200 ∧ (∀ j, j < 3340 → y.2.1 j = s j) ∧ pu_CL (fun r => y.2.1 (144 + r)) y.2.2 := by
  have H : ∀ j, j < 3340 → fn_m_copiesIS F1 j = s j := fun j hj => by
    have e := (pu_fill (v := F1 90) (g := st_m_copiesIS_2 F1) 3340 (F1 89) (fun _ _ _ => rfl)).1 j hj
    unfold fn_m_copiesIS lf_m_copiesIS_2
    rw [e]; exact h j hj
  have hm : fn_m_back F1 = am_ob (fn_m_lattice (am_row F1 89 (fn_m_copiesIS F1))) (fun (y3 : (Nat → Int32)) => (some ((fn_m_copiesIS F1) 200, (fn_m_copiesIS F1), y3))) := by
    unfold fn_m_back
    rw [if_neg (by rw [h8, hk]; decide)]
  generalize fn_m_copiesIS F1 = s' at H hm
  obtain ⟨c, q1, q2⟩ := pu_lattice (am_row F1 89 s') (fun r hr q hq => by
    show pu_bt (s' (144 + r)) q = false
    rw [H _ (by omega)]; exact hs.1 r hr q hq)
  rw [q1, am_ob_s] at hm
  exact ⟨_, x_m_back F1 g1 _ hm, H 200 (by decide), H, q2⟩
theorem pp_image : am_Pair pu_Inv 136 1 245 1 0 := pu_P0 fun f g hI => by
  obtain ⟨hc, hv, hd, hk, ht, hg⟩ := hI
  obtain ⟨c1, c2, c3, c4, c5, c6, c7, c8⟩ := id hc
  obtain ⟨v1, v2, v3, v4, v5, v6, v7, v8, v9⟩ := id hv
  have hX := x_image f g _ rfl
  obtain ⟨y, hx2, y1, y2, y3⟩ := pu_img hX (rfl : _ = f 89) (rfl : _ = f 88)
  refine ⟨_, _, _, _, _, pu_res hX (by decide) (show f 2 12 = f 89 200 from v6), pu_res hx2 (by decide) y1, hc, hv, hd, ⟨?_, ?_, f 89, hc, ?_, fun _ => y3⟩, ?_, ?_⟩
  · show upd (f 0) 9 1 9 = y.2.1 3
    rw [y2, pu_us, pu_us]
  · exact .inr (show upd (f 0) 9 1 9 = 1 from pu_us)
  · refine pu_V_eq c7 hv ⟨(show upd (upd (upd (f 39) 10 (f 2 10)) 11 (f 2 11)) 12 (f 2 12) 10 = f 2 10 from (pu_un (by decide)).trans ((pu_un (by decide)).trans pu_us)), (show upd (upd (upd (f 39) 10 (f 2 10)) 11 (f 2 11)) 12 (f 2 12) 11 = f 2 11 from (pu_un (by decide)).trans pu_us), (show upd (upd (upd (f 39) 10 (f 2 10)) 11 (f 2 11)) 12 (f 2 12) 12 = f 2 12 from pu_us), (show upd (f 40) 7 (f 3 7) 7 = f 3 7 from pu_us), (show upd (f 48) 7 (f 11 7) 7 = f 11 7 from pu_us), (show upd (upd (upd (upd (f 55) 8 (f 18 8)) 9 (f 18 9)) 10 (f 18 10)) 11 (f 18 11) 8 = f 18 8 from (pu_un (by decide)).trans ((pu_un (by decide)).trans ((pu_un (by decide)).trans pu_us))), (show upd (upd (upd (upd (f 55) 8 (f 18 8)) 9 (f 18 9)) 10 (f 18 10)) 11 (f 18 11) 9 = f 18 9 from (pu_un (by decide)).trans ((pu_un (by decide)).trans pu_us)), (show upd (upd (upd (upd (f 55) 8 (f 18 8)) 9 (f 18 9)) 10 (f 18 10)) 11 (f 18 11) 10 = f 18 10 from (pu_un (by decide)).trans pu_us), (show upd (upd (upd (upd (f 55) 8 (f 18 8)) 9 (f 18 9)) 10 (f 18 10)) 11 (f 18 11) 11 = f 18 11 from pu_us), fun j hj => pu_cp (f 4) (f 41) hj, fun j hj => pu_cp (f 5) (f 42) hj, fun j hj => pu_cp (f 6) (f 43) hj, fun j hj => pu_cp (f 7) (f 44) hj, fun j hj => pu_cp (f 12) (f 49) hj, fun j hj => pu_cp (f 13) (f 50) hj, fun j hj => pu_cp (f 14) (f 51) hj, fun j hj => pu_cp (f 15) (f 52) hj, fun j hj => pu_cp (f 16) (f 53) hj, fun j hj => pu_cp (f 17) (f 54) hj, fun j hj => pu_cp (f 19) (f 56) hj, fun j hj => pu_cp (f 20) (f 57) hj, fun j hj => pu_cp (f 21) (f 58) hj, fun j hj => pu_cp (f 22) (f 59) hj, fun j hj => pu_cp (f 23) (f 60) hj, fun j hj => pu_cp (f 24) (f 61) hj, fun j hj => pu_cp (f 25) (f 62) hj, fun j hj => pu_cp (f 26) (f 63) hj, fun j hj => pu_cp (f 27) (f 64) hj, fun j hj => pu_cp (f 28) (f 65) hj, fun j hj => pu_cp (f 29) (f 66) hj, fun j hj => pu_cp (f 30) (f 67) hj, fun j hj => pu_cp (f 31) (f 68) hj, fun j hj => pu_cp (f 32) (f 69) hj, fun j hj => pu_cp (f 33) (f 70) hj, (show vp_updL (g 48) 6 (g 11 6) 6 = g 11 6 from pk_uLs)⟩
  · obtain ⟨n, n1, n2, n3, n4⟩ := ht
    exact ⟨n, n1, n2, (show y.2.1 11 = f 88 11 by rw [y2]; exact pu_un (by decide)).trans n3, n4⟩
  · obtain ⟨m, m1, m2, m3, m4⟩ := hg
    exact ⟨m, m1, m2, (show y.2.1 23 = f 88 23 by rw [y2]; exact pu_un (by decide)).trans m3, m4⟩
theorem pp_back : am_Pair pu_Inv 141 1 246 1 0 := pu_P0 fun f g hI => by
  obtain ⟨hc, hv, hd, hk, ht, hg⟩ := hI
  obtain ⟨c1, c2, c3, c4, c5, c6, c7, c8⟩ := id hc
  obtain ⟨v1, v2, v3, v4, v5, v6, v7, v8, v9⟩ := id hv
  obtain ⟨k1, k2, sk, k3, k4, k5⟩ := id hk
  rcases k2 with k2 | k2
  · have e1 := (if_pos k2 : fn_back f g = _)
    have e2 : ∀ F1 : Nat → Nat → Int32, F1 88 = f 88 → F1 89 = f 89 → F1 92 = f 92 → fn_m_back F1 = some ((-5), f 89, f 92) := fun F1 h1 h2 h3 => by unfold fn_m_back; rw [h1, h2, h3, if_pos (by rw [← k1]; exact k2)]
    exact ⟨_, _, _, _, _, pu_res (x_back f g _ e1) (by decide) rfl, pu_res (x_m_back _ _ _ (e2 _ rfl rfl rfl)) (by decide) rfl, hc, hv, hd, hk, ht, hg⟩
  · have e1 := (if_neg (show ¬ f 0 9 = 0 by rw [k2]; decide) : fn_back f g = _)
    obtain ⟨c1, c2, c3, c4, c5, c6, c7, c8⟩ := id k3
    have hX := x_back f g _ e1
    obtain ⟨y, hx2, y1, H, q2⟩ := pu_bck hX (rfl : _ = f 88) (k1.symm.trans k2) (fun j hj => k5 k2 j hj) c2
    refine ⟨_, _, _, _, _, pu_res hX (by decide) ?_, pu_res hx2 (by decide) rfl, ?_⟩
    rotate_left
    · generalize y.2.1 = s' at q2 H ⊢
      have hV : pu_V (fun k => f (k + 37)) (g 48 6) s' := by
        obtain ⟨v1, v2, v3, v4, v5, v6, v7, v8, v9⟩ := id k4
        exact ⟨pu_Vatt_c (fun j h1 => H j (by omega)) v1, pu_Vpar_c (fun j h1 h2 => H j (by omega)) v2, pu_Vrol_c (fun j h1 h2 => H j (by omega)) (H _ (by omega)) v3, pu_Vbar_c (fun j h1 h2 => H j (by omega)) (H _ (by omega)) v4, pu_Vass_c (fun j h1 h2 => H j (by omega)) v5, pu_Vtick_c (H _ (by omega)) v6, pu_Vln_c (H _ (by omega)) (fun j h1 h2 => H j (by omega)) v7, pu_Vrl_c (H _ (by omega)) c7 (fun j h1 h2 => H j (by omega)) v8, pu_Vbk_c (fun j h1 h2 => H j (by omega)) (fun j h1 h2 => H j (by omega)) v9⟩
      have hC : pu_C s' := ⟨pu_Cpar_c (fun j h1 h2 => H j (by omega)) c1, pu_Crol_c (fun j h1 h2 => H j (by omega)) (H _ (by omega)) c2, pu_Cunl_c (fun j h1 h2 => H j (by omega)) (H _ (by omega)) c3, pu_Cass_c (fun j h1 h2 => H j (by omega)) c4, pu_Ctick_c (H _ (by omega)) c5, pu_Cln_c (H _ (by omega)) (fun j h1 h2 => H j (by omega)) c6, pu_Crl_c (H _ (by omega)) (fun j h1 h2 => H j (by omega)) c7, pu_Cbk_c (H _ (by omega)) c8⟩
      refine ⟨hC, pu_V_eq (F := fun k => f (k + 37)) hC.2.2.2.2.2.2.1 hV ⟨(show upd (upd (upd (f 2) 10 (f 39 10)) 11 (f 39 11)) 12 (f 39 12) 10 = f 39 10 from (pu_un (by decide)).trans ((pu_un (by decide)).trans pu_us)), (show upd (upd (upd (f 2) 10 (f 39 10)) 11 (f 39 11)) 12 (f 39 12) 11 = f 39 11 from (pu_un (by decide)).trans pu_us), (show upd (upd (upd (f 2) 10 (f 39 10)) 11 (f 39 11)) 12 (f 39 12) 12 = f 39 12 from pu_us), (show upd (f 3) 7 (f 40 7) 7 = f 40 7 from pu_us), (show upd (f 11) 7 (f 48 7) 7 = f 48 7 from pu_us), (show upd (upd (upd (upd (f 18) 8 (f 55 8)) 9 (f 55 9)) 10 (f 55 10)) 11 (f 55 11) 8 = f 55 8 from (pu_un (by decide)).trans ((pu_un (by decide)).trans ((pu_un (by decide)).trans pu_us))), (show upd (upd (upd (upd (f 18) 8 (f 55 8)) 9 (f 55 9)) 10 (f 55 10)) 11 (f 55 11) 9 = f 55 9 from (pu_un (by decide)).trans ((pu_un (by decide)).trans pu_us)), (show upd (upd (upd (upd (f 18) 8 (f 55 8)) 9 (f 55 9)) 10 (f 55 10)) 11 (f 55 11) 10 = f 55 10 from (pu_un (by decide)).trans pu_us), (show upd (upd (upd (upd (f 18) 8 (f 55 8)) 9 (f 55 9)) 10 (f 55 10)) 11 (f 55 11) 11 = f 55 11 from pu_us), fun j hj => pu_cp (f 41) (f 4) hj, fun j hj => pu_cp (f 42) (f 5) hj, fun j hj => pu_cp (f 43) (f 6) hj, fun j hj => pu_cp (f 44) (f 7) hj, fun j hj => pu_cp (f 49) (f 12) hj, fun j hj => pu_cp (f 50) (f 13) hj, fun j hj => pu_cp (f 51) (f 14) hj, fun j hj => pu_cp (f 52) (f 15) hj, fun j hj => pu_cp (f 53) (f 16) hj, fun j hj => pu_cp (f 54) (f 17) hj, fun j hj => pu_cp (f 56) (f 19) hj, fun j hj => pu_cp (f 57) (f 20) hj, fun j hj => pu_cp (f 58) (f 21) hj, fun j hj => pu_cp (f 59) (f 22) hj, fun j hj => pu_cp (f 60) (f 23) hj, fun j hj => pu_cp (f 61) (f 24) hj, fun j hj => pu_cp (f 62) (f 25) hj, fun j hj => pu_cp (f 63) (f 26) hj, fun j hj => pu_cp (f 64) (f 27) hj, fun j hj => pu_cp (f 65) (f 28) hj, fun j hj => pu_cp (f 66) (f 29) hj, fun j hj => pu_cp (f 67) (f 30) hj, fun j hj => pu_cp (f 68) (f 31) hj, fun j hj => pu_cp (f 69) (f 32) hj, fun j hj => pu_cp (f 70) (f 33) hj, (show vp_updL (g 11) 6 (g 48 6) 6 = g 48 6 from pk_uLs)⟩, q2, hk, ht, hg⟩
    · show upd (upd (upd (f 2) 10 (f 39 10)) 11 (f 39 11)) 12 (f 39 12) 12 = y.1
      rw [pu_us, y1]
      exact (k4.2.2.2.2.2.1 : f 39 12 = sk 200)
