/-! THE PURE LAYER: rows that don't count -/
set_option linter.unusedVariables false
def pu_smx (f f' : Nat → Nat → Int32) : Prop := f' 0 = f 0 ∧ f' 2 = f 2 ∧ f' 3 = f 3 ∧ f' 4 = f 4 ∧ f' 5 = f 5 ∧ f' 6 = f 6 ∧ f' 7 = f 7 ∧ f' 11 = f 11 ∧ f' 12 = f 12 ∧ f' 13 = f 13 ∧ f' 14 = f 14 ∧ f' 15 = f 15 ∧ f' 16 = f 16 ∧ f' 17 = f 17 ∧ f' 18 = f 18 ∧ f' 19 = f 19 ∧ f' 20 = f 20 ∧ f' 21 = f 21 ∧ f' 22 = f 22 ∧ f' 23 = f 23 ∧ f' 24 = f 24 ∧ f' 25 = f 25 ∧ f' 26 = f 26 ∧ f' 27 = f 27 ∧ f' 28 = f 28 ∧ f' 29 = f 29 ∧ f' 30 = f 30 ∧ f' 31 = f 31 ∧ f' 32 = f 32 ∧ f' 33 = f 33 ∧ f' 39 = f 39 ∧ f' 40 = f 40 ∧ f' 41 = f 41 ∧ f' 42 = f 42 ∧ f' 43 = f 43 ∧ f' 44 = f 44 ∧ f' 48 = f 48 ∧ f' 49 = f 49 ∧ f' 50 = f 50 ∧ f' 51 = f 51 ∧ f' 52 = f 52 ∧ f' 53 = f 53 ∧ f' 54 = f 54 ∧ f' 55 = f 55 ∧ f' 56 = f 56 ∧ f' 57 = f 57 ∧ f' 58 = f 58 ∧ f' 59 = f 59 ∧ f' 60 = f 60 ∧ f' 61 = f 61 ∧ f' 62 = f 62 ∧ f' 63 = f 63 ∧ f' 64 = f 64 ∧ f' 65 = f 65 ∧ f' 66 = f 66 ∧ f' 67 = f 67 ∧ f' 68 = f 68 ∧ f' 69 = f 69 ∧ f' 70 = f 70 ∧ f' 75 = f 75 ∧ f' 76 = f 76 ∧ f' 83 = f 83 ∧ f' 84 = f 84 ∧ f' 85 = f 85 ∧ f' 89 = f 89 ∧ f' 90 = f 90 ∧ f' 92 = f 92 ∧ f' 97 = f 97 ∧ f' 99 = f 99 ∧ f' 100 = f 100
theorem pu_I_s {f f' : Nat → Nat → Int32} {g g' : Nat → Nat → Int64} (hI : pu_I f g) (hs : pu_smx f f') (h88 : pu_K8 (f 88) (f' 88)) (k11 : g' 11 = g 11) (k48 : g' 48 = g 48) : pu_I f' g' := by
  obtain ⟨h0, h2, h3, h4, h5, h6, h7, h11, h12, h13, h14, h15, h16, h17, h18, h19, h20, h21, h22, h23, h24, h25, h26, h27, h28, h29, h30, h31, h32, h33, h39, h40, h41, h42, h43, h44, h48, h49, h50, h51, h52, h53, h54, h55, h56, h57, h58, h59, h60, h61, h62, h63, h64, h65, h66, h67, h68, h69, h70, h75, h76, h83, h84, h85, h89, h90, h92, h97, h99, h100⟩ := hs
  obtain ⟨hc, hv, hd, hk, ht, hg⟩ := hI
  refine ⟨by rw [h89]; exact hc, ?_, by rw [h89, h92]; exact hd, ?_, ?_, ?_⟩
  · rw [h89, k11]
    exact pu_V_eq hc.2.2.2.2.2.2.1 hv ⟨congrFun h2 10, congrFun h2 11, congrFun h2 12, congrFun h3 7, congrFun h11 7, congrFun h18 8, congrFun h18 9, congrFun h18 10, congrFun h18 11, fun _ _ => congrFun h4 _, fun _ _ => congrFun h5 _, fun _ _ => congrFun h6 _, fun _ _ => congrFun h7 _, fun _ _ => congrFun h12 _, fun _ _ => congrFun h13 _, fun _ _ => congrFun h14 _, fun _ _ => congrFun h15 _, fun _ _ => congrFun h16 _, fun _ _ => congrFun h17 _, fun _ _ => congrFun h19 _, fun _ _ => congrFun h20 _, fun _ _ => congrFun h21 _, fun _ _ => congrFun h22 _, fun _ _ => congrFun h23 _, fun _ _ => congrFun h24 _, fun _ _ => congrFun h25 _, fun _ _ => congrFun h26 _, fun _ _ => congrFun h27 _, fun _ _ => congrFun h28 _, fun _ _ => congrFun h29 _, fun _ _ => congrFun h30 _, fun _ _ => congrFun h31 _, fun _ _ => congrFun h32 _, fun _ _ => congrFun h33 _, rfl⟩
  · obtain ⟨n1, n2, sk, n3, n4, n5⟩ := hk
    refine ⟨by rw [h0, h88 3 (by decide) (by decide)]; exact n1, by rw [h0]; exact n2, sk, n3, ?_, by rw [h0, h90]; exact n5⟩
    rw [k48]
    exact pu_V_eq n3.2.2.2.2.2.2.1 n4 ⟨congrFun h39 10, congrFun h39 11, congrFun h39 12, congrFun h40 7, congrFun h48 7, congrFun h55 8, congrFun h55 9, congrFun h55 10, congrFun h55 11, fun _ _ => congrFun h41 _, fun _ _ => congrFun h42 _, fun _ _ => congrFun h43 _, fun _ _ => congrFun h44 _, fun _ _ => congrFun h49 _, fun _ _ => congrFun h50 _, fun _ _ => congrFun h51 _, fun _ _ => congrFun h52 _, fun _ _ => congrFun h53 _, fun _ _ => congrFun h54 _, fun _ _ => congrFun h56 _, fun _ _ => congrFun h57 _, fun _ _ => congrFun h58 _, fun _ _ => congrFun h59 _, fun _ _ => congrFun h60 _, fun _ _ => congrFun h61 _, fun _ _ => congrFun h62 _, fun _ _ => congrFun h63 _, fun _ _ => congrFun h64 _, fun _ _ => congrFun h65 _, fun _ _ => congrFun h66 _, fun _ _ => congrFun h67 _, fun _ _ => congrFun h68 _, fun _ _ => congrFun h69 _, fun _ _ => congrFun h70 _, rfl⟩
  · obtain ⟨n, n1, n2, n3, n4⟩ := ht
    exact ⟨n, n1, by rw [h75]; exact n2, (h88 11 (by decide) (by decide)).trans n3, by rw [h76, h97]; exact n4⟩
  · obtain ⟨n, n1, n2, n3, n4⟩ := hg
    exact ⟨n, n1, by rw [h83]; exact n2, (h88 23 (by decide) (by decide)).trans n3, by rw [h84, h85, h99, h100]; exact n4⟩
theorem pu_K8_r (r : Nat → Int32) : pu_K8 r r := fun _ _ _ => rfl
theorem pp_chain : am_Pair pu_Inv 130 5 240 6 3 := pu_P3 fun f g hI x y i => by
  have hI' := hI
  obtain ⟨hc, hv, hd, hk, ht, hg⟩ := hI
  obtain ⟨c1, c2, c3, c4, c5, c6, c7, c8⟩ := id hc
  obtain ⟨v1, v2, v3, v4, v5, v6, v7, v8, v9⟩ := id hv
  have key : ∀ F1 : Nat → Nat → Int32, F1 89 = f 89 → ∃ z, fn_m_chain x y i F1 = some z ∧ (fn_chain x y i f).1 = z.1 := by
    intro F1 e1
    unfold fn_m_chain fn_chain
    rw [show fn_isRole x = fn_m_isRole x from rfl, show fn_isRole y = fn_m_isRole y from rfl]
    cases h1 : fn_m_isRole x with
    | false => exact ⟨_, rfl, rfl⟩
    | true =>
      rw [cond_true, cond_true]
      cases h2 : fn_m_isRole y with
      | false => exact ⟨_, rfl, rfl⟩
      | true =>
        rw [cond_true, cond_true]
        by_cases h3 : -1 ≤ i
        · rw [if_pos h3, if_pos h3]
          obtain ⟨a, a1, a2⟩ := am_mRole h1
          obtain ⟨b, b1, b2⟩ := am_mRole h2
          subst a2 b2
          rw [nI_clamp (by omega)]
          have hT : ∀ q, 20 ≤ q → pu_bt (1 <<< (nI b &&& 31)) q = false := fun q hq => by rw [pu_one b (by omega)]; exact decide_eq_false (by omega)
          have he : ∀ r, r < 20 → ∀ q, q < 20 → fn_m_has (F1 89 ((144 + (bif false then nI q else nI r)).toNatClampNeg)) (bif false then nI r else nI q) = (fun r q => pu_bt (f 4 r) q) r q := fun r hr q hq => by
            rw [cond_false, cond_false, pu_mhas _ (by omega : q < 32), show (144 : Int32) = nI 144 from rfl, nI_add, nI_clamp (by omega), e1]
            show _ = pu_bt (f 4 r) q
            rw [v3.1 r hr]
          obtain ⟨A1, A2⟩ := pu_Fewest (f := f) hT a1
          obtain ⟨B1, B2⟩ := pu_dists_d he (1 <<< (nI b &&& 31)) a1
          have Ball := fun r (hr : r < 20) => (pu_dists_d he (1 <<< (nI b &&& 31)) hr).2
          generalize fn_rFewest a (1 <<< (nI b &&& 31)) f = Y at A1 A2 ⊢
          generalize fn_m_distances (1 <<< (nI b &&& 31)) false F1 = D at B1 B2 Ball ⊢
          cases hb : pu_B (fun r q => pu_bt (f 4 r) q) (pu_bt (1 <<< (nI b &&& 31))) 20 a with
          | false =>
            rw [if_pos (A1 hb), if_pos (B1 hb)]
            exact ⟨_, rfl, rfl⟩
          | true =>
            obtain ⟨d, d1, d2⟩ := pu_isD_ex hb
            have d20 := pu_isD_lt a1 d2
            obtain ⟨y1, y2⟩ := A2 d d2
            have hDa : D a = nI d := (B2 d d20).mpr d2
            rw [y1, hDa, if_neg (nI_ne0 (by omega) (by omega)), if_neg (fun h => by
              have := (nI_eq (b := 99) (by omega) (by omega)).mp h
              omega)]
            by_cases hi : i < 0
            · have hi0 : ¬ (0 : Int32) ≤ i := Int32.not_le.mpr hi
              have n1 : ¬ nI (d + 1) ≤ i := fun h => nI_pos (n := d + 1) (by omega) (Int32.lt_of_le_of_lt h hi)
              have n2 : i ≤ nI d := Int32.le_of_lt (Int32.lt_of_lt_of_le hi (Int32.not_lt.mp (nI_pos (by omega))))
              have n3 : i < 20 := Int32.lt_trans hi (by decide)
              rw [if_neg n1, if_pos n3, if_neg hi0, if_pos n2, if_neg hi0, nI_pred]
              exact ⟨_, rfl, rfl⟩
            · obtain ⟨j, j1, j2⟩ := nI_of hi
              subst j2
              by_cases hj : j ≤ d
              · rw [if_neg (show ¬ nI (d + 1) ≤ nI j from nI_ge (by omega) (by omega)), if_pos (show nI j < 20 from nI_lt (b := 20) (by omega) (by omega)), if_pos (Int32.not_lt.mp hi), if_pos (show nI j ≤ nI d from nI_le hj (by omega)), if_pos (Int32.not_lt.mp hi), nI_clamp (by omega), y2 j hj]
                have hn := pu_nd_k (e := fun r q => pu_bt (f 4 r) q) a1 d2
                obtain ⟨z, z1, z2⟩ := pu_while (st := st_m_chain_70 (nI j) F1 D) (fun w => ∃ k, k ≤ j ∧ w = (nI (pu_nd (fun r q => pu_bt (f 4 r) q) (pu_bt (1 <<< (nI b &&& 31))) a d k), nI k)) (fun w => j - w.2.toNatClampNeg) (fun z => ∃ w, z = .inl (nI (pu_nd (fun r q => pu_bt (f 4 r) q) (pu_bt (1 <<< (nI b &&& 31))) a d j), w)) (by
                  rintro w ⟨k, k1, rfl⟩
                  unfold st_m_chain_70
                  simp only
                  by_cases c : k = j
                  · subst c
                    rw [if_pos (Int32.le_refl _)]
                    exact .inr ⟨_, rfl, _, rfl⟩
                  · rw [if_neg (show ¬ nI j ≤ nI k from nI_ge (by omega) (by omega))]
                    obtain ⟨n1, n2⟩ := hn k (by omega)
                    obtain ⟨s1, s2, s3⟩ := pu_nd_s (e := fun r q => pu_bt (f 4 r) q) (fr := a) (show k < d by omega) n2
                    rw [show d - k = (d - (k + 1)) + 1 by omega] at n2
                    rw [pu_nearer (e := fun r q => pu_bt (f 4 r) q) (T := pu_bt (1 <<< (nI b &&& 31))) (f := am_row F1 95 D) he Ball n1 (by omega) n2 s1, am_ob_s]
                    refine .inl ⟨_, rfl, ⟨k + 1, by omega, by rw [nI_1]⟩, ?_⟩
                    simp only
                    rw [nI_1, nI_clamp (by omega), nI_clamp (by omega)]
                    omega) (nI a, 0) ⟨0, Nat.zero_le _, rfl⟩
                obtain ⟨w, w1⟩ := z2
                unfold lf_m_chain_70
                rw [z1, am_ob_s, w1]
                exact ⟨_, rfl, rfl⟩
              · rw [if_pos (show nI (d + 1) ≤ nI j from nI_le (by omega) (by omega)), if_neg (show ¬ nI j ≤ nI d from nI_ge (by omega) (by omega))]
                exact ⟨_, rfl, rfl⟩
        · rw [if_neg h3, if_neg h3]
          exact ⟨_, rfl, rfl⟩
  have key2 := key (am_row (am_row f 8 (fn_chain x y i f).2.1) 86 (fn_chain x y i f).2.2) rfl
  have hx := x_chain x y i f g
  clear key
  generalize fn_chain x y i f = Y at key2 hx
  obtain ⟨z, k1, k2⟩ := key2
  have hy := x_m_chain x y i (am_row (am_row f 8 Y.2.1) 86 Y.2.2) g z k1
  exact ⟨_, _, _, _, _, pu_res hx (by decide) k2, pu_res hy (by decide) rfl, pu_I_s hI' ⟨rfl, rfl, rfl, rfl, rfl, rfl, rfl, rfl, rfl, rfl, rfl, rfl, rfl, rfl, rfl, rfl, rfl, rfl, rfl, rfl, rfl, rfl, rfl, rfl, rfl, rfl, rfl, rfl, rfl, rfl, rfl, rfl, rfl, rfl, rfl, rfl, rfl, rfl, rfl, rfl, rfl, rfl, rfl, rfl, rfl, rfl, rfl, rfl, rfl, rfl, rfl, rfl, rfl, rfl, rfl, rfl, rfl, rfl, rfl, rfl, rfl, rfl, rfl, rfl, rfl, rfl, rfl, rfl, rfl, rfl⟩ (pu_K8_r _) rfl rfl⟩
