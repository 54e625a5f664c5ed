/-! state and view (wip/whole/m2.py) -/
theorem am_par {f : Nat → Nat → Int32} {x : Int32} (h : ∀ t, t < 16 → (f 29 t).toInt < 16) (h0 : ¬ x < 0) (h1 : x.toInt < 16) : (f 29 x.toNatClampNeg).toInt < 16 := by
  refine h _ ?_
  rw [Int32.lt_iff_toInt_lt] at h0
  show x.toInt.toNat < 16
  omega
theorem am_parK {f : Nat → Nat → Int32} {x : Int32} (h : ∀ t, t < 16 → (f 66 t).toInt < 16) (h0 : ¬ x < 0) (h1 : x.toInt < 16) : (f 66 x.toNatClampNeg).toInt < 16 := by
  refine h _ ?_
  rw [Int32.lt_iff_toInt_lt] at h0
  show x.toInt.toNat < 16
  omega
/-- AccessLattice$View.combined -/
def fn_combined (op : Int32) (a : Int32) (b : Int32) : Int32 := (if op = 38 then am_b (if a = 0 then false else (if b = 0 then false else true)) else (if op = 39 then am_b (if a = 0 then (if b = 0 then false else true) else true) else (if op = 40 then am_b (if a = 0 then (if b = 0 then false else true) else true) else (if op = 41 then am_b (if a = 0 then (if b = 0 then false else true) else true) else (if op = 42 then a * b else (if op = 43 then a + b else (if op = 44 then am_b (if a = 0 then (if b = 0 then false else true) else true) else (if op = 45 then a - b else (if op = 46 then am_b (if a = 0 then (if b = 0 then false else true) else true) else (if op = 47 then am_b (if a = 0 then (if b = 0 then false else true) else true) else (if op = 48 then am_b (if a = 0 then (if b = 0 then false else true) else true) else (if op = 49 then am_b (if a = 0 then (if b = 0 then false else true) else true) else (if op = 50 then am_b (if a = 0 then (if b = 0 then false else true) else true) else (if op = 51 then am_b (if a = 0 then (if b = 0 then false else true) else true) else (if op = 52 then am_b (if a = 0 then (if b = 0 then false else true) else true) else (if op = 53 then am_b (if a = 0 then (if b = 0 then false else true) else true) else (if op = 54 then am_b (if a = 0 then (if b = 0 then false else true) else true) else (if op = 55 then am_b (if a = 0 then (if b = 0 then false else true) else true) else (if op = 56 then am_b (if a = 0 then (if b = 0 then false else true) else true) else (if op = 57 then am_b (if a = 0 then (if b = 0 then false else true) else true) else (if op = 58 then am_b (if a = 0 then (if b = 0 then false else true) else true) else (if op = 59 then am_b (if a = 0 then (if b = 0 then false else true) else true) else (if op = 60 then am_b (if b ≤ a then false else true) else (if op = 61 then am_b (if a = b then true else false) else (if op = 62 then am_b (if a ≤ b then false else true) else am_b (if a = 0 then (if b = 0 then false else true) else true))))))))))))))))))))))))))
theorem x_combined (op : Int32) (a : Int32) (b : Int32) (f : Nat → Nat → Int32) (g : Nat → Nat → Int64)  : am_D 0 83 3 [.int op, .int a, .int b] (am_S f g) (some (Value.int (fn_combined op a b)), am_S f g) := by
  refine am_D.of (code := am_k_83) rfl (L0 := [.int op, .int a, .int b]) rfl ?_
  generalize hres : (some (Value.int (fn_combined op a b)), am_S f g) = res
  obtain ⟨K, hKd⟩ : ∃ K : Int32 → Prop, K = fun z => (some (Value.int z), am_S f g) = res := ⟨_, rfl⟩
  have hK : K (fn_combined op a b) := by rw [hKd]; exact hres
  clear hres
  unfold fn_combined at hK
  refine am_F.ops (pc' := 1) (L' := [.int op, .int a, .int b]) (S' := [.int op]) (μ' := (am_S f g)) 1 rfl ?_
  refine am_F.ops (pc' := am_ltg [(38, 161), (39, 175), (40, 175), (41, 175), (42, 124), (43, 116), (44, 175), (45, 120), (46, 175), (47, 175), (48, 175), (49, 175), (50, 175), (51, 175), (52, 175), (53, 175), (54, 175), (55, 175), (56, 175), (57, 175), (58, 175), (59, 175), (60, 128), (61, 150), (62, 139)] 175 op) (L' := [.int op, .int a, .int b]) (S' := []) (μ' := (am_S f g)) 1 (am_tswE (tg := [161, 175, 175, 175, 124, 116, 175, 120, 175, 175, 175, 175, 175, 175, 175, 175, 175, 175, 175, 175, 175, 175, 128, 150, 139]) (lo := 38) rfl rfl (by decide) (by decide)) ?_
  refine am_F.ltg K hK (fun c1 hK => ?_) (fun c1 hK => ?_)
  · show am_F _ _ 161 [.int op, .int a, .int b] [] (am_S f g) _
    refine am_F.ops (pc' := 162) (L' := [.int op, .int a, .int b]) (S' := [.int a]) (μ' := (am_S f g)) 1 rfl ?_
    refine am_F.to (am_To.iteB (pc' := 174) (L2 := [.int op, .int a, .int b]) (S2 := []) (μ2 := (am_S f g)) (a := false) (b := (if b = 0 then false else true)) 1 rfl (fun c2 => ?_) (fun c2 => ?_)) ?_
    · intro res9 g9
      show am_F _ _ 173 [.int op, .int a, .int b] [] (am_S f g) _
      refine am_F.ops (pc' := 174) (L' := [.int op, .int a, .int b]) (S' := [.int 0]) (μ' := (am_S f g)) 1 rfl ?_
      exact g9
    · intro res9 g9
      show am_F _ _ 165 [.int op, .int a, .int b] [] (am_S f g) _
      refine am_F.ops (pc' := 166) (L' := [.int op, .int a, .int b]) (S' := [.int b]) (μ' := (am_S f g)) 1 rfl ?_
      refine am_F.to (am_To.iteB (pc' := 174) (L2 := [.int op, .int a, .int b]) (S2 := []) (μ2 := (am_S f g)) (a := false) (b := true) 1 rfl (fun c3 => ?_) (fun c3 => ?_)) g9
      · intro res9 g9
        show am_F _ _ 173 [.int op, .int a, .int b] [] (am_S f g) _
        refine am_F.ops (pc' := 174) (L' := [.int op, .int a, .int b]) (S' := [.int 0]) (μ' := (am_S f g)) 1 rfl ?_
        exact g9
      · intro res9 g9
        show am_F _ _ 169 [.int op, .int a, .int b] [] (am_S f g) _
        refine am_F.ops (pc' := 174) (L' := [.int op, .int a, .int b]) (S' := [.int 1]) (μ' := (am_S f g)) 2 rfl ?_
        exact g9
    show am_F _ _ 174 [.int op, .int a, .int b] [.int (am_b (if a = 0 then false else (if b = 0 then false else true)))] (am_S f g) _
    subst hKd
    exact am_F.eq (am_F.ret rfl rfl) hK
  · skip
    refine am_F.ltg K hK (fun c4 hK => ?_) (fun c4 hK => ?_)
    · show am_F _ _ 175 [.int op, .int a, .int b] [] (am_S f g) _
      refine am_F.ops (pc' := 176) (L' := [.int op, .int a, .int b]) (S' := [.int a]) (μ' := (am_S f g)) 1 rfl ?_
      refine am_F.to (am_To.iteB (pc' := 188) (L2 := [.int op, .int a, .int b]) (S2 := []) (μ2 := (am_S f g)) (a := (if b = 0 then false else true)) (b := true) 1 rfl (fun c5 => ?_) (fun c5 => ?_)) ?_
      · intro res9 g9
        show am_F _ _ 179 [.int op, .int a, .int b] [] (am_S f g) _
        refine am_F.ops (pc' := 180) (L' := [.int op, .int a, .int b]) (S' := [.int b]) (μ' := (am_S f g)) 1 rfl ?_
        refine am_F.to (am_To.iteB (pc' := 188) (L2 := [.int op, .int a, .int b]) (S2 := []) (μ2 := (am_S f g)) (a := false) (b := true) 1 rfl (fun c6 => ?_) (fun c6 => ?_)) g9
        · intro res9 g9
          show am_F _ _ 187 [.int op, .int a, .int b] [] (am_S f g) _
          refine am_F.ops (pc' := 188) (L' := [.int op, .int a, .int b]) (S' := [.int 0]) (μ' := (am_S f g)) 1 rfl ?_
          exact g9
        · intro res9 g9
          show am_F _ _ 183 [.int op, .int a, .int b] [] (am_S f g) _
          refine am_F.ops (pc' := 188) (L' := [.int op, .int a, .int b]) (S' := [.int 1]) (μ' := (am_S f g)) 2 rfl ?_
          exact g9
      · intro res9 g9
        show am_F _ _ 183 [.int op, .int a, .int b] [] (am_S f g) _
        refine am_F.ops (pc' := 188) (L' := [.int op, .int a, .int b]) (S' := [.int 1]) (μ' := (am_S f g)) 2 rfl ?_
        exact g9
      show am_F _ _ 188 [.int op, .int a, .int b] [.int (am_b (if a = 0 then (if b = 0 then false else true) else true))] (am_S f g) _
      subst hKd
      exact am_F.eq (am_F.ret rfl rfl) hK
    · skip
      refine am_F.ltg K hK (fun c7 hK => ?_) (fun c7 hK => ?_)
      · show am_F _ _ 175 [.int op, .int a, .int b] [] (am_S f g) _
        refine am_F.ops (pc' := 176) (L' := [.int op, .int a, .int b]) (S' := [.int a]) (μ' := (am_S f g)) 1 rfl ?_
        refine am_F.to (am_To.iteB (pc' := 188) (L2 := [.int op, .int a, .int b]) (S2 := []) (μ2 := (am_S f g)) (a := (if b = 0 then false else true)) (b := true) 1 rfl (fun c8 => ?_) (fun c8 => ?_)) ?_
        · intro res9 g9
          show am_F _ _ 179 [.int op, .int a, .int b] [] (am_S f g) _
          refine am_F.ops (pc' := 180) (L' := [.int op, .int a, .int b]) (S' := [.int b]) (μ' := (am_S f g)) 1 rfl ?_
          refine am_F.to (am_To.iteB (pc' := 188) (L2 := [.int op, .int a, .int b]) (S2 := []) (μ2 := (am_S f g)) (a := false) (b := true) 1 rfl (fun c9 => ?_) (fun c9 => ?_)) g9
          · intro res9 g9
            show am_F _ _ 187 [.int op, .int a, .int b] [] (am_S f g) _
            refine am_F.ops (pc' := 188) (L' := [.int op, .int a, .int b]) (S' := [.int 0]) (μ' := (am_S f g)) 1 rfl ?_
            exact g9
          · intro res9 g9
            show am_F _ _ 183 [.int op, .int a, .int b] [] (am_S f g) _
            refine am_F.ops (pc' := 188) (L' := [.int op, .int a, .int b]) (S' := [.int 1]) (μ' := (am_S f g)) 2 rfl ?_
            exact g9
        · intro res9 g9
          show am_F _ _ 183 [.int op, .int a, .int b] [] (am_S f g) _
          refine am_F.ops (pc' := 188) (L' := [.int op, .int a, .int b]) (S' := [.int 1]) (μ' := (am_S f g)) 2 rfl ?_
          exact g9
        show am_F _ _ 188 [.int op, .int a, .int b] [.int (am_b (if a = 0 then (if b = 0 then false else true) else true))] (am_S f g) _
        subst hKd
        exact am_F.eq (am_F.ret rfl rfl) hK
      · skip
        refine am_F.ltg K hK (fun c10 hK => ?_) (fun c10 hK => ?_)
        · show am_F _ _ 175 [.int op, .int a, .int b] [] (am_S f g) _
          refine am_F.ops (pc' := 176) (L' := [.int op, .int a, .int b]) (S' := [.int a]) (μ' := (am_S f g)) 1 rfl ?_
          refine am_F.to (am_To.iteB (pc' := 188) (L2 := [.int op, .int a, .int b]) (S2 := []) (μ2 := (am_S f g)) (a := (if b = 0 then false else true)) (b := true) 1 rfl (fun c11 => ?_) (fun c11 => ?_)) ?_
          · intro res9 g9
            show am_F _ _ 179 [.int op, .int a, .int b] [] (am_S f g) _
            refine am_F.ops (pc' := 180) (L' := [.int op, .int a, .int b]) (S' := [.int b]) (μ' := (am_S f g)) 1 rfl ?_
            refine am_F.to (am_To.iteB (pc' := 188) (L2 := [.int op, .int a, .int b]) (S2 := []) (μ2 := (am_S f g)) (a := false) (b := true) 1 rfl (fun c12 => ?_) (fun c12 => ?_)) g9
            · intro res9 g9
              show am_F _ _ 187 [.int op, .int a, .int b] [] (am_S f g) _
              refine am_F.ops (pc' := 188) (L' := [.int op, .int a, .int b]) (S' := [.int 0]) (μ' := (am_S f g)) 1 rfl ?_
              exact g9
            · intro res9 g9
              show am_F _ _ 183 [.int op, .int a, .int b] [] (am_S f g) _
              refine am_F.ops (pc' := 188) (L' := [.int op, .int a, .int b]) (S' := [.int 1]) (μ' := (am_S f g)) 2 rfl ?_
              exact g9
          · intro res9 g9
            show am_F _ _ 183 [.int op, .int a, .int b] [] (am_S f g) _
            refine am_F.ops (pc' := 188) (L' := [.int op, .int a, .int b]) (S' := [.int 1]) (μ' := (am_S f g)) 2 rfl ?_
            exact g9
          show am_F _ _ 188 [.int op, .int a, .int b] [.int (am_b (if a = 0 then (if b = 0 then false else true) else true))] (am_S f g) _
          subst hKd
          exact am_F.eq (am_F.ret rfl rfl) hK
        · skip
          refine am_F.ltg K hK (fun c13 hK => ?_) (fun c13 hK => ?_)
          · show am_F _ _ 124 [.int op, .int a, .int b] [] (am_S f g) _
            refine am_F.ops (pc' := 127) (L' := [.int op, .int a, .int b]) (S' := [.int (a * b)]) (μ' := (am_S f g)) 3 rfl ?_
            subst hKd
            exact am_F.eq (am_F.ret rfl rfl) hK
          · skip
            refine am_F.ltg K hK (fun c14 hK => ?_) (fun c14 hK => ?_)
            · show am_F _ _ 116 [.int op, .int a, .int b] [] (am_S f g) _
              refine am_F.ops (pc' := 119) (L' := [.int op, .int a, .int b]) (S' := [.int (a + b)]) (μ' := (am_S f g)) 3 rfl ?_
              subst hKd
              exact am_F.eq (am_F.ret rfl rfl) hK
            · skip
              refine am_F.ltg K hK (fun c15 hK => ?_) (fun c15 hK => ?_)
              · show am_F _ _ 175 [.int op, .int a, .int b] [] (am_S f g) _
                refine am_F.ops (pc' := 176) (L' := [.int op, .int a, .int b]) (S' := [.int a]) (μ' := (am_S f g)) 1 rfl ?_
                refine am_F.to (am_To.iteB (pc' := 188) (L2 := [.int op, .int a, .int b]) (S2 := []) (μ2 := (am_S f g)) (a := (if b = 0 then false else true)) (b := true) 1 rfl (fun c16 => ?_) (fun c16 => ?_)) ?_
                · intro res9 g9
                  show am_F _ _ 179 [.int op, .int a, .int b] [] (am_S f g) _
                  refine am_F.ops (pc' := 180) (L' := [.int op, .int a, .int b]) (S' := [.int b]) (μ' := (am_S f g)) 1 rfl ?_
                  refine am_F.to (am_To.iteB (pc' := 188) (L2 := [.int op, .int a, .int b]) (S2 := []) (μ2 := (am_S f g)) (a := false) (b := true) 1 rfl (fun c17 => ?_) (fun c17 => ?_)) g9
                  · intro res9 g9
                    show am_F _ _ 187 [.int op, .int a, .int b] [] (am_S f g) _
                    refine am_F.ops (pc' := 188) (L' := [.int op, .int a, .int b]) (S' := [.int 0]) (μ' := (am_S f g)) 1 rfl ?_
                    exact g9
                  · intro res9 g9
                    show am_F _ _ 183 [.int op, .int a, .int b] [] (am_S f g) _
                    refine am_F.ops (pc' := 188) (L' := [.int op, .int a, .int b]) (S' := [.int 1]) (μ' := (am_S f g)) 2 rfl ?_
                    exact g9
                · intro res9 g9
                  show am_F _ _ 183 [.int op, .int a, .int b] [] (am_S f g) _
                  refine am_F.ops (pc' := 188) (L' := [.int op, .int a, .int b]) (S' := [.int 1]) (μ' := (am_S f g)) 2 rfl ?_
                  exact g9
                show am_F _ _ 188 [.int op, .int a, .int b] [.int (am_b (if a = 0 then (if b = 0 then false else true) else true))] (am_S f g) _
                subst hKd
                exact am_F.eq (am_F.ret rfl rfl) hK
              · skip
                refine am_F.ltg K hK (fun c18 hK => ?_) (fun c18 hK => ?_)
                · show am_F _ _ 120 [.int op, .int a, .int b] [] (am_S f g) _
                  refine am_F.ops (pc' := 123) (L' := [.int op, .int a, .int b]) (S' := [.int (a - b)]) (μ' := (am_S f g)) 3 rfl ?_
                  subst hKd
                  exact am_F.eq (am_F.ret rfl rfl) hK
                · skip
                  refine am_F.ltg K hK (fun c19 hK => ?_) (fun c19 hK => ?_)
                  · show am_F _ _ 175 [.int op, .int a, .int b] [] (am_S f g) _
                    refine am_F.ops (pc' := 176) (L' := [.int op, .int a, .int b]) (S' := [.int a]) (μ' := (am_S f g)) 1 rfl ?_
                    refine am_F.to (am_To.iteB (pc' := 188) (L2 := [.int op, .int a, .int b]) (S2 := []) (μ2 := (am_S f g)) (a := (if b = 0 then false else true)) (b := true) 1 rfl (fun c20 => ?_) (fun c20 => ?_)) ?_
                    · intro res9 g9
                      show am_F _ _ 179 [.int op, .int a, .int b] [] (am_S f g) _
                      refine am_F.ops (pc' := 180) (L' := [.int op, .int a, .int b]) (S' := [.int b]) (μ' := (am_S f g)) 1 rfl ?_
                      refine am_F.to (am_To.iteB (pc' := 188) (L2 := [.int op, .int a, .int b]) (S2 := []) (μ2 := (am_S f g)) (a := false) (b := true) 1 rfl (fun c21 => ?_) (fun c21 => ?_)) g9
                      · intro res9 g9
                        show am_F _ _ 187 [.int op, .int a, .int b] [] (am_S f g) _
                        refine am_F.ops (pc' := 188) (L' := [.int op, .int a, .int b]) (S' := [.int 0]) (μ' := (am_S f g)) 1 rfl ?_
                        exact g9
                      · intro res9 g9
                        show am_F _ _ 183 [.int op, .int a, .int b] [] (am_S f g) _
                        refine am_F.ops (pc' := 188) (L' := [.int op, .int a, .int b]) (S' := [.int 1]) (μ' := (am_S f g)) 2 rfl ?_
                        exact g9
                    · intro res9 g9
                      show am_F _ _ 183 [.int op, .int a, .int b] [] (am_S f g) _
                      refine am_F.ops (pc' := 188) (L' := [.int op, .int a, .int b]) (S' := [.int 1]) (μ' := (am_S f g)) 2 rfl ?_
                      exact g9
                    show am_F _ _ 188 [.int op, .int a, .int b] [.int (am_b (if a = 0 then (if b = 0 then false else true) else true))] (am_S f g) _
                    subst hKd
                    exact am_F.eq (am_F.ret rfl rfl) hK
                  · skip
                    refine am_F.ltg K hK (fun c22 hK => ?_) (fun c22 hK => ?_)
                    · show am_F _ _ 175 [.int op, .int a, .int b] [] (am_S f g) _
                      refine am_F.ops (pc' := 176) (L' := [.int op, .int a, .int b]) (S' := [.int a]) (μ' := (am_S f g)) 1 rfl ?_
                      refine am_F.to (am_To.iteB (pc' := 188) (L2 := [.int op, .int a, .int b]) (S2 := []) (μ2 := (am_S f g)) (a := (if b = 0 then false else true)) (b := true) 1 rfl (fun c23 => ?_) (fun c23 => ?_)) ?_
                      · intro res9 g9
                        show am_F _ _ 179 [.int op, .int a, .int b] [] (am_S f g) _
                        refine am_F.ops (pc' := 180) (L' := [.int op, .int a, .int b]) (S' := [.int b]) (μ' := (am_S f g)) 1 rfl ?_
                        refine am_F.to (am_To.iteB (pc' := 188) (L2 := [.int op, .int a, .int b]) (S2 := []) (μ2 := (am_S f g)) (a := false) (b := true) 1 rfl (fun c24 => ?_) (fun c24 => ?_)) g9
                        · intro res9 g9
                          show am_F _ _ 187 [.int op, .int a, .int b] [] (am_S f g) _
                          refine am_F.ops (pc' := 188) (L' := [.int op, .int a, .int b]) (S' := [.int 0]) (μ' := (am_S f g)) 1 rfl ?_
                          exact g9
                        · intro res9 g9
                          show am_F _ _ 183 [.int op, .int a, .int b] [] (am_S f g) _
                          refine am_F.ops (pc' := 188) (L' := [.int op, .int a, .int b]) (S' := [.int 1]) (μ' := (am_S f g)) 2 rfl ?_
                          exact g9
                      · intro res9 g9
                        show am_F _ _ 183 [.int op, .int a, .int b] [] (am_S f g) _
                        refine am_F.ops (pc' := 188) (L' := [.int op, .int a, .int b]) (S' := [.int 1]) (μ' := (am_S f g)) 2 rfl ?_
                        exact g9
                      show am_F _ _ 188 [.int op, .int a, .int b] [.int (am_b (if a = 0 then (if b = 0 then false else true) else true))] (am_S f g) _
                      subst hKd
                      exact am_F.eq (am_F.ret rfl rfl) hK
                    · skip
                      refine am_F.ltg K hK (fun c25 hK => ?_) (fun c25 hK => ?_)
                      · show am_F _ _ 175 [.int op, .int a, .int b] [] (am_S f g) _
                        refine am_F.ops (pc' := 176) (L' := [.int op, .int a, .int b]) (S' := [.int a]) (μ' := (am_S f g)) 1 rfl ?_
                        refine am_F.to (am_To.iteB (pc' := 188) (L2 := [.int op, .int a, .int b]) (S2 := []) (μ2 := (am_S f g)) (a := (if b = 0 then false else true)) (b := true) 1 rfl (fun c26 => ?_) (fun c26 => ?_)) ?_
                        · intro res9 g9
                          show am_F _ _ 179 [.int op, .int a, .int b] [] (am_S f g) _
                          refine am_F.ops (pc' := 180) (L' := [.int op, .int a, .int b]) (S' := [.int b]) (μ' := (am_S f g)) 1 rfl ?_
                          refine am_F.to (am_To.iteB (pc' := 188) (L2 := [.int op, .int a, .int b]) (S2 := []) (μ2 := (am_S f g)) (a := false) (b := true) 1 rfl (fun c27 => ?_) (fun c27 => ?_)) g9
                          · intro res9 g9
                            show am_F _ _ 187 [.int op, .int a, .int b] [] (am_S f g) _
                            refine am_F.ops (pc' := 188) (L' := [.int op, .int a, .int b]) (S' := [.int 0]) (μ' := (am_S f g)) 1 rfl ?_
                            exact g9
                          · intro res9 g9
                            show am_F _ _ 183 [.int op, .int a, .int b] [] (am_S f g) _
                            refine am_F.ops (pc' := 188) (L' := [.int op, .int a, .int b]) (S' := [.int 1]) (μ' := (am_S f g)) 2 rfl ?_
                            exact g9
                        · intro res9 g9
                          show am_F _ _ 183 [.int op, .int a, .int b] [] (am_S f g) _
                          refine am_F.ops (pc' := 188) (L' := [.int op, .int a, .int b]) (S' := [.int 1]) (μ' := (am_S f g)) 2 rfl ?_
                          exact g9
                        show am_F _ _ 188 [.int op, .int a, .int b] [.int (am_b (if a = 0 then (if b = 0 then false else true) else true))] (am_S f g) _
                        subst hKd
                        exact am_F.eq (am_F.ret rfl rfl) hK
                      · skip
                        refine am_F.ltg K hK (fun c28 hK => ?_) (fun c28 hK => ?_)
                        · show am_F _ _ 175 [.int op, .int a, .int b] [] (am_S f g) _
                          refine am_F.ops (pc' := 176) (L' := [.int op, .int a, .int b]) (S' := [.int a]) (μ' := (am_S f g)) 1 rfl ?_
                          refine am_F.to (am_To.iteB (pc' := 188) (L2 := [.int op, .int a, .int b]) (S2 := []) (μ2 := (am_S f g)) (a := (if b = 0 then false else true)) (b := true) 1 rfl (fun c29 => ?_) (fun c29 => ?_)) ?_
                          · intro res9 g9
                            show am_F _ _ 179 [.int op, .int a, .int b] [] (am_S f g) _
                            refine am_F.ops (pc' := 180) (L' := [.int op, .int a, .int b]) (S' := [.int b]) (μ' := (am_S f g)) 1 rfl ?_
                            refine am_F.to (am_To.iteB (pc' := 188) (L2 := [.int op, .int a, .int b]) (S2 := []) (μ2 := (am_S f g)) (a := false) (b := true) 1 rfl (fun c30 => ?_) (fun c30 => ?_)) g9
                            · intro res9 g9
                              show am_F _ _ 187 [.int op, .int a, .int b] [] (am_S f g) _
                              refine am_F.ops (pc' := 188) (L' := [.int op, .int a, .int b]) (S' := [.int 0]) (μ' := (am_S f g)) 1 rfl ?_
                              exact g9
                            · intro res9 g9
                              show am_F _ _ 183 [.int op, .int a, .int b] [] (am_S f g) _
                              refine am_F.ops (pc' := 188) (L' := [.int op, .int a, .int b]) (S' := [.int 1]) (μ' := (am_S f g)) 2 rfl ?_
                              exact g9
                          · intro res9 g9
                            show am_F _ _ 183 [.int op, .int a, .int b] [] (am_S f g) _
                            refine am_F.ops (pc' := 188) (L' := [.int op, .int a, .int b]) (S' := [.int 1]) (μ' := (am_S f g)) 2 rfl ?_
                            exact g9
                          show am_F _ _ 188 [.int op, .int a, .int b] [.int (am_b (if a = 0 then (if b = 0 then false else true) else true))] (am_S f g) _
                          subst hKd
                          exact am_F.eq (am_F.ret rfl rfl) hK
                        · skip
                          refine am_F.ltg K hK (fun c31 hK => ?_) (fun c31 hK => ?_)
                          · show am_F _ _ 175 [.int op, .int a, .int b] [] (am_S f g) _
                            refine am_F.ops (pc' := 176) (L' := [.int op, .int a, .int b]) (S' := [.int a]) (μ' := (am_S f g)) 1 rfl ?_
                            refine am_F.to (am_To.iteB (pc' := 188) (L2 := [.int op, .int a, .int b]) (S2 := []) (μ2 := (am_S f g)) (a := (if b = 0 then false else true)) (b := true) 1 rfl (fun c32 => ?_) (fun c32 => ?_)) ?_
                            · intro res9 g9
                              show am_F _ _ 179 [.int op, .int a, .int b] [] (am_S f g) _
                              refine am_F.ops (pc' := 180) (L' := [.int op, .int a, .int b]) (S' := [.int b]) (μ' := (am_S f g)) 1 rfl ?_
                              refine am_F.to (am_To.iteB (pc' := 188) (L2 := [.int op, .int a, .int b]) (S2 := []) (μ2 := (am_S f g)) (a := false) (b := true) 1 rfl (fun c33 => ?_) (fun c33 => ?_)) g9
                              · intro res9 g9
                                show am_F _ _ 187 [.int op, .int a, .int b] [] (am_S f g) _
                                refine am_F.ops (pc' := 188) (L' := [.int op, .int a, .int b]) (S' := [.int 0]) (μ' := (am_S f g)) 1 rfl ?_
                                exact g9
                              · intro res9 g9
                                show am_F _ _ 183 [.int op, .int a, .int b] [] (am_S f g) _
                                refine am_F.ops (pc' := 188) (L' := [.int op, .int a, .int b]) (S' := [.int 1]) (μ' := (am_S f g)) 2 rfl ?_
                                exact g9
                            · intro res9 g9
                              show am_F _ _ 183 [.int op, .int a, .int b] [] (am_S f g) _
                              refine am_F.ops (pc' := 188) (L' := [.int op, .int a, .int b]) (S' := [.int 1]) (μ' := (am_S f g)) 2 rfl ?_
                              exact g9
                            show am_F _ _ 188 [.int op, .int a, .int b] [.int (am_b (if a = 0 then (if b = 0 then false else true) else true))] (am_S f g) _
                            subst hKd
                            exact am_F.eq (am_F.ret rfl rfl) hK
                          · skip
                            refine am_F.ltg K hK (fun c34 hK => ?_) (fun c34 hK => ?_)
                            · show am_F _ _ 175 [.int op, .int a, .int b] [] (am_S f g) _
                              refine am_F.ops (pc' := 176) (L' := [.int op, .int a, .int b]) (S' := [.int a]) (μ' := (am_S f g)) 1 rfl ?_
                              refine am_F.to (am_To.iteB (pc' := 188) (L2 := [.int op, .int a, .int b]) (S2 := []) (μ2 := (am_S f g)) (a := (if b = 0 then false else true)) (b := true) 1 rfl (fun c35 => ?_) (fun c35 => ?_)) ?_
                              · intro res9 g9
                                show am_F _ _ 179 [.int op, .int a, .int b] [] (am_S f g) _
                                refine am_F.ops (pc' := 180) (L' := [.int op, .int a, .int b]) (S' := [.int b]) (μ' := (am_S f g)) 1 rfl ?_
                                refine am_F.to (am_To.iteB (pc' := 188) (L2 := [.int op, .int a, .int b]) (S2 := []) (μ2 := (am_S f g)) (a := false) (b := true) 1 rfl (fun c36 => ?_) (fun c36 => ?_)) g9
                                · intro res9 g9
                                  show am_F _ _ 187 [.int op, .int a, .int b] [] (am_S f g) _
                                  refine am_F.ops (pc' := 188) (L' := [.int op, .int a, .int b]) (S' := [.int 0]) (μ' := (am_S f g)) 1 rfl ?_
                                  exact g9
                                · intro res9 g9
                                  show am_F _ _ 183 [.int op, .int a, .int b] [] (am_S f g) _
                                  refine am_F.ops (pc' := 188) (L' := [.int op, .int a, .int b]) (S' := [.int 1]) (μ' := (am_S f g)) 2 rfl ?_
                                  exact g9
                              · intro res9 g9
                                show am_F _ _ 183 [.int op, .int a, .int b] [] (am_S f g) _
                                refine am_F.ops (pc' := 188) (L' := [.int op, .int a, .int b]) (S' := [.int 1]) (μ' := (am_S f g)) 2 rfl ?_
                                exact g9
                              show am_F _ _ 188 [.int op, .int a, .int b] [.int (am_b (if a = 0 then (if b = 0 then false else true) else true))] (am_S f g) _
                              subst hKd
                              exact am_F.eq (am_F.ret rfl rfl) hK
                            · skip
                              refine am_F.ltg K hK (fun c37 hK => ?_) (fun c37 hK => ?_)
                              · show am_F _ _ 175 [.int op, .int a, .int b] [] (am_S f g) _
                                refine am_F.ops (pc' := 176) (L' := [.int op, .int a, .int b]) (S' := [.int a]) (μ' := (am_S f g)) 1 rfl ?_
                                refine am_F.to (am_To.iteB (pc' := 188) (L2 := [.int op, .int a, .int b]) (S2 := []) (μ2 := (am_S f g)) (a := (if b = 0 then false else true)) (b := true) 1 rfl (fun c38 => ?_) (fun c38 => ?_)) ?_
                                · intro res9 g9
                                  show am_F _ _ 179 [.int op, .int a, .int b] [] (am_S f g) _
                                  refine am_F.ops (pc' := 180) (L' := [.int op, .int a, .int b]) (S' := [.int b]) (μ' := (am_S f g)) 1 rfl ?_
                                  refine am_F.to (am_To.iteB (pc' := 188) (L2 := [.int op, .int a, .int b]) (S2 := []) (μ2 := (am_S f g)) (a := false) (b := true) 1 rfl (fun c39 => ?_) (fun c39 => ?_)) g9
                                  · intro res9 g9
                                    show am_F _ _ 187 [.int op, .int a, .int b] [] (am_S f g) _
                                    refine am_F.ops (pc' := 188) (L' := [.int op, .int a, .int b]) (S' := [.int 0]) (μ' := (am_S f g)) 1 rfl ?_
                                    exact g9
                                  · intro res9 g9
                                    show am_F _ _ 183 [.int op, .int a, .int b] [] (am_S f g) _
                                    refine am_F.ops (pc' := 188) (L' := [.int op, .int a, .int b]) (S' := [.int 1]) (μ' := (am_S f g)) 2 rfl ?_
                                    exact g9
                                · intro res9 g9
                                  show am_F _ _ 183 [.int op, .int a, .int b] [] (am_S f g) _
                                  refine am_F.ops (pc' := 188) (L' := [.int op, .int a, .int b]) (S' := [.int 1]) (μ' := (am_S f g)) 2 rfl ?_
                                  exact g9
                                show am_F _ _ 188 [.int op, .int a, .int b] [.int (am_b (if a = 0 then (if b = 0 then false else true) else true))] (am_S f g) _
                                subst hKd
                                exact am_F.eq (am_F.ret rfl rfl) hK
                              · skip
                                refine am_F.ltg K hK (fun c40 hK => ?_) (fun c40 hK => ?_)
                                · show am_F _ _ 175 [.int op, .int a, .int b] [] (am_S f g) _
                                  refine am_F.ops (pc' := 176) (L' := [.int op, .int a, .int b]) (S' := [.int a]) (μ' := (am_S f g)) 1 rfl ?_
                                  refine am_F.to (am_To.iteB (pc' := 188) (L2 := [.int op, .int a, .int b]) (S2 := []) (μ2 := (am_S f g)) (a := (if b = 0 then false else true)) (b := true) 1 rfl (fun c41 => ?_) (fun c41 => ?_)) ?_
                                  · intro res9 g9
                                    show am_F _ _ 179 [.int op, .int a, .int b] [] (am_S f g) _
                                    refine am_F.ops (pc' := 180) (L' := [.int op, .int a, .int b]) (S' := [.int b]) (μ' := (am_S f g)) 1 rfl ?_
                                    refine am_F.to (am_To.iteB (pc' := 188) (L2 := [.int op, .int a, .int b]) (S2 := []) (μ2 := (am_S f g)) (a := false) (b := true) 1 rfl (fun c42 => ?_) (fun c42 => ?_)) g9
                                    · intro res9 g9
                                      show am_F _ _ 187 [.int op, .int a, .int b] [] (am_S f g) _
                                      refine am_F.ops (pc' := 188) (L' := [.int op, .int a, .int b]) (S' := [.int 0]) (μ' := (am_S f g)) 1 rfl ?_
                                      exact g9
                                    · intro res9 g9
                                      show am_F _ _ 183 [.int op, .int a, .int b] [] (am_S f g) _
                                      refine am_F.ops (pc' := 188) (L' := [.int op, .int a, .int b]) (S' := [.int 1]) (μ' := (am_S f g)) 2 rfl ?_
                                      exact g9
                                  · intro res9 g9
                                    show am_F _ _ 183 [.int op, .int a, .int b] [] (am_S f g) _
                                    refine am_F.ops (pc' := 188) (L' := [.int op, .int a, .int b]) (S' := [.int 1]) (μ' := (am_S f g)) 2 rfl ?_
                                    exact g9
                                  show am_F _ _ 188 [.int op, .int a, .int b] [.int (am_b (if a = 0 then (if b = 0 then false else true) else true))] (am_S f g) _
                                  subst hKd
                                  exact am_F.eq (am_F.ret rfl rfl) hK
                                · skip
                                  refine am_F.ltg K hK (fun c43 hK => ?_) (fun c43 hK => ?_)
                                  · show am_F _ _ 175 [.int op, .int a, .int b] [] (am_S f g) _
                                    refine am_F.ops (pc' := 176) (L' := [.int op, .int a, .int b]) (S' := [.int a]) (μ' := (am_S f g)) 1 rfl ?_
                                    refine am_F.to (am_To.iteB (pc' := 188) (L2 := [.int op, .int a, .int b]) (S2 := []) (μ2 := (am_S f g)) (a := (if b = 0 then false else true)) (b := true) 1 rfl (fun c44 => ?_) (fun c44 => ?_)) ?_
                                    · intro res9 g9
                                      show am_F _ _ 179 [.int op, .int a, .int b] [] (am_S f g) _
                                      refine am_F.ops (pc' := 180) (L' := [.int op, .int a, .int b]) (S' := [.int b]) (μ' := (am_S f g)) 1 rfl ?_
                                      refine am_F.to (am_To.iteB (pc' := 188) (L2 := [.int op, .int a, .int b]) (S2 := []) (μ2 := (am_S f g)) (a := false) (b := true) 1 rfl (fun c45 => ?_) (fun c45 => ?_)) g9
                                      · intro res9 g9
                                        show am_F _ _ 187 [.int op, .int a, .int b] [] (am_S f g) _
                                        refine am_F.ops (pc' := 188) (L' := [.int op, .int a, .int b]) (S' := [.int 0]) (μ' := (am_S f g)) 1 rfl ?_
                                        exact g9
                                      · intro res9 g9
                                        show am_F _ _ 183 [.int op, .int a, .int b] [] (am_S f g) _
                                        refine am_F.ops (pc' := 188) (L' := [.int op, .int a, .int b]) (S' := [.int 1]) (μ' := (am_S f g)) 2 rfl ?_
                                        exact g9
                                    · intro res9 g9
                                      show am_F _ _ 183 [.int op, .int a, .int b] [] (am_S f g) _
                                      refine am_F.ops (pc' := 188) (L' := [.int op, .int a, .int b]) (S' := [.int 1]) (μ' := (am_S f g)) 2 rfl ?_
                                      exact g9
                                    show am_F _ _ 188 [.int op, .int a, .int b] [.int (am_b (if a = 0 then (if b = 0 then false else true) else true))] (am_S f g) _
                                    subst hKd
                                    exact am_F.eq (am_F.ret rfl rfl) hK
                                  · skip
                                    refine am_F.ltg K hK (fun c46 hK => ?_) (fun c46 hK => ?_)
                                    · show am_F _ _ 175 [.int op, .int a, .int b] [] (am_S f g) _
                                      refine am_F.ops (pc' := 176) (L' := [.int op, .int a, .int b]) (S' := [.int a]) (μ' := (am_S f g)) 1 rfl ?_
                                      refine am_F.to (am_To.iteB (pc' := 188) (L2 := [.int op, .int a, .int b]) (S2 := []) (μ2 := (am_S f g)) (a := (if b = 0 then false else true)) (b := true) 1 rfl (fun c47 => ?_) (fun c47 => ?_)) ?_
                                      · intro res9 g9
                                        show am_F _ _ 179 [.int op, .int a, .int b] [] (am_S f g) _
                                        refine am_F.ops (pc' := 180) (L' := [.int op, .int a, .int b]) (S' := [.int b]) (μ' := (am_S f g)) 1 rfl ?_
                                        refine am_F.to (am_To.iteB (pc' := 188) (L2 := [.int op, .int a, .int b]) (S2 := []) (μ2 := (am_S f g)) (a := false) (b := true) 1 rfl (fun c48 => ?_) (fun c48 => ?_)) g9
                                        · intro res9 g9
                                          show am_F _ _ 187 [.int op, .int a, .int b] [] (am_S f g) _
                                          refine am_F.ops (pc' := 188) (L' := [.int op, .int a, .int b]) (S' := [.int 0]) (μ' := (am_S f g)) 1 rfl ?_
                                          exact g9
                                        · intro res9 g9
                                          show am_F _ _ 183 [.int op, .int a, .int b] [] (am_S f g) _
                                          refine am_F.ops (pc' := 188) (L' := [.int op, .int a, .int b]) (S' := [.int 1]) (μ' := (am_S f g)) 2 rfl ?_
                                          exact g9
                                      · intro res9 g9
                                        show am_F _ _ 183 [.int op, .int a, .int b] [] (am_S f g) _
                                        refine am_F.ops (pc' := 188) (L' := [.int op, .int a, .int b]) (S' := [.int 1]) (μ' := (am_S f g)) 2 rfl ?_
                                        exact g9
                                      show am_F _ _ 188 [.int op, .int a, .int b] [.int (am_b (if a = 0 then (if b = 0 then false else true) else true))] (am_S f g) _
                                      subst hKd
                                      exact am_F.eq (am_F.ret rfl rfl) hK
                                    · skip
                                      refine am_F.ltg K hK (fun c49 hK => ?_) (fun c49 hK => ?_)
                                      · show am_F _ _ 175 [.int op, .int a, .int b] [] (am_S f g) _
                                        refine am_F.ops (pc' := 176) (L' := [.int op, .int a, .int b]) (S' := [.int a]) (μ' := (am_S f g)) 1 rfl ?_
                                        refine am_F.to (am_To.iteB (pc' := 188) (L2 := [.int op, .int a, .int b]) (S2 := []) (μ2 := (am_S f g)) (a := (if b = 0 then false else true)) (b := true) 1 rfl (fun c50 => ?_) (fun c50 => ?_)) ?_
                                        · intro res9 g9
                                          show am_F _ _ 179 [.int op, .int a, .int b] [] (am_S f g) _
                                          refine am_F.ops (pc' := 180) (L' := [.int op, .int a, .int b]) (S' := [.int b]) (μ' := (am_S f g)) 1 rfl ?_
                                          refine am_F.to (am_To.iteB (pc' := 188) (L2 := [.int op, .int a, .int b]) (S2 := []) (μ2 := (am_S f g)) (a := false) (b := true) 1 rfl (fun c51 => ?_) (fun c51 => ?_)) g9
                                          · intro res9 g9
                                            show am_F _ _ 187 [.int op, .int a, .int b] [] (am_S f g) _
                                            refine am_F.ops (pc' := 188) (L' := [.int op, .int a, .int b]) (S' := [.int 0]) (μ' := (am_S f g)) 1 rfl ?_
                                            exact g9
                                          · intro res9 g9
                                            show am_F _ _ 183 [.int op, .int a, .int b] [] (am_S f g) _
                                            refine am_F.ops (pc' := 188) (L' := [.int op, .int a, .int b]) (S' := [.int 1]) (μ' := (am_S f g)) 2 rfl ?_
                                            exact g9
                                        · intro res9 g9
                                          show am_F _ _ 183 [.int op, .int a, .int b] [] (am_S f g) _
                                          refine am_F.ops (pc' := 188) (L' := [.int op, .int a, .int b]) (S' := [.int 1]) (μ' := (am_S f g)) 2 rfl ?_
                                          exact g9
                                        show am_F _ _ 188 [.int op, .int a, .int b] [.int (am_b (if a = 0 then (if b = 0 then false else true) else true))] (am_S f g) _
                                        subst hKd
                                        exact am_F.eq (am_F.ret rfl rfl) hK
                                      · skip
                                        refine am_F.ltg K hK (fun c52 hK => ?_) (fun c52 hK => ?_)
                                        · show am_F _ _ 175 [.int op, .int a, .int b] [] (am_S f g) _
                                          refine am_F.ops (pc' := 176) (L' := [.int op, .int a, .int b]) (S' := [.int a]) (μ' := (am_S f g)) 1 rfl ?_
                                          refine am_F.to (am_To.iteB (pc' := 188) (L2 := [.int op, .int a, .int b]) (S2 := []) (μ2 := (am_S f g)) (a := (if b = 0 then false else true)) (b := true) 1 rfl (fun c53 => ?_) (fun c53 => ?_)) ?_
                                          · intro res9 g9
                                            show am_F _ _ 179 [.int op, .int a, .int b] [] (am_S f g) _
                                            refine am_F.ops (pc' := 180) (L' := [.int op, .int a, .int b]) (S' := [.int b]) (μ' := (am_S f g)) 1 rfl ?_
                                            refine am_F.to (am_To.iteB (pc' := 188) (L2 := [.int op, .int a, .int b]) (S2 := []) (μ2 := (am_S f g)) (a := false) (b := true) 1 rfl (fun c54 => ?_) (fun c54 => ?_)) g9
                                            · intro res9 g9
                                              show am_F _ _ 187 [.int op, .int a, .int b] [] (am_S f g) _
                                              refine am_F.ops (pc' := 188) (L' := [.int op, .int a, .int b]) (S' := [.int 0]) (μ' := (am_S f g)) 1 rfl ?_
                                              exact g9
                                            · intro res9 g9
                                              show am_F _ _ 183 [.int op, .int a, .int b] [] (am_S f g) _
                                              refine am_F.ops (pc' := 188) (L' := [.int op, .int a, .int b]) (S' := [.int 1]) (μ' := (am_S f g)) 2 rfl ?_
                                              exact g9
                                          · intro res9 g9
                                            show am_F _ _ 183 [.int op, .int a, .int b] [] (am_S f g) _
                                            refine am_F.ops (pc' := 188) (L' := [.int op, .int a, .int b]) (S' := [.int 1]) (μ' := (am_S f g)) 2 rfl ?_
                                            exact g9
                                          show am_F _ _ 188 [.int op, .int a, .int b] [.int (am_b (if a = 0 then (if b = 0 then false else true) else true))] (am_S f g) _
                                          subst hKd
                                          exact am_F.eq (am_F.ret rfl rfl) hK
                                        · skip
                                          refine am_F.ltg K hK (fun c55 hK => ?_) (fun c55 hK => ?_)
                                          · show am_F _ _ 175 [.int op, .int a, .int b] [] (am_S f g) _
                                            refine am_F.ops (pc' := 176) (L' := [.int op, .int a, .int b]) (S' := [.int a]) (μ' := (am_S f g)) 1 rfl ?_
                                            refine am_F.to (am_To.iteB (pc' := 188) (L2 := [.int op, .int a, .int b]) (S2 := []) (μ2 := (am_S f g)) (a := (if b = 0 then false else true)) (b := true) 1 rfl (fun c56 => ?_) (fun c56 => ?_)) ?_
                                            · intro res9 g9
                                              show am_F _ _ 179 [.int op, .int a, .int b] [] (am_S f g) _
                                              refine am_F.ops (pc' := 180) (L' := [.int op, .int a, .int b]) (S' := [.int b]) (μ' := (am_S f g)) 1 rfl ?_
                                              refine am_F.to (am_To.iteB (pc' := 188) (L2 := [.int op, .int a, .int b]) (S2 := []) (μ2 := (am_S f g)) (a := false) (b := true) 1 rfl (fun c57 => ?_) (fun c57 => ?_)) g9
                                              · intro res9 g9
                                                show am_F _ _ 187 [.int op, .int a, .int b] [] (am_S f g) _
                                                refine am_F.ops (pc' := 188) (L' := [.int op, .int a, .int b]) (S' := [.int 0]) (μ' := (am_S f g)) 1 rfl ?_
                                                exact g9
                                              · intro res9 g9
                                                show am_F _ _ 183 [.int op, .int a, .int b] [] (am_S f g) _
                                                refine am_F.ops (pc' := 188) (L' := [.int op, .int a, .int b]) (S' := [.int 1]) (μ' := (am_S f g)) 2 rfl ?_
                                                exact g9
                                            · intro res9 g9
                                              show am_F _ _ 183 [.int op, .int a, .int b] [] (am_S f g) _
                                              refine am_F.ops (pc' := 188) (L' := [.int op, .int a, .int b]) (S' := [.int 1]) (μ' := (am_S f g)) 2 rfl ?_
                                              exact g9
                                            show am_F _ _ 188 [.int op, .int a, .int b] [.int (am_b (if a = 0 then (if b = 0 then false else true) else true))] (am_S f g) _
                                            subst hKd
                                            exact am_F.eq (am_F.ret rfl rfl) hK
                                          · skip
                                            refine am_F.ltg K hK (fun c58 hK => ?_) (fun c58 hK => ?_)
                                            · show am_F _ _ 175 [.int op, .int a, .int b] [] (am_S f g) _
                                              refine am_F.ops (pc' := 176) (L' := [.int op, .int a, .int b]) (S' := [.int a]) (μ' := (am_S f g)) 1 rfl ?_
                                              refine am_F.to (am_To.iteB (pc' := 188) (L2 := [.int op, .int a, .int b]) (S2 := []) (μ2 := (am_S f g)) (a := (if b = 0 then false else true)) (b := true) 1 rfl (fun c59 => ?_) (fun c59 => ?_)) ?_
                                              · intro res9 g9
                                                show am_F _ _ 179 [.int op, .int a, .int b] [] (am_S f g) _
                                                refine am_F.ops (pc' := 180) (L' := [.int op, .int a, .int b]) (S' := [.int b]) (μ' := (am_S f g)) 1 rfl ?_
                                                refine am_F.to (am_To.iteB (pc' := 188) (L2 := [.int op, .int a, .int b]) (S2 := []) (μ2 := (am_S f g)) (a := false) (b := true) 1 rfl (fun c60 => ?_) (fun c60 => ?_)) g9
                                                · intro res9 g9
                                                  show am_F _ _ 187 [.int op, .int a, .int b] [] (am_S f g) _
                                                  refine am_F.ops (pc' := 188) (L' := [.int op, .int a, .int b]) (S' := [.int 0]) (μ' := (am_S f g)) 1 rfl ?_
                                                  exact g9
                                                · intro res9 g9
                                                  show am_F _ _ 183 [.int op, .int a, .int b] [] (am_S f g) _
                                                  refine am_F.ops (pc' := 188) (L' := [.int op, .int a, .int b]) (S' := [.int 1]) (μ' := (am_S f g)) 2 rfl ?_
                                                  exact g9
                                              · intro res9 g9
                                                show am_F _ _ 183 [.int op, .int a, .int b] [] (am_S f g) _
                                                refine am_F.ops (pc' := 188) (L' := [.int op, .int a, .int b]) (S' := [.int 1]) (μ' := (am_S f g)) 2 rfl ?_
                                                exact g9
                                              show am_F _ _ 188 [.int op, .int a, .int b] [.int (am_b (if a = 0 then (if b = 0 then false else true) else true))] (am_S f g) _
                                              subst hKd
                                              exact am_F.eq (am_F.ret rfl rfl) hK
                                            · skip
                                              refine am_F.ltg K hK (fun c61 hK => ?_) (fun c61 hK => ?_)
                                              · show am_F _ _ 128 [.int op, .int a, .int b] [] (am_S f g) _
                                                refine am_F.ops (pc' := 130) (L' := [.int op, .int a, .int b]) (S' := [.int b, .int a]) (μ' := (am_S f g)) 2 rfl ?_
                                                refine am_F.to (am_To.iteB (pc' := 138) (L2 := [.int op, .int a, .int b]) (S2 := []) (μ2 := (am_S f g)) (a := false) (b := true) 1 rfl (fun c62 => ?_) (fun c62 => ?_)) ?_
                                                · intro res9 g9
                                                  show am_F _ _ 137 [.int op, .int a, .int b] [] (am_S f g) _
                                                  refine am_F.ops (pc' := 138) (L' := [.int op, .int a, .int b]) (S' := [.int 0]) (μ' := (am_S f g)) 1 rfl ?_
                                                  exact g9
                                                · intro res9 g9
                                                  show am_F _ _ 133 [.int op, .int a, .int b] [] (am_S f g) _
                                                  refine am_F.ops (pc' := 138) (L' := [.int op, .int a, .int b]) (S' := [.int 1]) (μ' := (am_S f g)) 2 rfl ?_
                                                  exact g9
                                                show am_F _ _ 138 [.int op, .int a, .int b] [.int (am_b (if b ≤ a then false else true))] (am_S f g) _
                                                subst hKd
                                                exact am_F.eq (am_F.ret rfl rfl) hK
                                              · skip
                                                refine am_F.ltg K hK (fun c63 hK => ?_) (fun c63 hK => ?_)
                                                · show am_F _ _ 150 [.int op, .int a, .int b] [] (am_S f g) _
                                                  refine am_F.ops (pc' := 152) (L' := [.int op, .int a, .int b]) (S' := [.int b, .int a]) (μ' := (am_S f g)) 2 rfl ?_
                                                  refine am_F.to (am_To.iteB (pc' := 160) (L2 := [.int op, .int a, .int b]) (S2 := []) (μ2 := (am_S f g)) (a := true) (b := false) 1 rfl (fun c64 => ?_) (fun c64 => ?_)) ?_
                                                  · intro res9 g9
                                                    show am_F _ _ 155 [.int op, .int a, .int b] [] (am_S f g) _
                                                    refine am_F.ops (pc' := 160) (L' := [.int op, .int a, .int b]) (S' := [.int 1]) (μ' := (am_S f g)) 2 rfl ?_
                                                    exact g9
                                                  · intro res9 g9
                                                    show am_F _ _ 159 [.int op, .int a, .int b] [] (am_S f g) _
                                                    refine am_F.ops (pc' := 160) (L' := [.int op, .int a, .int b]) (S' := [.int 0]) (μ' := (am_S f g)) 1 rfl ?_
                                                    exact g9
                                                  show am_F _ _ 160 [.int op, .int a, .int b] [.int (am_b (if a = b then true else false))] (am_S f g) _
                                                  subst hKd
                                                  exact am_F.eq (am_F.ret rfl rfl) hK
                                                · skip
                                                  refine am_F.ltg K hK (fun c65 hK => ?_) (fun c65 hK => ?_)
                                                  · show am_F _ _ 139 [.int op, .int a, .int b] [] (am_S f g) _
                                                    refine am_F.ops (pc' := 141) (L' := [.int op, .int a, .int b]) (S' := [.int b, .int a]) (μ' := (am_S f g)) 2 rfl ?_
                                                    refine am_F.to (am_To.iteB (pc' := 149) (L2 := [.int op, .int a, .int b]) (S2 := []) (μ2 := (am_S f g)) (a := false) (b := true) 1 rfl (fun c66 => ?_) (fun c66 => ?_)) ?_
                                                    · intro res9 g9
                                                      show am_F _ _ 148 [.int op, .int a, .int b] [] (am_S f g) _
                                                      refine am_F.ops (pc' := 149) (L' := [.int op, .int a, .int b]) (S' := [.int 0]) (μ' := (am_S f g)) 1 rfl ?_
                                                      exact g9
                                                    · intro res9 g9
                                                      show am_F _ _ 144 [.int op, .int a, .int b] [] (am_S f g) _
                                                      refine am_F.ops (pc' := 149) (L' := [.int op, .int a, .int b]) (S' := [.int 1]) (μ' := (am_S f g)) 2 rfl ?_
                                                      exact g9
                                                    show am_F _ _ 149 [.int op, .int a, .int b] [.int (am_b (if a ≤ b then false else true))] (am_S f g) _
                                                    subst hKd
                                                    exact am_F.eq (am_F.ret rfl rfl) hK
                                                  · skip
                                                    show am_F _ _ 175 [.int op, .int a, .int b] [] (am_S f g) _
                                                    refine am_F.ops (pc' := 176) (L' := [.int op, .int a, .int b]) (S' := [.int a]) (μ' := (am_S f g)) 1 rfl ?_
                                                    refine am_F.to (am_To.iteB (pc' := 188) (L2 := [.int op, .int a, .int b]) (S2 := []) (μ2 := (am_S f g)) (a := (if b = 0 then false else true)) (b := true) 1 rfl (fun c67 => ?_) (fun c67 => ?_)) ?_
                                                    · intro res9 g9
                                                      show am_F _ _ 179 [.int op, .int a, .int b] [] (am_S f g) _
                                                      refine am_F.ops (pc' := 180) (L' := [.int op, .int a, .int b]) (S' := [.int b]) (μ' := (am_S f g)) 1 rfl ?_
                                                      refine am_F.to (am_To.iteB (pc' := 188) (L2 := [.int op, .int a, .int b]) (S2 := []) (μ2 := (am_S f g)) (a := false) (b := true) 1 rfl (fun c68 => ?_) (fun c68 => ?_)) g9
                                                      · intro res9 g9
                                                        show am_F _ _ 187 [.int op, .int a, .int b] [] (am_S f g) _
                                                        refine am_F.ops (pc' := 188) (L' := [.int op, .int a, .int b]) (S' := [.int 0]) (μ' := (am_S f g)) 1 rfl ?_
                                                        exact g9
                                                      · intro res9 g9
                                                        show am_F _ _ 183 [.int op, .int a, .int b] [] (am_S f g) _
                                                        refine am_F.ops (pc' := 188) (L' := [.int op, .int a, .int b]) (S' := [.int 1]) (μ' := (am_S f g)) 2 rfl ?_
                                                        exact g9
                                                    · intro res9 g9
                                                      show am_F _ _ 183 [.int op, .int a, .int b] [] (am_S f g) _
                                                      refine am_F.ops (pc' := 188) (L' := [.int op, .int a, .int b]) (S' := [.int 1]) (μ' := (am_S f g)) 2 rfl ?_
                                                      exact g9
                                                    show am_F _ _ 188 [.int op, .int a, .int b] [.int (am_b (if a = 0 then (if b = 0 then false else true) else true))] (am_S f g) _
                                                    subst hKd
                                                    exact am_F.eq (am_F.ret rfl rfl) hK
/-- AccessLattice$Rules.end -/
def fn_end (rule : Nat) (f : Nat → Nat → Int32) : Int64 := (if (f 23 rule) = (-1) then 1099511627776 else (f 23 rule).toInt64)
theorem x_end (rule : Nat) (f : Nat → Nat → Int32) (g : Nat → Nat → Int64) (hrule : rule < 30) : am_D 0 27 2 [.ref 18, .int (nI rule)] (am_S f g) (some (Value.long (fn_end rule f)), am_S f g) := by
  refine am_D.of (code := am_k_27) rfl (L0 := [.ref 18, .int (nI rule)]) rfl ?_
  generalize hres : (some (Value.long (fn_end rule f)), am_S f g) = res
  obtain ⟨K, hKd⟩ : ∃ K : Int64 → Prop, K = fun z => (some (Value.long z), am_S f g) = res := ⟨_, rfl⟩
  have hK : K (fn_end rule f) := by rw [hKd]; exact hres
  clear hres
  unfold fn_end at hK
  refine am_F.ops (pc' := 5) (L' := [.ref 18, .int (nI rule)]) (S' := [.int (nI rule), .ref 23]) (μ' := (am_S f g)) 3 rfl ?_
  refine am_F.ialE (m := rule) (N := 30) rfl rfl rfl rfl (by omega) (by decide) ?_
  show am_F _ _ 6 [.ref 18, .int (nI rule)] [.int (f 23 rule)] (am_S f g) _
  refine am_F.ops (pc' := 7) (L' := [.ref 18, .int (nI rule)]) (S' := [.int (-1), .int (f 23 rule)]) (μ' := (am_S f g)) 1 rfl ?_
  refine am_F.to (am_To.iteJ (pc' := 23) (L2 := [.ref 18, .int (nI rule)]) (S2 := []) (μ2 := (am_S f g)) (a := 1099511627776) (b := (f 23 rule).toInt64) 1 rfl (fun c1 => ?_) (fun c1 => ?_)) ?_
  · intro res9 g9
    show am_F _ _ 10 [.ref 18, .int (nI rule)] [] (am_S f g) _
    refine am_F.ops (pc' := 23) (L' := [.ref 18, .int (nI rule)]) (S' := [.long 1099511627776]) (μ' := (am_S f g)) 2 rfl ?_
    exact g9
  · intro res9 g9
    show am_F _ _ 16 [.ref 18, .int (nI rule)] [] (am_S f g) _
    refine am_F.ops (pc' := 21) (L' := [.ref 18, .int (nI rule)]) (S' := [.int (nI rule), .ref 23]) (μ' := (am_S f g)) 3 rfl ?_
    refine am_F.ialE (m := rule) (N := 30) rfl rfl rfl rfl (by omega) (by decide) ?_
    show am_F _ _ 22 [.ref 18, .int (nI rule)] [.int (f 23 rule)] (am_S f g) _
    refine am_F.ops (pc' := 23) (L' := [.ref 18, .int (nI rule)]) (S' := [.long ((f 23 rule).toInt64)]) (μ' := (am_S f g)) 1 rfl ?_
    exact g9
  show am_F _ _ 23 [.ref 18, .int (nI rule)] [.long (if (f 23 rule) = (-1) then 1099511627776 else (f 23 rule).toInt64)] (am_S f g) _
  subst hKd
  exact am_F.eq (am_F.ret rfl rfl) hK
/-- AccessLattice$Rules.timely -/
def st_timely_4 (tick : Int32) (f : Nat → Nat → Int32) : Nat → Int32 → Int32 := fun i4 a4_2 => (bif (fn_has (f 18 8) (nI i4)) then (if tick < (f 22 i4) then a4_2 else (if 0 ≤ (lg_cmp tick.toInt64 (fn_end i4 f)) then a4_2 else (if (f 24 i4) = 0 then a4_2 else (a4_2 ||| (1 <<< ((nI i4) &&& 31)))))) else a4_2)
def lf_timely_4 (tick : Int32) (f : Nat → Nat → Int32) : Int32 := am_for (st_timely_4 tick f) ((f 18 11).toNatClampNeg) 0 0
def fn_timely (tick : Int32) (f : Nat → Nat → Int32) : Int32 := (lf_timely_4 tick f)
theorem lp_timely_4 (tick : Int32) (f : Nat → Nat → Int32) (g : Nat → Nat → Int64) (hRc : f 18 11 = nI (f 18 11).toNatClampNeg) (hRn : (f 18 11).toNatClampNeg ≤ 30) (res : Option Value × am_M) : ∀ (n i4 : Nat) (a4_2 : Int32) , i4 + n = (f 18 11).toNatClampNeg → (fun (z : Int32) => ∀ (wc : Value), am_F 1 am_k_26 65 [.ref 18, .int tick, .int z, wc] [] (am_S f g) res) (am_for (st_timely_4 tick f) n i4 a4_2) → am_F 1 am_k_26 4 [.ref 18, .int tick, .int a4_2, .int (nI i4)] [] (am_S f g) res := by
  intro n
  induction n with
  | zero =>
    intro i4 a4_2 hi hK
    refine am_F.pos 4 rfl (by show (f 18 11) ≤ nI i4; rw [show (f 18 11 : Int32) = nI ((f 18 11).toNatClampNeg) from hRc]; exact nI_le (by omega) (by omega)) ?_
    exact hK _
  | succ n ih =>
    intro i4 a4_2 hi hK
    refine am_F.neg 4 rfl (by show ¬ (f 18 11) ≤ nI i4; rw [show (f 18 11 : Int32) = nI ((f 18 11).toNatClampNeg) from hRc]; exact nI_ge (by omega) (by omega)) ?_
    have hb4 : i4 < (f 18 11).toNatClampNeg := by omega
    show am_F _ _ 12 [.ref 18, .int tick, .int a4_2, .int (nI i4)] [] (am_S f g) _
    obtain ⟨K, hKd⟩ : ∃ K : (Int32) → Prop, K = fun s => (fun (z : Int32) => ∀ (wc : Value), am_F 1 am_k_26 65 [.ref 18, .int tick, .int z, wc] [] (am_S f g) res) (am_for (st_timely_4 tick f) n (i4 + 1) s) := ⟨_, rfl⟩
    have hK : K ((st_timely_4 tick f) i4 a4_2) := by rw [hKd]; exact hK
    unfold st_timely_4 at hK
    refine am_F.ops (pc' := 17) (L' := [.ref 18, .int tick, .int a4_2, .int (nI i4)]) (S' := [.int (nI i4), .int (f 18 8)]) (μ' := (am_S f g)) 3 rfl ?_
    refine am_F.call rfl rfl (x_has (f 18 8) (nI i4) f g ) (by decide) ?_
    show am_F _ _ 20 [.ref 18, .int tick, .int a4_2, .int (nI i4)] [.int (am_b (fn_has (f 18 8) (nI i4)))] (am_S f g) _
    refine am_F.bifK 1 rfl K hK (fun c3 hK => ?_) (fun c3 hK => ?_)
    · show am_F _ _ 23 [.ref 18, .int tick, .int a4_2, .int (nI i4)] [] (am_S f g) _
      refine am_F.ops (pc' := 28) (L' := [.ref 18, .int tick, .int a4_2, .int (nI i4)]) (S' := [.int (nI i4), .ref 22]) (μ' := (am_S f g)) 3 rfl ?_
      refine am_F.ialE (m := i4) (N := 30) rfl rfl rfl rfl (by omega) (by decide) ?_
      show am_F _ _ 29 [.ref 18, .int tick, .int a4_2, .int (nI i4)] [.int (f 22 i4)] (am_S f g) _
      refine am_F.ops (pc' := 30) (L' := [.ref 18, .int tick, .int a4_2, .int (nI i4)]) (S' := [.int tick, .int (f 22 i4)]) (μ' := (am_S f g)) 1 rfl ?_
      refine am_F.iteK 1 rfl K hK (fun c5 hK => ?_) (fun c5 hK => ?_)
      · show am_F _ _ 59 [.ref 18, .int tick, .int a4_2, .int (nI i4)] [] (am_S f g) _
        refine am_F.ops (pc' := 4) (L' := [.ref 18, .int tick, .int a4_2, .int ((nI i4) + 1)]) (S' := []) (μ' := (am_S f g)) 2 rfl ?_
        rw [nI_1 i4]
        subst hKd
        exact ih (i4 + 1) a4_2 (by omega)  hK
      · show am_F _ _ 33 [.ref 18, .int tick, .int a4_2, .int (nI i4)] [] (am_S f g) _
        refine am_F.ops (pc' := 37) (L' := [.ref 18, .int tick, .int a4_2, .int (nI i4)]) (S' := [.int (nI i4), .ref 18, .long tick.toInt64]) (μ' := (am_S f g)) 4 rfl ?_
        refine am_F.call rfl rfl (x_end i4 f g (by omega)) (by decide) ?_
        show am_F _ _ 40 [.ref 18, .int tick, .int a4_2, .int (nI i4)] [.long (fn_end i4 f), .long tick.toInt64] (am_S f g) _
        refine am_F.ops (pc' := 41) (L' := [.ref 18, .int tick, .int a4_2, .int (nI i4)]) (S' := [.int (lg_cmp tick.toInt64 (fn_end i4 f))]) (μ' := (am_S f g)) 1 rfl ?_
        refine am_F.iteK 1 rfl K hK (fun c7 hK => ?_) (fun c7 hK => ?_)
        · show am_F _ _ 59 [.ref 18, .int tick, .int a4_2, .int (nI i4)] [] (am_S f g) _
          refine am_F.ops (pc' := 4) (L' := [.ref 18, .int tick, .int a4_2, .int ((nI i4) + 1)]) (S' := []) (μ' := (am_S f g)) 2 rfl ?_
          rw [nI_1 i4]
          subst hKd
          exact ih (i4 + 1) a4_2 (by omega)  hK
        · show am_F _ _ 44 [.ref 18, .int tick, .int a4_2, .int (nI i4)] [] (am_S f g) _
          refine am_F.ops (pc' := 49) (L' := [.ref 18, .int tick, .int a4_2, .int (nI i4)]) (S' := [.int (nI i4), .ref 24]) (μ' := (am_S f g)) 3 rfl ?_
          refine am_F.ialE (m := i4) (N := 30) rfl rfl rfl rfl (by omega) (by decide) ?_
          show am_F _ _ 50 [.ref 18, .int tick, .int a4_2, .int (nI i4)] [.int (f 24 i4)] (am_S f g) _
          refine am_F.iteK 1 rfl K hK (fun c9 hK => ?_) (fun c9 hK => ?_)
          · show am_F _ _ 59 [.ref 18, .int tick, .int a4_2, .int (nI i4)] [] (am_S f g) _
            refine am_F.ops (pc' := 4) (L' := [.ref 18, .int tick, .int a4_2, .int ((nI i4) + 1)]) (S' := []) (μ' := (am_S f g)) 2 rfl ?_
            rw [nI_1 i4]
            subst hKd
            exact ih (i4 + 1) a4_2 (by omega)  hK
          · show am_F _ _ 53 [.ref 18, .int tick, .int a4_2, .int (nI i4)] [] (am_S f g) _
            refine am_F.ops (pc' := 4) (L' := [.ref 18, .int tick, .int (a4_2 ||| (1 <<< ((nI i4) &&& 31))), .int ((nI i4) + 1)]) (S' := []) (μ' := (am_S f g)) 8 rfl ?_
            rw [nI_1 i4]
            subst hKd
            exact ih (i4 + 1) (a4_2 ||| (1 <<< ((nI i4) &&& 31))) (by omega)  hK
    · show am_F _ _ 59 [.ref 18, .int tick, .int a4_2, .int (nI i4)] [] (am_S f g) _
      refine am_F.ops (pc' := 4) (L' := [.ref 18, .int tick, .int a4_2, .int ((nI i4) + 1)]) (S' := []) (μ' := (am_S f g)) 2 rfl ?_
      rw [nI_1 i4]
      subst hKd
      exact ih (i4 + 1) a4_2 (by omega)  hK
theorem x_timely (tick : Int32) (f : Nat → Nat → Int32) (g : Nat → Nat → Int64) (hRc : f 18 11 = nI (f 18 11).toNatClampNeg) (hRn : (f 18 11).toNatClampNeg ≤ 30) : am_D 1 26 4 [.ref 18, .int tick] (am_S f g) (some (Value.int (fn_timely tick f)), am_S f g) := by
  refine am_D.of (code := am_k_26) rfl (L0 := [.ref 18, .int tick, am_un, am_un]) rfl ?_
  generalize hres : (some (Value.int (fn_timely tick f)), am_S f g) = res
  obtain ⟨K, hKd⟩ : ∃ K : Int32 → Prop, K = fun z => (some (Value.int z), am_S f g) = res := ⟨_, rfl⟩
  have hK : K (fn_timely tick f) := by rw [hKd]; exact hres
  clear hres
  unfold fn_timely at hK
  refine am_F.ops (pc' := 4) (L' := [.ref 18, .int tick, .int 0, .int 0]) (S' := []) (μ' := (am_S f g)) 4 rfl ?_
  show am_F _ _ 4 [.ref 18, .int tick, .int 0, .int (nI 0)] [] (am_S f g) _
  refine lp_timely_4 tick f g hRc hRn _ ((f 18 11).toNatClampNeg) 0 0  (by omega)  ?_
  rw [show am_for (st_timely_4 tick f) ((f 18 11).toNatClampNeg) 0 0 = (lf_timely_4 tick f) from rfl]
  generalize (lf_timely_4 tick f) = z4_10 at hK ⊢
  intro wc
  show am_F _ _ 65 [.ref 18, .int tick, .int z4_10, wc] [] (am_S f g) _
  refine am_F.ops (pc' := 66) (L' := [.ref 18, .int tick, .int z4_10, wc]) (S' := [.int z4_10]) (μ' := (am_S f g)) 1 rfl ?_
  subst hKd
  exact am_F.eq (am_F.ret rfl rfl) hK
/-- AccessLattice$Rules.ofRoles -/
def st_ofRoles_5 (rules : Int32) (bits : Int32) (f : Nat → Nat → Int32) : Nat → Int32 → Int32 := fun i5 a5_3 => (bif (fn_has rules (nI i5)) then (bif (fn_has bits (f 19 i5)) then (a5_3 ||| (1 <<< ((nI i5) &&& 31))) else a5_3) else a5_3)
def lf_ofRoles_5 (rules : Int32) (bits : Int32) (f : Nat → Nat → Int32) : Int32 := am_for (st_ofRoles_5 rules bits f) ((f 18 11).toNatClampNeg) 0 0
def fn_ofRoles (rules : Int32) (bits : Int32) (f : Nat → Nat → Int32) : Int32 := (lf_ofRoles_5 rules bits f)
theorem lp_ofRoles_5 (rules : Int32) (bits : Int32) (f : Nat → Nat → Int32) (g : Nat → Nat → Int64) (hRc : f 18 11 = nI (f 18 11).toNatClampNeg) (hRn : (f 18 11).toNatClampNeg ≤ 30) (res : Option Value × am_M) : ∀ (n i5 : Nat) (a5_3 : Int32) , i5 + n = (f 18 11).toNatClampNeg → (fun (z : Int32) => ∀ (wc : Value), am_F 1 am_k_79 50 [.ref 18, .int rules, .int bits, .int z, wc] [] (am_S f g) res) (am_for (st_ofRoles_5 rules bits f) n i5 a5_3) → am_F 1 am_k_79 5 [.ref 18, .int rules, .int bits, .int a5_3, .int (nI i5)] [] (am_S f g) res := by
  intro n
  induction n with
  | zero =>
    intro i5 a5_3 hi hK
    refine am_F.pos 4 rfl (by show (f 18 11) ≤ nI i5; rw [show (f 18 11 : Int32) = nI ((f 18 11).toNatClampNeg) from hRc]; exact nI_le (by omega) (by omega)) ?_
    exact hK _
  | succ n ih =>
    intro i5 a5_3 hi hK
    refine am_F.neg 4 rfl (by show ¬ (f 18 11) ≤ nI i5; rw [show (f 18 11 : Int32) = nI ((f 18 11).toNatClampNeg) from hRc]; exact nI_ge (by omega) (by omega)) ?_
    have hb5 : i5 < (f 18 11).toNatClampNeg := by omega
    show am_F _ _ 14 [.ref 18, .int rules, .int bits, .int a5_3, .int (nI i5)] [] (am_S f g) _
    obtain ⟨K, hKd⟩ : ∃ K : (Int32) → Prop, K = fun s => (fun (z : Int32) => ∀ (wc : Value), am_F 1 am_k_79 50 [.ref 18, .int rules, .int bits, .int z, wc] [] (am_S f g) res) (am_for (st_ofRoles_5 rules bits f) n (i5 + 1) s) := ⟨_, rfl⟩
    have hK : K ((st_ofRoles_5 rules bits f) i5 a5_3) := by rw [hKd]; exact hK
    unfold st_ofRoles_5 at hK
    refine am_F.ops (pc' := 17) (L' := [.ref 18, .int rules, .int bits, .int a5_3, .int (nI i5)]) (S' := [.int (nI i5), .int rules]) (μ' := (am_S f g)) 2 rfl ?_
    refine am_F.call rfl rfl (x_has rules (nI i5) f g ) (by decide) ?_
    show am_F _ _ 20 [.ref 18, .int rules, .int bits, .int a5_3, .int (nI i5)] [.int (am_b (fn_has rules (nI i5)))] (am_S f g) _
    refine am_F.bifK 1 rfl K hK (fun c3 hK => ?_) (fun c3 hK => ?_)
    · show am_F _ _ 23 [.ref 18, .int rules, .int bits, .int a5_3, .int (nI i5)] [] (am_S f g) _
      refine am_F.ops (pc' := 30) (L' := [.ref 18, .int rules, .int bits, .int a5_3, .int (nI i5)]) (S' := [.int (nI i5), .ref 19, .int bits]) (μ' := (am_S f g)) 4 rfl ?_
      refine am_F.ialE (m := i5) (N := 30) rfl rfl rfl rfl (by omega) (by decide) ?_
      show am_F _ _ 31 [.ref 18, .int rules, .int bits, .int a5_3, .int (nI i5)] [.int (f 19 i5), .int bits] (am_S f g) _
      refine am_F.call rfl rfl (x_has bits (f 19 i5) f g ) (by decide) ?_
      show am_F _ _ 34 [.ref 18, .int rules, .int bits, .int a5_3, .int (nI i5)] [.int (am_b (fn_has bits (f 19 i5)))] (am_S f g) _
      refine am_F.bifK 1 rfl K hK (fun c5 hK => ?_) (fun c5 hK => ?_)
      · show am_F _ _ 37 [.ref 18, .int rules, .int bits, .int a5_3, .int (nI i5)] [] (am_S f g) _
        refine am_F.ops (pc' := 5) (L' := [.ref 18, .int rules, .int bits, .int (a5_3 ||| (1 <<< ((nI i5) &&& 31))), .int ((nI i5) + 1)]) (S' := []) (μ' := (am_S f g)) 8 rfl ?_
        rw [nI_1 i5]
        subst hKd
        exact ih (i5 + 1) (a5_3 ||| (1 <<< ((nI i5) &&& 31))) (by omega)  hK
      · show am_F _ _ 44 [.ref 18, .int rules, .int bits, .int a5_3, .int (nI i5)] [] (am_S f g) _
        refine am_F.ops (pc' := 5) (L' := [.ref 18, .int rules, .int bits, .int a5_3, .int ((nI i5) + 1)]) (S' := []) (μ' := (am_S f g)) 2 rfl ?_
        rw [nI_1 i5]
        subst hKd
        exact ih (i5 + 1) a5_3 (by omega)  hK
    · show am_F _ _ 44 [.ref 18, .int rules, .int bits, .int a5_3, .int (nI i5)] [] (am_S f g) _
      refine am_F.ops (pc' := 5) (L' := [.ref 18, .int rules, .int bits, .int a5_3, .int ((nI i5) + 1)]) (S' := []) (μ' := (am_S f g)) 2 rfl ?_
      rw [nI_1 i5]
      subst hKd
      exact ih (i5 + 1) a5_3 (by omega)  hK
theorem x_ofRoles (rules : Int32) (bits : Int32) (f : Nat → Nat → Int32) (g : Nat → Nat → Int64) (hRc : f 18 11 = nI (f 18 11).toNatClampNeg) (hRn : (f 18 11).toNatClampNeg ≤ 30) : am_D 1 79 5 [.ref 18, .int rules, .int bits] (am_S f g) (some (Value.int (fn_ofRoles rules bits f)), am_S f g) := by
  refine am_D.of (code := am_k_79) rfl (L0 := [.ref 18, .int rules, .int bits, am_un, am_un]) rfl ?_
  generalize hres : (some (Value.int (fn_ofRoles rules bits f)), am_S f g) = res
  obtain ⟨K, hKd⟩ : ∃ K : Int32 → Prop, K = fun z => (some (Value.int z), am_S f g) = res := ⟨_, rfl⟩
  have hK : K (fn_ofRoles rules bits f) := by rw [hKd]; exact hres
  clear hres
  unfold fn_ofRoles at hK
  refine am_F.ops (pc' := 5) (L' := [.ref 18, .int rules, .int bits, .int 0, .int 0]) (S' := []) (μ' := (am_S f g)) 4 rfl ?_
  show am_F _ _ 5 [.ref 18, .int rules, .int bits, .int 0, .int (nI 0)] [] (am_S f g) _
  refine lp_ofRoles_5 rules bits f g hRc hRn _ ((f 18 11).toNatClampNeg) 0 0  (by omega)  ?_
  rw [show am_for (st_ofRoles_5 rules bits f) ((f 18 11).toNatClampNeg) 0 0 = (lf_ofRoles_5 rules bits f) from rfl]
  generalize (lf_ofRoles_5 rules bits f) = z5_6 at hK ⊢
  intro wc
  show am_F _ _ 50 [.ref 18, .int rules, .int bits, .int z5_6, wc] [] (am_S f g) _
  refine am_F.ops (pc' := 51) (L' := [.ref 18, .int rules, .int bits, .int z5_6, wc]) (S' := [.int z5_6]) (μ' := (am_S f g)) 1 rfl ?_
  subst hKd
  exact am_F.eq (am_F.ret rfl rfl) hK
/-- AccessLattice$Rules.first -/
def st_first_22 (applying : Int32) (f : Nat → Nat → Int32) : Nat → Unit → Unit ⊕ (Unit ⊕ Int32) := fun i22 _ => (bif (fn_has (if (applying &&& (f 18 9)) = 0 then applying else applying &&& (f 18 9)) (nI i22)) then .inr (.inr (nI i22)) else .inl ())
def lf_first_22 (applying : Int32) (f : Nat → Nat → Int32) : Unit ⊕ Int32 := am_forX (st_first_22 applying f) ((f 18 11).toNatClampNeg) 0 ()
def fn_first (applying : Int32) (f : Nat → Nat → Int32) : Int32 := (Sum.elim (fun (z22 : Unit) => (-1)) (fun (z : Int32) => z) (lf_first_22 applying f))
theorem lp_first_22 (applying : Int32) (f : Nat → Nat → Int32) (g : Nat → Nat → Int64) (hRc : f 18 11 = nI (f 18 11).toNatClampNeg) (hRn : (f 18 11).toNatClampNeg ≤ 30) (res : Option Value × am_M) : ∀ (n i22 : Nat)  , i22 + n = (f 18 11).toNatClampNeg → am_KX (fun (z : Unit) => ∀ (wc : Value), am_F 1 am_k_84 46 [.ref 18, .int applying, .int (if (applying &&& (f 18 9)) = 0 then applying else applying &&& (f 18 9)), wc] [] (am_S f g) res) (fun (z : Int32) => (some (Value.int z), am_S f g) = res) (am_forX (st_first_22 applying f) n i22 ()) → am_F 1 am_k_84 22 [.ref 18, .int applying, .int (if (applying &&& (f 18 9)) = 0 then applying else applying &&& (f 18 9)), .int (nI i22)] [] (am_S f g) res := by
  intro n
  induction n with
  | zero =>
    intro i22 hi hK
    refine am_F.pos 4 rfl (by show (f 18 11) ≤ nI i22; rw [show (f 18 11 : Int32) = nI ((f 18 11).toNatClampNeg) from hRc]; exact nI_le (by omega) (by omega)) ?_
    exact hK _
  | succ n ih =>
    intro i22 hi hK
    refine am_F.neg 4 rfl (by show ¬ (f 18 11) ≤ nI i22; rw [show (f 18 11 : Int32) = nI ((f 18 11).toNatClampNeg) from hRc]; exact nI_ge (by omega) (by omega)) ?_
    have hb22 : i22 < (f 18 11).toNatClampNeg := by omega
    show am_F _ _ 30 [.ref 18, .int applying, .int (if (applying &&& (f 18 9)) = 0 then applying else applying &&& (f 18 9)), .int (nI i22)] [] (am_S f g) _
    obtain ⟨K, hKd⟩ : ∃ K : (Unit ⊕ (Unit ⊕ Int32)) → Prop, K = fun s => am_KX (fun (z : Unit) => ∀ (wc : Value), am_F 1 am_k_84 46 [.ref 18, .int applying, .int (if (applying &&& (f 18 9)) = 0 then applying else applying &&& (f 18 9)), wc] [] (am_S f g) res) (fun (z : Int32) => (some (Value.int z), am_S f g) = res) (am_nxt (fun z => am_forX (st_first_22 applying f) n (i22 + 1) z) s) := ⟨_, rfl⟩
    have hK : K ((st_first_22 applying f) i22 ()) := by rw [hKd]; exact hK
    unfold st_first_22 at hK
    refine am_F.ops (pc' := 32) (L' := [.ref 18, .int applying, .int (if (applying &&& (f 18 9)) = 0 then applying else applying &&& (f 18 9)), .int (nI i22)]) (S' := [.int (nI i22), .int (if (applying &&& (f 18 9)) = 0 then applying else applying &&& (f 18 9))]) (μ' := (am_S f g)) 2 rfl ?_
    refine am_F.call rfl rfl (x_has (if (applying &&& (f 18 9)) = 0 then applying else applying &&& (f 18 9)) (nI i22) f g ) (by decide) ?_
    show am_F _ _ 35 [.ref 18, .int applying, .int (if (applying &&& (f 18 9)) = 0 then applying else applying &&& (f 18 9)), .int (nI i22)] [.int (am_b (fn_has (if (applying &&& (f 18 9)) = 0 then applying else applying &&& (f 18 9)) (nI i22)))] (am_S f g) _
    refine am_F.bifK 1 rfl K hK (fun c2 hK => ?_) (fun c2 hK => ?_)
    · show am_F _ _ 38 [.ref 18, .int applying, .int (if (applying &&& (f 18 9)) = 0 then applying else applying &&& (f 18 9)), .int (nI i22)] [] (am_S f g) _
      refine am_F.ops (pc' := 39) (L' := [.ref 18, .int applying, .int (if (applying &&& (f 18 9)) = 0 then applying else applying &&& (f 18 9)), .int (nI i22)]) (S' := [.int (nI i22)]) (μ' := (am_S f g)) 1 rfl ?_
      subst hKd
      exact am_F.eq (am_F.ret rfl rfl) hK
    · show am_F _ _ 40 [.ref 18, .int applying, .int (if (applying &&& (f 18 9)) = 0 then applying else applying &&& (f 18 9)), .int (nI i22)] [] (am_S f g) _
      refine am_F.ops (pc' := 22) (L' := [.ref 18, .int applying, .int (if (applying &&& (f 18 9)) = 0 then applying else applying &&& (f 18 9)), .int ((nI i22) + 1)]) (S' := []) (μ' := (am_S f g)) 2 rfl ?_
      rw [nI_1 i22]
      subst hKd
      exact ih (i22 + 1)  (by omega)  hK
theorem x_first (applying : Int32) (f : Nat → Nat → Int32) (g : Nat → Nat → Int64) (hRc : f 18 11 = nI (f 18 11).toNatClampNeg) (hRn : (f 18 11).toNatClampNeg ≤ 30) : am_D 1 84 4 [.ref 18, .int applying] (am_S f g) (some (Value.int (fn_first applying f)), am_S f g) := by
  refine am_D.of (code := am_k_84) rfl (L0 := [.ref 18, .int applying, am_un, am_un]) rfl ?_
  generalize hres : (some (Value.int (fn_first applying f)), am_S f g) = res
  obtain ⟨K, hKd⟩ : ∃ K : Int32 → Prop, K = fun z => (some (Value.int z), am_S f g) = res := ⟨_, rfl⟩
  have hK : K (fn_first applying f) := by rw [hKd]; exact hres
  clear hres
  unfold fn_first at hK
  refine am_F.ops (pc' := 6) (L' := [.ref 18, .int applying, am_un, am_un]) (S' := [.int (applying &&& (f 18 9))]) (μ' := (am_S f g)) 4 rfl ?_
  refine am_F.to (am_To.ite (pc' := 19) (L2 := [.ref 18, .int applying, am_un, am_un]) (S2 := []) (μ2 := (am_S f g)) (a := applying) (b := applying &&& (f 18 9)) 1 rfl (fun c1 => ?_) (fun c1 => ?_)) ?_
  · intro res9 g9
    show am_F _ _ 18 [.ref 18, .int applying, am_un, am_un] [] (am_S f g) _
    refine am_F.ops (pc' := 19) (L' := [.ref 18, .int applying, am_un, am_un]) (S' := [.int applying]) (μ' := (am_S f g)) 1 rfl ?_
    exact g9
  · intro res9 g9
    show am_F _ _ 9 [.ref 18, .int applying, am_un, am_un] [] (am_S f g) _
    refine am_F.ops (pc' := 19) (L' := [.ref 18, .int applying, am_un, am_un]) (S' := [.int (applying &&& (f 18 9))]) (μ' := (am_S f g)) 5 rfl ?_
    exact g9
  show am_F _ _ 19 [.ref 18, .int applying, am_un, am_un] [.int (if (applying &&& (f 18 9)) = 0 then applying else applying &&& (f 18 9))] (am_S f g) _
  refine am_F.ops (pc' := 22) (L' := [.ref 18, .int applying, .int (if (applying &&& (f 18 9)) = 0 then applying else applying &&& (f 18 9)), .int 0]) (S' := []) (μ' := (am_S f g)) 3 rfl ?_
  show am_F _ _ 22 [.ref 18, .int applying, .int (if (applying &&& (f 18 9)) = 0 then applying else applying &&& (f 18 9)), .int (nI 0)] [] (am_S f g) _
  refine lp_first_22 applying f g hRc hRn _ ((f 18 11).toNatClampNeg) 0   (by omega)  ?_
  rw [show am_forX (st_first_22 applying f) ((f 18 11).toNatClampNeg) 0 () = (lf_first_22 applying f) from rfl]
  revert hK
  cases (lf_first_22 applying f) with
  | inr z =>
    intro hK
    subst hKd
    exact hK
  | inl z22 =>
    intro hK wc
    refine am_F.ops (pc' := 47) (L' := [.ref 18, .int applying, .int (if (applying &&& (f 18 9)) = 0 then applying else applying &&& (f 18 9)), wc]) (S' := [.int (-1)]) (μ' := (am_S f g)) 1 rfl ?_
    subst hKd
    exact am_F.eq (am_F.ret rfl rfl) hK
/-- AccessLattice$Rules.answerBy -/
def fn_answerBy (rule : Int32) (f : Nat → Nat → Int32) : Int32 := (if 0 ≤ rule then (bif (fn_has (f 18 9) rule) then 2 else 1) else 0)
theorem x_answerBy (rule : Int32) (f : Nat → Nat → Int32) (g : Nat → Nat → Int64)  : am_D 1 85 2 [.ref 18, .int rule] (am_S f g) (some (Value.int (fn_answerBy rule f)), am_S f g) := by
  refine am_D.of (code := am_k_85) rfl (L0 := [.ref 18, .int rule]) rfl ?_
  generalize hres : (some (Value.int (fn_answerBy rule f)), am_S f g) = res
  obtain ⟨K, hKd⟩ : ∃ K : Int32 → Prop, K = fun z => (some (Value.int z), am_S f g) = res := ⟨_, rfl⟩
  have hK : K (fn_answerBy rule f) := by rw [hKd]; exact hres
  clear hres
  unfold fn_answerBy at hK
  refine am_F.ops (pc' := 1) (L' := [.ref 18, .int rule]) (S' := [.int rule]) (μ' := (am_S f g)) 1 rfl ?_
  refine am_F.iteK 1 rfl K hK (fun c1 hK => ?_) (fun c1 hK => ?_)
  · show am_F _ _ 6 [.ref 18, .int rule] [] (am_S f g) _
    refine am_F.ops (pc' := 11) (L' := [.ref 18, .int rule]) (S' := [.int rule, .int (f 18 9)]) (μ' := (am_S f g)) 3 rfl ?_
    refine am_F.call rfl rfl (x_has (f 18 9) rule f g ) (by decide) ?_
    show am_F _ _ 14 [.ref 18, .int rule] [.int (am_b (fn_has (f 18 9) rule))] (am_S f g) _
    refine am_F.to (am_To.bif (pc' := 22) (L2 := [.ref 18, .int rule]) (S2 := []) (μ2 := (am_S f g)) (a := 2) (b := 1) 1 rfl (fun c2 => ?_) (fun c2 => ?_)) ?_
    · intro res9 g9
      show am_F _ _ 17 [.ref 18, .int rule] [] (am_S f g) _
      refine am_F.ops (pc' := 22) (L' := [.ref 18, .int rule]) (S' := [.int 2]) (μ' := (am_S f g)) 2 rfl ?_
      exact g9
    · intro res9 g9
      show am_F _ _ 21 [.ref 18, .int rule] [] (am_S f g) _
      refine am_F.ops (pc' := 22) (L' := [.ref 18, .int rule]) (S' := [.int 1]) (μ' := (am_S f g)) 1 rfl ?_
      exact g9
    show am_F _ _ 22 [.ref 18, .int rule] [.int (bif (fn_has (f 18 9) rule) then 2 else 1)] (am_S f g) _
    subst hKd
    exact am_F.eq (am_F.ret rfl rfl) hK
  · show am_F _ _ 4 [.ref 18, .int rule] [] (am_S f g) _
    refine am_F.ops (pc' := 5) (L' := [.ref 18, .int rule]) (S' := [.int 0]) (μ' := (am_S f g)) 1 rfl ?_
    subst hKd
    exact am_F.eq (am_F.ret rfl rfl) hK
/-- AccessLattice$State.stepsUp -/
def st_stepsUp_5 (other : Int32) (f : Nat → Nat → Int32) : Nat → Int32 → Int32 ⊕ (Int32 ⊕ Int32) := fun i5 a5_3 => (if a5_3 < 0 then .inr (.inl a5_3) else (if a5_3 = other then .inr (.inr (nI i5)) else .inl (f 29 a5_3.toNatClampNeg)))
def lf_stepsUp_5 (thing : Nat) (other : Int32) (f : Nat → Nat → Int32) : Int32 ⊕ Int32 := am_forX (st_stepsUp_5 other f) 16 0 (nI thing)
def fn_stepsUp (thing : Nat) (other : Int32) (f : Nat → Nat → Int32) : Int32 := (Sum.elim (fun (z5 : Int32) => (-1)) (fun (z : Int32) => z) (lf_stepsUp_5 thing other f))
theorem lp_stepsUp_5 (thing : Nat) (other : Int32) (f : Nat → Nat → Int32) (g : Nat → Nat → Int64) (hPa : ∀ t, t < 16 → (f 29 t).toInt < 16) (hthing : thing < 16) (res : Option Value × am_M) : ∀ (n i5 : Nat) (a5_3 : Int32) , i5 + n = 16 → (a5_3.toInt < 16) → am_KX (fun (z : Int32) => ∀ (wc : Value), am_F 0 am_k_17 37 [.ref 2, .int (nI thing), .int other, .int z, wc] [] (am_S f g) res) (fun (z : Int32) => (some (Value.int z), am_S f g) = res) (am_forX (st_stepsUp_5 other f) n i5 a5_3) → am_F 0 am_k_17 5 [.ref 2, .int (nI thing), .int other, .int a5_3, .int (nI i5)] [] (am_S f g) res := by
  intro n
  induction n with
  | zero =>
    intro i5 a5_3 hi hv5 hK
    refine am_F.pos 3 rfl (by show 16 ≤ nI i5; rw [show (16 : Int32) = nI 16 from rfl]; exact nI_le (by omega) (by omega)) ?_
    exact hK _
  | succ n ih =>
    intro i5 a5_3 hi hv5 hK
    refine am_F.neg 3 rfl (by show ¬ 16 ≤ nI i5; rw [show (16 : Int32) = nI 16 from rfl]; exact nI_ge (by omega) (by omega)) ?_
    have hb5 : i5 < 16 := by omega
    show am_F _ _ 12 [.ref 2, .int (nI thing), .int other, .int a5_3, .int (nI i5)] [] (am_S f g) _
    obtain ⟨K, hKd⟩ : ∃ K : (Int32 ⊕ (Int32 ⊕ Int32)) → Prop, K = fun s => am_KX (fun (z : Int32) => ∀ (wc : Value), am_F 0 am_k_17 37 [.ref 2, .int (nI thing), .int other, .int z, wc] [] (am_S f g) res) (fun (z : Int32) => (some (Value.int z), am_S f g) = res) (am_nxt (fun z => am_forX (st_stepsUp_5 other f) n (i5 + 1) z) s) := ⟨_, rfl⟩
    have hK : K ((st_stepsUp_5 other f) i5 a5_3) := by rw [hKd]; exact hK
    unfold st_stepsUp_5 at hK
    refine am_F.ops (pc' := 13) (L' := [.ref 2, .int (nI thing), .int other, .int a5_3, .int (nI i5)]) (S' := [.int a5_3]) (μ' := (am_S f g)) 1 rfl ?_
    refine am_F.iteK 1 rfl K hK (fun c1 hK => ?_) (fun c1 hK => ?_)
    · show am_F _ _ 37 [.ref 2, .int (nI thing), .int other, .int a5_3, .int (nI i5)] [] (am_S f g) _
      subst hKd
      exact hK (.int (nI i5))
    · show am_F _ _ 16 [.ref 2, .int (nI thing), .int other, .int a5_3, .int (nI i5)] [] (am_S f g) _
      refine am_F.ops (pc' := 18) (L' := [.ref 2, .int (nI thing), .int other, .int a5_3, .int (nI i5)]) (S' := [.int other, .int a5_3]) (μ' := (am_S f g)) 2 rfl ?_
      refine am_F.iteK 1 rfl K hK (fun c2 hK => ?_) (fun c2 hK => ?_)
      · show am_F _ _ 21 [.ref 2, .int (nI thing), .int other, .int a5_3, .int (nI i5)] [] (am_S f g) _
        refine am_F.ops (pc' := 23) (L' := [.ref 2, .int (nI thing), .int other, .int a5_3, .int (nI i5)]) (S' := [.int (nI i5)]) (μ' := (am_S f g)) 1 rfl ?_
        subst hKd
        exact am_F.eq (am_F.ret rfl rfl) hK
      · show am_F _ _ 24 [.ref 2, .int (nI thing), .int other, .int a5_3, .int (nI i5)] [] (am_S f g) _
        refine am_F.ops (pc' := 29) (L' := [.ref 2, .int (nI thing), .int other, .int a5_3, .int (nI i5)]) (S' := [.int a5_3, .ref 29]) (μ' := (am_S f g)) 3 rfl ?_
        refine am_F.ial (N := 16) rfl rfl rfl (am_inbD (by assumption) hv5) ?_
        show am_F _ _ 30 [.ref 2, .int (nI thing), .int other, .int a5_3, .int (nI i5)] [.int (f 29 a5_3.toNatClampNeg)] (am_S f g) _
        refine am_F.ops (pc' := 5) (L' := [.ref 2, .int (nI thing), .int other, .int (f 29 a5_3.toNatClampNeg), .int ((nI i5) + 1)]) (S' := []) (μ' := (am_S f g)) 3 rfl ?_
        rw [nI_1 i5]
        subst hKd
        exact ih (i5 + 1) (f 29 a5_3.toNatClampNeg) (by omega) (am_par hPa (by assumption) hv5) hK
theorem x_stepsUp (thing : Nat) (other : Int32) (f : Nat → Nat → Int32) (g : Nat → Nat → Int64) (hPa : ∀ t, t < 16 → (f 29 t).toInt < 16) (hthing : thing < 16) : am_D 0 17 5 [.ref 2, .int (nI thing), .int other] (am_S f g) (some (Value.int (fn_stepsUp thing other f)), am_S f g) := by
  refine am_D.of (code := am_k_17) rfl (L0 := [.ref 2, .int (nI thing), .int other, am_un, am_un]) rfl ?_
  generalize hres : (some (Value.int (fn_stepsUp thing other f)), am_S f g) = res
  obtain ⟨K, hKd⟩ : ∃ K : Int32 → Prop, K = fun z => (some (Value.int z), am_S f g) = res := ⟨_, rfl⟩
  have hK : K (fn_stepsUp thing other f) := by rw [hKd]; exact hres
  clear hres
  unfold fn_stepsUp at hK
  refine am_F.ops (pc' := 5) (L' := [.ref 2, .int (nI thing), .int other, .int (nI thing), .int 0]) (S' := []) (μ' := (am_S f g)) 4 rfl ?_
  show am_F _ _ 5 [.ref 2, .int (nI thing), .int other, .int (nI thing), .int (nI 0)] [] (am_S f g) _
  refine lp_stepsUp_5 thing other f g hPa hthing _ 16 0 (nI thing)  (by omega) (by rw [nI_toInt (by omega)]; omega) ?_
  rw [show am_forX (st_stepsUp_5 other f) 16 0 (nI thing) = (lf_stepsUp_5 thing other f) from rfl]
  revert hK
  cases (lf_stepsUp_5 thing other f) with
  | inr z =>
    intro hK
    subst hKd
    exact hK
  | inl z5 =>
    intro hK wc
    refine am_F.ops (pc' := 38) (L' := [.ref 2, .int (nI thing), .int other, .int z5, wc]) (S' := [.int (-1)]) (μ' := (am_S f g)) 1 rfl ?_
    subst hKd
    exact am_F.eq (am_F.ret rfl rfl) hK
/-- AccessLattice$State.isBarred -/
def st_isBarred_2 (bits : Int32) (f : Nat → Nat → Int32) : Nat → Unit → Unit ⊕ (Unit ⊕ Bool) := fun i2 _ => (bif (fn_has bits (nI i2)) then (if (bits &&& (f 31 i2)) = 0 then .inl () else .inr (.inr true)) else .inl ())
def lf_isBarred_2 (bits : Int32) (f : Nat → Nat → Int32) : Unit ⊕ Bool := am_forX (st_isBarred_2 bits f) 20 0 ()
def fn_isBarred (bits : Int32) (f : Nat → Nat → Int32) : Bool := (Sum.elim (fun (z2 : Unit) => false) (fun (z : Bool) => z) (lf_isBarred_2 bits f))
theorem lp_isBarred_2 (bits : Int32) (f : Nat → Nat → Int32) (g : Nat → Nat → Int64)  (res : Option Value × am_M) : ∀ (n i2 : Nat)  , i2 + n = 20 → am_KX (fun (z : Unit) => ∀ (wc : Value), am_F 1 am_k_30 35 [.ref 2, .int bits, wc] [] (am_S f g) res) (fun (z : Bool) => (some (Value.int (am_b z)), am_S f g) = res) (am_forX (st_isBarred_2 bits f) n i2 ()) → am_F 1 am_k_30 2 [.ref 2, .int bits, .int (nI i2)] [] (am_S f g) res := by
  intro n
  induction n with
  | zero =>
    intro i2 hi hK
    refine am_F.pos 3 rfl (by show 20 ≤ nI i2; rw [show (20 : Int32) = nI 20 from rfl]; exact nI_le (by omega) (by omega)) ?_
    exact hK _
  | succ n ih =>
    intro i2 hi hK
    refine am_F.neg 3 rfl (by show ¬ 20 ≤ nI i2; rw [show (20 : Int32) = nI 20 from rfl]; exact nI_ge (by omega) (by omega)) ?_
    have hb2 : i2 < 20 := by omega
    show am_F _ _ 8 [.ref 2, .int bits, .int (nI i2)] [] (am_S f g) _
    obtain ⟨K, hKd⟩ : ∃ K : (Unit ⊕ (Unit ⊕ Bool)) → Prop, K = fun s => am_KX (fun (z : Unit) => ∀ (wc : Value), am_F 1 am_k_30 35 [.ref 2, .int bits, wc] [] (am_S f g) res) (fun (z : Bool) => (some (Value.int (am_b z)), am_S f g) = res) (am_nxt (fun z => am_forX (st_isBarred_2 bits f) n (i2 + 1) z) s) := ⟨_, rfl⟩
    have hK : K ((st_isBarred_2 bits f) i2 ()) := by rw [hKd]; exact hK
    unfold st_isBarred_2 at hK
    refine am_F.ops (pc' := 10) (L' := [.ref 2, .int bits, .int (nI i2)]) (S' := [.int (nI i2), .int bits]) (μ' := (am_S f g)) 2 rfl ?_
    refine am_F.call rfl rfl (x_has bits (nI i2) f g ) (by decide) ?_
    show am_F _ _ 13 [.ref 2, .int bits, .int (nI i2)] [.int (am_b (fn_has bits (nI i2)))] (am_S f g) _
    refine am_F.bifK 1 rfl K hK (fun c1 hK => ?_) (fun c1 hK => ?_)
    · show am_F _ _ 16 [.ref 2, .int bits, .int (nI i2)] [] (am_S f g) _
      refine am_F.ops (pc' := 22) (L' := [.ref 2, .int bits, .int (nI i2)]) (S' := [.int (nI i2), .ref 31, .int bits]) (μ' := (am_S f g)) 4 rfl ?_
      refine am_F.ialE (m := i2) (N := 20) rfl rfl rfl rfl (by omega) (by decide) ?_
      show am_F _ _ 23 [.ref 2, .int bits, .int (nI i2)] [.int (f 31 i2), .int bits] (am_S f g) _
      refine am_F.ops (pc' := 24) (L' := [.ref 2, .int bits, .int (nI i2)]) (S' := [.int (bits &&& (f 31 i2))]) (μ' := (am_S f g)) 1 rfl ?_
      refine am_F.iteK 1 rfl K hK (fun c2 hK => ?_) (fun c2 hK => ?_)
      · show am_F _ _ 29 [.ref 2, .int bits, .int (nI i2)] [] (am_S f g) _
        refine am_F.ops (pc' := 2) (L' := [.ref 2, .int bits, .int ((nI i2) + 1)]) (S' := []) (μ' := (am_S f g)) 2 rfl ?_
        rw [nI_1 i2]
        subst hKd
        exact ih (i2 + 1)  (by omega)  hK
      · show am_F _ _ 27 [.ref 2, .int bits, .int (nI i2)] [] (am_S f g) _
        refine am_F.ops (pc' := 28) (L' := [.ref 2, .int bits, .int (nI i2)]) (S' := [.int 1]) (μ' := (am_S f g)) 1 rfl ?_
        subst hKd
        exact am_F.eq (am_F.ret rfl rfl) hK
    · show am_F _ _ 29 [.ref 2, .int bits, .int (nI i2)] [] (am_S f g) _
      refine am_F.ops (pc' := 2) (L' := [.ref 2, .int bits, .int ((nI i2) + 1)]) (S' := []) (μ' := (am_S f g)) 2 rfl ?_
      rw [nI_1 i2]
      subst hKd
      exact ih (i2 + 1)  (by omega)  hK
theorem x_isBarred (bits : Int32) (f : Nat → Nat → Int32) (g : Nat → Nat → Int64)  : am_D 1 30 3 [.ref 2, .int bits] (am_S f g) (some (Value.int (am_b (fn_isBarred bits f))), am_S f g) := by
  refine am_D.of (code := am_k_30) rfl (L0 := [.ref 2, .int bits, am_un]) rfl ?_
  generalize hres : (some (Value.int (am_b (fn_isBarred bits f))), am_S f g) = res
  obtain ⟨K, hKd⟩ : ∃ K : Bool → Prop, K = fun z => (some (Value.int (am_b z)), am_S f g) = res := ⟨_, rfl⟩
  have hK : K (fn_isBarred bits f) := by rw [hKd]; exact hres
  clear hres
  unfold fn_isBarred at hK
  refine am_F.ops (pc' := 2) (L' := [.ref 2, .int bits, .int 0]) (S' := []) (μ' := (am_S f g)) 2 rfl ?_
  show am_F _ _ 2 [.ref 2, .int bits, .int (nI 0)] [] (am_S f g) _
  refine lp_isBarred_2 bits f g  _ 20 0   (by omega)  ?_
  rw [show am_forX (st_isBarred_2 bits f) 20 0 () = (lf_isBarred_2 bits f) from rfl]
  revert hK
  cases (lf_isBarred_2 bits f) with
  | inr z =>
    intro hK
    subst hKd
    exact hK
  | inl z2 =>
    intro hK wc
    refine am_F.ops (pc' := 36) (L' := [.ref 2, .int bits, wc]) (S' := [.int 0]) (μ' := (am_S f g)) 1 rfl ?_
    subst hKd
    exact am_F.eq (am_F.ret rfl rfl) hK
/-- AccessLattice$View.settleLoans -/
def st_settleLoans_39 (lost : Int64) (f : Nat → Nat → Int32) (g : Nat → Nat → Int64) : Nat → (Nat → Int32) × (Nat → Int64) → (Nat → Int32) × (Nat → Int64) := fun i39 z => match z with
  | (r39_35, l39_1) => (bif (if 0 ≤ (f 17 i39) then (fn_hasLong (l39_1 5) (f 17 i39)) else (fn_has (f 34 ((f 12 i39).toNatClampNeg)) (f 14 i39))) then (if (f 15 i39) ≤ (f 1 7) then (r39_35, l39_1) else (bif (fn_hasLong (lost ||| (g 11 6)) (nI i39)) then (r39_35, l39_1) else (upd r39_35 ((f 13 i39).toNatClampNeg) ((r39_35 ((f 13 i39).toNatClampNeg)) ||| (f 6 ((f 14 i39).toNatClampNeg))), vp_updL l39_1 5 ((l39_1 5) ||| ((1 : Int64) <<< ((nI i39).toInt64 &&& 63)))))) else (r39_35, l39_1))
def lf_settleLoans_39 (lost : Int64) (f : Nat → Nat → Int32) (g : Nat → Nat → Int64) : (Nat → Int32) × (Nat → Int64) := am_for (st_settleLoans_39 lost f g) ((f 11 7).toNatClampNeg) 0 (va_cpy (f 34) (f 35) 0 0 16, vp_updL (g 1) 5 (0 : Int64))
def fn_settleLoans (lost : Int64) (f : Nat → Nat → Int32) (g : Nat → Nat → Int64) : (Nat → Int32) × (Nat → Int64) := ((lf_settleLoans_39 lost f g).1, (lf_settleLoans_39 lost f g).2)
theorem lp_settleLoans_39 (lost : Int64) (f : Nat → Nat → Int32) (g : Nat → Nat → Int64) (hLc : f 11 7 = nI (f 11 7).toNatClampNeg) (hLn : (f 11 7).toNatClampNeg ≤ 40) (hLf : ∀ i, i < (f 11 7).toNatClampNeg → am_inb (f 12 i) 16 = true) (hLt : ∀ i, i < (f 11 7).toNatClampNeg → am_inb (f 13 i) 16 = true) (hLr : ∀ i, i < (f 11 7).toNatClampNeg → am_inb (f 14 i) 20 = true) (res : Option Value × am_M) : ∀ (n i39 : Nat) (r39_35 : Nat → Int32) (l39_1 : Nat → Int64) (w39_7 : Value) (w39_8 : Value), i39 + n = (f 11 7).toNatClampNeg → (fun (z : (Nat → Int32) × (Nat → Int64)) => ∀ (wc : Value) (w39_7 : Value) (w39_8 : Value), am_F 1 am_k_28 179 [.ref 1, .long lost, am_un, .ref 11, .long (lost ||| (g 11 6)), am_un, wc, w39_7, w39_8] [] (am_S (am_row f 35 z.1) (am_row g 1 z.2)) res) (am_for (st_settleLoans_39 lost f g) n i39 (r39_35, l39_1)) → am_F 1 am_k_28 39 [.ref 1, .long lost, am_un, .ref 11, .long (lost ||| (g 11 6)), am_un, .int (nI i39), w39_7, w39_8] [] (am_S (am_row f 35 r39_35) (am_row g 1 l39_1)) res := by
  intro n
  induction n with
  | zero =>
    intro i39 r39_35 l39_1 w39_7 w39_8 hi hK
    refine am_F.pos 4 rfl (by show (f 11 7) ≤ nI i39; rw [show (f 11 7 : Int32) = nI ((f 11 7).toNatClampNeg) from hLc]; exact nI_le (by omega) (by omega)) ?_
    exact hK _ _ _
  | succ n ih =>
    intro i39 r39_35 l39_1 w39_7 w39_8 hi hK
    refine am_F.neg 4 rfl (by show ¬ (f 11 7) ≤ nI i39; rw [show (f 11 7 : Int32) = nI ((f 11 7).toNatClampNeg) from hLc]; exact nI_ge (by omega) (by omega)) ?_
    have hb39 : i39 < (f 11 7).toNatClampNeg := by omega
    show am_F _ _ 48 [.ref 1, .long lost, am_un, .ref 11, .long (lost ||| (g 11 6)), am_un, .int (nI i39), w39_7, w39_8] [] (am_S (am_row f 35 r39_35) (am_row g 1 l39_1)) _
    obtain ⟨K, hKd⟩ : ∃ K : ((Nat → Int32) × (Nat → Int64)) → Prop, K = fun s => (fun (z : (Nat → Int32) × (Nat → Int64)) => ∀ (wc : Value) (w39_7 : Value) (w39_8 : Value), am_F 1 am_k_28 179 [.ref 1, .long lost, am_un, .ref 11, .long (lost ||| (g 11 6)), am_un, wc, w39_7, w39_8] [] (am_S (am_row f 35 z.1) (am_row g 1 z.2)) res) (am_for (st_settleLoans_39 lost f g) n (i39 + 1) s) := ⟨_, rfl⟩
    have hK : K ((st_settleLoans_39 lost f g) i39 (r39_35, l39_1)) := by rw [hKd]; exact hK
    unfold st_settleLoans_39 at hK
    simp only at hK
    refine am_F.ops (pc' := 54) (L' := [.ref 1, .long lost, am_un, .ref 11, .long (lost ||| (g 11 6)), am_un, .int (nI i39), w39_7, w39_8]) (S' := [.int (nI i39), .ref 17]) (μ' := (am_S (am_row f 35 r39_35) (am_row g 1 l39_1))) 3 rfl ?_
    refine am_F.ialE (m := i39) (N := 40) rfl rfl rfl rfl (by omega) (by decide) ?_
    show am_F _ _ 55 [.ref 1, .long lost, am_un, .ref 11, .long (lost ||| (g 11 6)), am_un, .int (nI i39), w39_7, w39_8] [.int (f 17 i39)] (am_S (am_row f 35 r39_35) (am_row g 1 l39_1)) _
    refine am_F.ops (pc' := 59) (L' := [.ref 1, .long lost, am_un, .ref 11, .long (lost ||| (g 11 6)), am_un, .int (nI i39), .int (f 17 i39), w39_8]) (S' := [.int (f 17 i39)]) (μ' := (am_S (am_row f 35 r39_35) (am_row g 1 l39_1))) 2 rfl ?_
    refine am_F.to (am_To.iteB (pc' := 96) (L2 := [.ref 1, .long lost, am_un, .ref 11, .long (lost ||| (g 11 6)), am_un, .int (nI i39), .int (f 17 i39), w39_8]) (S2 := []) (μ2 := (am_S (am_row f 35 r39_35) (am_row g 1 l39_1))) (a := (fn_hasLong (l39_1 5) (f 17 i39))) (b := (fn_has (f 34 ((f 12 i39).toNatClampNeg)) (f 14 i39))) 1 rfl (fun c9 => ?_) (fun c9 => ?_)) ?_
    · intro res9 g9
      show am_F _ _ 87 [.ref 1, .long lost, am_un, .ref 11, .long (lost ||| (g 11 6)), am_un, .int (nI i39), .int (f 17 i39), w39_8] [] (am_S (am_row f 35 r39_35) (am_row g 1 l39_1)) _
      refine am_F.ops (pc' := 93) (L' := [.ref 1, .long lost, am_un, .ref 11, .long (lost ||| (g 11 6)), am_un, .int (nI i39), .int (f 17 i39), w39_8]) (S' := [.int (f 17 i39), .long (l39_1 5)]) (μ' := (am_S (am_row f 35 r39_35) (am_row g 1 l39_1))) 3 rfl ?_
      refine am_F.call rfl rfl (x_hasLong (l39_1 5) (f 17 i39) (am_row f 35 r39_35) (am_row g 1 l39_1) ) (by decide) ?_
      show am_F _ _ 96 [.ref 1, .long lost, am_un, .ref 11, .long (lost ||| (g 11 6)), am_un, .int (nI i39), .int (f 17 i39), w39_8] [.int (am_b (fn_hasLong (l39_1 5) (f 17 i39)))] (am_S (am_row f 35 r39_35) (am_row g 1 l39_1)) _
      exact g9
    · intro res9 g9
      show am_F _ _ 62 [.ref 1, .long lost, am_un, .ref 11, .long (lost ||| (g 11 6)), am_un, .int (nI i39), .int (f 17 i39), w39_8] [] (am_S (am_row f 35 r39_35) (am_row g 1 l39_1)) _
      refine am_F.ops (pc' := 72) (L' := [.ref 1, .long lost, am_un, .ref 11, .long (lost ||| (g 11 6)), am_un, .int (nI i39), .int (f 17 i39), w39_8]) (S' := [.int (nI i39), .ref 12, .ref 34]) (μ' := (am_S (am_row f 35 r39_35) (am_row g 1 l39_1))) 5 rfl ?_
      refine am_F.ialE (m := i39) (N := 40) rfl rfl rfl rfl (by omega) (by decide) ?_
      show am_F _ _ 73 [.ref 1, .long lost, am_un, .ref 11, .long (lost ||| (g 11 6)), am_un, .int (nI i39), .int (f 17 i39), w39_8] [.int (f 12 i39), .ref 34] (am_S (am_row f 35 r39_35) (am_row g 1 l39_1)) _
      refine am_F.ial (N := 16) rfl rfl rfl (hLf _ (by omega)) ?_
      show am_F _ _ 74 [.ref 1, .long lost, am_un, .ref 11, .long (lost ||| (g 11 6)), am_un, .int (nI i39), .int (f 17 i39), w39_8] [.int (f 34 ((f 12 i39).toNatClampNeg))] (am_S (am_row f 35 r39_35) (am_row g 1 l39_1)) _
      refine am_F.ops (pc' := 80) (L' := [.ref 1, .long lost, am_un, .ref 11, .long (lost ||| (g 11 6)), am_un, .int (nI i39), .int (f 17 i39), w39_8]) (S' := [.int (nI i39), .ref 14, .int (f 34 ((f 12 i39).toNatClampNeg))]) (μ' := (am_S (am_row f 35 r39_35) (am_row g 1 l39_1))) 3 rfl ?_
      refine am_F.ialE (m := i39) (N := 40) rfl rfl rfl rfl (by omega) (by decide) ?_
      show am_F _ _ 81 [.ref 1, .long lost, am_un, .ref 11, .long (lost ||| (g 11 6)), am_un, .int (nI i39), .int (f 17 i39), w39_8] [.int (f 14 i39), .int (f 34 ((f 12 i39).toNatClampNeg))] (am_S (am_row f 35 r39_35) (am_row g 1 l39_1)) _
      refine am_F.call rfl rfl (x_has (f 34 ((f 12 i39).toNatClampNeg)) (f 14 i39) (am_row f 35 r39_35) (am_row g 1 l39_1) ) (by decide) ?_
      show am_F _ _ 84 [.ref 1, .long lost, am_un, .ref 11, .long (lost ||| (g 11 6)), am_un, .int (nI i39), .int (f 17 i39), w39_8] [.int (am_b (fn_has (f 34 ((f 12 i39).toNatClampNeg)) (f 14 i39)))] (am_S (am_row f 35 r39_35) (am_row g 1 l39_1)) _
      refine am_F.ops (pc' := 96) (L' := [.ref 1, .long lost, am_un, .ref 11, .long (lost ||| (g 11 6)), am_un, .int (nI i39), .int (f 17 i39), w39_8]) (S' := [.int (am_b (fn_has (f 34 ((f 12 i39).toNatClampNeg)) (f 14 i39)))]) (μ' := (am_S (am_row f 35 r39_35) (am_row g 1 l39_1))) 1 rfl ?_
      exact g9
    show am_F _ _ 96 [.ref 1, .long lost, am_un, .ref 11, .long (lost ||| (g 11 6)), am_un, .int (nI i39), .int (f 17 i39), w39_8] [.int (am_b (if 0 ≤ (f 17 i39) then (fn_hasLong (l39_1 5) (f 17 i39)) else (fn_has (f 34 ((f 12 i39).toNatClampNeg)) (f 14 i39))))] (am_S (am_row f 35 r39_35) (am_row g 1 l39_1)) _
    refine am_F.ops (pc' := 100) (L' := [.ref 1, .long lost, am_un, .ref 11, .long (lost ||| (g 11 6)), am_un, .int (nI i39), .int (f 17 i39), .int (am_b (if 0 ≤ (f 17 i39) then (fn_hasLong (l39_1 5) (f 17 i39)) else (fn_has (f 34 ((f 12 i39).toNatClampNeg)) (f 14 i39))))]) (S' := [.int (am_b (if 0 ≤ (f 17 i39) then (fn_hasLong (l39_1 5) (f 17 i39)) else (fn_has (f 34 ((f 12 i39).toNatClampNeg)) (f 14 i39))))]) (μ' := (am_S (am_row f 35 r39_35) (am_row g 1 l39_1))) 2 rfl ?_
    refine am_F.bifK 1 rfl K hK (fun c12 hK => ?_) (fun c12 hK => ?_)
    · show am_F _ _ 103 [.ref 1, .long lost, am_un, .ref 11, .long (lost ||| (g 11 6)), am_un, .int (nI i39), .int (f 17 i39), .int (am_b (if 0 ≤ (f 17 i39) then (fn_hasLong (l39_1 5) (f 17 i39)) else (fn_has (f 34 ((f 12 i39).toNatClampNeg)) (f 14 i39))))] [] (am_S (am_row f 35 r39_35) (am_row g 1 l39_1)) _
      refine am_F.ops (pc' := 113) (L' := [.ref 1, .long lost, am_un, .ref 11, .long (lost ||| (g 11 6)), am_un, .int (nI i39), .int (f 17 i39), .int (am_b (if 0 ≤ (f 17 i39) then (fn_hasLong (l39_1 5) (f 17 i39)) else (fn_has (f 34 ((f 12 i39).toNatClampNeg)) (f 14 i39))))]) (S' := [.int (nI i39), .ref 15, .int (f 1 7)]) (μ' := (am_S (am_row f 35 r39_35) (am_row g 1 l39_1))) 5 rfl ?_
      refine am_F.ialE (m := i39) (N := 40) rfl rfl rfl rfl (by omega) (by decide) ?_
      show am_F _ _ 114 [.ref 1, .long lost, am_un, .ref 11, .long (lost ||| (g 11 6)), am_un, .int (nI i39), .int (f 17 i39), .int (am_b (if 0 ≤ (f 17 i39) then (fn_hasLong (l39_1 5) (f 17 i39)) else (fn_has (f 34 ((f 12 i39).toNatClampNeg)) (f 14 i39))))] [.int (f 15 i39), .int (f 1 7)] (am_S (am_row f 35 r39_35) (am_row g 1 l39_1)) _
      refine am_F.iteK 1 rfl K hK (fun c14 hK => ?_) (fun c14 hK => ?_)
      · show am_F _ _ 173 [.ref 1, .long lost, am_un, .ref 11, .long (lost ||| (g 11 6)), am_un, .int (nI i39), .int (f 17 i39), .int (am_b (if 0 ≤ (f 17 i39) then (fn_hasLong (l39_1 5) (f 17 i39)) else (fn_has (f 34 ((f 12 i39).toNatClampNeg)) (f 14 i39))))] [] (am_S (am_row f 35 r39_35) (am_row g 1 l39_1)) _
        refine am_F.ops (pc' := 39) (L' := [.ref 1, .long lost, am_un, .ref 11, .long (lost ||| (g 11 6)), am_un, .int ((nI i39) + 1), .int (f 17 i39), .int (am_b (if 0 ≤ (f 17 i39) then (fn_hasLong (l39_1 5) (f 17 i39)) else (fn_has (f 34 ((f 12 i39).toNatClampNeg)) (f 14 i39))))]) (S' := []) (μ' := (am_S (am_row f 35 r39_35) (am_row g 1 l39_1))) 2 rfl ?_
        rw [nI_1 i39]
        subst hKd
        exact ih (i39 + 1) r39_35 l39_1 (.int (f 17 i39)) (.int (am_b (if 0 ≤ (f 17 i39) then (fn_hasLong (l39_1 5) (f 17 i39)) else (fn_has (f 34 ((f 12 i39).toNatClampNeg)) (f 14 i39))))) (by omega)  hK
      · show am_F _ _ 117 [.ref 1, .long lost, am_un, .ref 11, .long (lost ||| (g 11 6)), am_un, .int (nI i39), .int (f 17 i39), .int (am_b (if 0 ≤ (f 17 i39) then (fn_hasLong (l39_1 5) (f 17 i39)) else (fn_has (f 34 ((f 12 i39).toNatClampNeg)) (f 14 i39))))] [] (am_S (am_row f 35 r39_35) (am_row g 1 l39_1)) _
        refine am_F.ops (pc' := 121) (L' := [.ref 1, .long lost, am_un, .ref 11, .long (lost ||| (g 11 6)), am_un, .int (nI i39), .int (f 17 i39), .int (am_b (if 0 ≤ (f 17 i39) then (fn_hasLong (l39_1 5) (f 17 i39)) else (fn_has (f 34 ((f 12 i39).toNatClampNeg)) (f 14 i39))))]) (S' := [.int (nI i39), .long (lost ||| (g 11 6))]) (μ' := (am_S (am_row f 35 r39_35) (am_row g 1 l39_1))) 2 rfl ?_
        refine am_F.call rfl rfl (x_hasLong (lost ||| (g 11 6)) (nI i39) (am_row f 35 r39_35) (am_row g 1 l39_1) ) (by decide) ?_
        show am_F _ _ 124 [.ref 1, .long lost, am_un, .ref 11, .long (lost ||| (g 11 6)), am_un, .int (nI i39), .int (f 17 i39), .int (am_b (if 0 ≤ (f 17 i39) then (fn_hasLong (l39_1 5) (f 17 i39)) else (fn_has (f 34 ((f 12 i39).toNatClampNeg)) (f 14 i39))))] [.int (am_b (fn_hasLong (lost ||| (g 11 6)) (nI i39)))] (am_S (am_row f 35 r39_35) (am_row g 1 l39_1)) _
        refine am_F.bifK 1 rfl K hK (fun c16 hK => ?_) (fun c16 hK => ?_)
        · show am_F _ _ 173 [.ref 1, .long lost, am_un, .ref 11, .long (lost ||| (g 11 6)), am_un, .int (nI i39), .int (f 17 i39), .int (am_b (if 0 ≤ (f 17 i39) then (fn_hasLong (l39_1 5) (f 17 i39)) else (fn_has (f 34 ((f 12 i39).toNatClampNeg)) (f 14 i39))))] [] (am_S (am_row f 35 r39_35) (am_row g 1 l39_1)) _
          refine am_F.ops (pc' := 39) (L' := [.ref 1, .long lost, am_un, .ref 11, .long (lost ||| (g 11 6)), am_un, .int ((nI i39) + 1), .int (f 17 i39), .int (am_b (if 0 ≤ (f 17 i39) then (fn_hasLong (l39_1 5) (f 17 i39)) else (fn_has (f 34 ((f 12 i39).toNatClampNeg)) (f 14 i39))))]) (S' := []) (μ' := (am_S (am_row f 35 r39_35) (am_row g 1 l39_1))) 2 rfl ?_
          rw [nI_1 i39]
          subst hKd
          exact ih (i39 + 1) r39_35 l39_1 (.int (f 17 i39)) (.int (am_b (if 0 ≤ (f 17 i39) then (fn_hasLong (l39_1 5) (f 17 i39)) else (fn_has (f 34 ((f 12 i39).toNatClampNeg)) (f 14 i39))))) (by omega)  hK
        · show am_F _ _ 127 [.ref 1, .long lost, am_un, .ref 11, .long (lost ||| (g 11 6)), am_un, .int (nI i39), .int (f 17 i39), .int (am_b (if 0 ≤ (f 17 i39) then (fn_hasLong (l39_1 5) (f 17 i39)) else (fn_has (f 34 ((f 12 i39).toNatClampNeg)) (f 14 i39))))] [] (am_S (am_row f 35 r39_35) (am_row g 1 l39_1)) _
          refine am_F.ops (pc' := 137) (L' := [.ref 1, .long lost, am_un, .ref 11, .long (lost ||| (g 11 6)), am_un, .int (nI i39), .int (f 17 i39), .int (am_b (if 0 ≤ (f 17 i39) then (fn_hasLong (l39_1 5) (f 17 i39)) else (fn_has (f 34 ((f 12 i39).toNatClampNeg)) (f 14 i39))))]) (S' := [.long ((l39_1 5) ||| ((1 : Int64) <<< ((nI i39).toInt64 &&& 63))), .ref 1]) (μ' := (am_S (am_row f 35 r39_35) (am_row g 1 l39_1))) 7 rfl ?_
          refine am_F.pfl (G' := (am_row g 1 (vp_updL l39_1 5 ((l39_1 5) ||| ((1 : Int64) <<< ((nI i39).toInt64 &&& 63)))))) rfl rfl (by first | rfl | (funext a; by_cases z0 : a = 1; (subst z0; rfl); simp only [am_ui, am_ul, am_row_ne z0])) ?_
          refine am_F.ops (pc' := 150) (L' := [.ref 1, .long lost, am_un, .ref 11, .long (lost ||| (g 11 6)), am_un, .int (nI i39), .int (f 17 i39), .int (am_b (if 0 ≤ (f 17 i39) then (fn_hasLong (l39_1 5) (f 17 i39)) else (fn_has (f 34 ((f 12 i39).toNatClampNeg)) (f 14 i39))))]) (S' := [.int (nI i39), .ref 13, .ref 35]) (μ' := (am_S (am_row f 35 r39_35) (am_row g 1 (vp_updL l39_1 5 ((l39_1 5) ||| ((1 : Int64) <<< ((nI i39).toInt64 &&& 63))))))) 5 rfl ?_
          refine am_F.ialE (m := i39) (N := 40) rfl rfl rfl rfl (by omega) (by decide) ?_
          show am_F _ _ 151 [.ref 1, .long lost, am_un, .ref 11, .long (lost ||| (g 11 6)), am_un, .int (nI i39), .int (f 17 i39), .int (am_b (if 0 ≤ (f 17 i39) then (fn_hasLong (l39_1 5) (f 17 i39)) else (fn_has (f 34 ((f 12 i39).toNatClampNeg)) (f 14 i39))))] [.int (f 13 i39), .ref 35] (am_S (am_row f 35 r39_35) (am_row g 1 (vp_updL l39_1 5 ((l39_1 5) ||| ((1 : Int64) <<< ((nI i39).toInt64 &&& 63)))))) _
          refine am_F.ops (pc' := 152) (L' := [.ref 1, .long lost, am_un, .ref 11, .long (lost ||| (g 11 6)), am_un, .int (nI i39), .int (f 17 i39), .int (am_b (if 0 ≤ (f 17 i39) then (fn_hasLong (l39_1 5) (f 17 i39)) else (fn_has (f 34 ((f 12 i39).toNatClampNeg)) (f 14 i39))))]) (S' := [.int (f 13 i39), .ref 35, .int (f 13 i39), .ref 35]) (μ' := (am_S (am_row f 35 r39_35) (am_row g 1 (vp_updL l39_1 5 ((l39_1 5) ||| ((1 : Int64) <<< ((nI i39).toInt64 &&& 63))))))) 1 rfl ?_
          refine am_F.ial (N := 16) rfl rfl rfl (hLt _ (by omega)) ?_
          show am_F _ _ 153 [.ref 1, .long lost, am_un, .ref 11, .long (lost ||| (g 11 6)), am_un, .int (nI i39), .int (f 17 i39), .int (am_b (if 0 ≤ (f 17 i39) then (fn_hasLong (l39_1 5) (f 17 i39)) else (fn_has (f 34 ((f 12 i39).toNatClampNeg)) (f 14 i39))))] [.int (r39_35 ((f 13 i39).toNatClampNeg)), .int (f 13 i39), .ref 35] (am_S (am_row f 35 r39_35) (am_row g 1 (vp_updL l39_1 5 ((l39_1 5) ||| ((1 : Int64) <<< ((nI i39).toInt64 &&& 63)))))) _
          refine am_F.ops (pc' := 169) (L' := [.ref 1, .long lost, am_un, .ref 11, .long (lost ||| (g 11 6)), am_un, .int (nI i39), .int (f 17 i39), .int (am_b (if 0 ≤ (f 17 i39) then (fn_hasLong (l39_1 5) (f 17 i39)) else (fn_has (f 34 ((f 12 i39).toNatClampNeg)) (f 14 i39))))]) (S' := [.int (nI i39), .ref 14, .ref 6, .int (r39_35 ((f 13 i39).toNatClampNeg)), .int (f 13 i39), .ref 35]) (μ' := (am_S (am_row f 35 r39_35) (am_row g 1 (vp_updL l39_1 5 ((l39_1 5) ||| ((1 : Int64) <<< ((nI i39).toInt64 &&& 63))))))) 7 rfl ?_
          refine am_F.ialE (m := i39) (N := 40) rfl rfl rfl rfl (by omega) (by decide) ?_
          show am_F _ _ 170 [.ref 1, .long lost, am_un, .ref 11, .long (lost ||| (g 11 6)), am_un, .int (nI i39), .int (f 17 i39), .int (am_b (if 0 ≤ (f 17 i39) then (fn_hasLong (l39_1 5) (f 17 i39)) else (fn_has (f 34 ((f 12 i39).toNatClampNeg)) (f 14 i39))))] [.int (f 14 i39), .ref 6, .int (r39_35 ((f 13 i39).toNatClampNeg)), .int (f 13 i39), .ref 35] (am_S (am_row f 35 r39_35) (am_row g 1 (vp_updL l39_1 5 ((l39_1 5) ||| ((1 : Int64) <<< ((nI i39).toInt64 &&& 63)))))) _
          refine am_F.ial (N := 20) rfl rfl rfl (hLr _ (by omega)) ?_
          show am_F _ _ 171 [.ref 1, .long lost, am_un, .ref 11, .long (lost ||| (g 11 6)), am_un, .int (nI i39), .int (f 17 i39), .int (am_b (if 0 ≤ (f 17 i39) then (fn_hasLong (l39_1 5) (f 17 i39)) else (fn_has (f 34 ((f 12 i39).toNatClampNeg)) (f 14 i39))))] [.int (f 6 ((f 14 i39).toNatClampNeg)), .int (r39_35 ((f 13 i39).toNatClampNeg)), .int (f 13 i39), .ref 35] (am_S (am_row f 35 r39_35) (am_row g 1 (vp_updL l39_1 5 ((l39_1 5) ||| ((1 : Int64) <<< ((nI i39).toInt64 &&& 63)))))) _
          refine am_F.ops (pc' := 172) (L' := [.ref 1, .long lost, am_un, .ref 11, .long (lost ||| (g 11 6)), am_un, .int (nI i39), .int (f 17 i39), .int (am_b (if 0 ≤ (f 17 i39) then (fn_hasLong (l39_1 5) (f 17 i39)) else (fn_has (f 34 ((f 12 i39).toNatClampNeg)) (f 14 i39))))]) (S' := [.int ((r39_35 ((f 13 i39).toNatClampNeg)) ||| (f 6 ((f 14 i39).toNatClampNeg))), .int (f 13 i39), .ref 35]) (μ' := (am_S (am_row f 35 r39_35) (am_row g 1 (vp_updL l39_1 5 ((l39_1 5) ||| ((1 : Int64) <<< ((nI i39).toInt64 &&& 63))))))) 1 rfl ?_
          refine am_F.ias (F' := (am_row f 35 (upd r39_35 ((f 13 i39).toNatClampNeg) ((r39_35 ((f 13 i39).toNatClampNeg)) ||| (f 6 ((f 14 i39).toNatClampNeg)))))) (N := 16) rfl rfl rfl (hLt _ (by omega)) (by first | rfl | (funext a; by_cases z0 : a = 35; (subst z0; rfl); simp only [am_ui, am_ul, am_row_ne z0])) ?_
          refine am_F.ops (pc' := 39) (L' := [.ref 1, .long lost, am_un, .ref 11, .long (lost ||| (g 11 6)), am_un, .int ((nI i39) + 1), .int (f 17 i39), .int (am_b (if 0 ≤ (f 17 i39) then (fn_hasLong (l39_1 5) (f 17 i39)) else (fn_has (f 34 ((f 12 i39).toNatClampNeg)) (f 14 i39))))]) (S' := []) (μ' := (am_S (am_row f 35 (upd r39_35 ((f 13 i39).toNatClampNeg) ((r39_35 ((f 13 i39).toNatClampNeg)) ||| (f 6 ((f 14 i39).toNatClampNeg))))) (am_row g 1 (vp_updL l39_1 5 ((l39_1 5) ||| ((1 : Int64) <<< ((nI i39).toInt64 &&& 63))))))) 2 rfl ?_
          rw [nI_1 i39]
          subst hKd
          exact ih (i39 + 1) (upd r39_35 ((f 13 i39).toNatClampNeg) ((r39_35 ((f 13 i39).toNatClampNeg)) ||| (f 6 ((f 14 i39).toNatClampNeg)))) (vp_updL l39_1 5 ((l39_1 5) ||| ((1 : Int64) <<< ((nI i39).toInt64 &&& 63)))) (.int (f 17 i39)) (.int (am_b (if 0 ≤ (f 17 i39) then (fn_hasLong (l39_1 5) (f 17 i39)) else (fn_has (f 34 ((f 12 i39).toNatClampNeg)) (f 14 i39))))) (by omega)  hK
    · show am_F _ _ 173 [.ref 1, .long lost, am_un, .ref 11, .long (lost ||| (g 11 6)), am_un, .int (nI i39), .int (f 17 i39), .int (am_b (if 0 ≤ (f 17 i39) then (fn_hasLong (l39_1 5) (f 17 i39)) else (fn_has (f 34 ((f 12 i39).toNatClampNeg)) (f 14 i39))))] [] (am_S (am_row f 35 r39_35) (am_row g 1 l39_1)) _
      refine am_F.ops (pc' := 39) (L' := [.ref 1, .long lost, am_un, .ref 11, .long (lost ||| (g 11 6)), am_un, .int ((nI i39) + 1), .int (f 17 i39), .int (am_b (if 0 ≤ (f 17 i39) then (fn_hasLong (l39_1 5) (f 17 i39)) else (fn_has (f 34 ((f 12 i39).toNatClampNeg)) (f 14 i39))))]) (S' := []) (μ' := (am_S (am_row f 35 r39_35) (am_row g 1 l39_1))) 2 rfl ?_
      rw [nI_1 i39]
      subst hKd
      exact ih (i39 + 1) r39_35 l39_1 (.int (f 17 i39)) (.int (am_b (if 0 ≤ (f 17 i39) then (fn_hasLong (l39_1 5) (f 17 i39)) else (fn_has (f 34 ((f 12 i39).toNatClampNeg)) (f 14 i39))))) (by omega)  hK
theorem x_settleLoans (lost : Int64) (f : Nat → Nat → Int32) (g : Nat → Nat → Int64) (hLc : f 11 7 = nI (f 11 7).toNatClampNeg) (hLn : (f 11 7).toNatClampNeg ≤ 40) (hLf : ∀ i, i < (f 11 7).toNatClampNeg → am_inb (f 12 i) 16 = true) (hLt : ∀ i, i < (f 11 7).toNatClampNeg → am_inb (f 13 i) 16 = true) (hLr : ∀ i, i < (f 11 7).toNatClampNeg → am_inb (f 14 i) 20 = true) : am_D 1 28 9 [.ref 1, .long lost] (am_S f g) ((none : Option Value), am_S (am_row f 35 ((fn_settleLoans lost f g).1)) (am_row g 1 ((fn_settleLoans lost f g).2))) := by
  refine am_D.of (code := am_k_28) rfl (L0 := [.ref 1, .long lost, am_un, am_un, am_un, am_un, am_un, am_un, am_un]) rfl ?_
  generalize hres : ((none : Option Value), am_S (am_row f 35 ((fn_settleLoans lost f g).1)) (am_row g 1 ((fn_settleLoans lost f g).2))) = res
  obtain ⟨K, hKd⟩ : ∃ K : ((Nat → Int32) × (Nat → Int64)) → Prop, K = fun z => ((none : Option Value), am_S (am_row f 35 z.1) (am_row g 1 z.2)) = res := ⟨_, rfl⟩
  have hK : K (fn_settleLoans lost f g) := by rw [hKd]; exact hres
  clear hres
  unfold fn_settleLoans at hK
  refine am_F.ops (pc' := 12) (L' := [.ref 1, .long lost, am_un, am_un, am_un, am_un, am_un, am_un, am_un]) (S' := [.int 16, .int 0, .ref 35, .int 0, .ref 34]) (μ' := (am_S f g)) 7 rfl ?_
  refine am_F.cpyE (F' := (am_row f 35 (va_cpy (f 34) (f 35) 0 0 16))) (sp := 0) (dp := 0) (z := 16) (n0 := 16) (n1 := 16) rfl rfl rfl rfl rfl rfl rfl rfl (by omega) (by omega) (by decide) (by decide) (by first | rfl | (funext a; by_cases z0 : a = 35; (subst z0; rfl); simp only [am_ui, am_ul, am_row_ne z0])) ?_
  refine am_F.ops (pc' := 17) (L' := [.ref 1, .long lost, am_un, am_un, am_un, am_un, am_un, am_un, am_un]) (S' := [.long (0 : Int64), .ref 1]) (μ' := (am_S (am_row f 35 (va_cpy (f 34) (f 35) 0 0 16)) g)) 2 rfl ?_
  refine am_F.pfl (G' := (am_row g 1 (vp_updL (g 1) 5 (0 : Int64)))) rfl rfl (by first | rfl | (funext a; by_cases z0 : a = 1; (subst z0; rfl); simp only [am_ui, am_ul, am_row_ne z0])) ?_
  refine am_F.ops (pc' := 39) (L' := [.ref 1, .long lost, am_un, .ref 11, .long (lost ||| (g 11 6)), am_un, .int 0, am_un, am_un]) (S' := []) (μ' := (am_S (am_row f 35 (va_cpy (f 34) (f 35) 0 0 16)) (am_row g 1 (vp_updL (g 1) 5 (0 : Int64))))) 11 rfl ?_
  show am_F _ _ 39 [.ref 1, .long lost, am_un, .ref 11, .long (lost ||| (g 11 6)), am_un, .int (nI 0), am_un, am_un] [] (am_S (am_row f 35 (va_cpy (f 34) (f 35) 0 0 16)) (am_row g 1 (vp_updL (g 1) 5 (0 : Int64)))) _
  refine lp_settleLoans_39 lost f g hLc hLn hLf hLt hLr _ ((f 11 7).toNatClampNeg) 0 (va_cpy (f 34) (f 35) 0 0 16) (vp_updL (g 1) 5 (0 : Int64)) am_un am_un (by omega)  ?_
  rw [show am_for (st_settleLoans_39 lost f g) ((f 11 7).toNatClampNeg) 0 (va_cpy (f 34) (f 35) 0 0 16, vp_updL (g 1) 5 (0 : Int64)) = (lf_settleLoans_39 lost f g) from rfl]
  generalize (lf_settleLoans_39 lost f g) = z39_17 at hK ⊢
  intro wc w39_7 w39_8
  show am_F _ _ 179 [.ref 1, .long lost, am_un, .ref 11, .long (lost ||| (g 11 6)), am_un, wc, w39_7, w39_8] [] (am_S (am_row f 35 z39_17.1) (am_row g 1 z39_17.2)) _
  subst hKd
  exact am_F.eq (am_F.ret rfl rfl) hK
/-- AccessLattice$View.turnTo -/
def fn_turnTo (at9 : Int32) (f : Nat → Nat → Int32) (g : Nat → Nat → Int64) : (Nat → Int32) × (Nat → Int32) × (Nat → Int64) := (upd (upd (f 1) 7 at9) 6 (fn_timely at9 (am_row f 1 (upd (f 1) 7 at9))), (fn_settleLoans (0 : Int64) (am_row f 1 (upd (upd (f 1) 7 at9) 6 (fn_timely at9 (am_row f 1 (upd (f 1) 7 at9))))) g).1, (fn_settleLoans (0 : Int64) (am_row f 1 (upd (upd (f 1) 7 at9) 6 (fn_timely at9 (am_row f 1 (upd (f 1) 7 at9))))) g).2)
theorem x_turnTo (at9 : Int32) (f : Nat → Nat → Int32) (g : Nat → Nat → Int64) (hLc : f 11 7 = nI (f 11 7).toNatClampNeg) (hLn : (f 11 7).toNatClampNeg ≤ 40) (hLf : ∀ i, i < (f 11 7).toNatClampNeg → am_inb (f 12 i) 16 = true) (hLt : ∀ i, i < (f 11 7).toNatClampNeg → am_inb (f 13 i) 16 = true) (hLr : ∀ i, i < (f 11 7).toNatClampNeg → am_inb (f 14 i) 20 = true) (hRc : f 18 11 = nI (f 18 11).toNatClampNeg) (hRn : (f 18 11).toNatClampNeg ≤ 30) : am_D 2 25 2 [.ref 1, .int at9] (am_S f g) ((none : Option Value), am_S (am_row (am_row f 1 ((fn_turnTo at9 f g).1)) 35 ((fn_turnTo at9 f g).2.1)) (am_row g 1 ((fn_turnTo at9 f g).2.2))) := by
  refine am_D.of (code := am_k_25) rfl (L0 := [.ref 1, .int at9]) rfl ?_
  generalize hres : ((none : Option Value), am_S (am_row (am_row f 1 ((fn_turnTo at9 f g).1)) 35 ((fn_turnTo at9 f g).2.1)) (am_row g 1 ((fn_turnTo at9 f g).2.2))) = res
  obtain ⟨K, hKd⟩ : ∃ K : ((Nat → Int32) × (Nat → Int32) × (Nat → Int64)) → Prop, K = fun z => ((none : Option Value), am_S (am_row (am_row f 1 z.1) 35 z.2.1) (am_row g 1 z.2.2)) = res := ⟨_, rfl⟩
  have hK : K (fn_turnTo at9 f g) := by rw [hKd]; exact hres
  clear hres
  unfold fn_turnTo at hK
  refine am_F.ops (pc' := 2) (L' := [.ref 1, .int at9]) (S' := [.int at9, .ref 1]) (μ' := (am_S f g)) 2 rfl ?_
  refine am_F.pfi (F' := (am_row f 1 (upd (f 1) 7 at9))) rfl rfl (by first | rfl | (funext a; by_cases z0 : a = 1; (subst z0; rfl); simp only [am_ui, am_ul, am_row_ne z0])) ?_
  refine am_F.ops (pc' := 14) (L' := [.ref 1, .int at9]) (S' := [.int at9, .ref 18, .ref 1]) (μ' := (am_S (am_row f 1 (upd (f 1) 7 at9)) g)) 5 rfl ?_
  refine am_F.call rfl rfl (x_timely at9 (am_row f 1 (upd (f 1) 7 at9)) g hRc hRn) (by decide) ?_
  show am_F _ _ 17 [.ref 1, .int at9] [.int (fn_timely at9 (am_row f 1 (upd (f 1) 7 at9))), .ref 1] (am_S (am_row f 1 (upd (f 1) 7 at9)) g) _
  refine am_F.pfi (F' := (am_row f 1 (upd (upd (f 1) 7 at9) 6 (fn_timely at9 (am_row f 1 (upd (f 1) 7 at9)))))) rfl rfl (by first | rfl | (funext a; by_cases z0 : a = 1; (subst z0; rfl); simp only [am_ui, am_ul, am_row_ne z0])) ?_
  refine am_F.ops (pc' := 22) (L' := [.ref 1, .int at9]) (S' := [.long (0 : Int64), .ref 1]) (μ' := (am_S (am_row f 1 (upd (upd (f 1) 7 at9) 6 (fn_timely at9 (am_row f 1 (upd (f 1) 7 at9))))) g)) 2 rfl ?_
  refine am_F.call rfl rfl (x_settleLoans (0 : Int64) (am_row f 1 (upd (upd (f 1) 7 at9) 6 (fn_timely at9 (am_row f 1 (upd (f 1) 7 at9))))) g hLc hLn hLf hLt hLr) (by decide) ?_
  obtain ⟨y1, hy1⟩ : ∃ z, (fn_settleLoans (0 : Int64) (am_row f 1 (upd (upd (f 1) 7 at9) 6 (fn_timely at9 (am_row f 1 (upd (f 1) 7 at9))))) g) = z := ⟨_, rfl⟩
  (try rw [hy1] at hK)
  (try rw [hy1])
  refine am_F.mem (F' := (am_row (am_row f 1 (upd (upd (f 1) 7 at9) 6 (fn_timely at9 (am_row f 1 (upd (f 1) 7 at9))))) 35 y1.1)) (G' := (am_row g 1 y1.2)) ?_ (by first | rfl | (funext a; by_cases z0 : a = 1; (subst z0; rfl); by_cases z1 : a = 35; (subst z1; rfl); simp only [am_ui, am_ul, am_row_ne z0, am_row_ne z1])) (by first | rfl | (funext a; by_cases z0 : a = 1; (subst z0; rfl); by_cases z1 : a = 35; (subst z1; rfl); simp only [am_ui, am_ul, am_row_ne z0, am_row_ne z1]))
  show am_F _ _ 25 [.ref 1, .int at9] [] (am_S (am_row (am_row f 1 (upd (upd (f 1) 7 at9) 6 (fn_timely at9 (am_row f 1 (upd (f 1) 7 at9))))) 35 y1.1) (am_row g 1 y1.2)) _
  subst hKd
  exact am_F.eq (am_F.ret rfl rfl) hK
/-- AccessLattice$View.settle -/
def st_settle_2 (f : Nat → Nat → Int32) : Nat → (Nat → Int32) → (Nat → Int32) := fun i2 r2_34 => (upd r2_34 i2 (fn_spread (f 30 i2) (am_row f 34 r2_34)))
def lf_settle_2 (f : Nat → Nat → Int32) : (Nat → Int32) := am_for (st_settle_2 f) 16 0 (f 34)
def fn_settle (at9 : Int32) (f : Nat → Nat → Int32) (g : Nat → Nat → Int64) : (Nat → Int32) × (Nat → Int32) × (Nat → Int32) × (Nat → Int64) := ((fn_turnTo at9 (am_row f 34 (lf_settle_2 f)) g).1, (lf_settle_2 f), (fn_turnTo at9 (am_row f 34 (lf_settle_2 f)) g).2.1, (fn_turnTo at9 (am_row f 34 (lf_settle_2 f)) g).2.2)
theorem lp_settle_2 (at9 : Int32) (f : Nat → Nat → Int32) (g : Nat → Nat → Int64) (hLc : f 11 7 = nI (f 11 7).toNatClampNeg) (hLn : (f 11 7).toNatClampNeg ≤ 40) (hLf : ∀ i, i < (f 11 7).toNatClampNeg → am_inb (f 12 i) 16 = true) (hLt : ∀ i, i < (f 11 7).toNatClampNeg → am_inb (f 13 i) 16 = true) (hLr : ∀ i, i < (f 11 7).toNatClampNeg → am_inb (f 14 i) 20 = true) (hRc : f 18 11 = nI (f 18 11).toNatClampNeg) (hRn : (f 18 11).toNatClampNeg ≤ 30) (res : Option Value × am_M) : ∀ (n i2 : Nat) (r2_34 : Nat → Int32) , i2 + n = 16 → (fun (z : (Nat → Int32)) => ∀ (wc : Value), am_F 3 am_k_23 39 [.ref 1, .int at9, wc] [] (am_S (am_row f 34 z) g) res) (am_for (st_settle_2 f) n i2 r2_34) → am_F 3 am_k_23 2 [.ref 1, .int at9, .int (nI i2)] [] (am_S (am_row f 34 r2_34) g) res := by
  intro n
  induction n with
  | zero =>
    intro i2 r2_34 hi hK
    refine am_F.pos 3 rfl (by show 16 ≤ nI i2; rw [show (16 : Int32) = nI 16 from rfl]; exact nI_le (by omega) (by omega)) ?_
    exact hK _
  | succ n ih =>
    intro i2 r2_34 hi hK
    refine am_F.neg 3 rfl (by show ¬ 16 ≤ nI i2; rw [show (16 : Int32) = nI 16 from rfl]; exact nI_ge (by omega) (by omega)) ?_
    have hb2 : i2 < 16 := by omega
    show am_F _ _ 8 [.ref 1, .int at9, .int (nI i2)] [] (am_S (am_row f 34 r2_34) g) _
    obtain ⟨K, hKd⟩ : ∃ K : ((Nat → Int32)) → Prop, K = fun s => (fun (z : (Nat → Int32)) => ∀ (wc : Value), am_F 3 am_k_23 39 [.ref 1, .int at9, wc] [] (am_S (am_row f 34 z) g) res) (am_for (st_settle_2 f) n (i2 + 1) s) := ⟨_, rfl⟩
    have hK : K ((st_settle_2 f) i2 r2_34) := by rw [hKd]; exact hK
    unfold st_settle_2 at hK
    refine am_F.ops (pc' := 28) (L' := [.ref 1, .int at9, .int (nI i2)]) (S' := [.int (nI i2), .ref 30, .ref 3, .int (nI i2), .ref 34]) (μ' := (am_S (am_row f 34 r2_34) g)) 10 rfl ?_
    refine am_F.ialE (m := i2) (N := 16) rfl rfl rfl rfl (by omega) (by decide) ?_
    show am_F _ _ 29 [.ref 1, .int at9, .int (nI i2)] [.int (f 30 i2), .ref 3, .int (nI i2), .ref 34] (am_S (am_row f 34 r2_34) g) _
    refine am_F.call rfl rfl (x_spread (f 30 i2) (am_row f 34 r2_34) g ) (by decide) ?_
    show am_F _ _ 32 [.ref 1, .int at9, .int (nI i2)] [.int (fn_spread (f 30 i2) (am_row f 34 r2_34)), .int (nI i2), .ref 34] (am_S (am_row f 34 r2_34) g) _
    refine am_F.iasE (F' := (am_row f 34 (upd r2_34 i2 (fn_spread (f 30 i2) (am_row f 34 r2_34))))) (m := i2) (N := 16) rfl rfl rfl rfl (by omega) (by decide) (by first | rfl | (funext a; by_cases z0 : a = 34; (subst z0; rfl); simp only [am_ui, am_ul, am_row_ne z0])) ?_
    refine am_F.ops (pc' := 2) (L' := [.ref 1, .int at9, .int ((nI i2) + 1)]) (S' := []) (μ' := (am_S (am_row f 34 (upd r2_34 i2 (fn_spread (f 30 i2) (am_row f 34 r2_34)))) g)) 2 rfl ?_
    rw [nI_1 i2]
    subst hKd
    exact ih (i2 + 1) (upd r2_34 i2 (fn_spread (f 30 i2) (am_row f 34 r2_34))) (by omega)  hK
theorem x_settle (at9 : Int32) (f : Nat → Nat → Int32) (g : Nat → Nat → Int64) (hLc : f 11 7 = nI (f 11 7).toNatClampNeg) (hLn : (f 11 7).toNatClampNeg ≤ 40) (hLf : ∀ i, i < (f 11 7).toNatClampNeg → am_inb (f 12 i) 16 = true) (hLt : ∀ i, i < (f 11 7).toNatClampNeg → am_inb (f 13 i) 16 = true) (hLr : ∀ i, i < (f 11 7).toNatClampNeg → am_inb (f 14 i) 20 = true) (hRc : f 18 11 = nI (f 18 11).toNatClampNeg) (hRn : (f 18 11).toNatClampNeg ≤ 30) : am_D 3 23 3 [.ref 1, .int at9] (am_S f g) ((none : Option Value), am_S (am_row (am_row (am_row f 1 ((fn_settle at9 f g).1)) 34 ((fn_settle at9 f g).2.1)) 35 ((fn_settle at9 f g).2.2.1)) (am_row g 1 ((fn_settle at9 f g).2.2.2))) := by
  refine am_D.of (code := am_k_23) rfl (L0 := [.ref 1, .int at9, am_un]) rfl ?_
  generalize hres : ((none : Option Value), am_S (am_row (am_row (am_row f 1 ((fn_settle at9 f g).1)) 34 ((fn_settle at9 f g).2.1)) 35 ((fn_settle at9 f g).2.2.1)) (am_row g 1 ((fn_settle at9 f g).2.2.2))) = res
  obtain ⟨K, hKd⟩ : ∃ K : ((Nat → Int32) × (Nat → Int32) × (Nat → Int32) × (Nat → Int64)) → Prop, K = fun z => ((none : Option Value), am_S (am_row (am_row (am_row f 1 z.1) 34 z.2.1) 35 z.2.2.1) (am_row g 1 z.2.2.2)) = res := ⟨_, rfl⟩
  have hK : K (fn_settle at9 f g) := by rw [hKd]; exact hres
  clear hres
  unfold fn_settle at hK
  refine am_F.ops (pc' := 2) (L' := [.ref 1, .int at9, .int 0]) (S' := []) (μ' := (am_S f g)) 2 rfl ?_
  refine am_F.mem (F' := (am_row f 34 (f 34))) (G' := g) ?_ (by first | rfl | (funext a; by_cases z0 : a = 34; (subst z0; rfl); simp only [am_ui, am_ul, am_row_ne z0])) (by first | rfl | (funext a; by_cases z0 : a = 34; (subst z0; rfl); simp only [am_ui, am_ul, am_row_ne z0]))
  show am_F _ _ 2 [.ref 1, .int at9, .int (nI 0)] [] (am_S (am_row f 34 (f 34)) g) _
  refine lp_settle_2 at9 f g hLc hLn hLf hLt hLr hRc hRn _ 16 0 (f 34)  (by omega)  ?_
  rw [show am_for (st_settle_2 f) 16 0 (f 34) = (lf_settle_2 f) from rfl]
  generalize (lf_settle_2 f) = z2_1 at hK ⊢
  intro wc
  show am_F _ _ 39 [.ref 1, .int at9, wc] [] (am_S (am_row f 34 z2_1) g) _
  refine am_F.ops (pc' := 41) (L' := [.ref 1, .int at9, wc]) (S' := [.int at9, .ref 1]) (μ' := (am_S (am_row f 34 z2_1) g)) 2 rfl ?_
  refine am_F.call rfl rfl (x_turnTo at9 (am_row f 34 z2_1) g hLc hLn hLf hLt hLr hRc hRn) (by decide) ?_
  obtain ⟨y2, hy2⟩ : ∃ z, (fn_turnTo at9 (am_row f 34 z2_1) g) = z := ⟨_, rfl⟩
  (try rw [hy2] at hK)
  (try rw [hy2])
  refine am_F.mem (F' := (am_row (am_row (am_row f 1 y2.1) 34 z2_1) 35 y2.2.1)) (G' := (am_row g 1 y2.2.2)) ?_ (by first | rfl | (funext a; by_cases z0 : a = 1; (subst z0; rfl); by_cases z1 : a = 34; (subst z1; rfl); by_cases z2 : a = 35; (subst z2; rfl); simp only [am_ui, am_ul, am_row_ne z0, am_row_ne z1, am_row_ne z2])) (by first | rfl | (funext a; by_cases z0 : a = 1; (subst z0; rfl); by_cases z1 : a = 34; (subst z1; rfl); by_cases z2 : a = 35; (subst z2; rfl); simp only [am_ui, am_ul, am_row_ne z0, am_row_ne z1, am_row_ne z2]))
  show am_F _ _ 44 [.ref 1, .int at9, wc] [] (am_S (am_row (am_row (am_row f 1 y2.1) 34 z2_1) 35 y2.2.1) (am_row g 1 y2.2.2)) _
  subst hKd
  exact am_F.eq (am_F.ret rfl rfl) hK
/-- AccessLattice$View.isStanding -/
def fn_isStanding (loan : Int32) (g : Nat → Nat → Int64) : Bool := (fn_hasLong (g 1 5) loan)
theorem x_isStanding (loan : Int32) (f : Nat → Nat → Int32) (g : Nat → Nat → Int64)  : am_D 1 39 2 [.ref 1, .int loan] (am_S f g) (some (Value.int (am_b (fn_isStanding loan g))), am_S f g) := by
  refine am_D.of (code := am_k_39) rfl (L0 := [.ref 1, .int loan]) rfl ?_
  generalize hres : (some (Value.int (am_b (fn_isStanding loan g))), am_S f g) = res
  obtain ⟨K, hKd⟩ : ∃ K : Bool → Prop, K = fun z => (some (Value.int (am_b z)), am_S f g) = res := ⟨_, rfl⟩
  have hK : K (fn_isStanding loan g) := by rw [hKd]; exact hres
  clear hres
  unfold fn_isStanding at hK
  refine am_F.ops (pc' := 5) (L' := [.ref 1, .int loan]) (S' := [.int loan, .long (g 1 5)]) (μ' := (am_S f g)) 3 rfl ?_
  refine am_F.call rfl rfl (x_hasLong (g 1 5) loan f g ) (by decide) ?_
  show am_F _ _ 8 [.ref 1, .int loan] [.int (am_b (fn_hasLong (g 1 5) loan))] (am_S f g) _
  subst hKd
  exact am_F.eq (am_F.ret rfl (am_retB _ _)) hK
/-- AccessLattice$View.rulesOn -/
def st_rulesOn_14 (act : Int32) (thing : Nat) (f : Nat → Nat → Int32) : Nat → Int32 → Int32 := fun i14 a14_4 => (bif (fn_has (f 1 6) (nI i14)) then (bif (fn_has (f 20 i14) act) then (if (fn_stepsUp thing (f 21 i14) f) = 0 then (a14_4 ||| (1 <<< ((nI i14) &&& 31))) else (if (fn_stepsUp thing (f 21 i14) f) ≤ 0 then a14_4 else (bif (fn_has (f 18 10) (nI i14)) then (a14_4 ||| (1 <<< ((nI i14) &&& 31))) else a14_4))) else a14_4) else a14_4)
def lf_rulesOn_14 (act : Int32) (thing : Nat) (f : Nat → Nat → Int32) : Int32 := am_for (st_rulesOn_14 act thing f) ((f 18 11).toNatClampNeg) 0 0
def fn_rulesOn (act : Int32) (thing : Nat) (f : Nat → Nat → Int32) : Int32 := (lf_rulesOn_14 act thing f)
theorem lp_rulesOn_14 (act : Int32) (thing : Nat) (f : Nat → Nat → Int32) (g : Nat → Nat → Int64) (hRc : f 18 11 = nI (f 18 11).toNatClampNeg) (hRn : (f 18 11).toNatClampNeg ≤ 30) (hPa : ∀ t, t < 16 → (f 29 t).toInt < 16) (hthing : thing < 16) (res : Option Value × am_M) : ∀ (n i14 : Nat) (a14_4 : Int32) (w14_6 : Value), i14 + n = (f 18 11).toNatClampNeg → (fun (z : Int32) => ∀ (wc : Value) (w14_6 : Value), am_F 1 am_k_77 103 [.ref 1, .int act, .int (nI thing), .ref 18, .int z, wc, w14_6] [] (am_S f g) res) (am_for (st_rulesOn_14 act thing f) n i14 a14_4) → am_F 1 am_k_77 14 [.ref 1, .int act, .int (nI thing), .ref 18, .int a14_4, .int (nI i14), w14_6] [] (am_S f g) res := by
  intro n
  induction n with
  | zero =>
    intro i14 a14_4 w14_6 hi hK
    refine am_F.pos 4 rfl (by show (f 18 11) ≤ nI i14; rw [show (f 18 11 : Int32) = nI ((f 18 11).toNatClampNeg) from hRc]; exact nI_le (by omega) (by omega)) ?_
    exact hK _ _
  | succ n ih =>
    intro i14 a14_4 w14_6 hi hK
    refine am_F.neg 4 rfl (by show ¬ (f 18 11) ≤ nI i14; rw [show (f 18 11 : Int32) = nI ((f 18 11).toNatClampNeg) from hRc]; exact nI_ge (by omega) (by omega)) ?_
    have hb14 : i14 < (f 18 11).toNatClampNeg := by omega
    show am_F _ _ 23 [.ref 1, .int act, .int (nI thing), .ref 18, .int a14_4, .int (nI i14), w14_6] [] (am_S f g) _
    obtain ⟨K, hKd⟩ : ∃ K : (Int32) → Prop, K = fun s => (fun (z : Int32) => ∀ (wc : Value) (w14_6 : Value), am_F 1 am_k_77 103 [.ref 1, .int act, .int (nI thing), .ref 18, .int z, wc, w14_6] [] (am_S f g) res) (am_for (st_rulesOn_14 act thing f) n (i14 + 1) s) := ⟨_, rfl⟩
    have hK : K ((st_rulesOn_14 act thing f) i14 a14_4) := by rw [hKd]; exact hK
    unfold st_rulesOn_14 at hK
    refine am_F.ops (pc' := 29) (L' := [.ref 1, .int act, .int (nI thing), .ref 18, .int a14_4, .int (nI i14), w14_6]) (S' := [.int (nI i14), .int (f 1 6)]) (μ' := (am_S f g)) 3 rfl ?_
    refine am_F.call rfl rfl (x_has (f 1 6) (nI i14) f g ) (by decide) ?_
    show am_F _ _ 32 [.ref 1, .int act, .int (nI thing), .ref 18, .int a14_4, .int (nI i14), w14_6] [.int (am_b (fn_has (f 1 6) (nI i14)))] (am_S f g) _
    refine am_F.bifK 1 rfl K hK (fun c3 hK => ?_) (fun c3 hK => ?_)
    · show am_F _ _ 35 [.ref 1, .int act, .int (nI thing), .ref 18, .int a14_4, .int (nI i14), w14_6] [] (am_S f g) _
      refine am_F.ops (pc' := 41) (L' := [.ref 1, .int act, .int (nI thing), .ref 18, .int a14_4, .int (nI i14), w14_6]) (S' := [.int (nI i14), .ref 20]) (μ' := (am_S f g)) 3 rfl ?_
      refine am_F.ialE (m := i14) (N := 30) rfl rfl rfl rfl (by omega) (by decide) ?_
      show am_F _ _ 42 [.ref 1, .int act, .int (nI thing), .ref 18, .int a14_4, .int (nI i14), w14_6] [.int (f 20 i14)] (am_S f g) _
      refine am_F.ops (pc' := 43) (L' := [.ref 1, .int act, .int (nI thing), .ref 18, .int a14_4, .int (nI i14), w14_6]) (S' := [.int act, .int (f 20 i14)]) (μ' := (am_S f g)) 1 rfl ?_
      refine am_F.call rfl rfl (x_has (f 20 i14) act f g ) (by decide) ?_
      show am_F _ _ 46 [.ref 1, .int act, .int (nI thing), .ref 18, .int a14_4, .int (nI i14), w14_6] [.int (am_b (fn_has (f 20 i14) act))] (am_S f g) _
      refine am_F.bifK 1 rfl K hK (fun c5 hK => ?_) (fun c5 hK => ?_)
      · show am_F _ _ 49 [.ref 1, .int act, .int (nI thing), .ref 18, .int a14_4, .int (nI i14), w14_6] [] (am_S f g) _
        refine am_F.ops (pc' := 60) (L' := [.ref 1, .int act, .int (nI thing), .ref 18, .int a14_4, .int (nI i14), w14_6]) (S' := [.int (nI i14), .ref 21, .int (nI thing), .ref 2]) (μ' := (am_S f g)) 6 rfl ?_
        refine am_F.ialE (m := i14) (N := 30) rfl rfl rfl rfl (by omega) (by decide) ?_
        show am_F _ _ 61 [.ref 1, .int act, .int (nI thing), .ref 18, .int a14_4, .int (nI i14), w14_6] [.int (f 21 i14), .int (nI thing), .ref 2] (am_S f g) _
        refine am_F.call rfl rfl (x_stepsUp thing (f 21 i14) f g hPa (by omega)) (by decide) ?_
        show am_F _ _ 64 [.ref 1, .int act, .int (nI thing), .ref 18, .int a14_4, .int (nI i14), w14_6] [.int (fn_stepsUp thing (f 21 i14) f)] (am_S f g) _
        refine am_F.ops (pc' := 68) (L' := [.ref 1, .int act, .int (nI thing), .ref 18, .int a14_4, .int (nI i14), .int (fn_stepsUp thing (f 21 i14) f)]) (S' := [.int (fn_stepsUp thing (f 21 i14) f)]) (μ' := (am_S f g)) 2 rfl ?_
        refine am_F.iteK 1 rfl K hK (fun c7 hK => ?_) (fun c7 hK => ?_)
        · show am_F _ _ 88 [.ref 1, .int act, .int (nI thing), .ref 18, .int a14_4, .int (nI i14), .int (fn_stepsUp thing (f 21 i14) f)] [] (am_S f g) _
          refine am_F.ops (pc' := 14) (L' := [.ref 1, .int act, .int (nI thing), .ref 18, .int (a14_4 ||| (1 <<< ((nI i14) &&& 31))), .int ((nI i14) + 1), .int (fn_stepsUp thing (f 21 i14) f)]) (S' := []) (μ' := (am_S f g)) 8 rfl ?_
          rw [nI_1 i14]
          subst hKd
          exact ih (i14 + 1) (a14_4 ||| (1 <<< ((nI i14) &&& 31))) (.int (fn_stepsUp thing (f 21 i14) f)) (by omega)  hK
        · show am_F _ _ 71 [.ref 1, .int act, .int (nI thing), .ref 18, .int a14_4, .int (nI i14), .int (fn_stepsUp thing (f 21 i14) f)] [] (am_S f g) _
          refine am_F.ops (pc' := 73) (L' := [.ref 1, .int act, .int (nI thing), .ref 18, .int a14_4, .int (nI i14), .int (fn_stepsUp thing (f 21 i14) f)]) (S' := [.int (fn_stepsUp thing (f 21 i14) f)]) (μ' := (am_S f g)) 1 rfl ?_
          refine am_F.iteK 1 rfl K hK (fun c9 hK => ?_) (fun c9 hK => ?_)
          · show am_F _ _ 97 [.ref 1, .int act, .int (nI thing), .ref 18, .int a14_4, .int (nI i14), .int (fn_stepsUp thing (f 21 i14) f)] [] (am_S f g) _
            refine am_F.ops (pc' := 14) (L' := [.ref 1, .int act, .int (nI thing), .ref 18, .int a14_4, .int ((nI i14) + 1), .int (fn_stepsUp thing (f 21 i14) f)]) (S' := []) (μ' := (am_S f g)) 2 rfl ?_
            rw [nI_1 i14]
            subst hKd
            exact ih (i14 + 1) a14_4 (.int (fn_stepsUp thing (f 21 i14) f)) (by omega)  hK
          · show am_F _ _ 76 [.ref 1, .int act, .int (nI thing), .ref 18, .int a14_4, .int (nI i14), .int (fn_stepsUp thing (f 21 i14) f)] [] (am_S f g) _
            refine am_F.ops (pc' := 82) (L' := [.ref 1, .int act, .int (nI thing), .ref 18, .int a14_4, .int (nI i14), .int (fn_stepsUp thing (f 21 i14) f)]) (S' := [.int (nI i14), .int (f 18 10)]) (μ' := (am_S f g)) 3 rfl ?_
            refine am_F.call rfl rfl (x_has (f 18 10) (nI i14) f g ) (by decide) ?_
            show am_F _ _ 85 [.ref 1, .int act, .int (nI thing), .ref 18, .int a14_4, .int (nI i14), .int (fn_stepsUp thing (f 21 i14) f)] [.int (am_b (fn_has (f 18 10) (nI i14)))] (am_S f g) _
            refine am_F.bifK 1 rfl K hK (fun c11 hK => ?_) (fun c11 hK => ?_)
            · show am_F _ _ 88 [.ref 1, .int act, .int (nI thing), .ref 18, .int a14_4, .int (nI i14), .int (fn_stepsUp thing (f 21 i14) f)] [] (am_S f g) _
              refine am_F.ops (pc' := 14) (L' := [.ref 1, .int act, .int (nI thing), .ref 18, .int (a14_4 ||| (1 <<< ((nI i14) &&& 31))), .int ((nI i14) + 1), .int (fn_stepsUp thing (f 21 i14) f)]) (S' := []) (μ' := (am_S f g)) 8 rfl ?_
              rw [nI_1 i14]
              subst hKd
              exact ih (i14 + 1) (a14_4 ||| (1 <<< ((nI i14) &&& 31))) (.int (fn_stepsUp thing (f 21 i14) f)) (by omega)  hK
            · show am_F _ _ 97 [.ref 1, .int act, .int (nI thing), .ref 18, .int a14_4, .int (nI i14), .int (fn_stepsUp thing (f 21 i14) f)] [] (am_S f g) _
              refine am_F.ops (pc' := 14) (L' := [.ref 1, .int act, .int (nI thing), .ref 18, .int a14_4, .int ((nI i14) + 1), .int (fn_stepsUp thing (f 21 i14) f)]) (S' := []) (μ' := (am_S f g)) 2 rfl ?_
              rw [nI_1 i14]
              subst hKd
              exact ih (i14 + 1) a14_4 (.int (fn_stepsUp thing (f 21 i14) f)) (by omega)  hK
      · show am_F _ _ 97 [.ref 1, .int act, .int (nI thing), .ref 18, .int a14_4, .int (nI i14), w14_6] [] (am_S f g) _
        refine am_F.ops (pc' := 14) (L' := [.ref 1, .int act, .int (nI thing), .ref 18, .int a14_4, .int ((nI i14) + 1), w14_6]) (S' := []) (μ' := (am_S f g)) 2 rfl ?_
        rw [nI_1 i14]
        subst hKd
        exact ih (i14 + 1) a14_4 w14_6 (by omega)  hK
    · show am_F _ _ 97 [.ref 1, .int act, .int (nI thing), .ref 18, .int a14_4, .int (nI i14), w14_6] [] (am_S f g) _
      refine am_F.ops (pc' := 14) (L' := [.ref 1, .int act, .int (nI thing), .ref 18, .int a14_4, .int ((nI i14) + 1), w14_6]) (S' := []) (μ' := (am_S f g)) 2 rfl ?_
      rw [nI_1 i14]
      subst hKd
      exact ih (i14 + 1) a14_4 w14_6 (by omega)  hK
theorem x_rulesOn (act : Int32) (thing : Nat) (f : Nat → Nat → Int32) (g : Nat → Nat → Int64) (hRc : f 18 11 = nI (f 18 11).toNatClampNeg) (hRn : (f 18 11).toNatClampNeg ≤ 30) (hPa : ∀ t, t < 16 → (f 29 t).toInt < 16) (hthing : thing < 16) : am_D 1 77 7 [.ref 1, .int act, .int (nI thing)] (am_S f g) (some (Value.int (fn_rulesOn act thing f)), am_S f g) := by
  refine am_D.of (code := am_k_77) rfl (L0 := [.ref 1, .int act, .int (nI thing), am_un, am_un, am_un, am_un]) rfl ?_
  generalize hres : (some (Value.int (fn_rulesOn act thing f)), am_S f g) = res
  obtain ⟨K, hKd⟩ : ∃ K : Int32 → Prop, K = fun z => (some (Value.int z), am_S f g) = res := ⟨_, rfl⟩
  have hK : K (fn_rulesOn act thing f) := by rw [hKd]; exact hres
  clear hres
  unfold fn_rulesOn at hK
  refine am_F.ops (pc' := 14) (L' := [.ref 1, .int act, .int (nI thing), .ref 18, .int 0, .int 0, am_un]) (S' := []) (μ' := (am_S f g)) 8 rfl ?_
  show am_F _ _ 14 [.ref 1, .int act, .int (nI thing), .ref 18, .int 0, .int (nI 0), am_un] [] (am_S f g) _
  refine lp_rulesOn_14 act thing f g hRc hRn hPa hthing _ ((f 18 11).toNatClampNeg) 0 0 am_un (by omega)  ?_
  rw [show am_for (st_rulesOn_14 act thing f) ((f 18 11).toNatClampNeg) 0 0 = (lf_rulesOn_14 act thing f) from rfl]
  generalize (lf_rulesOn_14 act thing f) = z14_12 at hK ⊢
  intro wc w14_6
  show am_F _ _ 103 [.ref 1, .int act, .int (nI thing), .ref 18, .int z14_12, wc, w14_6] [] (am_S f g) _
  refine am_F.ops (pc' := 105) (L' := [.ref 1, .int act, .int (nI thing), .ref 18, .int z14_12, wc, w14_6]) (S' := [.int z14_12]) (μ' := (am_S f g)) 1 rfl ?_
  subst hKd
  exact am_F.eq (am_F.ret rfl rfl) hK
/-- AccessLattice$Loans.copyFrom -/
def fn_copyLoans (f : Nat → Nat → Int32) (g : Nat → Nat → Int64) : (Nat → Int32) × (Nat → Int32) × (Nat → Int32) × (Nat → Int32) × (Nat → Int32) × (Nat → Int32) × (Nat → Int32) × (Nat → Int64) := (upd (f 11) 7 (f 48 7), va_cpy (f 49) (f 12) 0 0 40, va_cpy (f 50) (f 13) 0 0 40, va_cpy (f 51) (f 14) 0 0 40, va_cpy (f 52) (f 15) 0 0 40, va_cpy (f 53) (f 16) 0 0 40, va_cpy (f 54) (f 17) 0 0 40, vp_updL (g 11) 6 (g 48 6))
theorem x_copyLoans (f : Nat → Nat → Int32) (g : Nat → Nat → Int64)  : am_D 0 139 2 [.ref 11, .ref 48] (am_S f g) ((none : Option Value), am_S (am_row (am_row (am_row (am_row (am_row (am_row (am_row f 11 ((fn_copyLoans f g).1)) 12 ((fn_copyLoans f g).2.1)) 13 ((fn_copyLoans f g).2.2.1)) 14 ((fn_copyLoans f g).2.2.2.1)) 15 ((fn_copyLoans f g).2.2.2.2.1)) 16 ((fn_copyLoans f g).2.2.2.2.2.1)) 17 ((fn_copyLoans f g).2.2.2.2.2.2.1)) (am_row g 11 ((fn_copyLoans f g).2.2.2.2.2.2.2))) := by
  refine am_D.of (code := am_k_139) rfl (L0 := [.ref 11, .ref 48]) rfl ?_
  generalize hres : ((none : Option Value), am_S (am_row (am_row (am_row (am_row (am_row (am_row (am_row f 11 ((fn_copyLoans f g).1)) 12 ((fn_copyLoans f g).2.1)) 13 ((fn_copyLoans f g).2.2.1)) 14 ((fn_copyLoans f g).2.2.2.1)) 15 ((fn_copyLoans f g).2.2.2.2.1)) 16 ((fn_copyLoans f g).2.2.2.2.2.1)) 17 ((fn_copyLoans f g).2.2.2.2.2.2.1)) (am_row g 11 ((fn_copyLoans f g).2.2.2.2.2.2.2))) = res
  obtain ⟨K, hKd⟩ : ∃ K : ((Nat → Int32) × (Nat → Int32) × (Nat → Int32) × (Nat → Int32) × (Nat → Int32) × (Nat → Int32) × (Nat → Int32) × (Nat → Int64)) → Prop, K = fun z => ((none : Option Value), am_S (am_row (am_row (am_row (am_row (am_row (am_row (am_row f 11 z.1) 12 z.2.1) 13 z.2.2.1) 14 z.2.2.2.1) 15 z.2.2.2.2.1) 16 z.2.2.2.2.2.1) 17 z.2.2.2.2.2.2.1) (am_row g 11 z.2.2.2.2.2.2.2)) = res := ⟨_, rfl⟩
  have hK : K (fn_copyLoans f g) := by rw [hKd]; exact hres
  clear hres
  unfold fn_copyLoans at hK
  refine am_F.ops (pc' := 12) (L' := [.ref 11, .ref 48]) (S' := [.int 40, .int 0, .ref 12, .int 0, .ref 49]) (μ' := (am_S f g)) 7 rfl ?_
  refine am_F.cpyE (F' := (am_row f 12 (va_cpy (f 49) (f 12) 0 0 40))) (sp := 0) (dp := 0) (z := 40) (n0 := 40) (n1 := 40) rfl rfl rfl rfl rfl rfl rfl rfl (by omega) (by omega) (by decide) (by decide) (by first | rfl | (funext a; by_cases z0 : a = 12; (subst z0; rfl); simp only [am_ui, am_ul, am_row_ne z0])) ?_
  refine am_F.ops (pc' := 27) (L' := [.ref 11, .ref 48]) (S' := [.int 40, .int 0, .ref 13, .int 0, .ref 50]) (μ' := (am_S (am_row f 12 (va_cpy (f 49) (f 12) 0 0 40)) g)) 7 rfl ?_
  refine am_F.cpyE (F' := (am_row (am_row f 12 (va_cpy (f 49) (f 12) 0 0 40)) 13 (va_cpy (f 50) (f 13) 0 0 40))) (sp := 0) (dp := 0) (z := 40) (n0 := 40) (n1 := 40) rfl rfl rfl rfl rfl rfl rfl rfl (by omega) (by omega) (by decide) (by decide) (by first | rfl | (funext a; by_cases z0 : a = 12; (subst z0; rfl); by_cases z1 : a = 13; (subst z1; rfl); simp only [am_ui, am_ul, am_row_ne z0, am_row_ne z1])) ?_
  refine am_F.ops (pc' := 42) (L' := [.ref 11, .ref 48]) (S' := [.int 40, .int 0, .ref 14, .int 0, .ref 51]) (μ' := (am_S (am_row (am_row f 12 (va_cpy (f 49) (f 12) 0 0 40)) 13 (va_cpy (f 50) (f 13) 0 0 40)) g)) 7 rfl ?_
  refine am_F.cpyE (F' := (am_row (am_row (am_row f 12 (va_cpy (f 49) (f 12) 0 0 40)) 13 (va_cpy (f 50) (f 13) 0 0 40)) 14 (va_cpy (f 51) (f 14) 0 0 40))) (sp := 0) (dp := 0) (z := 40) (n0 := 40) (n1 := 40) rfl rfl rfl rfl rfl rfl rfl rfl (by omega) (by omega) (by decide) (by decide) (by first | rfl | (funext a; by_cases z0 : a = 12; (subst z0; rfl); by_cases z1 : a = 13; (subst z1; rfl); by_cases z2 : a = 14; (subst z2; rfl); simp only [am_ui, am_ul, am_row_ne z0, am_row_ne z1, am_row_ne z2])) ?_
  refine am_F.ops (pc' := 57) (L' := [.ref 11, .ref 48]) (S' := [.int 40, .int 0, .ref 15, .int 0, .ref 52]) (μ' := (am_S (am_row (am_row (am_row f 12 (va_cpy (f 49) (f 12) 0 0 40)) 13 (va_cpy (f 50) (f 13) 0 0 40)) 14 (va_cpy (f 51) (f 14) 0 0 40)) g)) 7 rfl ?_
  refine am_F.cpyE (F' := (am_row (am_row (am_row (am_row f 12 (va_cpy (f 49) (f 12) 0 0 40)) 13 (va_cpy (f 50) (f 13) 0 0 40)) 14 (va_cpy (f 51) (f 14) 0 0 40)) 15 (va_cpy (f 52) (f 15) 0 0 40))) (sp := 0) (dp := 0) (z := 40) (n0 := 40) (n1 := 40) rfl rfl rfl rfl rfl rfl rfl rfl (by omega) (by omega) (by decide) (by decide) (by first | rfl | (funext a; by_cases z0 : a = 12; (subst z0; rfl); by_cases z1 : a = 13; (subst z1; rfl); by_cases z2 : a = 14; (subst z2; rfl); by_cases z3 : a = 15; (subst z3; rfl); simp only [am_ui, am_ul, am_row_ne z0, am_row_ne z1, am_row_ne z2, am_row_ne z3])) ?_
  refine am_F.ops (pc' := 72) (L' := [.ref 11, .ref 48]) (S' := [.int 40, .int 0, .ref 16, .int 0, .ref 53]) (μ' := (am_S (am_row (am_row (am_row (am_row f 12 (va_cpy (f 49) (f 12) 0 0 40)) 13 (va_cpy (f 50) (f 13) 0 0 40)) 14 (va_cpy (f 51) (f 14) 0 0 40)) 15 (va_cpy (f 52) (f 15) 0 0 40)) g)) 7 rfl ?_
  refine am_F.cpyE (F' := (am_row (am_row (am_row (am_row (am_row f 12 (va_cpy (f 49) (f 12) 0 0 40)) 13 (va_cpy (f 50) (f 13) 0 0 40)) 14 (va_cpy (f 51) (f 14) 0 0 40)) 15 (va_cpy (f 52) (f 15) 0 0 40)) 16 (va_cpy (f 53) (f 16) 0 0 40))) (sp := 0) (dp := 0) (z := 40) (n0 := 40) (n1 := 40) rfl rfl rfl rfl rfl rfl rfl rfl (by omega) (by omega) (by decide) (by decide) (by first | rfl | (funext a; by_cases z0 : a = 12; (subst z0; rfl); by_cases z1 : a = 13; (subst z1; rfl); by_cases z2 : a = 14; (subst z2; rfl); by_cases z3 : a = 15; (subst z3; rfl); by_cases z4 : a = 16; (subst z4; rfl); simp only [am_ui, am_ul, am_row_ne z0, am_row_ne z1, am_row_ne z2, am_row_ne z3, am_row_ne z4])) ?_
  refine am_F.ops (pc' := 87) (L' := [.ref 11, .ref 48]) (S' := [.int 40, .int 0, .ref 17, .int 0, .ref 54]) (μ' := (am_S (am_row (am_row (am_row (am_row (am_row f 12 (va_cpy (f 49) (f 12) 0 0 40)) 13 (va_cpy (f 50) (f 13) 0 0 40)) 14 (va_cpy (f 51) (f 14) 0 0 40)) 15 (va_cpy (f 52) (f 15) 0 0 40)) 16 (va_cpy (f 53) (f 16) 0 0 40)) g)) 7 rfl ?_
  refine am_F.cpyE (F' := (am_row (am_row (am_row (am_row (am_row (am_row f 12 (va_cpy (f 49) (f 12) 0 0 40)) 13 (va_cpy (f 50) (f 13) 0 0 40)) 14 (va_cpy (f 51) (f 14) 0 0 40)) 15 (va_cpy (f 52) (f 15) 0 0 40)) 16 (va_cpy (f 53) (f 16) 0 0 40)) 17 (va_cpy (f 54) (f 17) 0 0 40))) (sp := 0) (dp := 0) (z := 40) (n0 := 40) (n1 := 40) rfl rfl rfl rfl rfl rfl rfl rfl (by omega) (by omega) (by decide) (by decide) (by first | rfl | (funext a; by_cases z0 : a = 12; (subst z0; rfl); by_cases z1 : a = 13; (subst z1; rfl); by_cases z2 : a = 14; (subst z2; rfl); by_cases z3 : a = 15; (subst z3; rfl); by_cases z4 : a = 16; (subst z4; rfl); by_cases z5 : a = 17; (subst z5; rfl); simp only [am_ui, am_ul, am_row_ne z0, am_row_ne z1, am_row_ne z2, am_row_ne z3, am_row_ne z4, am_row_ne z5])) ?_
  refine am_F.ops (pc' := 95) (L' := [.ref 11, .ref 48]) (S' := [.long (g 48 6), .ref 11]) (μ' := (am_S (am_row (am_row (am_row (am_row (am_row (am_row f 12 (va_cpy (f 49) (f 12) 0 0 40)) 13 (va_cpy (f 50) (f 13) 0 0 40)) 14 (va_cpy (f 51) (f 14) 0 0 40)) 15 (va_cpy (f 52) (f 15) 0 0 40)) 16 (va_cpy (f 53) (f 16) 0 0 40)) 17 (va_cpy (f 54) (f 17) 0 0 40)) g)) 3 rfl ?_
  refine am_F.pfl (G' := (am_row g 11 (vp_updL (g 11) 6 (g 48 6)))) rfl rfl (by first | rfl | (funext a; by_cases z0 : a = 11; (subst z0; rfl); simp only [am_ui, am_ul, am_row_ne z0])) ?_
  refine am_F.ops (pc' := 103) (L' := [.ref 11, .ref 48]) (S' := [.int (f 48 7), .ref 11]) (μ' := (am_S (am_row (am_row (am_row (am_row (am_row (am_row f 12 (va_cpy (f 49) (f 12) 0 0 40)) 13 (va_cpy (f 50) (f 13) 0 0 40)) 14 (va_cpy (f 51) (f 14) 0 0 40)) 15 (va_cpy (f 52) (f 15) 0 0 40)) 16 (va_cpy (f 53) (f 16) 0 0 40)) 17 (va_cpy (f 54) (f 17) 0 0 40)) (am_row g 11 (vp_updL (g 11) 6 (g 48 6))))) 3 rfl ?_
  refine am_F.pfi (F' := (am_row (am_row (am_row (am_row (am_row (am_row (am_row f 11 (upd (f 11) 7 (f 48 7))) 12 (va_cpy (f 49) (f 12) 0 0 40)) 13 (va_cpy (f 50) (f 13) 0 0 40)) 14 (va_cpy (f 51) (f 14) 0 0 40)) 15 (va_cpy (f 52) (f 15) 0 0 40)) 16 (va_cpy (f 53) (f 16) 0 0 40)) 17 (va_cpy (f 54) (f 17) 0 0 40))) rfl rfl (by first | rfl | (funext a; by_cases z0 : a = 11; (subst z0; rfl); by_cases z1 : a = 12; (subst z1; rfl); by_cases z2 : a = 13; (subst z2; rfl); by_cases z3 : a = 14; (subst z3; rfl); by_cases z4 : a = 15; (subst z4; rfl); by_cases z5 : a = 16; (subst z5; rfl); by_cases z6 : a = 17; (subst z6; rfl); simp only [am_ui, am_ul, am_row_ne z0, am_row_ne z1, am_row_ne z2, am_row_ne z3, am_row_ne z4, am_row_ne z5, am_row_ne z6])) ?_
  subst hKd
  exact am_F.eq (am_F.ret rfl rfl) hK
/-- AccessLattice$Rules.copyFrom -/
def fn_copyRules (f : Nat → Nat → Int32) : (Nat → Int32) × (Nat → Int32) × (Nat → Int32) × (Nat → Int32) × (Nat → Int32) × (Nat → Int32) × (Nat → Int32) × (Nat → Int32) × (Nat → Int32) := (upd (upd (upd (upd (f 18) 8 (f 55 8)) 9 (f 55 9)) 10 (f 55 10)) 11 (f 55 11), va_cpy (f 56) (f 19) 0 0 30, va_cpy (f 57) (f 20) 0 0 30, va_cpy (f 58) (f 21) 0 0 30, va_cpy (f 59) (f 22) 0 0 30, va_cpy (f 60) (f 23) 0 0 30, va_cpy (f 61) (f 24) 0 0 30, va_cpy (f 62) (f 25) 0 0 30, va_cpy (f 63) (f 26) 0 0 2400)
theorem x_copyRules (f : Nat → Nat → Int32) (g : Nat → Nat → Int64)  : am_D 0 140 2 [.ref 18, .ref 55] (am_S f g) ((none : Option Value), am_S (am_row (am_row (am_row (am_row (am_row (am_row (am_row (am_row (am_row f 18 ((fn_copyRules f).1)) 19 ((fn_copyRules f).2.1)) 20 ((fn_copyRules f).2.2.1)) 21 ((fn_copyRules f).2.2.2.1)) 22 ((fn_copyRules f).2.2.2.2.1)) 23 ((fn_copyRules f).2.2.2.2.2.1)) 24 ((fn_copyRules f).2.2.2.2.2.2.1)) 25 ((fn_copyRules f).2.2.2.2.2.2.2.1)) 26 ((fn_copyRules f).2.2.2.2.2.2.2.2)) g) := by
  refine am_D.of (code := am_k_140) rfl (L0 := [.ref 18, .ref 55]) rfl ?_
  generalize hres : ((none : Option Value), am_S (am_row (am_row (am_row (am_row (am_row (am_row (am_row (am_row (am_row f 18 ((fn_copyRules f).1)) 19 ((fn_copyRules f).2.1)) 20 ((fn_copyRules f).2.2.1)) 21 ((fn_copyRules f).2.2.2.1)) 22 ((fn_copyRules f).2.2.2.2.1)) 23 ((fn_copyRules f).2.2.2.2.2.1)) 24 ((fn_copyRules f).2.2.2.2.2.2.1)) 25 ((fn_copyRules f).2.2.2.2.2.2.2.1)) 26 ((fn_copyRules f).2.2.2.2.2.2.2.2)) g) = res
  obtain ⟨K, hKd⟩ : ∃ K : ((Nat → Int32) × (Nat → Int32) × (Nat → Int32) × (Nat → Int32) × (Nat → Int32) × (Nat → Int32) × (Nat → Int32) × (Nat → Int32) × (Nat → Int32)) → Prop, K = fun z => ((none : Option Value), am_S (am_row (am_row (am_row (am_row (am_row (am_row (am_row (am_row (am_row f 18 z.1) 19 z.2.1) 20 z.2.2.1) 21 z.2.2.2.1) 22 z.2.2.2.2.1) 23 z.2.2.2.2.2.1) 24 z.2.2.2.2.2.2.1) 25 z.2.2.2.2.2.2.2.1) 26 z.2.2.2.2.2.2.2.2) g) = res := ⟨_, rfl⟩
  have hK : K (fn_copyRules f) := by rw [hKd]; exact hres
  clear hres
  unfold fn_copyRules at hK
  refine am_F.ops (pc' := 12) (L' := [.ref 18, .ref 55]) (S' := [.int 30, .int 0, .ref 19, .int 0, .ref 56]) (μ' := (am_S f g)) 7 rfl ?_
  refine am_F.cpyE (F' := (am_row f 19 (va_cpy (f 56) (f 19) 0 0 30))) (sp := 0) (dp := 0) (z := 30) (n0 := 30) (n1 := 30) rfl rfl rfl rfl rfl rfl rfl rfl (by omega) (by omega) (by decide) (by decide) (by first | rfl | (funext a; by_cases z0 : a = 19; (subst z0; rfl); simp only [am_ui, am_ul, am_row_ne z0])) ?_
  refine am_F.ops (pc' := 27) (L' := [.ref 18, .ref 55]) (S' := [.int 30, .int 0, .ref 20, .int 0, .ref 57]) (μ' := (am_S (am_row f 19 (va_cpy (f 56) (f 19) 0 0 30)) g)) 7 rfl ?_
  refine am_F.cpyE (F' := (am_row (am_row f 19 (va_cpy (f 56) (f 19) 0 0 30)) 20 (va_cpy (f 57) (f 20) 0 0 30))) (sp := 0) (dp := 0) (z := 30) (n0 := 30) (n1 := 30) rfl rfl rfl rfl rfl rfl rfl rfl (by omega) (by omega) (by decide) (by decide) (by first | rfl | (funext a; by_cases z0 : a = 19; (subst z0; rfl); by_cases z1 : a = 20; (subst z1; rfl); simp only [am_ui, am_ul, am_row_ne z0, am_row_ne z1])) ?_
  refine am_F.ops (pc' := 42) (L' := [.ref 18, .ref 55]) (S' := [.int 30, .int 0, .ref 21, .int 0, .ref 58]) (μ' := (am_S (am_row (am_row f 19 (va_cpy (f 56) (f 19) 0 0 30)) 20 (va_cpy (f 57) (f 20) 0 0 30)) g)) 7 rfl ?_
  refine am_F.cpyE (F' := (am_row (am_row (am_row f 19 (va_cpy (f 56) (f 19) 0 0 30)) 20 (va_cpy (f 57) (f 20) 0 0 30)) 21 (va_cpy (f 58) (f 21) 0 0 30))) (sp := 0) (dp := 0) (z := 30) (n0 := 30) (n1 := 30) rfl rfl rfl rfl rfl rfl rfl rfl (by omega) (by omega) (by decide) (by decide) (by first | rfl | (funext a; by_cases z0 : a = 19; (subst z0; rfl); by_cases z1 : a = 20; (subst z1; rfl); by_cases z2 : a = 21; (subst z2; rfl); simp only [am_ui, am_ul, am_row_ne z0, am_row_ne z1, am_row_ne z2])) ?_
  refine am_F.ops (pc' := 57) (L' := [.ref 18, .ref 55]) (S' := [.int 30, .int 0, .ref 22, .int 0, .ref 59]) (μ' := (am_S (am_row (am_row (am_row f 19 (va_cpy (f 56) (f 19) 0 0 30)) 20 (va_cpy (f 57) (f 20) 0 0 30)) 21 (va_cpy (f 58) (f 21) 0 0 30)) g)) 7 rfl ?_
  refine am_F.cpyE (F' := (am_row (am_row (am_row (am_row f 19 (va_cpy (f 56) (f 19) 0 0 30)) 20 (va_cpy (f 57) (f 20) 0 0 30)) 21 (va_cpy (f 58) (f 21) 0 0 30)) 22 (va_cpy (f 59) (f 22) 0 0 30))) (sp := 0) (dp := 0) (z := 30) (n0 := 30) (n1 := 30) rfl rfl rfl rfl rfl rfl rfl rfl (by omega) (by omega) (by decide) (by decide) (by first | rfl | (funext a; by_cases z0 : a = 19; (subst z0; rfl); by_cases z1 : a = 20; (subst z1; rfl); by_cases z2 : a = 21; (subst z2; rfl); by_cases z3 : a = 22; (subst z3; rfl); simp only [am_ui, am_ul, am_row_ne z0, am_row_ne z1, am_row_ne z2, am_row_ne z3])) ?_
  refine am_F.ops (pc' := 72) (L' := [.ref 18, .ref 55]) (S' := [.int 30, .int 0, .ref 23, .int 0, .ref 60]) (μ' := (am_S (am_row (am_row (am_row (am_row f 19 (va_cpy (f 56) (f 19) 0 0 30)) 20 (va_cpy (f 57) (f 20) 0 0 30)) 21 (va_cpy (f 58) (f 21) 0 0 30)) 22 (va_cpy (f 59) (f 22) 0 0 30)) g)) 7 rfl ?_
  refine am_F.cpyE (F' := (am_row (am_row (am_row (am_row (am_row f 19 (va_cpy (f 56) (f 19) 0 0 30)) 20 (va_cpy (f 57) (f 20) 0 0 30)) 21 (va_cpy (f 58) (f 21) 0 0 30)) 22 (va_cpy (f 59) (f 22) 0 0 30)) 23 (va_cpy (f 60) (f 23) 0 0 30))) (sp := 0) (dp := 0) (z := 30) (n0 := 30) (n1 := 30) rfl rfl rfl rfl rfl rfl rfl rfl (by omega) (by omega) (by decide) (by decide) (by first | rfl | (funext a; by_cases z0 : a = 19; (subst z0; rfl); by_cases z1 : a = 20; (subst z1; rfl); by_cases z2 : a = 21; (subst z2; rfl); by_cases z3 : a = 22; (subst z3; rfl); by_cases z4 : a = 23; (subst z4; rfl); simp only [am_ui, am_ul, am_row_ne z0, am_row_ne z1, am_row_ne z2, am_row_ne z3, am_row_ne z4])) ?_
  refine am_F.ops (pc' := 87) (L' := [.ref 18, .ref 55]) (S' := [.int 30, .int 0, .ref 24, .int 0, .ref 61]) (μ' := (am_S (am_row (am_row (am_row (am_row (am_row f 19 (va_cpy (f 56) (f 19) 0 0 30)) 20 (va_cpy (f 57) (f 20) 0 0 30)) 21 (va_cpy (f 58) (f 21) 0 0 30)) 22 (va_cpy (f 59) (f 22) 0 0 30)) 23 (va_cpy (f 60) (f 23) 0 0 30)) g)) 7 rfl ?_
  refine am_F.cpyE (F' := (am_row (am_row (am_row (am_row (am_row (am_row f 19 (va_cpy (f 56) (f 19) 0 0 30)) 20 (va_cpy (f 57) (f 20) 0 0 30)) 21 (va_cpy (f 58) (f 21) 0 0 30)) 22 (va_cpy (f 59) (f 22) 0 0 30)) 23 (va_cpy (f 60) (f 23) 0 0 30)) 24 (va_cpy (f 61) (f 24) 0 0 30))) (sp := 0) (dp := 0) (z := 30) (n0 := 30) (n1 := 30) rfl rfl rfl rfl rfl rfl rfl rfl (by omega) (by omega) (by decide) (by decide) (by first | rfl | (funext a; by_cases z0 : a = 19; (subst z0; rfl); by_cases z1 : a = 20; (subst z1; rfl); by_cases z2 : a = 21; (subst z2; rfl); by_cases z3 : a = 22; (subst z3; rfl); by_cases z4 : a = 23; (subst z4; rfl); by_cases z5 : a = 24; (subst z5; rfl); simp only [am_ui, am_ul, am_row_ne z0, am_row_ne z1, am_row_ne z2, am_row_ne z3, am_row_ne z4, am_row_ne z5])) ?_
  refine am_F.ops (pc' := 102) (L' := [.ref 18, .ref 55]) (S' := [.int 30, .int 0, .ref 25, .int 0, .ref 62]) (μ' := (am_S (am_row (am_row (am_row (am_row (am_row (am_row f 19 (va_cpy (f 56) (f 19) 0 0 30)) 20 (va_cpy (f 57) (f 20) 0 0 30)) 21 (va_cpy (f 58) (f 21) 0 0 30)) 22 (va_cpy (f 59) (f 22) 0 0 30)) 23 (va_cpy (f 60) (f 23) 0 0 30)) 24 (va_cpy (f 61) (f 24) 0 0 30)) g)) 7 rfl ?_
  refine am_F.cpyE (F' := (am_row (am_row (am_row (am_row (am_row (am_row (am_row f 19 (va_cpy (f 56) (f 19) 0 0 30)) 20 (va_cpy (f 57) (f 20) 0 0 30)) 21 (va_cpy (f 58) (f 21) 0 0 30)) 22 (va_cpy (f 59) (f 22) 0 0 30)) 23 (va_cpy (f 60) (f 23) 0 0 30)) 24 (va_cpy (f 61) (f 24) 0 0 30)) 25 (va_cpy (f 62) (f 25) 0 0 30))) (sp := 0) (dp := 0) (z := 30) (n0 := 30) (n1 := 30) rfl rfl rfl rfl rfl rfl rfl rfl (by omega) (by omega) (by decide) (by decide) (by first | rfl | (funext a; by_cases z0 : a = 19; (subst z0; rfl); by_cases z1 : a = 20; (subst z1; rfl); by_cases z2 : a = 21; (subst z2; rfl); by_cases z3 : a = 22; (subst z3; rfl); by_cases z4 : a = 23; (subst z4; rfl); by_cases z5 : a = 24; (subst z5; rfl); by_cases z6 : a = 25; (subst z6; rfl); simp only [am_ui, am_ul, am_row_ne z0, am_row_ne z1, am_row_ne z2, am_row_ne z3, am_row_ne z4, am_row_ne z5, am_row_ne z6])) ?_
  refine am_F.ops (pc' := 120) (L' := [.ref 18, .ref 55]) (S' := [.int 2400, .int 0, .ref 26, .int 0, .ref 63]) (μ' := (am_S (am_row (am_row (am_row (am_row (am_row (am_row (am_row f 19 (va_cpy (f 56) (f 19) 0 0 30)) 20 (va_cpy (f 57) (f 20) 0 0 30)) 21 (va_cpy (f 58) (f 21) 0 0 30)) 22 (va_cpy (f 59) (f 22) 0 0 30)) 23 (va_cpy (f 60) (f 23) 0 0 30)) 24 (va_cpy (f 61) (f 24) 0 0 30)) 25 (va_cpy (f 62) (f 25) 0 0 30)) g)) 9 rfl ?_
  refine am_F.cpyE (F' := (am_row (am_row (am_row (am_row (am_row (am_row (am_row (am_row f 19 (va_cpy (f 56) (f 19) 0 0 30)) 20 (va_cpy (f 57) (f 20) 0 0 30)) 21 (va_cpy (f 58) (f 21) 0 0 30)) 22 (va_cpy (f 59) (f 22) 0 0 30)) 23 (va_cpy (f 60) (f 23) 0 0 30)) 24 (va_cpy (f 61) (f 24) 0 0 30)) 25 (va_cpy (f 62) (f 25) 0 0 30)) 26 (va_cpy (f 63) (f 26) 0 0 2400))) (sp := 0) (dp := 0) (z := 2400) (n0 := 2400) (n1 := 2400) rfl rfl rfl rfl rfl rfl rfl rfl (by omega) (by omega) (by decide) (by decide) (by first | rfl | (funext a; by_cases z0 : a = 19; (subst z0; rfl); by_cases z1 : a = 20; (subst z1; rfl); by_cases z2 : a = 21; (subst z2; rfl); by_cases z3 : a = 22; (subst z3; rfl); by_cases z4 : a = 23; (subst z4; rfl); by_cases z5 : a = 24; (subst z5; rfl); by_cases z6 : a = 25; (subst z6; rfl); by_cases z7 : a = 26; (subst z7; rfl); simp only [am_ui, am_ul, am_row_ne z0, am_row_ne z1, am_row_ne z2, am_row_ne z3, am_row_ne z4, am_row_ne z5, am_row_ne z6, am_row_ne z7])) ?_
  refine am_F.ops (pc' := 128) (L' := [.ref 18, .ref 55]) (S' := [.int (f 55 8), .ref 18]) (μ' := (am_S (am_row (am_row (am_row (am_row (am_row (am_row (am_row (am_row f 19 (va_cpy (f 56) (f 19) 0 0 30)) 20 (va_cpy (f 57) (f 20) 0 0 30)) 21 (va_cpy (f 58) (f 21) 0 0 30)) 22 (va_cpy (f 59) (f 22) 0 0 30)) 23 (va_cpy (f 60) (f 23) 0 0 30)) 24 (va_cpy (f 61) (f 24) 0 0 30)) 25 (va_cpy (f 62) (f 25) 0 0 30)) 26 (va_cpy (f 63) (f 26) 0 0 2400)) g)) 3 rfl ?_
  refine am_F.pfi (F' := (am_row (am_row (am_row (am_row (am_row (am_row (am_row (am_row (am_row f 18 (upd (f 18) 8 (f 55 8))) 19 (va_cpy (f 56) (f 19) 0 0 30)) 20 (va_cpy (f 57) (f 20) 0 0 30)) 21 (va_cpy (f 58) (f 21) 0 0 30)) 22 (va_cpy (f 59) (f 22) 0 0 30)) 23 (va_cpy (f 60) (f 23) 0 0 30)) 24 (va_cpy (f 61) (f 24) 0 0 30)) 25 (va_cpy (f 62) (f 25) 0 0 30)) 26 (va_cpy (f 63) (f 26) 0 0 2400))) rfl rfl (by first | rfl | (funext a; by_cases z0 : a = 18; (subst z0; rfl); by_cases z1 : a = 19; (subst z1; rfl); by_cases z2 : a = 20; (subst z2; rfl); by_cases z3 : a = 21; (subst z3; rfl); by_cases z4 : a = 22; (subst z4; rfl); by_cases z5 : a = 23; (subst z5; rfl); by_cases z6 : a = 24; (subst z6; rfl); by_cases z7 : a = 25; (subst z7; rfl); by_cases z8 : a = 26; (subst z8; rfl); simp only [am_ui, am_ul, am_row_ne z0, am_row_ne z1, am_row_ne z2, am_row_ne z3, am_row_ne z4, am_row_ne z5, am_row_ne z6, am_row_ne z7, am_row_ne z8])) ?_
  refine am_F.ops (pc' := 136) (L' := [.ref 18, .ref 55]) (S' := [.int (f 55 9), .ref 18]) (μ' := (am_S (am_row (am_row (am_row (am_row (am_row (am_row (am_row (am_row (am_row f 18 (upd (f 18) 8 (f 55 8))) 19 (va_cpy (f 56) (f 19) 0 0 30)) 20 (va_cpy (f 57) (f 20) 0 0 30)) 21 (va_cpy (f 58) (f 21) 0 0 30)) 22 (va_cpy (f 59) (f 22) 0 0 30)) 23 (va_cpy (f 60) (f 23) 0 0 30)) 24 (va_cpy (f 61) (f 24) 0 0 30)) 25 (va_cpy (f 62) (f 25) 0 0 30)) 26 (va_cpy (f 63) (f 26) 0 0 2400)) g)) 3 rfl ?_
  refine am_F.pfi (F' := (am_row (am_row (am_row (am_row (am_row (am_row (am_row (am_row (am_row f 18 (upd (upd (f 18) 8 (f 55 8)) 9 (f 55 9))) 19 (va_cpy (f 56) (f 19) 0 0 30)) 20 (va_cpy (f 57) (f 20) 0 0 30)) 21 (va_cpy (f 58) (f 21) 0 0 30)) 22 (va_cpy (f 59) (f 22) 0 0 30)) 23 (va_cpy (f 60) (f 23) 0 0 30)) 24 (va_cpy (f 61) (f 24) 0 0 30)) 25 (va_cpy (f 62) (f 25) 0 0 30)) 26 (va_cpy (f 63) (f 26) 0 0 2400))) rfl rfl (by first | rfl | (funext a; by_cases z0 : a = 18; (subst z0; rfl); by_cases z1 : a = 19; (subst z1; rfl); by_cases z2 : a = 20; (subst z2; rfl); by_cases z3 : a = 21; (subst z3; rfl); by_cases z4 : a = 22; (subst z4; rfl); by_cases z5 : a = 23; (subst z5; rfl); by_cases z6 : a = 24; (subst z6; rfl); by_cases z7 : a = 25; (subst z7; rfl); by_cases z8 : a = 26; (subst z8; rfl); simp only [am_ui, am_ul, am_row_ne z0, am_row_ne z1, am_row_ne z2, am_row_ne z3, am_row_ne z4, am_row_ne z5, am_row_ne z6, am_row_ne z7, am_row_ne z8])) ?_
  refine am_F.ops (pc' := 144) (L' := [.ref 18, .ref 55]) (S' := [.int (f 55 10), .ref 18]) (μ' := (am_S (am_row (am_row (am_row (am_row (am_row (am_row (am_row (am_row (am_row f 18 (upd (upd (f 18) 8 (f 55 8)) 9 (f 55 9))) 19 (va_cpy (f 56) (f 19) 0 0 30)) 20 (va_cpy (f 57) (f 20) 0 0 30)) 21 (va_cpy (f 58) (f 21) 0 0 30)) 22 (va_cpy (f 59) (f 22) 0 0 30)) 23 (va_cpy (f 60) (f 23) 0 0 30)) 24 (va_cpy (f 61) (f 24) 0 0 30)) 25 (va_cpy (f 62) (f 25) 0 0 30)) 26 (va_cpy (f 63) (f 26) 0 0 2400)) g)) 3 rfl ?_
  refine am_F.pfi (F' := (am_row (am_row (am_row (am_row (am_row (am_row (am_row (am_row (am_row f 18 (upd (upd (upd (f 18) 8 (f 55 8)) 9 (f 55 9)) 10 (f 55 10))) 19 (va_cpy (f 56) (f 19) 0 0 30)) 20 (va_cpy (f 57) (f 20) 0 0 30)) 21 (va_cpy (f 58) (f 21) 0 0 30)) 22 (va_cpy (f 59) (f 22) 0 0 30)) 23 (va_cpy (f 60) (f 23) 0 0 30)) 24 (va_cpy (f 61) (f 24) 0 0 30)) 25 (va_cpy (f 62) (f 25) 0 0 30)) 26 (va_cpy (f 63) (f 26) 0 0 2400))) rfl rfl (by first | rfl | (funext a; by_cases z0 : a = 18; (subst z0; rfl); by_cases z1 : a = 19; (subst z1; rfl); by_cases z2 : a = 20; (subst z2; rfl); by_cases z3 : a = 21; (subst z3; rfl); by_cases z4 : a = 22; (subst z4; rfl); by_cases z5 : a = 23; (subst z5; rfl); by_cases z6 : a = 24; (subst z6; rfl); by_cases z7 : a = 25; (subst z7; rfl); by_cases z8 : a = 26; (subst z8; rfl); simp only [am_ui, am_ul, am_row_ne z0, am_row_ne z1, am_row_ne z2, am_row_ne z3, am_row_ne z4, am_row_ne z5, am_row_ne z6, am_row_ne z7, am_row_ne z8])) ?_
  refine am_F.ops (pc' := 152) (L' := [.ref 18, .ref 55]) (S' := [.int (f 55 11), .ref 18]) (μ' := (am_S (am_row (am_row (am_row (am_row (am_row (am_row (am_row (am_row (am_row f 18 (upd (upd (upd (f 18) 8 (f 55 8)) 9 (f 55 9)) 10 (f 55 10))) 19 (va_cpy (f 56) (f 19) 0 0 30)) 20 (va_cpy (f 57) (f 20) 0 0 30)) 21 (va_cpy (f 58) (f 21) 0 0 30)) 22 (va_cpy (f 59) (f 22) 0 0 30)) 23 (va_cpy (f 60) (f 23) 0 0 30)) 24 (va_cpy (f 61) (f 24) 0 0 30)) 25 (va_cpy (f 62) (f 25) 0 0 30)) 26 (va_cpy (f 63) (f 26) 0 0 2400)) g)) 3 rfl ?_
  refine am_F.pfi (F' := (am_row (am_row (am_row (am_row (am_row (am_row (am_row (am_row (am_row f 18 (upd (upd (upd (upd (f 18) 8 (f 55 8)) 9 (f 55 9)) 10 (f 55 10)) 11 (f 55 11))) 19 (va_cpy (f 56) (f 19) 0 0 30)) 20 (va_cpy (f 57) (f 20) 0 0 30)) 21 (va_cpy (f 58) (f 21) 0 0 30)) 22 (va_cpy (f 59) (f 22) 0 0 30)) 23 (va_cpy (f 60) (f 23) 0 0 30)) 24 (va_cpy (f 61) (f 24) 0 0 30)) 25 (va_cpy (f 62) (f 25) 0 0 30)) 26 (va_cpy (f 63) (f 26) 0 0 2400))) rfl rfl (by first | rfl | (funext a; by_cases z0 : a = 18; (subst z0; rfl); by_cases z1 : a = 19; (subst z1; rfl); by_cases z2 : a = 20; (subst z2; rfl); by_cases z3 : a = 21; (subst z3; rfl); by_cases z4 : a = 22; (subst z4; rfl); by_cases z5 : a = 23; (subst z5; rfl); by_cases z6 : a = 24; (subst z6; rfl); by_cases z7 : a = 25; (subst z7; rfl); by_cases z8 : a = 26; (subst z8; rfl); simp only [am_ui, am_ul, am_row_ne z0, am_row_ne z1, am_row_ne z2, am_row_ne z3, am_row_ne z4, am_row_ne z5, am_row_ne z6, am_row_ne z7, am_row_ne z8])) ?_
  subst hKd
  exact am_F.eq (am_F.ret rfl rfl) hK
/-- AccessLattice$Roles.spread -/
def st_spreadK_4 (bits : Int32) (f : Nat → Nat → Int32) : Nat → Int32 → Int32 := fun i4 a4_2 => (bif (fn_has bits (nI i4)) then (a4_2 ||| (f 43 i4)) else a4_2)
def lf_spreadK_4 (bits : Int32) (f : Nat → Nat → Int32) : Int32 := am_for (st_spreadK_4 bits f) 20 0 0
def fn_spreadK (bits : Int32) (f : Nat → Nat → Int32) : Int32 := (lf_spreadK_4 bits f)
theorem lp_spreadK_4 (bits : Int32) (f : Nat → Nat → Int32) (g : Nat → Nat → Int64)  (res : Option Value × am_M) : ∀ (n i4 : Nat) (a4_2 : Int32) , i4 + n = 20 → (fun (z : Int32) => ∀ (wc : Value), am_F 1 am_k_24 33 [.ref 40, .int bits, .int z, wc] [] (am_S f g) res) (am_for (st_spreadK_4 bits f) n i4 a4_2) → am_F 1 am_k_24 4 [.ref 40, .int bits, .int a4_2, .int (nI i4)] [] (am_S f g) res := by
  intro n
  induction n with
  | zero =>
    intro i4 a4_2 hi hK
    refine am_F.pos 3 rfl (by show 20 ≤ nI i4; rw [show (20 : Int32) = nI 20 from rfl]; exact nI_le (by omega) (by omega)) ?_
    exact hK _
  | succ n ih =>
    intro i4 a4_2 hi hK
    refine am_F.neg 3 rfl (by show ¬ 20 ≤ nI i4; rw [show (20 : Int32) = nI 20 from rfl]; exact nI_ge (by omega) (by omega)) ?_
    have hb4 : i4 < 20 := by omega
    show am_F _ _ 10 [.ref 40, .int bits, .int a4_2, .int (nI i4)] [] (am_S f g) _
    obtain ⟨K, hKd⟩ : ∃ K : (Int32) → Prop, K = fun s => (fun (z : Int32) => ∀ (wc : Value), am_F 1 am_k_24 33 [.ref 40, .int bits, .int z, wc] [] (am_S f g) res) (am_for (st_spreadK_4 bits f) n (i4 + 1) s) := ⟨_, rfl⟩
    have hK : K ((st_spreadK_4 bits f) i4 a4_2) := by rw [hKd]; exact hK
    unfold st_spreadK_4 at hK
    refine am_F.ops (pc' := 12) (L' := [.ref 40, .int bits, .int a4_2, .int (nI i4)]) (S' := [.int (nI i4), .int bits]) (μ' := (am_S f g)) 2 rfl ?_
    refine am_F.call rfl rfl (x_has bits (nI i4) f g ) (by decide) ?_
    show am_F _ _ 15 [.ref 40, .int bits, .int a4_2, .int (nI i4)] [.int (am_b (fn_has bits (nI i4)))] (am_S f g) _
    refine am_F.bifK 1 rfl K hK (fun c2 hK => ?_) (fun c2 hK => ?_)
    · show am_F _ _ 18 [.ref 40, .int bits, .int a4_2, .int (nI i4)] [] (am_S f g) _
      refine am_F.ops (pc' := 24) (L' := [.ref 40, .int bits, .int a4_2, .int (nI i4)]) (S' := [.int (nI i4), .ref 43, .int a4_2]) (μ' := (am_S f g)) 4 rfl ?_
      refine am_F.ialE (m := i4) (N := 20) rfl rfl rfl rfl (by omega) (by decide) ?_
      show am_F _ _ 25 [.ref 40, .int bits, .int a4_2, .int (nI i4)] [.int (f 43 i4), .int a4_2] (am_S f g) _
      refine am_F.ops (pc' := 4) (L' := [.ref 40, .int bits, .int (a4_2 ||| (f 43 i4)), .int ((nI i4) + 1)]) (S' := []) (μ' := (am_S f g)) 4 rfl ?_
      rw [nI_1 i4]
      subst hKd
      exact ih (i4 + 1) (a4_2 ||| (f 43 i4)) (by omega)  hK
    · show am_F _ _ 27 [.ref 40, .int bits, .int a4_2, .int (nI i4)] [] (am_S f g) _
      refine am_F.ops (pc' := 4) (L' := [.ref 40, .int bits, .int a4_2, .int ((nI i4) + 1)]) (S' := []) (μ' := (am_S f g)) 2 rfl ?_
      rw [nI_1 i4]
      subst hKd
      exact ih (i4 + 1) a4_2 (by omega)  hK
theorem x_spreadK (bits : Int32) (f : Nat → Nat → Int32) (g : Nat → Nat → Int64)  : am_D 1 24 4 [.ref 40, .int bits] (am_S f g) (some (Value.int (fn_spreadK bits f)), am_S f g) := by
  refine am_D.of (code := am_k_24) rfl (L0 := [.ref 40, .int bits, am_un, am_un]) rfl ?_
  generalize hres : (some (Value.int (fn_spreadK bits f)), am_S f g) = res
  obtain ⟨K, hKd⟩ : ∃ K : Int32 → Prop, K = fun z => (some (Value.int z), am_S f g) = res := ⟨_, rfl⟩
  have hK : K (fn_spreadK bits f) := by rw [hKd]; exact hres
  clear hres
  unfold fn_spreadK at hK
  refine am_F.ops (pc' := 4) (L' := [.ref 40, .int bits, .int 0, .int 0]) (S' := []) (μ' := (am_S f g)) 4 rfl ?_
  show am_F _ _ 4 [.ref 40, .int bits, .int 0, .int (nI 0)] [] (am_S f g) _
  refine lp_spreadK_4 bits f g  _ 20 0 0  (by omega)  ?_
  rw [show am_for (st_spreadK_4 bits f) 20 0 0 = (lf_spreadK_4 bits f) from rfl]
  generalize (lf_spreadK_4 bits f) = z4_3 at hK ⊢
  intro wc
  show am_F _ _ 33 [.ref 40, .int bits, .int z4_3, wc] [] (am_S f g) _
  refine am_F.ops (pc' := 34) (L' := [.ref 40, .int bits, .int z4_3, wc]) (S' := [.int z4_3]) (μ' := (am_S f g)) 1 rfl ?_
  subst hKd
  exact am_F.eq (am_F.ret rfl rfl) hK
/-- AccessLattice$Roles.copyFrom -/
def fn_copyRolesK (f : Nat → Nat → Int32) : (Nat → Int32) × (Nat → Int32) × (Nat → Int32) × (Nat → Int32) × (Nat → Int32) := (upd (f 40) 7 (f 3 7), va_cpy (f 4) (f 41) 0 0 20, va_cpy (f 5) (f 42) 0 0 20, va_cpy (f 6) (f 43) 0 0 20, va_cpy (f 7) (f 44) 0 0 20)
theorem x_copyRolesK (f : Nat → Nat → Int32) (g : Nat → Nat → Int64)  : am_D 0 138 2 [.ref 40, .ref 3] (am_S f g) ((none : Option Value), am_S (am_row (am_row (am_row (am_row (am_row f 40 ((fn_copyRolesK f).1)) 41 ((fn_copyRolesK f).2.1)) 42 ((fn_copyRolesK f).2.2.1)) 43 ((fn_copyRolesK f).2.2.2.1)) 44 ((fn_copyRolesK f).2.2.2.2)) g) := by
  refine am_D.of (code := am_k_138) rfl (L0 := [.ref 40, .ref 3]) rfl ?_
  generalize hres : ((none : Option Value), am_S (am_row (am_row (am_row (am_row (am_row f 40 ((fn_copyRolesK f).1)) 41 ((fn_copyRolesK f).2.1)) 42 ((fn_copyRolesK f).2.2.1)) 43 ((fn_copyRolesK f).2.2.2.1)) 44 ((fn_copyRolesK f).2.2.2.2)) g) = res
  obtain ⟨K, hKd⟩ : ∃ K : ((Nat → Int32) × (Nat → Int32) × (Nat → Int32) × (Nat → Int32) × (Nat → Int32)) → Prop, K = fun z => ((none : Option Value), am_S (am_row (am_row (am_row (am_row (am_row f 40 z.1) 41 z.2.1) 42 z.2.2.1) 43 z.2.2.2.1) 44 z.2.2.2.2) g) = res := ⟨_, rfl⟩
  have hK : K (fn_copyRolesK f) := by rw [hKd]; exact hres
  clear hres
  unfold fn_copyRolesK at hK
  refine am_F.ops (pc' := 12) (L' := [.ref 40, .ref 3]) (S' := [.int 20, .int 0, .ref 41, .int 0, .ref 4]) (μ' := (am_S f g)) 7 rfl ?_
  refine am_F.cpyE (F' := (am_row f 41 (va_cpy (f 4) (f 41) 0 0 20))) (sp := 0) (dp := 0) (z := 20) (n0 := 20) (n1 := 20) rfl rfl rfl rfl rfl rfl rfl rfl (by omega) (by omega) (by decide) (by decide) (by first | rfl | (funext a; by_cases z0 : a = 41; (subst z0; rfl); simp only [am_ui, am_ul, am_row_ne z0])) ?_
  refine am_F.ops (pc' := 27) (L' := [.ref 40, .ref 3]) (S' := [.int 20, .int 0, .ref 42, .int 0, .ref 5]) (μ' := (am_S (am_row f 41 (va_cpy (f 4) (f 41) 0 0 20)) g)) 7 rfl ?_
  refine am_F.cpyE (F' := (am_row (am_row f 41 (va_cpy (f 4) (f 41) 0 0 20)) 42 (va_cpy (f 5) (f 42) 0 0 20))) (sp := 0) (dp := 0) (z := 20) (n0 := 20) (n1 := 20) rfl rfl rfl rfl rfl rfl rfl rfl (by omega) (by omega) (by decide) (by decide) (by first | rfl | (funext a; by_cases z0 : a = 41; (subst z0; rfl); by_cases z1 : a = 42; (subst z1; rfl); simp only [am_ui, am_ul, am_row_ne z0, am_row_ne z1])) ?_
  refine am_F.ops (pc' := 42) (L' := [.ref 40, .ref 3]) (S' := [.int 20, .int 0, .ref 43, .int 0, .ref 6]) (μ' := (am_S (am_row (am_row f 41 (va_cpy (f 4) (f 41) 0 0 20)) 42 (va_cpy (f 5) (f 42) 0 0 20)) g)) 7 rfl ?_
  refine am_F.cpyE (F' := (am_row (am_row (am_row f 41 (va_cpy (f 4) (f 41) 0 0 20)) 42 (va_cpy (f 5) (f 42) 0 0 20)) 43 (va_cpy (f 6) (f 43) 0 0 20))) (sp := 0) (dp := 0) (z := 20) (n0 := 20) (n1 := 20) rfl rfl rfl rfl rfl rfl rfl rfl (by omega) (by omega) (by decide) (by decide) (by first | rfl | (funext a; by_cases z0 : a = 41; (subst z0; rfl); by_cases z1 : a = 42; (subst z1; rfl); by_cases z2 : a = 43; (subst z2; rfl); simp only [am_ui, am_ul, am_row_ne z0, am_row_ne z1, am_row_ne z2])) ?_
  refine am_F.ops (pc' := 57) (L' := [.ref 40, .ref 3]) (S' := [.int 20, .int 0, .ref 44, .int 0, .ref 7]) (μ' := (am_S (am_row (am_row (am_row f 41 (va_cpy (f 4) (f 41) 0 0 20)) 42 (va_cpy (f 5) (f 42) 0 0 20)) 43 (va_cpy (f 6) (f 43) 0 0 20)) g)) 7 rfl ?_
  refine am_F.cpyE (F' := (am_row (am_row (am_row (am_row f 41 (va_cpy (f 4) (f 41) 0 0 20)) 42 (va_cpy (f 5) (f 42) 0 0 20)) 43 (va_cpy (f 6) (f 43) 0 0 20)) 44 (va_cpy (f 7) (f 44) 0 0 20))) (sp := 0) (dp := 0) (z := 20) (n0 := 20) (n1 := 20) rfl rfl rfl rfl rfl rfl rfl rfl (by omega) (by omega) (by decide) (by decide) (by first | rfl | (funext a; by_cases z0 : a = 41; (subst z0; rfl); by_cases z1 : a = 42; (subst z1; rfl); by_cases z2 : a = 43; (subst z2; rfl); by_cases z3 : a = 44; (subst z3; rfl); simp only [am_ui, am_ul, am_row_ne z0, am_row_ne z1, am_row_ne z2, am_row_ne z3])) ?_
  refine am_F.ops (pc' := 65) (L' := [.ref 40, .ref 3]) (S' := [.int (f 3 7), .ref 40]) (μ' := (am_S (am_row (am_row (am_row (am_row f 41 (va_cpy (f 4) (f 41) 0 0 20)) 42 (va_cpy (f 5) (f 42) 0 0 20)) 43 (va_cpy (f 6) (f 43) 0 0 20)) 44 (va_cpy (f 7) (f 44) 0 0 20)) g)) 3 rfl ?_
  refine am_F.pfi (F' := (am_row (am_row (am_row (am_row (am_row f 40 (upd (f 40) 7 (f 3 7))) 41 (va_cpy (f 4) (f 41) 0 0 20)) 42 (va_cpy (f 5) (f 42) 0 0 20)) 43 (va_cpy (f 6) (f 43) 0 0 20)) 44 (va_cpy (f 7) (f 44) 0 0 20))) rfl rfl (by first | rfl | (funext a; by_cases z0 : a = 40; (subst z0; rfl); by_cases z1 : a = 41; (subst z1; rfl); by_cases z2 : a = 42; (subst z2; rfl); by_cases z3 : a = 43; (subst z3; rfl); by_cases z4 : a = 44; (subst z4; rfl); simp only [am_ui, am_ul, am_row_ne z0, am_row_ne z1, am_row_ne z2, am_row_ne z3, am_row_ne z4])) ?_
  subst hKd
  exact am_F.eq (am_F.ret rfl rfl) hK
/-- AccessLattice$Rules.end -/
def fn_endK (rule : Nat) (f : Nat → Nat → Int32) : Int64 := (if (f 60 rule) = (-1) then 1099511627776 else (f 60 rule).toInt64)
theorem x_endK (rule : Nat) (f : Nat → Nat → Int32) (g : Nat → Nat → Int64) (hrule : rule < 30) : am_D 0 27 2 [.ref 55, .int (nI rule)] (am_S f g) (some (Value.long (fn_endK rule f)), am_S f g) := by
  refine am_D.of (code := am_k_27) rfl (L0 := [.ref 55, .int (nI rule)]) rfl ?_
  generalize hres : (some (Value.long (fn_endK rule f)), am_S f g) = res
  obtain ⟨K, hKd⟩ : ∃ K : Int64 → Prop, K = fun z => (some (Value.long z), am_S f g) = res := ⟨_, rfl⟩
  have hK : K (fn_endK rule f) := by rw [hKd]; exact hres
  clear hres
  unfold fn_endK at hK
  refine am_F.ops (pc' := 5) (L' := [.ref 55, .int (nI rule)]) (S' := [.int (nI rule), .ref 60]) (μ' := (am_S f g)) 3 rfl ?_
  refine am_F.ialE (m := rule) (N := 30) rfl rfl rfl rfl (by omega) (by decide) ?_
  show am_F _ _ 6 [.ref 55, .int (nI rule)] [.int (f 60 rule)] (am_S f g) _
  refine am_F.ops (pc' := 7) (L' := [.ref 55, .int (nI rule)]) (S' := [.int (-1), .int (f 60 rule)]) (μ' := (am_S f g)) 1 rfl ?_
  refine am_F.to (am_To.iteJ (pc' := 23) (L2 := [.ref 55, .int (nI rule)]) (S2 := []) (μ2 := (am_S f g)) (a := 1099511627776) (b := (f 60 rule).toInt64) 1 rfl (fun c1 => ?_) (fun c1 => ?_)) ?_
  · intro res9 g9
    show am_F _ _ 10 [.ref 55, .int (nI rule)] [] (am_S f g) _
    refine am_F.ops (pc' := 23) (L' := [.ref 55, .int (nI rule)]) (S' := [.long 1099511627776]) (μ' := (am_S f g)) 2 rfl ?_
    exact g9
  · intro res9 g9
    show am_F _ _ 16 [.ref 55, .int (nI rule)] [] (am_S f g) _
    refine am_F.ops (pc' := 21) (L' := [.ref 55, .int (nI rule)]) (S' := [.int (nI rule), .ref 60]) (μ' := (am_S f g)) 3 rfl ?_
    refine am_F.ialE (m := rule) (N := 30) rfl rfl rfl rfl (by omega) (by decide) ?_
    show am_F _ _ 22 [.ref 55, .int (nI rule)] [.int (f 60 rule)] (am_S f g) _
    refine am_F.ops (pc' := 23) (L' := [.ref 55, .int (nI rule)]) (S' := [.long ((f 60 rule).toInt64)]) (μ' := (am_S f g)) 1 rfl ?_
    exact g9
  show am_F _ _ 23 [.ref 55, .int (nI rule)] [.long (if (f 60 rule) = (-1) then 1099511627776 else (f 60 rule).toInt64)] (am_S f g) _
  subst hKd
  exact am_F.eq (am_F.ret rfl rfl) hK
/-- AccessLattice$Rules.timely -/
def st_timelyK_4 (tick : Int32) (f : Nat → Nat → Int32) : Nat → Int32 → Int32 := fun i4 a4_2 => (bif (fn_has (f 55 8) (nI i4)) then (if tick < (f 59 i4) then a4_2 else (if 0 ≤ (lg_cmp tick.toInt64 (fn_endK i4 f)) then a4_2 else (if (f 61 i4) = 0 then a4_2 else (a4_2 ||| (1 <<< ((nI i4) &&& 31)))))) else a4_2)
def lf_timelyK_4 (tick : Int32) (f : Nat → Nat → Int32) : Int32 := am_for (st_timelyK_4 tick f) ((f 55 11).toNatClampNeg) 0 0
def fn_timelyK (tick : Int32) (f : Nat → Nat → Int32) : Int32 := (lf_timelyK_4 tick f)
theorem lp_timelyK_4 (tick : Int32) (f : Nat → Nat → Int32) (g : Nat → Nat → Int64) (hRcK : f 55 11 = nI (f 55 11).toNatClampNeg) (hRnK : (f 55 11).toNatClampNeg ≤ 30) (res : Option Value × am_M) : ∀ (n i4 : Nat) (a4_2 : Int32) , i4 + n = (f 55 11).toNatClampNeg → (fun (z : Int32) => ∀ (wc : Value), am_F 1 am_k_26 65 [.ref 55, .int tick, .int z, wc] [] (am_S f g) res) (am_for (st_timelyK_4 tick f) n i4 a4_2) → am_F 1 am_k_26 4 [.ref 55, .int tick, .int a4_2, .int (nI i4)] [] (am_S f g) res := by
  intro n
  induction n with
  | zero =>
    intro i4 a4_2 hi hK
    refine am_F.pos 4 rfl (by show (f 55 11) ≤ nI i4; rw [show (f 55 11 : Int32) = nI ((f 55 11).toNatClampNeg) from hRcK]; exact nI_le (by omega) (by omega)) ?_
    exact hK _
  | succ n ih =>
    intro i4 a4_2 hi hK
    refine am_F.neg 4 rfl (by show ¬ (f 55 11) ≤ nI i4; rw [show (f 55 11 : Int32) = nI ((f 55 11).toNatClampNeg) from hRcK]; exact nI_ge (by omega) (by omega)) ?_
    have hb4 : i4 < (f 55 11).toNatClampNeg := by omega
    show am_F _ _ 12 [.ref 55, .int tick, .int a4_2, .int (nI i4)] [] (am_S f g) _
    obtain ⟨K, hKd⟩ : ∃ K : (Int32) → Prop, K = fun s => (fun (z : Int32) => ∀ (wc : Value), am_F 1 am_k_26 65 [.ref 55, .int tick, .int z, wc] [] (am_S f g) res) (am_for (st_timelyK_4 tick f) n (i4 + 1) s) := ⟨_, rfl⟩
    have hK : K ((st_timelyK_4 tick f) i4 a4_2) := by rw [hKd]; exact hK
    unfold st_timelyK_4 at hK
    refine am_F.ops (pc' := 17) (L' := [.ref 55, .int tick, .int a4_2, .int (nI i4)]) (S' := [.int (nI i4), .int (f 55 8)]) (μ' := (am_S f g)) 3 rfl ?_
    refine am_F.call rfl rfl (x_has (f 55 8) (nI i4) f g ) (by decide) ?_
    show am_F _ _ 20 [.ref 55, .int tick, .int a4_2, .int (nI i4)] [.int (am_b (fn_has (f 55 8) (nI i4)))] (am_S f g) _
    refine am_F.bifK 1 rfl K hK (fun c3 hK => ?_) (fun c3 hK => ?_)
    · show am_F _ _ 23 [.ref 55, .int tick, .int a4_2, .int (nI i4)] [] (am_S f g) _
      refine am_F.ops (pc' := 28) (L' := [.ref 55, .int tick, .int a4_2, .int (nI i4)]) (S' := [.int (nI i4), .ref 59]) (μ' := (am_S f g)) 3 rfl ?_
      refine am_F.ialE (m := i4) (N := 30) rfl rfl rfl rfl (by omega) (by decide) ?_
      show am_F _ _ 29 [.ref 55, .int tick, .int a4_2, .int (nI i4)] [.int (f 59 i4)] (am_S f g) _
      refine am_F.ops (pc' := 30) (L' := [.ref 55, .int tick, .int a4_2, .int (nI i4)]) (S' := [.int tick, .int (f 59 i4)]) (μ' := (am_S f g)) 1 rfl ?_
      refine am_F.iteK 1 rfl K hK (fun c5 hK => ?_) (fun c5 hK => ?_)
      · show am_F _ _ 59 [.ref 55, .int tick, .int a4_2, .int (nI i4)] [] (am_S f g) _
        refine am_F.ops (pc' := 4) (L' := [.ref 55, .int tick, .int a4_2, .int ((nI i4) + 1)]) (S' := []) (μ' := (am_S f g)) 2 rfl ?_
        rw [nI_1 i4]
        subst hKd
        exact ih (i4 + 1) a4_2 (by omega)  hK
      · show am_F _ _ 33 [.ref 55, .int tick, .int a4_2, .int (nI i4)] [] (am_S f g) _
        refine am_F.ops (pc' := 37) (L' := [.ref 55, .int tick, .int a4_2, .int (nI i4)]) (S' := [.int (nI i4), .ref 55, .long tick.toInt64]) (μ' := (am_S f g)) 4 rfl ?_
        refine am_F.call rfl rfl (x_endK i4 f g (by omega)) (by decide) ?_
        show am_F _ _ 40 [.ref 55, .int tick, .int a4_2, .int (nI i4)] [.long (fn_endK i4 f), .long tick.toInt64] (am_S f g) _
        refine am_F.ops (pc' := 41) (L' := [.ref 55, .int tick, .int a4_2, .int (nI i4)]) (S' := [.int (lg_cmp tick.toInt64 (fn_endK i4 f))]) (μ' := (am_S f g)) 1 rfl ?_
        refine am_F.iteK 1 rfl K hK (fun c7 hK => ?_) (fun c7 hK => ?_)
        · show am_F _ _ 59 [.ref 55, .int tick, .int a4_2, .int (nI i4)] [] (am_S f g) _
          refine am_F.ops (pc' := 4) (L' := [.ref 55, .int tick, .int a4_2, .int ((nI i4) + 1)]) (S' := []) (μ' := (am_S f g)) 2 rfl ?_
          rw [nI_1 i4]
          subst hKd
          exact ih (i4 + 1) a4_2 (by omega)  hK
        · show am_F _ _ 44 [.ref 55, .int tick, .int a4_2, .int (nI i4)] [] (am_S f g) _
          refine am_F.ops (pc' := 49) (L' := [.ref 55, .int tick, .int a4_2, .int (nI i4)]) (S' := [.int (nI i4), .ref 61]) (μ' := (am_S f g)) 3 rfl ?_
          refine am_F.ialE (m := i4) (N := 30) rfl rfl rfl rfl (by omega) (by decide) ?_
          show am_F _ _ 50 [.ref 55, .int tick, .int a4_2, .int (nI i4)] [.int (f 61 i4)] (am_S f g) _
          refine am_F.iteK 1 rfl K hK (fun c9 hK => ?_) (fun c9 hK => ?_)
          · show am_F _ _ 59 [.ref 55, .int tick, .int a4_2, .int (nI i4)] [] (am_S f g) _
            refine am_F.ops (pc' := 4) (L' := [.ref 55, .int tick, .int a4_2, .int ((nI i4) + 1)]) (S' := []) (μ' := (am_S f g)) 2 rfl ?_
            rw [nI_1 i4]
            subst hKd
            exact ih (i4 + 1) a4_2 (by omega)  hK
          · show am_F _ _ 53 [.ref 55, .int tick, .int a4_2, .int (nI i4)] [] (am_S f g) _
            refine am_F.ops (pc' := 4) (L' := [.ref 55, .int tick, .int (a4_2 ||| (1 <<< ((nI i4) &&& 31))), .int ((nI i4) + 1)]) (S' := []) (μ' := (am_S f g)) 8 rfl ?_
            rw [nI_1 i4]
            subst hKd
            exact ih (i4 + 1) (a4_2 ||| (1 <<< ((nI i4) &&& 31))) (by omega)  hK
    · show am_F _ _ 59 [.ref 55, .int tick, .int a4_2, .int (nI i4)] [] (am_S f g) _
      refine am_F.ops (pc' := 4) (L' := [.ref 55, .int tick, .int a4_2, .int ((nI i4) + 1)]) (S' := []) (μ' := (am_S f g)) 2 rfl ?_
      rw [nI_1 i4]
      subst hKd
      exact ih (i4 + 1) a4_2 (by omega)  hK
theorem x_timelyK (tick : Int32) (f : Nat → Nat → Int32) (g : Nat → Nat → Int64) (hRcK : f 55 11 = nI (f 55 11).toNatClampNeg) (hRnK : (f 55 11).toNatClampNeg ≤ 30) : am_D 1 26 4 [.ref 55, .int tick] (am_S f g) (some (Value.int (fn_timelyK tick f)), am_S f g) := by
  refine am_D.of (code := am_k_26) rfl (L0 := [.ref 55, .int tick, am_un, am_un]) rfl ?_
  generalize hres : (some (Value.int (fn_timelyK tick f)), am_S f g) = res
  obtain ⟨K, hKd⟩ : ∃ K : Int32 → Prop, K = fun z => (some (Value.int z), am_S f g) = res := ⟨_, rfl⟩
  have hK : K (fn_timelyK tick f) := by rw [hKd]; exact hres
  clear hres
  unfold fn_timelyK at hK
  refine am_F.ops (pc' := 4) (L' := [.ref 55, .int tick, .int 0, .int 0]) (S' := []) (μ' := (am_S f g)) 4 rfl ?_
  show am_F _ _ 4 [.ref 55, .int tick, .int 0, .int (nI 0)] [] (am_S f g) _
  refine lp_timelyK_4 tick f g hRcK hRnK _ ((f 55 11).toNatClampNeg) 0 0  (by omega)  ?_
  rw [show am_for (st_timelyK_4 tick f) ((f 55 11).toNatClampNeg) 0 0 = (lf_timelyK_4 tick f) from rfl]
  generalize (lf_timelyK_4 tick f) = z4_10 at hK ⊢
  intro wc
  show am_F _ _ 65 [.ref 55, .int tick, .int z4_10, wc] [] (am_S f g) _
  refine am_F.ops (pc' := 66) (L' := [.ref 55, .int tick, .int z4_10, wc]) (S' := [.int z4_10]) (μ' := (am_S f g)) 1 rfl ?_
  subst hKd
  exact am_F.eq (am_F.ret rfl rfl) hK
/-- AccessLattice$Rules.ofRoles -/
def st_ofRolesK_5 (rules : Int32) (bits : Int32) (f : Nat → Nat → Int32) : Nat → Int32 → Int32 := fun i5 a5_3 => (bif (fn_has rules (nI i5)) then (bif (fn_has bits (f 56 i5)) then (a5_3 ||| (1 <<< ((nI i5) &&& 31))) else a5_3) else a5_3)
def lf_ofRolesK_5 (rules : Int32) (bits : Int32) (f : Nat → Nat → Int32) : Int32 := am_for (st_ofRolesK_5 rules bits f) ((f 55 11).toNatClampNeg) 0 0
def fn_ofRolesK (rules : Int32) (bits : Int32) (f : Nat → Nat → Int32) : Int32 := (lf_ofRolesK_5 rules bits f)
theorem lp_ofRolesK_5 (rules : Int32) (bits : Int32) (f : Nat → Nat → Int32) (g : Nat → Nat → Int64) (hRcK : f 55 11 = nI (f 55 11).toNatClampNeg) (hRnK : (f 55 11).toNatClampNeg ≤ 30) (res : Option Value × am_M) : ∀ (n i5 : Nat) (a5_3 : Int32) , i5 + n = (f 55 11).toNatClampNeg → (fun (z : Int32) => ∀ (wc : Value), am_F 1 am_k_79 50 [.ref 55, .int rules, .int bits, .int z, wc] [] (am_S f g) res) (am_for (st_ofRolesK_5 rules bits f) n i5 a5_3) → am_F 1 am_k_79 5 [.ref 55, .int rules, .int bits, .int a5_3, .int (nI i5)] [] (am_S f g) res := by
  intro n
  induction n with
  | zero =>
    intro i5 a5_3 hi hK
    refine am_F.pos 4 rfl (by show (f 55 11) ≤ nI i5; rw [show (f 55 11 : Int32) = nI ((f 55 11).toNatClampNeg) from hRcK]; exact nI_le (by omega) (by omega)) ?_
    exact hK _
  | succ n ih =>
    intro i5 a5_3 hi hK
    refine am_F.neg 4 rfl (by show ¬ (f 55 11) ≤ nI i5; rw [show (f 55 11 : Int32) = nI ((f 55 11).toNatClampNeg) from hRcK]; exact nI_ge (by omega) (by omega)) ?_
    have hb5 : i5 < (f 55 11).toNatClampNeg := by omega
    show am_F _ _ 14 [.ref 55, .int rules, .int bits, .int a5_3, .int (nI i5)] [] (am_S f g) _
    obtain ⟨K, hKd⟩ : ∃ K : (Int32) → Prop, K = fun s => (fun (z : Int32) => ∀ (wc : Value), am_F 1 am_k_79 50 [.ref 55, .int rules, .int bits, .int z, wc] [] (am_S f g) res) (am_for (st_ofRolesK_5 rules bits f) n (i5 + 1) s) := ⟨_, rfl⟩
    have hK : K ((st_ofRolesK_5 rules bits f) i5 a5_3) := by rw [hKd]; exact hK
    unfold st_ofRolesK_5 at hK
    refine am_F.ops (pc' := 17) (L' := [.ref 55, .int rules, .int bits, .int a5_3, .int (nI i5)]) (S' := [.int (nI i5), .int rules]) (μ' := (am_S f g)) 2 rfl ?_
    refine am_F.call rfl rfl (x_has rules (nI i5) f g ) (by decide) ?_
    show am_F _ _ 20 [.ref 55, .int rules, .int bits, .int a5_3, .int (nI i5)] [.int (am_b (fn_has rules (nI i5)))] (am_S f g) _
    refine am_F.bifK 1 rfl K hK (fun c3 hK => ?_) (fun c3 hK => ?_)
    · show am_F _ _ 23 [.ref 55, .int rules, .int bits, .int a5_3, .int (nI i5)] [] (am_S f g) _
      refine am_F.ops (pc' := 30) (L' := [.ref 55, .int rules, .int bits, .int a5_3, .int (nI i5)]) (S' := [.int (nI i5), .ref 56, .int bits]) (μ' := (am_S f g)) 4 rfl ?_
      refine am_F.ialE (m := i5) (N := 30) rfl rfl rfl rfl (by omega) (by decide) ?_
      show am_F _ _ 31 [.ref 55, .int rules, .int bits, .int a5_3, .int (nI i5)] [.int (f 56 i5), .int bits] (am_S f g) _
      refine am_F.call rfl rfl (x_has bits (f 56 i5) f g ) (by decide) ?_
      show am_F _ _ 34 [.ref 55, .int rules, .int bits, .int a5_3, .int (nI i5)] [.int (am_b (fn_has bits (f 56 i5)))] (am_S f g) _
      refine am_F.bifK 1 rfl K hK (fun c5 hK => ?_) (fun c5 hK => ?_)
      · show am_F _ _ 37 [.ref 55, .int rules, .int bits, .int a5_3, .int (nI i5)] [] (am_S f g) _
        refine am_F.ops (pc' := 5) (L' := [.ref 55, .int rules, .int bits, .int (a5_3 ||| (1 <<< ((nI i5) &&& 31))), .int ((nI i5) + 1)]) (S' := []) (μ' := (am_S f g)) 8 rfl ?_
        rw [nI_1 i5]
        subst hKd
        exact ih (i5 + 1) (a5_3 ||| (1 <<< ((nI i5) &&& 31))) (by omega)  hK
      · show am_F _ _ 44 [.ref 55, .int rules, .int bits, .int a5_3, .int (nI i5)] [] (am_S f g) _
        refine am_F.ops (pc' := 5) (L' := [.ref 55, .int rules, .int bits, .int a5_3, .int ((nI i5) + 1)]) (S' := []) (μ' := (am_S f g)) 2 rfl ?_
        rw [nI_1 i5]
        subst hKd
        exact ih (i5 + 1) a5_3 (by omega)  hK
    · show am_F _ _ 44 [.ref 55, .int rules, .int bits, .int a5_3, .int (nI i5)] [] (am_S f g) _
      refine am_F.ops (pc' := 5) (L' := [.ref 55, .int rules, .int bits, .int a5_3, .int ((nI i5) + 1)]) (S' := []) (μ' := (am_S f g)) 2 rfl ?_
      rw [nI_1 i5]
      subst hKd
      exact ih (i5 + 1) a5_3 (by omega)  hK
theorem x_ofRolesK (rules : Int32) (bits : Int32) (f : Nat → Nat → Int32) (g : Nat → Nat → Int64) (hRcK : f 55 11 = nI (f 55 11).toNatClampNeg) (hRnK : (f 55 11).toNatClampNeg ≤ 30) : am_D 1 79 5 [.ref 55, .int rules, .int bits] (am_S f g) (some (Value.int (fn_ofRolesK rules bits f)), am_S f g) := by
  refine am_D.of (code := am_k_79) rfl (L0 := [.ref 55, .int rules, .int bits, am_un, am_un]) rfl ?_
  generalize hres : (some (Value.int (fn_ofRolesK rules bits f)), am_S f g) = res
  obtain ⟨K, hKd⟩ : ∃ K : Int32 → Prop, K = fun z => (some (Value.int z), am_S f g) = res := ⟨_, rfl⟩
  have hK : K (fn_ofRolesK rules bits f) := by rw [hKd]; exact hres
  clear hres
  unfold fn_ofRolesK at hK
  refine am_F.ops (pc' := 5) (L' := [.ref 55, .int rules, .int bits, .int 0, .int 0]) (S' := []) (μ' := (am_S f g)) 4 rfl ?_
  show am_F _ _ 5 [.ref 55, .int rules, .int bits, .int 0, .int (nI 0)] [] (am_S f g) _
  refine lp_ofRolesK_5 rules bits f g hRcK hRnK _ ((f 55 11).toNatClampNeg) 0 0  (by omega)  ?_
  rw [show am_for (st_ofRolesK_5 rules bits f) ((f 55 11).toNatClampNeg) 0 0 = (lf_ofRolesK_5 rules bits f) from rfl]
  generalize (lf_ofRolesK_5 rules bits f) = z5_6 at hK ⊢
  intro wc
  show am_F _ _ 50 [.ref 55, .int rules, .int bits, .int z5_6, wc] [] (am_S f g) _
  refine am_F.ops (pc' := 51) (L' := [.ref 55, .int rules, .int bits, .int z5_6, wc]) (S' := [.int z5_6]) (μ' := (am_S f g)) 1 rfl ?_
  subst hKd
  exact am_F.eq (am_F.ret rfl rfl) hK
/-- AccessLattice$Rules.first -/
def st_firstK_22 (applying : Int32) (f : Nat → Nat → Int32) : Nat → Unit → Unit ⊕ (Unit ⊕ Int32) := fun i22 _ => (bif (fn_has (if (applying &&& (f 55 9)) = 0 then applying else applying &&& (f 55 9)) (nI i22)) then .inr (.inr (nI i22)) else .inl ())
def lf_firstK_22 (applying : Int32) (f : Nat → Nat → Int32) : Unit ⊕ Int32 := am_forX (st_firstK_22 applying f) ((f 55 11).toNatClampNeg) 0 ()
def fn_firstK (applying : Int32) (f : Nat → Nat → Int32) : Int32 := (Sum.elim (fun (z22 : Unit) => (-1)) (fun (z : Int32) => z) (lf_firstK_22 applying f))
theorem lp_firstK_22 (applying : Int32) (f : Nat → Nat → Int32) (g : Nat → Nat → Int64) (hRcK : f 55 11 = nI (f 55 11).toNatClampNeg) (hRnK : (f 55 11).toNatClampNeg ≤ 30) (res : Option Value × am_M) : ∀ (n i22 : Nat)  , i22 + n = (f 55 11).toNatClampNeg → am_KX (fun (z : Unit) => ∀ (wc : Value), am_F 1 am_k_84 46 [.ref 55, .int applying, .int (if (applying &&& (f 55 9)) = 0 then applying else applying &&& (f 55 9)), wc] [] (am_S f g) res) (fun (z : Int32) => (some (Value.int z), am_S f g) = res) (am_forX (st_firstK_22 applying f) n i22 ()) → am_F 1 am_k_84 22 [.ref 55, .int applying, .int (if (applying &&& (f 55 9)) = 0 then applying else applying &&& (f 55 9)), .int (nI i22)] [] (am_S f g) res := by
  intro n
  induction n with
  | zero =>
    intro i22 hi hK
    refine am_F.pos 4 rfl (by show (f 55 11) ≤ nI i22; rw [show (f 55 11 : Int32) = nI ((f 55 11).toNatClampNeg) from hRcK]; exact nI_le (by omega) (by omega)) ?_
    exact hK _
  | succ n ih =>
    intro i22 hi hK
    refine am_F.neg 4 rfl (by show ¬ (f 55 11) ≤ nI i22; rw [show (f 55 11 : Int32) = nI ((f 55 11).toNatClampNeg) from hRcK]; exact nI_ge (by omega) (by omega)) ?_
    have hb22 : i22 < (f 55 11).toNatClampNeg := by omega
    show am_F _ _ 30 [.ref 55, .int applying, .int (if (applying &&& (f 55 9)) = 0 then applying else applying &&& (f 55 9)), .int (nI i22)] [] (am_S f g) _
    obtain ⟨K, hKd⟩ : ∃ K : (Unit ⊕ (Unit ⊕ Int32)) → Prop, K = fun s => am_KX (fun (z : Unit) => ∀ (wc : Value), am_F 1 am_k_84 46 [.ref 55, .int applying, .int (if (applying &&& (f 55 9)) = 0 then applying else applying &&& (f 55 9)), wc] [] (am_S f g) res) (fun (z : Int32) => (some (Value.int z), am_S f g) = res) (am_nxt (fun z => am_forX (st_firstK_22 applying f) n (i22 + 1) z) s) := ⟨_, rfl⟩
    have hK : K ((st_firstK_22 applying f) i22 ()) := by rw [hKd]; exact hK
    unfold st_firstK_22 at hK
    refine am_F.ops (pc' := 32) (L' := [.ref 55, .int applying, .int (if (applying &&& (f 55 9)) = 0 then applying else applying &&& (f 55 9)), .int (nI i22)]) (S' := [.int (nI i22), .int (if (applying &&& (f 55 9)) = 0 then applying else applying &&& (f 55 9))]) (μ' := (am_S f g)) 2 rfl ?_
    refine am_F.call rfl rfl (x_has (if (applying &&& (f 55 9)) = 0 then applying else applying &&& (f 55 9)) (nI i22) f g ) (by decide) ?_
    show am_F _ _ 35 [.ref 55, .int applying, .int (if (applying &&& (f 55 9)) = 0 then applying else applying &&& (f 55 9)), .int (nI i22)] [.int (am_b (fn_has (if (applying &&& (f 55 9)) = 0 then applying else applying &&& (f 55 9)) (nI i22)))] (am_S f g) _
    refine am_F.bifK 1 rfl K hK (fun c2 hK => ?_) (fun c2 hK => ?_)
    · show am_F _ _ 38 [.ref 55, .int applying, .int (if (applying &&& (f 55 9)) = 0 then applying else applying &&& (f 55 9)), .int (nI i22)] [] (am_S f g) _
      refine am_F.ops (pc' := 39) (L' := [.ref 55, .int applying, .int (if (applying &&& (f 55 9)) = 0 then applying else applying &&& (f 55 9)), .int (nI i22)]) (S' := [.int (nI i22)]) (μ' := (am_S f g)) 1 rfl ?_
      subst hKd
      exact am_F.eq (am_F.ret rfl rfl) hK
    · show am_F _ _ 40 [.ref 55, .int applying, .int (if (applying &&& (f 55 9)) = 0 then applying else applying &&& (f 55 9)), .int (nI i22)] [] (am_S f g) _
      refine am_F.ops (pc' := 22) (L' := [.ref 55, .int applying, .int (if (applying &&& (f 55 9)) = 0 then applying else applying &&& (f 55 9)), .int ((nI i22) + 1)]) (S' := []) (μ' := (am_S f g)) 2 rfl ?_
      rw [nI_1 i22]
      subst hKd
      exact ih (i22 + 1)  (by omega)  hK
theorem x_firstK (applying : Int32) (f : Nat → Nat → Int32) (g : Nat → Nat → Int64) (hRcK : f 55 11 = nI (f 55 11).toNatClampNeg) (hRnK : (f 55 11).toNatClampNeg ≤ 30) : am_D 1 84 4 [.ref 55, .int applying] (am_S f g) (some (Value.int (fn_firstK applying f)), am_S f g) := by
  refine am_D.of (code := am_k_84) rfl (L0 := [.ref 55, .int applying, am_un, am_un]) rfl ?_
  generalize hres : (some (Value.int (fn_firstK applying f)), am_S f g) = res
  obtain ⟨K, hKd⟩ : ∃ K : Int32 → Prop, K = fun z => (some (Value.int z), am_S f g) = res := ⟨_, rfl⟩
  have hK : K (fn_firstK applying f) := by rw [hKd]; exact hres
  clear hres
  unfold fn_firstK at hK
  refine am_F.ops (pc' := 6) (L' := [.ref 55, .int applying, am_un, am_un]) (S' := [.int (applying &&& (f 55 9))]) (μ' := (am_S f g)) 4 rfl ?_
  refine am_F.to (am_To.ite (pc' := 19) (L2 := [.ref 55, .int applying, am_un, am_un]) (S2 := []) (μ2 := (am_S f g)) (a := applying) (b := applying &&& (f 55 9)) 1 rfl (fun c1 => ?_) (fun c1 => ?_)) ?_
  · intro res9 g9
    show am_F _ _ 18 [.ref 55, .int applying, am_un, am_un] [] (am_S f g) _
    refine am_F.ops (pc' := 19) (L' := [.ref 55, .int applying, am_un, am_un]) (S' := [.int applying]) (μ' := (am_S f g)) 1 rfl ?_
    exact g9
  · intro res9 g9
    show am_F _ _ 9 [.ref 55, .int applying, am_un, am_un] [] (am_S f g) _
    refine am_F.ops (pc' := 19) (L' := [.ref 55, .int applying, am_un, am_un]) (S' := [.int (applying &&& (f 55 9))]) (μ' := (am_S f g)) 5 rfl ?_
    exact g9
  show am_F _ _ 19 [.ref 55, .int applying, am_un, am_un] [.int (if (applying &&& (f 55 9)) = 0 then applying else applying &&& (f 55 9))] (am_S f g) _
  refine am_F.ops (pc' := 22) (L' := [.ref 55, .int applying, .int (if (applying &&& (f 55 9)) = 0 then applying else applying &&& (f 55 9)), .int 0]) (S' := []) (μ' := (am_S f g)) 3 rfl ?_
  show am_F _ _ 22 [.ref 55, .int applying, .int (if (applying &&& (f 55 9)) = 0 then applying else applying &&& (f 55 9)), .int (nI 0)] [] (am_S f g) _
  refine lp_firstK_22 applying f g hRcK hRnK _ ((f 55 11).toNatClampNeg) 0   (by omega)  ?_
  rw [show am_forX (st_firstK_22 applying f) ((f 55 11).toNatClampNeg) 0 () = (lf_firstK_22 applying f) from rfl]
  revert hK
  cases (lf_firstK_22 applying f) with
  | inr z =>
    intro hK
    subst hKd
    exact hK
  | inl z22 =>
    intro hK wc
    refine am_F.ops (pc' := 47) (L' := [.ref 55, .int applying, .int (if (applying &&& (f 55 9)) = 0 then applying else applying &&& (f 55 9)), wc]) (S' := [.int (-1)]) (μ' := (am_S f g)) 1 rfl ?_
    subst hKd
    exact am_F.eq (am_F.ret rfl rfl) hK
/-- AccessLattice$Rules.answerBy -/
def fn_answerByK (rule : Int32) (f : Nat → Nat → Int32) : Int32 := (if 0 ≤ rule then (bif (fn_has (f 55 9) rule) then 2 else 1) else 0)
theorem x_answerByK (rule : Int32) (f : Nat → Nat → Int32) (g : Nat → Nat → Int64)  : am_D 1 85 2 [.ref 55, .int rule] (am_S f g) (some (Value.int (fn_answerByK rule f)), am_S f g) := by
  refine am_D.of (code := am_k_85) rfl (L0 := [.ref 55, .int rule]) rfl ?_
  generalize hres : (some (Value.int (fn_answerByK rule f)), am_S f g) = res
  obtain ⟨K, hKd⟩ : ∃ K : Int32 → Prop, K = fun z => (some (Value.int z), am_S f g) = res := ⟨_, rfl⟩
  have hK : K (fn_answerByK rule f) := by rw [hKd]; exact hres
  clear hres
  unfold fn_answerByK at hK
  refine am_F.ops (pc' := 1) (L' := [.ref 55, .int rule]) (S' := [.int rule]) (μ' := (am_S f g)) 1 rfl ?_
  refine am_F.iteK 1 rfl K hK (fun c1 hK => ?_) (fun c1 hK => ?_)
  · show am_F _ _ 6 [.ref 55, .int rule] [] (am_S f g) _
    refine am_F.ops (pc' := 11) (L' := [.ref 55, .int rule]) (S' := [.int rule, .int (f 55 9)]) (μ' := (am_S f g)) 3 rfl ?_
    refine am_F.call rfl rfl (x_has (f 55 9) rule f g ) (by decide) ?_
    show am_F _ _ 14 [.ref 55, .int rule] [.int (am_b (fn_has (f 55 9) rule))] (am_S f g) _
    refine am_F.to (am_To.bif (pc' := 22) (L2 := [.ref 55, .int rule]) (S2 := []) (μ2 := (am_S f g)) (a := 2) (b := 1) 1 rfl (fun c2 => ?_) (fun c2 => ?_)) ?_
    · intro res9 g9
      show am_F _ _ 17 [.ref 55, .int rule] [] (am_S f g) _
      refine am_F.ops (pc' := 22) (L' := [.ref 55, .int rule]) (S' := [.int 2]) (μ' := (am_S f g)) 2 rfl ?_
      exact g9
    · intro res9 g9
      show am_F _ _ 21 [.ref 55, .int rule] [] (am_S f g) _
      refine am_F.ops (pc' := 22) (L' := [.ref 55, .int rule]) (S' := [.int 1]) (μ' := (am_S f g)) 1 rfl ?_
      exact g9
    show am_F _ _ 22 [.ref 55, .int rule] [.int (bif (fn_has (f 55 9) rule) then 2 else 1)] (am_S f g) _
    subst hKd
    exact am_F.eq (am_F.ret rfl rfl) hK
  · show am_F _ _ 4 [.ref 55, .int rule] [] (am_S f g) _
    refine am_F.ops (pc' := 5) (L' := [.ref 55, .int rule]) (S' := [.int 0]) (μ' := (am_S f g)) 1 rfl ?_
    subst hKd
    exact am_F.eq (am_F.ret rfl rfl) hK
/-- AccessLattice$State.stepsUp -/
def st_stepsUpK_5 (other : Int32) (f : Nat → Nat → Int32) : Nat → Int32 → Int32 ⊕ (Int32 ⊕ Int32) := fun i5 a5_3 => (if a5_3 < 0 then .inr (.inl a5_3) else (if a5_3 = other then .inr (.inr (nI i5)) else .inl (f 66 a5_3.toNatClampNeg)))
def lf_stepsUpK_5 (thing : Nat) (other : Int32) (f : Nat → Nat → Int32) : Int32 ⊕ Int32 := am_forX (st_stepsUpK_5 other f) 16 0 (nI thing)
def fn_stepsUpK (thing : Nat) (other : Int32) (f : Nat → Nat → Int32) : Int32 := (Sum.elim (fun (z5 : Int32) => (-1)) (fun (z : Int32) => z) (lf_stepsUpK_5 thing other f))
theorem lp_stepsUpK_5 (thing : Nat) (other : Int32) (f : Nat → Nat → Int32) (g : Nat → Nat → Int64) (hPaK : ∀ t, t < 16 → (f 66 t).toInt < 16) (hthing : thing < 16) (res : Option Value × am_M) : ∀ (n i5 : Nat) (a5_3 : Int32) , i5 + n = 16 → (a5_3.toInt < 16) → am_KX (fun (z : Int32) => ∀ (wc : Value), am_F 0 am_k_17 37 [.ref 39, .int (nI thing), .int other, .int z, wc] [] (am_S f g) res) (fun (z : Int32) => (some (Value.int z), am_S f g) = res) (am_forX (st_stepsUpK_5 other f) n i5 a5_3) → am_F 0 am_k_17 5 [.ref 39, .int (nI thing), .int other, .int a5_3, .int (nI i5)] [] (am_S f g) res := by
  intro n
  induction n with
  | zero =>
    intro i5 a5_3 hi hv5 hK
    refine am_F.pos 3 rfl (by show 16 ≤ nI i5; rw [show (16 : Int32) = nI 16 from rfl]; exact nI_le (by omega) (by omega)) ?_
    exact hK _
  | succ n ih =>
    intro i5 a5_3 hi hv5 hK
    refine am_F.neg 3 rfl (by show ¬ 16 ≤ nI i5; rw [show (16 : Int32) = nI 16 from rfl]; exact nI_ge (by omega) (by omega)) ?_
    have hb5 : i5 < 16 := by omega
    show am_F _ _ 12 [.ref 39, .int (nI thing), .int other, .int a5_3, .int (nI i5)] [] (am_S f g) _
    obtain ⟨K, hKd⟩ : ∃ K : (Int32 ⊕ (Int32 ⊕ Int32)) → Prop, K = fun s => am_KX (fun (z : Int32) => ∀ (wc : Value), am_F 0 am_k_17 37 [.ref 39, .int (nI thing), .int other, .int z, wc] [] (am_S f g) res) (fun (z : Int32) => (some (Value.int z), am_S f g) = res) (am_nxt (fun z => am_forX (st_stepsUpK_5 other f) n (i5 + 1) z) s) := ⟨_, rfl⟩
    have hK : K ((st_stepsUpK_5 other f) i5 a5_3) := by rw [hKd]; exact hK
    unfold st_stepsUpK_5 at hK
    refine am_F.ops (pc' := 13) (L' := [.ref 39, .int (nI thing), .int other, .int a5_3, .int (nI i5)]) (S' := [.int a5_3]) (μ' := (am_S f g)) 1 rfl ?_
    refine am_F.iteK 1 rfl K hK (fun c1 hK => ?_) (fun c1 hK => ?_)
    · show am_F _ _ 37 [.ref 39, .int (nI thing), .int other, .int a5_3, .int (nI i5)] [] (am_S f g) _
      subst hKd
      exact hK (.int (nI i5))
    · show am_F _ _ 16 [.ref 39, .int (nI thing), .int other, .int a5_3, .int (nI i5)] [] (am_S f g) _
      refine am_F.ops (pc' := 18) (L' := [.ref 39, .int (nI thing), .int other, .int a5_3, .int (nI i5)]) (S' := [.int other, .int a5_3]) (μ' := (am_S f g)) 2 rfl ?_
      refine am_F.iteK 1 rfl K hK (fun c2 hK => ?_) (fun c2 hK => ?_)
      · show am_F _ _ 21 [.ref 39, .int (nI thing), .int other, .int a5_3, .int (nI i5)] [] (am_S f g) _
        refine am_F.ops (pc' := 23) (L' := [.ref 39, .int (nI thing), .int other, .int a5_3, .int (nI i5)]) (S' := [.int (nI i5)]) (μ' := (am_S f g)) 1 rfl ?_
        subst hKd
        exact am_F.eq (am_F.ret rfl rfl) hK
      · show am_F _ _ 24 [.ref 39, .int (nI thing), .int other, .int a5_3, .int (nI i5)] [] (am_S f g) _
        refine am_F.ops (pc' := 29) (L' := [.ref 39, .int (nI thing), .int other, .int a5_3, .int (nI i5)]) (S' := [.int a5_3, .ref 66]) (μ' := (am_S f g)) 3 rfl ?_
        refine am_F.ial (N := 16) rfl rfl rfl (am_inbD (by assumption) hv5) ?_
        show am_F _ _ 30 [.ref 39, .int (nI thing), .int other, .int a5_3, .int (nI i5)] [.int (f 66 a5_3.toNatClampNeg)] (am_S f g) _
        refine am_F.ops (pc' := 5) (L' := [.ref 39, .int (nI thing), .int other, .int (f 66 a5_3.toNatClampNeg), .int ((nI i5) + 1)]) (S' := []) (μ' := (am_S f g)) 3 rfl ?_
        rw [nI_1 i5]
        subst hKd
        exact ih (i5 + 1) (f 66 a5_3.toNatClampNeg) (by omega) (am_parK hPaK (by assumption) hv5) hK
theorem x_stepsUpK (thing : Nat) (other : Int32) (f : Nat → Nat → Int32) (g : Nat → Nat → Int64) (hPaK : ∀ t, t < 16 → (f 66 t).toInt < 16) (hthing : thing < 16) : am_D 0 17 5 [.ref 39, .int (nI thing), .int other] (am_S f g) (some (Value.int (fn_stepsUpK thing other f)), am_S f g) := by
  refine am_D.of (code := am_k_17) rfl (L0 := [.ref 39, .int (nI thing), .int other, am_un, am_un]) rfl ?_
  generalize hres : (some (Value.int (fn_stepsUpK thing other f)), am_S f g) = res
  obtain ⟨K, hKd⟩ : ∃ K : Int32 → Prop, K = fun z => (some (Value.int z), am_S f g) = res := ⟨_, rfl⟩
  have hK : K (fn_stepsUpK thing other f) := by rw [hKd]; exact hres
  clear hres
  unfold fn_stepsUpK at hK
  refine am_F.ops (pc' := 5) (L' := [.ref 39, .int (nI thing), .int other, .int (nI thing), .int 0]) (S' := []) (μ' := (am_S f g)) 4 rfl ?_
  show am_F _ _ 5 [.ref 39, .int (nI thing), .int other, .int (nI thing), .int (nI 0)] [] (am_S f g) _
  refine lp_stepsUpK_5 thing other f g hPaK hthing _ 16 0 (nI thing)  (by omega) (by rw [nI_toInt (by omega)]; omega) ?_
  rw [show am_forX (st_stepsUpK_5 other f) 16 0 (nI thing) = (lf_stepsUpK_5 thing other f) from rfl]
  revert hK
  cases (lf_stepsUpK_5 thing other f) with
  | inr z =>
    intro hK
    subst hKd
    exact hK
  | inl z5 =>
    intro hK wc
    refine am_F.ops (pc' := 38) (L' := [.ref 39, .int (nI thing), .int other, .int z5, wc]) (S' := [.int (-1)]) (μ' := (am_S f g)) 1 rfl ?_
    subst hKd
    exact am_F.eq (am_F.ret rfl rfl) hK
/-- AccessLattice$State.isBarred -/
def st_isBarredK_2 (bits : Int32) (f : Nat → Nat → Int32) : Nat → Unit → Unit ⊕ (Unit ⊕ Bool) := fun i2 _ => (bif (fn_has bits (nI i2)) then (if (bits &&& (f 68 i2)) = 0 then .inl () else .inr (.inr true)) else .inl ())
def lf_isBarredK_2 (bits : Int32) (f : Nat → Nat → Int32) : Unit ⊕ Bool := am_forX (st_isBarredK_2 bits f) 20 0 ()
def fn_isBarredK (bits : Int32) (f : Nat → Nat → Int32) : Bool := (Sum.elim (fun (z2 : Unit) => false) (fun (z : Bool) => z) (lf_isBarredK_2 bits f))
theorem lp_isBarredK_2 (bits : Int32) (f : Nat → Nat → Int32) (g : Nat → Nat → Int64)  (res : Option Value × am_M) : ∀ (n i2 : Nat)  , i2 + n = 20 → am_KX (fun (z : Unit) => ∀ (wc : Value), am_F 1 am_k_30 35 [.ref 39, .int bits, wc] [] (am_S f g) res) (fun (z : Bool) => (some (Value.int (am_b z)), am_S f g) = res) (am_forX (st_isBarredK_2 bits f) n i2 ()) → am_F 1 am_k_30 2 [.ref 39, .int bits, .int (nI i2)] [] (am_S f g) res := by
  intro n
  induction n with
  | zero =>
    intro i2 hi hK
    refine am_F.pos 3 rfl (by show 20 ≤ nI i2; rw [show (20 : Int32) = nI 20 from rfl]; exact nI_le (by omega) (by omega)) ?_
    exact hK _
  | succ n ih =>
    intro i2 hi hK
    refine am_F.neg 3 rfl (by show ¬ 20 ≤ nI i2; rw [show (20 : Int32) = nI 20 from rfl]; exact nI_ge (by omega) (by omega)) ?_
    have hb2 : i2 < 20 := by omega
    show am_F _ _ 8 [.ref 39, .int bits, .int (nI i2)] [] (am_S f g) _
    obtain ⟨K, hKd⟩ : ∃ K : (Unit ⊕ (Unit ⊕ Bool)) → Prop, K = fun s => am_KX (fun (z : Unit) => ∀ (wc : Value), am_F 1 am_k_30 35 [.ref 39, .int bits, wc] [] (am_S f g) res) (fun (z : Bool) => (some (Value.int (am_b z)), am_S f g) = res) (am_nxt (fun z => am_forX (st_isBarredK_2 bits f) n (i2 + 1) z) s) := ⟨_, rfl⟩
    have hK : K ((st_isBarredK_2 bits f) i2 ()) := by rw [hKd]; exact hK
    unfold st_isBarredK_2 at hK
    refine am_F.ops (pc' := 10) (L' := [.ref 39, .int bits, .int (nI i2)]) (S' := [.int (nI i2), .int bits]) (μ' := (am_S f g)) 2 rfl ?_
    refine am_F.call rfl rfl (x_has bits (nI i2) f g ) (by decide) ?_
    show am_F _ _ 13 [.ref 39, .int bits, .int (nI i2)] [.int (am_b (fn_has bits (nI i2)))] (am_S f g) _
    refine am_F.bifK 1 rfl K hK (fun c1 hK => ?_) (fun c1 hK => ?_)
    · show am_F _ _ 16 [.ref 39, .int bits, .int (nI i2)] [] (am_S f g) _
      refine am_F.ops (pc' := 22) (L' := [.ref 39, .int bits, .int (nI i2)]) (S' := [.int (nI i2), .ref 68, .int bits]) (μ' := (am_S f g)) 4 rfl ?_
      refine am_F.ialE (m := i2) (N := 20) rfl rfl rfl rfl (by omega) (by decide) ?_
      show am_F _ _ 23 [.ref 39, .int bits, .int (nI i2)] [.int (f 68 i2), .int bits] (am_S f g) _
      refine am_F.ops (pc' := 24) (L' := [.ref 39, .int bits, .int (nI i2)]) (S' := [.int (bits &&& (f 68 i2))]) (μ' := (am_S f g)) 1 rfl ?_
      refine am_F.iteK 1 rfl K hK (fun c2 hK => ?_) (fun c2 hK => ?_)
      · show am_F _ _ 29 [.ref 39, .int bits, .int (nI i2)] [] (am_S f g) _
        refine am_F.ops (pc' := 2) (L' := [.ref 39, .int bits, .int ((nI i2) + 1)]) (S' := []) (μ' := (am_S f g)) 2 rfl ?_
        rw [nI_1 i2]
        subst hKd
        exact ih (i2 + 1)  (by omega)  hK
      · show am_F _ _ 27 [.ref 39, .int bits, .int (nI i2)] [] (am_S f g) _
        refine am_F.ops (pc' := 28) (L' := [.ref 39, .int bits, .int (nI i2)]) (S' := [.int 1]) (μ' := (am_S f g)) 1 rfl ?_
        subst hKd
        exact am_F.eq (am_F.ret rfl rfl) hK
    · show am_F _ _ 29 [.ref 39, .int bits, .int (nI i2)] [] (am_S f g) _
      refine am_F.ops (pc' := 2) (L' := [.ref 39, .int bits, .int ((nI i2) + 1)]) (S' := []) (μ' := (am_S f g)) 2 rfl ?_
      rw [nI_1 i2]
      subst hKd
      exact ih (i2 + 1)  (by omega)  hK
theorem x_isBarredK (bits : Int32) (f : Nat → Nat → Int32) (g : Nat → Nat → Int64)  : am_D 1 30 3 [.ref 39, .int bits] (am_S f g) (some (Value.int (am_b (fn_isBarredK bits f))), am_S f g) := by
  refine am_D.of (code := am_k_30) rfl (L0 := [.ref 39, .int bits, am_un]) rfl ?_
  generalize hres : (some (Value.int (am_b (fn_isBarredK bits f))), am_S f g) = res
  obtain ⟨K, hKd⟩ : ∃ K : Bool → Prop, K = fun z => (some (Value.int (am_b z)), am_S f g) = res := ⟨_, rfl⟩
  have hK : K (fn_isBarredK bits f) := by rw [hKd]; exact hres
  clear hres
  unfold fn_isBarredK at hK
  refine am_F.ops (pc' := 2) (L' := [.ref 39, .int bits, .int 0]) (S' := []) (μ' := (am_S f g)) 2 rfl ?_
  show am_F _ _ 2 [.ref 39, .int bits, .int (nI 0)] [] (am_S f g) _
  refine lp_isBarredK_2 bits f g  _ 20 0   (by omega)  ?_
  rw [show am_forX (st_isBarredK_2 bits f) 20 0 () = (lf_isBarredK_2 bits f) from rfl]
  revert hK
  cases (lf_isBarredK_2 bits f) with
  | inr z =>
    intro hK
    subst hKd
    exact hK
  | inl z2 =>
    intro hK wc
    refine am_F.ops (pc' := 36) (L' := [.ref 39, .int bits, wc]) (S' := [.int 0]) (μ' := (am_S f g)) 1 rfl ?_
    subst hKd
    exact am_F.eq (am_F.ret rfl rfl) hK
/-- AccessLattice$View.settleLoans -/
def st_settleLoansK_39 (lost : Int64) (f : Nat → Nat → Int32) (g : Nat → Nat → Int64) : Nat → (Nat → Int32) × (Nat → Int64) → (Nat → Int32) × (Nat → Int64) := fun i39 z => match z with
  | (r39_72, l39_38) => (bif (if 0 ≤ (f 54 i39) then (fn_hasLong (l39_38 5) (f 54 i39)) else (fn_has (f 71 ((f 49 i39).toNatClampNeg)) (f 51 i39))) then (if (f 52 i39) ≤ (f 38 7) then (r39_72, l39_38) else (bif (fn_hasLong (lost ||| (g 48 6)) (nI i39)) then (r39_72, l39_38) else (upd r39_72 ((f 50 i39).toNatClampNeg) ((r39_72 ((f 50 i39).toNatClampNeg)) ||| (f 43 ((f 51 i39).toNatClampNeg))), vp_updL l39_38 5 ((l39_38 5) ||| ((1 : Int64) <<< ((nI i39).toInt64 &&& 63)))))) else (r39_72, l39_38))
def lf_settleLoansK_39 (lost : Int64) (f : Nat → Nat → Int32) (g : Nat → Nat → Int64) : (Nat → Int32) × (Nat → Int64) := am_for (st_settleLoansK_39 lost f g) ((f 48 7).toNatClampNeg) 0 (va_cpy (f 71) (f 72) 0 0 16, vp_updL (g 38) 5 (0 : Int64))
def fn_settleLoansK (lost : Int64) (f : Nat → Nat → Int32) (g : Nat → Nat → Int64) : (Nat → Int32) × (Nat → Int64) := ((lf_settleLoansK_39 lost f g).1, (lf_settleLoansK_39 lost f g).2)
theorem lp_settleLoansK_39 (lost : Int64) (f : Nat → Nat → Int32) (g : Nat → Nat → Int64) (hLcK : f 48 7 = nI (f 48 7).toNatClampNeg) (hLnK : (f 48 7).toNatClampNeg ≤ 40) (hLfK : ∀ i, i < (f 48 7).toNatClampNeg → am_inb (f 49 i) 16 = true) (hLtK : ∀ i, i < (f 48 7).toNatClampNeg → am_inb (f 50 i) 16 = true) (hLrK : ∀ i, i < (f 48 7).toNatClampNeg → am_inb (f 51 i) 20 = true) (res : Option Value × am_M) : ∀ (n i39 : Nat) (r39_72 : Nat → Int32) (l39_38 : Nat → Int64) (w39_7 : Value) (w39_8 : Value), i39 + n = (f 48 7).toNatClampNeg → (fun (z : (Nat → Int32) × (Nat → Int64)) => ∀ (wc : Value) (w39_7 : Value) (w39_8 : Value), am_F 1 am_k_28 179 [.ref 38, .long lost, am_un, .ref 48, .long (lost ||| (g 48 6)), am_un, wc, w39_7, w39_8] [] (am_S (am_row f 72 z.1) (am_row g 38 z.2)) res) (am_for (st_settleLoansK_39 lost f g) n i39 (r39_72, l39_38)) → am_F 1 am_k_28 39 [.ref 38, .long lost, am_un, .ref 48, .long (lost ||| (g 48 6)), am_un, .int (nI i39), w39_7, w39_8] [] (am_S (am_row f 72 r39_72) (am_row g 38 l39_38)) res := by
  intro n
  induction n with
  | zero =>
    intro i39 r39_72 l39_38 w39_7 w39_8 hi hK
    refine am_F.pos 4 rfl (by show (f 48 7) ≤ nI i39; rw [show (f 48 7 : Int32) = nI ((f 48 7).toNatClampNeg) from hLcK]; exact nI_le (by omega) (by omega)) ?_
    exact hK _ _ _
  | succ n ih =>
    intro i39 r39_72 l39_38 w39_7 w39_8 hi hK
    refine am_F.neg 4 rfl (by show ¬ (f 48 7) ≤ nI i39; rw [show (f 48 7 : Int32) = nI ((f 48 7).toNatClampNeg) from hLcK]; exact nI_ge (by omega) (by omega)) ?_
    have hb39 : i39 < (f 48 7).toNatClampNeg := by omega
    show am_F _ _ 48 [.ref 38, .long lost, am_un, .ref 48, .long (lost ||| (g 48 6)), am_un, .int (nI i39), w39_7, w39_8] [] (am_S (am_row f 72 r39_72) (am_row g 38 l39_38)) _
    obtain ⟨K, hKd⟩ : ∃ K : ((Nat → Int32) × (Nat → Int64)) → Prop, K = fun s => (fun (z : (Nat → Int32) × (Nat → Int64)) => ∀ (wc : Value) (w39_7 : Value) (w39_8 : Value), am_F 1 am_k_28 179 [.ref 38, .long lost, am_un, .ref 48, .long (lost ||| (g 48 6)), am_un, wc, w39_7, w39_8] [] (am_S (am_row f 72 z.1) (am_row g 38 z.2)) res) (am_for (st_settleLoansK_39 lost f g) n (i39 + 1) s) := ⟨_, rfl⟩
    have hK : K ((st_settleLoansK_39 lost f g) i39 (r39_72, l39_38)) := by rw [hKd]; exact hK
    unfold st_settleLoansK_39 at hK
    simp only at hK
    refine am_F.ops (pc' := 54) (L' := [.ref 38, .long lost, am_un, .ref 48, .long (lost ||| (g 48 6)), am_un, .int (nI i39), w39_7, w39_8]) (S' := [.int (nI i39), .ref 54]) (μ' := (am_S (am_row f 72 r39_72) (am_row g 38 l39_38))) 3 rfl ?_
    refine am_F.ialE (m := i39) (N := 40) rfl rfl rfl rfl (by omega) (by decide) ?_
    show am_F _ _ 55 [.ref 38, .long lost, am_un, .ref 48, .long (lost ||| (g 48 6)), am_un, .int (nI i39), w39_7, w39_8] [.int (f 54 i39)] (am_S (am_row f 72 r39_72) (am_row g 38 l39_38)) _
    refine am_F.ops (pc' := 59) (L' := [.ref 38, .long lost, am_un, .ref 48, .long (lost ||| (g 48 6)), am_un, .int (nI i39), .int (f 54 i39), w39_8]) (S' := [.int (f 54 i39)]) (μ' := (am_S (am_row f 72 r39_72) (am_row g 38 l39_38))) 2 rfl ?_
    refine am_F.to (am_To.iteB (pc' := 96) (L2 := [.ref 38, .long lost, am_un, .ref 48, .long (lost ||| (g 48 6)), am_un, .int (nI i39), .int (f 54 i39), w39_8]) (S2 := []) (μ2 := (am_S (am_row f 72 r39_72) (am_row g 38 l39_38))) (a := (fn_hasLong (l39_38 5) (f 54 i39))) (b := (fn_has (f 71 ((f 49 i39).toNatClampNeg)) (f 51 i39))) 1 rfl (fun c9 => ?_) (fun c9 => ?_)) ?_
    · intro res9 g9
      show am_F _ _ 87 [.ref 38, .long lost, am_un, .ref 48, .long (lost ||| (g 48 6)), am_un, .int (nI i39), .int (f 54 i39), w39_8] [] (am_S (am_row f 72 r39_72) (am_row g 38 l39_38)) _
      refine am_F.ops (pc' := 93) (L' := [.ref 38, .long lost, am_un, .ref 48, .long (lost ||| (g 48 6)), am_un, .int (nI i39), .int (f 54 i39), w39_8]) (S' := [.int (f 54 i39), .long (l39_38 5)]) (μ' := (am_S (am_row f 72 r39_72) (am_row g 38 l39_38))) 3 rfl ?_
      refine am_F.call rfl rfl (x_hasLong (l39_38 5) (f 54 i39) (am_row f 72 r39_72) (am_row g 38 l39_38) ) (by decide) ?_
      show am_F _ _ 96 [.ref 38, .long lost, am_un, .ref 48, .long (lost ||| (g 48 6)), am_un, .int (nI i39), .int (f 54 i39), w39_8] [.int (am_b (fn_hasLong (l39_38 5) (f 54 i39)))] (am_S (am_row f 72 r39_72) (am_row g 38 l39_38)) _
      exact g9
    · intro res9 g9
      show am_F _ _ 62 [.ref 38, .long lost, am_un, .ref 48, .long (lost ||| (g 48 6)), am_un, .int (nI i39), .int (f 54 i39), w39_8] [] (am_S (am_row f 72 r39_72) (am_row g 38 l39_38)) _
      refine am_F.ops (pc' := 72) (L' := [.ref 38, .long lost, am_un, .ref 48, .long (lost ||| (g 48 6)), am_un, .int (nI i39), .int (f 54 i39), w39_8]) (S' := [.int (nI i39), .ref 49, .ref 71]) (μ' := (am_S (am_row f 72 r39_72) (am_row g 38 l39_38))) 5 rfl ?_
      refine am_F.ialE (m := i39) (N := 40) rfl rfl rfl rfl (by omega) (by decide) ?_
      show am_F _ _ 73 [.ref 38, .long lost, am_un, .ref 48, .long (lost ||| (g 48 6)), am_un, .int (nI i39), .int (f 54 i39), w39_8] [.int (f 49 i39), .ref 71] (am_S (am_row f 72 r39_72) (am_row g 38 l39_38)) _
      refine am_F.ial (N := 16) rfl rfl rfl (hLfK _ (by omega)) ?_
      show am_F _ _ 74 [.ref 38, .long lost, am_un, .ref 48, .long (lost ||| (g 48 6)), am_un, .int (nI i39), .int (f 54 i39), w39_8] [.int (f 71 ((f 49 i39).toNatClampNeg))] (am_S (am_row f 72 r39_72) (am_row g 38 l39_38)) _
      refine am_F.ops (pc' := 80) (L' := [.ref 38, .long lost, am_un, .ref 48, .long (lost ||| (g 48 6)), am_un, .int (nI i39), .int (f 54 i39), w39_8]) (S' := [.int (nI i39), .ref 51, .int (f 71 ((f 49 i39).toNatClampNeg))]) (μ' := (am_S (am_row f 72 r39_72) (am_row g 38 l39_38))) 3 rfl ?_
      refine am_F.ialE (m := i39) (N := 40) rfl rfl rfl rfl (by omega) (by decide) ?_
      show am_F _ _ 81 [.ref 38, .long lost, am_un, .ref 48, .long (lost ||| (g 48 6)), am_un, .int (nI i39), .int (f 54 i39), w39_8] [.int (f 51 i39), .int (f 71 ((f 49 i39).toNatClampNeg))] (am_S (am_row f 72 r39_72) (am_row g 38 l39_38)) _
      refine am_F.call rfl rfl (x_has (f 71 ((f 49 i39).toNatClampNeg)) (f 51 i39) (am_row f 72 r39_72) (am_row g 38 l39_38) ) (by decide) ?_
      show am_F _ _ 84 [.ref 38, .long lost, am_un, .ref 48, .long (lost ||| (g 48 6)), am_un, .int (nI i39), .int (f 54 i39), w39_8] [.int (am_b (fn_has (f 71 ((f 49 i39).toNatClampNeg)) (f 51 i39)))] (am_S (am_row f 72 r39_72) (am_row g 38 l39_38)) _
      refine am_F.ops (pc' := 96) (L' := [.ref 38, .long lost, am_un, .ref 48, .long (lost ||| (g 48 6)), am_un, .int (nI i39), .int (f 54 i39), w39_8]) (S' := [.int (am_b (fn_has (f 71 ((f 49 i39).toNatClampNeg)) (f 51 i39)))]) (μ' := (am_S (am_row f 72 r39_72) (am_row g 38 l39_38))) 1 rfl ?_
      exact g9
    show am_F _ _ 96 [.ref 38, .long lost, am_un, .ref 48, .long (lost ||| (g 48 6)), am_un, .int (nI i39), .int (f 54 i39), w39_8] [.int (am_b (if 0 ≤ (f 54 i39) then (fn_hasLong (l39_38 5) (f 54 i39)) else (fn_has (f 71 ((f 49 i39).toNatClampNeg)) (f 51 i39))))] (am_S (am_row f 72 r39_72) (am_row g 38 l39_38)) _
    refine am_F.ops (pc' := 100) (L' := [.ref 38, .long lost, am_un, .ref 48, .long (lost ||| (g 48 6)), am_un, .int (nI i39), .int (f 54 i39), .int (am_b (if 0 ≤ (f 54 i39) then (fn_hasLong (l39_38 5) (f 54 i39)) else (fn_has (f 71 ((f 49 i39).toNatClampNeg)) (f 51 i39))))]) (S' := [.int (am_b (if 0 ≤ (f 54 i39) then (fn_hasLong (l39_38 5) (f 54 i39)) else (fn_has (f 71 ((f 49 i39).toNatClampNeg)) (f 51 i39))))]) (μ' := (am_S (am_row f 72 r39_72) (am_row g 38 l39_38))) 2 rfl ?_
    refine am_F.bifK 1 rfl K hK (fun c12 hK => ?_) (fun c12 hK => ?_)
    · show am_F _ _ 103 [.ref 38, .long lost, am_un, .ref 48, .long (lost ||| (g 48 6)), am_un, .int (nI i39), .int (f 54 i39), .int (am_b (if 0 ≤ (f 54 i39) then (fn_hasLong (l39_38 5) (f 54 i39)) else (fn_has (f 71 ((f 49 i39).toNatClampNeg)) (f 51 i39))))] [] (am_S (am_row f 72 r39_72) (am_row g 38 l39_38)) _
      refine am_F.ops (pc' := 113) (L' := [.ref 38, .long lost, am_un, .ref 48, .long (lost ||| (g 48 6)), am_un, .int (nI i39), .int (f 54 i39), .int (am_b (if 0 ≤ (f 54 i39) then (fn_hasLong (l39_38 5) (f 54 i39)) else (fn_has (f 71 ((f 49 i39).toNatClampNeg)) (f 51 i39))))]) (S' := [.int (nI i39), .ref 52, .int (f 38 7)]) (μ' := (am_S (am_row f 72 r39_72) (am_row g 38 l39_38))) 5 rfl ?_
      refine am_F.ialE (m := i39) (N := 40) rfl rfl rfl rfl (by omega) (by decide) ?_
      show am_F _ _ 114 [.ref 38, .long lost, am_un, .ref 48, .long (lost ||| (g 48 6)), am_un, .int (nI i39), .int (f 54 i39), .int (am_b (if 0 ≤ (f 54 i39) then (fn_hasLong (l39_38 5) (f 54 i39)) else (fn_has (f 71 ((f 49 i39).toNatClampNeg)) (f 51 i39))))] [.int (f 52 i39), .int (f 38 7)] (am_S (am_row f 72 r39_72) (am_row g 38 l39_38)) _
      refine am_F.iteK 1 rfl K hK (fun c14 hK => ?_) (fun c14 hK => ?_)
      · show am_F _ _ 173 [.ref 38, .long lost, am_un, .ref 48, .long (lost ||| (g 48 6)), am_un, .int (nI i39), .int (f 54 i39), .int (am_b (if 0 ≤ (f 54 i39) then (fn_hasLong (l39_38 5) (f 54 i39)) else (fn_has (f 71 ((f 49 i39).toNatClampNeg)) (f 51 i39))))] [] (am_S (am_row f 72 r39_72) (am_row g 38 l39_38)) _
        refine am_F.ops (pc' := 39) (L' := [.ref 38, .long lost, am_un, .ref 48, .long (lost ||| (g 48 6)), am_un, .int ((nI i39) + 1), .int (f 54 i39), .int (am_b (if 0 ≤ (f 54 i39) then (fn_hasLong (l39_38 5) (f 54 i39)) else (fn_has (f 71 ((f 49 i39).toNatClampNeg)) (f 51 i39))))]) (S' := []) (μ' := (am_S (am_row f 72 r39_72) (am_row g 38 l39_38))) 2 rfl ?_
        rw [nI_1 i39]
        subst hKd
        exact ih (i39 + 1) r39_72 l39_38 (.int (f 54 i39)) (.int (am_b (if 0 ≤ (f 54 i39) then (fn_hasLong (l39_38 5) (f 54 i39)) else (fn_has (f 71 ((f 49 i39).toNatClampNeg)) (f 51 i39))))) (by omega)  hK
      · show am_F _ _ 117 [.ref 38, .long lost, am_un, .ref 48, .long (lost ||| (g 48 6)), am_un, .int (nI i39), .int (f 54 i39), .int (am_b (if 0 ≤ (f 54 i39) then (fn_hasLong (l39_38 5) (f 54 i39)) else (fn_has (f 71 ((f 49 i39).toNatClampNeg)) (f 51 i39))))] [] (am_S (am_row f 72 r39_72) (am_row g 38 l39_38)) _
        refine am_F.ops (pc' := 121) (L' := [.ref 38, .long lost, am_un, .ref 48, .long (lost ||| (g 48 6)), am_un, .int (nI i39), .int (f 54 i39), .int (am_b (if 0 ≤ (f 54 i39) then (fn_hasLong (l39_38 5) (f 54 i39)) else (fn_has (f 71 ((f 49 i39).toNatClampNeg)) (f 51 i39))))]) (S' := [.int (nI i39), .long (lost ||| (g 48 6))]) (μ' := (am_S (am_row f 72 r39_72) (am_row g 38 l39_38))) 2 rfl ?_
        refine am_F.call rfl rfl (x_hasLong (lost ||| (g 48 6)) (nI i39) (am_row f 72 r39_72) (am_row g 38 l39_38) ) (by decide) ?_
        show am_F _ _ 124 [.ref 38, .long lost, am_un, .ref 48, .long (lost ||| (g 48 6)), am_un, .int (nI i39), .int (f 54 i39), .int (am_b (if 0 ≤ (f 54 i39) then (fn_hasLong (l39_38 5) (f 54 i39)) else (fn_has (f 71 ((f 49 i39).toNatClampNeg)) (f 51 i39))))] [.int (am_b (fn_hasLong (lost ||| (g 48 6)) (nI i39)))] (am_S (am_row f 72 r39_72) (am_row g 38 l39_38)) _
        refine am_F.bifK 1 rfl K hK (fun c16 hK => ?_) (fun c16 hK => ?_)
        · show am_F _ _ 173 [.ref 38, .long lost, am_un, .ref 48, .long (lost ||| (g 48 6)), am_un, .int (nI i39), .int (f 54 i39), .int (am_b (if 0 ≤ (f 54 i39) then (fn_hasLong (l39_38 5) (f 54 i39)) else (fn_has (f 71 ((f 49 i39).toNatClampNeg)) (f 51 i39))))] [] (am_S (am_row f 72 r39_72) (am_row g 38 l39_38)) _
          refine am_F.ops (pc' := 39) (L' := [.ref 38, .long lost, am_un, .ref 48, .long (lost ||| (g 48 6)), am_un, .int ((nI i39) + 1), .int (f 54 i39), .int (am_b (if 0 ≤ (f 54 i39) then (fn_hasLong (l39_38 5) (f 54 i39)) else (fn_has (f 71 ((f 49 i39).toNatClampNeg)) (f 51 i39))))]) (S' := []) (μ' := (am_S (am_row f 72 r39_72) (am_row g 38 l39_38))) 2 rfl ?_
          rw [nI_1 i39]
          subst hKd
          exact ih (i39 + 1) r39_72 l39_38 (.int (f 54 i39)) (.int (am_b (if 0 ≤ (f 54 i39) then (fn_hasLong (l39_38 5) (f 54 i39)) else (fn_has (f 71 ((f 49 i39).toNatClampNeg)) (f 51 i39))))) (by omega)  hK
        · show am_F _ _ 127 [.ref 38, .long lost, am_un, .ref 48, .long (lost ||| (g 48 6)), am_un, .int (nI i39), .int (f 54 i39), .int (am_b (if 0 ≤ (f 54 i39) then (fn_hasLong (l39_38 5) (f 54 i39)) else (fn_has (f 71 ((f 49 i39).toNatClampNeg)) (f 51 i39))))] [] (am_S (am_row f 72 r39_72) (am_row g 38 l39_38)) _
          refine am_F.ops (pc' := 137) (L' := [.ref 38, .long lost, am_un, .ref 48, .long (lost ||| (g 48 6)), am_un, .int (nI i39), .int (f 54 i39), .int (am_b (if 0 ≤ (f 54 i39) then (fn_hasLong (l39_38 5) (f 54 i39)) else (fn_has (f 71 ((f 49 i39).toNatClampNeg)) (f 51 i39))))]) (S' := [.long ((l39_38 5) ||| ((1 : Int64) <<< ((nI i39).toInt64 &&& 63))), .ref 38]) (μ' := (am_S (am_row f 72 r39_72) (am_row g 38 l39_38))) 7 rfl ?_
          refine am_F.pfl (G' := (am_row g 38 (vp_updL l39_38 5 ((l39_38 5) ||| ((1 : Int64) <<< ((nI i39).toInt64 &&& 63)))))) rfl rfl (by first | rfl | (funext a; by_cases z0 : a = 38; (subst z0; rfl); simp only [am_ui, am_ul, am_row_ne z0])) ?_
          refine am_F.ops (pc' := 150) (L' := [.ref 38, .long lost, am_un, .ref 48, .long (lost ||| (g 48 6)), am_un, .int (nI i39), .int (f 54 i39), .int (am_b (if 0 ≤ (f 54 i39) then (fn_hasLong (l39_38 5) (f 54 i39)) else (fn_has (f 71 ((f 49 i39).toNatClampNeg)) (f 51 i39))))]) (S' := [.int (nI i39), .ref 50, .ref 72]) (μ' := (am_S (am_row f 72 r39_72) (am_row g 38 (vp_updL l39_38 5 ((l39_38 5) ||| ((1 : Int64) <<< ((nI i39).toInt64 &&& 63))))))) 5 rfl ?_
          refine am_F.ialE (m := i39) (N := 40) rfl rfl rfl rfl (by omega) (by decide) ?_
          show am_F _ _ 151 [.ref 38, .long lost, am_un, .ref 48, .long (lost ||| (g 48 6)), am_un, .int (nI i39), .int (f 54 i39), .int (am_b (if 0 ≤ (f 54 i39) then (fn_hasLong (l39_38 5) (f 54 i39)) else (fn_has (f 71 ((f 49 i39).toNatClampNeg)) (f 51 i39))))] [.int (f 50 i39), .ref 72] (am_S (am_row f 72 r39_72) (am_row g 38 (vp_updL l39_38 5 ((l39_38 5) ||| ((1 : Int64) <<< ((nI i39).toInt64 &&& 63)))))) _
          refine am_F.ops (pc' := 152) (L' := [.ref 38, .long lost, am_un, .ref 48, .long (lost ||| (g 48 6)), am_un, .int (nI i39), .int (f 54 i39), .int (am_b (if 0 ≤ (f 54 i39) then (fn_hasLong (l39_38 5) (f 54 i39)) else (fn_has (f 71 ((f 49 i39).toNatClampNeg)) (f 51 i39))))]) (S' := [.int (f 50 i39), .ref 72, .int (f 50 i39), .ref 72]) (μ' := (am_S (am_row f 72 r39_72) (am_row g 38 (vp_updL l39_38 5 ((l39_38 5) ||| ((1 : Int64) <<< ((nI i39).toInt64 &&& 63))))))) 1 rfl ?_
          refine am_F.ial (N := 16) rfl rfl rfl (hLtK _ (by omega)) ?_
          show am_F _ _ 153 [.ref 38, .long lost, am_un, .ref 48, .long (lost ||| (g 48 6)), am_un, .int (nI i39), .int (f 54 i39), .int (am_b (if 0 ≤ (f 54 i39) then (fn_hasLong (l39_38 5) (f 54 i39)) else (fn_has (f 71 ((f 49 i39).toNatClampNeg)) (f 51 i39))))] [.int (r39_72 ((f 50 i39).toNatClampNeg)), .int (f 50 i39), .ref 72] (am_S (am_row f 72 r39_72) (am_row g 38 (vp_updL l39_38 5 ((l39_38 5) ||| ((1 : Int64) <<< ((nI i39).toInt64 &&& 63)))))) _
          refine am_F.ops (pc' := 169) (L' := [.ref 38, .long lost, am_un, .ref 48, .long (lost ||| (g 48 6)), am_un, .int (nI i39), .int (f 54 i39), .int (am_b (if 0 ≤ (f 54 i39) then (fn_hasLong (l39_38 5) (f 54 i39)) else (fn_has (f 71 ((f 49 i39).toNatClampNeg)) (f 51 i39))))]) (S' := [.int (nI i39), .ref 51, .ref 43, .int (r39_72 ((f 50 i39).toNatClampNeg)), .int (f 50 i39), .ref 72]) (μ' := (am_S (am_row f 72 r39_72) (am_row g 38 (vp_updL l39_38 5 ((l39_38 5) ||| ((1 : Int64) <<< ((nI i39).toInt64 &&& 63))))))) 7 rfl ?_
          refine am_F.ialE (m := i39) (N := 40) rfl rfl rfl rfl (by omega) (by decide) ?_
          show am_F _ _ 170 [.ref 38, .long lost, am_un, .ref 48, .long (lost ||| (g 48 6)), am_un, .int (nI i39), .int (f 54 i39), .int (am_b (if 0 ≤ (f 54 i39) then (fn_hasLong (l39_38 5) (f 54 i39)) else (fn_has (f 71 ((f 49 i39).toNatClampNeg)) (f 51 i39))))] [.int (f 51 i39), .ref 43, .int (r39_72 ((f 50 i39).toNatClampNeg)), .int (f 50 i39), .ref 72] (am_S (am_row f 72 r39_72) (am_row g 38 (vp_updL l39_38 5 ((l39_38 5) ||| ((1 : Int64) <<< ((nI i39).toInt64 &&& 63)))))) _
          refine am_F.ial (N := 20) rfl rfl rfl (hLrK _ (by omega)) ?_
          show am_F _ _ 171 [.ref 38, .long lost, am_un, .ref 48, .long (lost ||| (g 48 6)), am_un, .int (nI i39), .int (f 54 i39), .int (am_b (if 0 ≤ (f 54 i39) then (fn_hasLong (l39_38 5) (f 54 i39)) else (fn_has (f 71 ((f 49 i39).toNatClampNeg)) (f 51 i39))))] [.int (f 43 ((f 51 i39).toNatClampNeg)), .int (r39_72 ((f 50 i39).toNatClampNeg)), .int (f 50 i39), .ref 72] (am_S (am_row f 72 r39_72) (am_row g 38 (vp_updL l39_38 5 ((l39_38 5) ||| ((1 : Int64) <<< ((nI i39).toInt64 &&& 63)))))) _
          refine am_F.ops (pc' := 172) (L' := [.ref 38, .long lost, am_un, .ref 48, .long (lost ||| (g 48 6)), am_un, .int (nI i39), .int (f 54 i39), .int (am_b (if 0 ≤ (f 54 i39) then (fn_hasLong (l39_38 5) (f 54 i39)) else (fn_has (f 71 ((f 49 i39).toNatClampNeg)) (f 51 i39))))]) (S' := [.int ((r39_72 ((f 50 i39).toNatClampNeg)) ||| (f 43 ((f 51 i39).toNatClampNeg))), .int (f 50 i39), .ref 72]) (μ' := (am_S (am_row f 72 r39_72) (am_row g 38 (vp_updL l39_38 5 ((l39_38 5) ||| ((1 : Int64) <<< ((nI i39).toInt64 &&& 63))))))) 1 rfl ?_
          refine am_F.ias (F' := (am_row f 72 (upd r39_72 ((f 50 i39).toNatClampNeg) ((r39_72 ((f 50 i39).toNatClampNeg)) ||| (f 43 ((f 51 i39).toNatClampNeg)))))) (N := 16) rfl rfl rfl (hLtK _ (by omega)) (by first | rfl | (funext a; by_cases z0 : a = 72; (subst z0; rfl); simp only [am_ui, am_ul, am_row_ne z0])) ?_
          refine am_F.ops (pc' := 39) (L' := [.ref 38, .long lost, am_un, .ref 48, .long (lost ||| (g 48 6)), am_un, .int ((nI i39) + 1), .int (f 54 i39), .int (am_b (if 0 ≤ (f 54 i39) then (fn_hasLong (l39_38 5) (f 54 i39)) else (fn_has (f 71 ((f 49 i39).toNatClampNeg)) (f 51 i39))))]) (S' := []) (μ' := (am_S (am_row f 72 (upd r39_72 ((f 50 i39).toNatClampNeg) ((r39_72 ((f 50 i39).toNatClampNeg)) ||| (f 43 ((f 51 i39).toNatClampNeg))))) (am_row g 38 (vp_updL l39_38 5 ((l39_38 5) ||| ((1 : Int64) <<< ((nI i39).toInt64 &&& 63))))))) 2 rfl ?_
          rw [nI_1 i39]
          subst hKd
          exact ih (i39 + 1) (upd r39_72 ((f 50 i39).toNatClampNeg) ((r39_72 ((f 50 i39).toNatClampNeg)) ||| (f 43 ((f 51 i39).toNatClampNeg)))) (vp_updL l39_38 5 ((l39_38 5) ||| ((1 : Int64) <<< ((nI i39).toInt64 &&& 63)))) (.int (f 54 i39)) (.int (am_b (if 0 ≤ (f 54 i39) then (fn_hasLong (l39_38 5) (f 54 i39)) else (fn_has (f 71 ((f 49 i39).toNatClampNeg)) (f 51 i39))))) (by omega)  hK
    · show am_F _ _ 173 [.ref 38, .long lost, am_un, .ref 48, .long (lost ||| (g 48 6)), am_un, .int (nI i39), .int (f 54 i39), .int (am_b (if 0 ≤ (f 54 i39) then (fn_hasLong (l39_38 5) (f 54 i39)) else (fn_has (f 71 ((f 49 i39).toNatClampNeg)) (f 51 i39))))] [] (am_S (am_row f 72 r39_72) (am_row g 38 l39_38)) _
      refine am_F.ops (pc' := 39) (L' := [.ref 38, .long lost, am_un, .ref 48, .long (lost ||| (g 48 6)), am_un, .int ((nI i39) + 1), .int (f 54 i39), .int (am_b (if 0 ≤ (f 54 i39) then (fn_hasLong (l39_38 5) (f 54 i39)) else (fn_has (f 71 ((f 49 i39).toNatClampNeg)) (f 51 i39))))]) (S' := []) (μ' := (am_S (am_row f 72 r39_72) (am_row g 38 l39_38))) 2 rfl ?_
      rw [nI_1 i39]
      subst hKd
      exact ih (i39 + 1) r39_72 l39_38 (.int (f 54 i39)) (.int (am_b (if 0 ≤ (f 54 i39) then (fn_hasLong (l39_38 5) (f 54 i39)) else (fn_has (f 71 ((f 49 i39).toNatClampNeg)) (f 51 i39))))) (by omega)  hK
theorem x_settleLoansK (lost : Int64) (f : Nat → Nat → Int32) (g : Nat → Nat → Int64) (hLcK : f 48 7 = nI (f 48 7).toNatClampNeg) (hLnK : (f 48 7).toNatClampNeg ≤ 40) (hLfK : ∀ i, i < (f 48 7).toNatClampNeg → am_inb (f 49 i) 16 = true) (hLtK : ∀ i, i < (f 48 7).toNatClampNeg → am_inb (f 50 i) 16 = true) (hLrK : ∀ i, i < (f 48 7).toNatClampNeg → am_inb (f 51 i) 20 = true) : am_D 1 28 9 [.ref 38, .long lost] (am_S f g) ((none : Option Value), am_S (am_row f 72 ((fn_settleLoansK lost f g).1)) (am_row g 38 ((fn_settleLoansK lost f g).2))) := by
  refine am_D.of (code := am_k_28) rfl (L0 := [.ref 38, .long lost, am_un, am_un, am_un, am_un, am_un, am_un, am_un]) rfl ?_
  generalize hres : ((none : Option Value), am_S (am_row f 72 ((fn_settleLoansK lost f g).1)) (am_row g 38 ((fn_settleLoansK lost f g).2))) = res
  obtain ⟨K, hKd⟩ : ∃ K : ((Nat → Int32) × (Nat → Int64)) → Prop, K = fun z => ((none : Option Value), am_S (am_row f 72 z.1) (am_row g 38 z.2)) = res := ⟨_, rfl⟩
  have hK : K (fn_settleLoansK lost f g) := by rw [hKd]; exact hres
  clear hres
  unfold fn_settleLoansK at hK
  refine am_F.ops (pc' := 12) (L' := [.ref 38, .long lost, am_un, am_un, am_un, am_un, am_un, am_un, am_un]) (S' := [.int 16, .int 0, .ref 72, .int 0, .ref 71]) (μ' := (am_S f g)) 7 rfl ?_
  refine am_F.cpyE (F' := (am_row f 72 (va_cpy (f 71) (f 72) 0 0 16))) (sp := 0) (dp := 0) (z := 16) (n0 := 16) (n1 := 16) rfl rfl rfl rfl rfl rfl rfl rfl (by omega) (by omega) (by decide) (by decide) (by first | rfl | (funext a; by_cases z0 : a = 72; (subst z0; rfl); simp only [am_ui, am_ul, am_row_ne z0])) ?_
  refine am_F.ops (pc' := 17) (L' := [.ref 38, .long lost, am_un, am_un, am_un, am_un, am_un, am_un, am_un]) (S' := [.long (0 : Int64), .ref 38]) (μ' := (am_S (am_row f 72 (va_cpy (f 71) (f 72) 0 0 16)) g)) 2 rfl ?_
  refine am_F.pfl (G' := (am_row g 38 (vp_updL (g 38) 5 (0 : Int64)))) rfl rfl (by first | rfl | (funext a; by_cases z0 : a = 38; (subst z0; rfl); simp only [am_ui, am_ul, am_row_ne z0])) ?_
  refine am_F.ops (pc' := 39) (L' := [.ref 38, .long lost, am_un, .ref 48, .long (lost ||| (g 48 6)), am_un, .int 0, am_un, am_un]) (S' := []) (μ' := (am_S (am_row f 72 (va_cpy (f 71) (f 72) 0 0 16)) (am_row g 38 (vp_updL (g 38) 5 (0 : Int64))))) 11 rfl ?_
  show am_F _ _ 39 [.ref 38, .long lost, am_un, .ref 48, .long (lost ||| (g 48 6)), am_un, .int (nI 0), am_un, am_un] [] (am_S (am_row f 72 (va_cpy (f 71) (f 72) 0 0 16)) (am_row g 38 (vp_updL (g 38) 5 (0 : Int64)))) _
  refine lp_settleLoansK_39 lost f g hLcK hLnK hLfK hLtK hLrK _ ((f 48 7).toNatClampNeg) 0 (va_cpy (f 71) (f 72) 0 0 16) (vp_updL (g 38) 5 (0 : Int64)) am_un am_un (by omega)  ?_
  rw [show am_for (st_settleLoansK_39 lost f g) ((f 48 7).toNatClampNeg) 0 (va_cpy (f 71) (f 72) 0 0 16, vp_updL (g 38) 5 (0 : Int64)) = (lf_settleLoansK_39 lost f g) from rfl]
  generalize (lf_settleLoansK_39 lost f g) = z39_17 at hK ⊢
  intro wc w39_7 w39_8
  show am_F _ _ 179 [.ref 38, .long lost, am_un, .ref 48, .long (lost ||| (g 48 6)), am_un, wc, w39_7, w39_8] [] (am_S (am_row f 72 z39_17.1) (am_row g 38 z39_17.2)) _
  subst hKd
  exact am_F.eq (am_F.ret rfl rfl) hK
/-- AccessLattice$View.turnTo -/
def fn_turnToK (at9 : Int32) (f : Nat → Nat → Int32) (g : Nat → Nat → Int64) : (Nat → Int32) × (Nat → Int32) × (Nat → Int64) := (upd (upd (f 38) 7 at9) 6 (fn_timelyK at9 (am_row f 38 (upd (f 38) 7 at9))), (fn_settleLoansK (0 : Int64) (am_row f 38 (upd (upd (f 38) 7 at9) 6 (fn_timelyK at9 (am_row f 38 (upd (f 38) 7 at9))))) g).1, (fn_settleLoansK (0 : Int64) (am_row f 38 (upd (upd (f 38) 7 at9) 6 (fn_timelyK at9 (am_row f 38 (upd (f 38) 7 at9))))) g).2)
theorem x_turnToK (at9 : Int32) (f : Nat → Nat → Int32) (g : Nat → Nat → Int64) (hLcK : f 48 7 = nI (f 48 7).toNatClampNeg) (hLnK : (f 48 7).toNatClampNeg ≤ 40) (hLfK : ∀ i, i < (f 48 7).toNatClampNeg → am_inb (f 49 i) 16 = true) (hLtK : ∀ i, i < (f 48 7).toNatClampNeg → am_inb (f 50 i) 16 = true) (hLrK : ∀ i, i < (f 48 7).toNatClampNeg → am_inb (f 51 i) 20 = true) (hRcK : f 55 11 = nI (f 55 11).toNatClampNeg) (hRnK : (f 55 11).toNatClampNeg ≤ 30) : am_D 2 25 2 [.ref 38, .int at9] (am_S f g) ((none : Option Value), am_S (am_row (am_row f 38 ((fn_turnToK at9 f g).1)) 72 ((fn_turnToK at9 f g).2.1)) (am_row g 38 ((fn_turnToK at9 f g).2.2))) := by
  refine am_D.of (code := am_k_25) rfl (L0 := [.ref 38, .int at9]) rfl ?_
  generalize hres : ((none : Option Value), am_S (am_row (am_row f 38 ((fn_turnToK at9 f g).1)) 72 ((fn_turnToK at9 f g).2.1)) (am_row g 38 ((fn_turnToK at9 f g).2.2))) = res
  obtain ⟨K, hKd⟩ : ∃ K : ((Nat → Int32) × (Nat → Int32) × (Nat → Int64)) → Prop, K = fun z => ((none : Option Value), am_S (am_row (am_row f 38 z.1) 72 z.2.1) (am_row g 38 z.2.2)) = res := ⟨_, rfl⟩
  have hK : K (fn_turnToK at9 f g) := by rw [hKd]; exact hres
  clear hres
  unfold fn_turnToK at hK
  refine am_F.ops (pc' := 2) (L' := [.ref 38, .int at9]) (S' := [.int at9, .ref 38]) (μ' := (am_S f g)) 2 rfl ?_
  refine am_F.pfi (F' := (am_row f 38 (upd (f 38) 7 at9))) rfl rfl (by first | rfl | (funext a; by_cases z0 : a = 38; (subst z0; rfl); simp only [am_ui, am_ul, am_row_ne z0])) ?_
  refine am_F.ops (pc' := 14) (L' := [.ref 38, .int at9]) (S' := [.int at9, .ref 55, .ref 38]) (μ' := (am_S (am_row f 38 (upd (f 38) 7 at9)) g)) 5 rfl ?_
  refine am_F.call rfl rfl (x_timelyK at9 (am_row f 38 (upd (f 38) 7 at9)) g hRcK hRnK) (by decide) ?_
  show am_F _ _ 17 [.ref 38, .int at9] [.int (fn_timelyK at9 (am_row f 38 (upd (f 38) 7 at9))), .ref 38] (am_S (am_row f 38 (upd (f 38) 7 at9)) g) _
  refine am_F.pfi (F' := (am_row f 38 (upd (upd (f 38) 7 at9) 6 (fn_timelyK at9 (am_row f 38 (upd (f 38) 7 at9)))))) rfl rfl (by first | rfl | (funext a; by_cases z0 : a = 38; (subst z0; rfl); simp only [am_ui, am_ul, am_row_ne z0])) ?_
  refine am_F.ops (pc' := 22) (L' := [.ref 38, .int at9]) (S' := [.long (0 : Int64), .ref 38]) (μ' := (am_S (am_row f 38 (upd (upd (f 38) 7 at9) 6 (fn_timelyK at9 (am_row f 38 (upd (f 38) 7 at9))))) g)) 2 rfl ?_
  refine am_F.call rfl rfl (x_settleLoansK (0 : Int64) (am_row f 38 (upd (upd (f 38) 7 at9) 6 (fn_timelyK at9 (am_row f 38 (upd (f 38) 7 at9))))) g hLcK hLnK hLfK hLtK hLrK) (by decide) ?_
  obtain ⟨y1, hy1⟩ : ∃ z, (fn_settleLoansK (0 : Int64) (am_row f 38 (upd (upd (f 38) 7 at9) 6 (fn_timelyK at9 (am_row f 38 (upd (f 38) 7 at9))))) g) = z := ⟨_, rfl⟩
  (try rw [hy1] at hK)
  (try rw [hy1])
  refine am_F.mem (F' := (am_row (am_row f 38 (upd (upd (f 38) 7 at9) 6 (fn_timelyK at9 (am_row f 38 (upd (f 38) 7 at9))))) 72 y1.1)) (G' := (am_row g 38 y1.2)) ?_ (by first | rfl | (funext a; by_cases z0 : a = 38; (subst z0; rfl); by_cases z1 : a = 72; (subst z1; rfl); simp only [am_ui, am_ul, am_row_ne z0, am_row_ne z1])) (by first | rfl | (funext a; by_cases z0 : a = 38; (subst z0; rfl); by_cases z1 : a = 72; (subst z1; rfl); simp only [am_ui, am_ul, am_row_ne z0, am_row_ne z1]))
  show am_F _ _ 25 [.ref 38, .int at9] [] (am_S (am_row (am_row f 38 (upd (upd (f 38) 7 at9) 6 (fn_timelyK at9 (am_row f 38 (upd (f 38) 7 at9))))) 72 y1.1) (am_row g 38 y1.2)) _
  subst hKd
  exact am_F.eq (am_F.ret rfl rfl) hK
/-- AccessLattice$View.settle -/
def st_settleK_2 (f : Nat → Nat → Int32) : Nat → (Nat → Int32) → (Nat → Int32) := fun i2 r2_71 => (upd r2_71 i2 (fn_spreadK (f 67 i2) (am_row f 71 r2_71)))
def lf_settleK_2 (f : Nat → Nat → Int32) : (Nat → Int32) := am_for (st_settleK_2 f) 16 0 (f 71)
def fn_settleK (at9 : Int32) (f : Nat → Nat → Int32) (g : Nat → Nat → Int64) : (Nat → Int32) × (Nat → Int32) × (Nat → Int32) × (Nat → Int64) := ((fn_turnToK at9 (am_row f 71 (lf_settleK_2 f)) g).1, (lf_settleK_2 f), (fn_turnToK at9 (am_row f 71 (lf_settleK_2 f)) g).2.1, (fn_turnToK at9 (am_row f 71 (lf_settleK_2 f)) g).2.2)
theorem lp_settleK_2 (at9 : Int32) (f : Nat → Nat → Int32) (g : Nat → Nat → Int64) (hLcK : f 48 7 = nI (f 48 7).toNatClampNeg) (hLnK : (f 48 7).toNatClampNeg ≤ 40) (hLfK : ∀ i, i < (f 48 7).toNatClampNeg → am_inb (f 49 i) 16 = true) (hLtK : ∀ i, i < (f 48 7).toNatClampNeg → am_inb (f 50 i) 16 = true) (hLrK : ∀ i, i < (f 48 7).toNatClampNeg → am_inb (f 51 i) 20 = true) (hRcK : f 55 11 = nI (f 55 11).toNatClampNeg) (hRnK : (f 55 11).toNatClampNeg ≤ 30) (res : Option Value × am_M) : ∀ (n i2 : Nat) (r2_71 : Nat → Int32) , i2 + n = 16 → (fun (z : (Nat → Int32)) => ∀ (wc : Value), am_F 3 am_k_23 39 [.ref 38, .int at9, wc] [] (am_S (am_row f 71 z) g) res) (am_for (st_settleK_2 f) n i2 r2_71) → am_F 3 am_k_23 2 [.ref 38, .int at9, .int (nI i2)] [] (am_S (am_row f 71 r2_71) g) res := by
  intro n
  induction n with
  | zero =>
    intro i2 r2_71 hi hK
    refine am_F.pos 3 rfl (by show 16 ≤ nI i2; rw [show (16 : Int32) = nI 16 from rfl]; exact nI_le (by omega) (by omega)) ?_
    exact hK _
  | succ n ih =>
    intro i2 r2_71 hi hK
    refine am_F.neg 3 rfl (by show ¬ 16 ≤ nI i2; rw [show (16 : Int32) = nI 16 from rfl]; exact nI_ge (by omega) (by omega)) ?_
    have hb2 : i2 < 16 := by omega
    show am_F _ _ 8 [.ref 38, .int at9, .int (nI i2)] [] (am_S (am_row f 71 r2_71) g) _
    obtain ⟨K, hKd⟩ : ∃ K : ((Nat → Int32)) → Prop, K = fun s => (fun (z : (Nat → Int32)) => ∀ (wc : Value), am_F 3 am_k_23 39 [.ref 38, .int at9, wc] [] (am_S (am_row f 71 z) g) res) (am_for (st_settleK_2 f) n (i2 + 1) s) := ⟨_, rfl⟩
    have hK : K ((st_settleK_2 f) i2 r2_71) := by rw [hKd]; exact hK
    unfold st_settleK_2 at hK
    refine am_F.ops (pc' := 28) (L' := [.ref 38, .int at9, .int (nI i2)]) (S' := [.int (nI i2), .ref 67, .ref 40, .int (nI i2), .ref 71]) (μ' := (am_S (am_row f 71 r2_71) g)) 10 rfl ?_
    refine am_F.ialE (m := i2) (N := 16) rfl rfl rfl rfl (by omega) (by decide) ?_
    show am_F _ _ 29 [.ref 38, .int at9, .int (nI i2)] [.int (f 67 i2), .ref 40, .int (nI i2), .ref 71] (am_S (am_row f 71 r2_71) g) _
    refine am_F.call rfl rfl (x_spreadK (f 67 i2) (am_row f 71 r2_71) g ) (by decide) ?_
    show am_F _ _ 32 [.ref 38, .int at9, .int (nI i2)] [.int (fn_spreadK (f 67 i2) (am_row f 71 r2_71)), .int (nI i2), .ref 71] (am_S (am_row f 71 r2_71) g) _
    refine am_F.iasE (F' := (am_row f 71 (upd r2_71 i2 (fn_spreadK (f 67 i2) (am_row f 71 r2_71))))) (m := i2) (N := 16) rfl rfl rfl rfl (by omega) (by decide) (by first | rfl | (funext a; by_cases z0 : a = 71; (subst z0; rfl); simp only [am_ui, am_ul, am_row_ne z0])) ?_
    refine am_F.ops (pc' := 2) (L' := [.ref 38, .int at9, .int ((nI i2) + 1)]) (S' := []) (μ' := (am_S (am_row f 71 (upd r2_71 i2 (fn_spreadK (f 67 i2) (am_row f 71 r2_71)))) g)) 2 rfl ?_
    rw [nI_1 i2]
    subst hKd
    exact ih (i2 + 1) (upd r2_71 i2 (fn_spreadK (f 67 i2) (am_row f 71 r2_71))) (by omega)  hK
theorem x_settleK (at9 : Int32) (f : Nat → Nat → Int32) (g : Nat → Nat → Int64) (hLcK : f 48 7 = nI (f 48 7).toNatClampNeg) (hLnK : (f 48 7).toNatClampNeg ≤ 40) (hLfK : ∀ i, i < (f 48 7).toNatClampNeg → am_inb (f 49 i) 16 = true) (hLtK : ∀ i, i < (f 48 7).toNatClampNeg → am_inb (f 50 i) 16 = true) (hLrK : ∀ i, i < (f 48 7).toNatClampNeg → am_inb (f 51 i) 20 = true) (hRcK : f 55 11 = nI (f 55 11).toNatClampNeg) (hRnK : (f 55 11).toNatClampNeg ≤ 30) : am_D 3 23 3 [.ref 38, .int at9] (am_S f g) ((none : Option Value), am_S (am_row (am_row (am_row f 38 ((fn_settleK at9 f g).1)) 71 ((fn_settleK at9 f g).2.1)) 72 ((fn_settleK at9 f g).2.2.1)) (am_row g 38 ((fn_settleK at9 f g).2.2.2))) := by
  refine am_D.of (code := am_k_23) rfl (L0 := [.ref 38, .int at9, am_un]) rfl ?_
  generalize hres : ((none : Option Value), am_S (am_row (am_row (am_row f 38 ((fn_settleK at9 f g).1)) 71 ((fn_settleK at9 f g).2.1)) 72 ((fn_settleK at9 f g).2.2.1)) (am_row g 38 ((fn_settleK at9 f g).2.2.2))) = res
  obtain ⟨K, hKd⟩ : ∃ K : ((Nat → Int32) × (Nat → Int32) × (Nat → Int32) × (Nat → Int64)) → Prop, K = fun z => ((none : Option Value), am_S (am_row (am_row (am_row f 38 z.1) 71 z.2.1) 72 z.2.2.1) (am_row g 38 z.2.2.2)) = res := ⟨_, rfl⟩
  have hK : K (fn_settleK at9 f g) := by rw [hKd]; exact hres
  clear hres
  unfold fn_settleK at hK
  refine am_F.ops (pc' := 2) (L' := [.ref 38, .int at9, .int 0]) (S' := []) (μ' := (am_S f g)) 2 rfl ?_
  refine am_F.mem (F' := (am_row f 71 (f 71))) (G' := g) ?_ (by first | rfl | (funext a; by_cases z0 : a = 71; (subst z0; rfl); simp only [am_ui, am_ul, am_row_ne z0])) (by first | rfl | (funext a; by_cases z0 : a = 71; (subst z0; rfl); simp only [am_ui, am_ul, am_row_ne z0]))
  show am_F _ _ 2 [.ref 38, .int at9, .int (nI 0)] [] (am_S (am_row f 71 (f 71)) g) _
  refine lp_settleK_2 at9 f g hLcK hLnK hLfK hLtK hLrK hRcK hRnK _ 16 0 (f 71)  (by omega)  ?_
  rw [show am_for (st_settleK_2 f) 16 0 (f 71) = (lf_settleK_2 f) from rfl]
  generalize (lf_settleK_2 f) = z2_1 at hK ⊢
  intro wc
  show am_F _ _ 39 [.ref 38, .int at9, wc] [] (am_S (am_row f 71 z2_1) g) _
  refine am_F.ops (pc' := 41) (L' := [.ref 38, .int at9, wc]) (S' := [.int at9, .ref 38]) (μ' := (am_S (am_row f 71 z2_1) g)) 2 rfl ?_
  refine am_F.call rfl rfl (x_turnToK at9 (am_row f 71 z2_1) g hLcK hLnK hLfK hLtK hLrK hRcK hRnK) (by decide) ?_
  obtain ⟨y2, hy2⟩ : ∃ z, (fn_turnToK at9 (am_row f 71 z2_1) g) = z := ⟨_, rfl⟩
  (try rw [hy2] at hK)
  (try rw [hy2])
  refine am_F.mem (F' := (am_row (am_row (am_row f 38 y2.1) 71 z2_1) 72 y2.2.1)) (G' := (am_row g 38 y2.2.2)) ?_ (by first | rfl | (funext a; by_cases z0 : a = 38; (subst z0; rfl); by_cases z1 : a = 71; (subst z1; rfl); by_cases z2 : a = 72; (subst z2; rfl); simp only [am_ui, am_ul, am_row_ne z0, am_row_ne z1, am_row_ne z2])) (by first | rfl | (funext a; by_cases z0 : a = 38; (subst z0; rfl); by_cases z1 : a = 71; (subst z1; rfl); by_cases z2 : a = 72; (subst z2; rfl); simp only [am_ui, am_ul, am_row_ne z0, am_row_ne z1, am_row_ne z2]))
  show am_F _ _ 44 [.ref 38, .int at9, wc] [] (am_S (am_row (am_row (am_row f 38 y2.1) 71 z2_1) 72 y2.2.1) (am_row g 38 y2.2.2)) _
  subst hKd
  exact am_F.eq (am_F.ret rfl rfl) hK
/-- AccessLattice$View.isStanding -/
def fn_isStandingK (loan : Int32) (g : Nat → Nat → Int64) : Bool := (fn_hasLong (g 38 5) loan)
theorem x_isStandingK (loan : Int32) (f : Nat → Nat → Int32) (g : Nat → Nat → Int64)  : am_D 1 39 2 [.ref 38, .int loan] (am_S f g) (some (Value.int (am_b (fn_isStandingK loan g))), am_S f g) := by
  refine am_D.of (code := am_k_39) rfl (L0 := [.ref 38, .int loan]) rfl ?_
  generalize hres : (some (Value.int (am_b (fn_isStandingK loan g))), am_S f g) = res
  obtain ⟨K, hKd⟩ : ∃ K : Bool → Prop, K = fun z => (some (Value.int (am_b z)), am_S f g) = res := ⟨_, rfl⟩
  have hK : K (fn_isStandingK loan g) := by rw [hKd]; exact hres
  clear hres
  unfold fn_isStandingK at hK
  refine am_F.ops (pc' := 5) (L' := [.ref 38, .int loan]) (S' := [.int loan, .long (g 38 5)]) (μ' := (am_S f g)) 3 rfl ?_
  refine am_F.call rfl rfl (x_hasLong (g 38 5) loan f g ) (by decide) ?_
  show am_F _ _ 8 [.ref 38, .int loan] [.int (am_b (fn_hasLong (g 38 5) loan))] (am_S f g) _
  subst hKd
  exact am_F.eq (am_F.ret rfl (am_retB _ _)) hK
/-- AccessLattice$View.rulesOn -/
def st_rulesOnK_14 (act : Int32) (thing : Nat) (f : Nat → Nat → Int32) : Nat → Int32 → Int32 := fun i14 a14_4 => (bif (fn_has (f 38 6) (nI i14)) then (bif (fn_has (f 57 i14) act) then (if (fn_stepsUpK thing (f 58 i14) f) = 0 then (a14_4 ||| (1 <<< ((nI i14) &&& 31))) else (if (fn_stepsUpK thing (f 58 i14) f) ≤ 0 then a14_4 else (bif (fn_has (f 55 10) (nI i14)) then (a14_4 ||| (1 <<< ((nI i14) &&& 31))) else a14_4))) else a14_4) else a14_4)
def lf_rulesOnK_14 (act : Int32) (thing : Nat) (f : Nat → Nat → Int32) : Int32 := am_for (st_rulesOnK_14 act thing f) ((f 55 11).toNatClampNeg) 0 0
def fn_rulesOnK (act : Int32) (thing : Nat) (f : Nat → Nat → Int32) : Int32 := (lf_rulesOnK_14 act thing f)
theorem lp_rulesOnK_14 (act : Int32) (thing : Nat) (f : Nat → Nat → Int32) (g : Nat → Nat → Int64) (hRcK : f 55 11 = nI (f 55 11).toNatClampNeg) (hRnK : (f 55 11).toNatClampNeg ≤ 30) (hPaK : ∀ t, t < 16 → (f 66 t).toInt < 16) (hthing : thing < 16) (res : Option Value × am_M) : ∀ (n i14 : Nat) (a14_4 : Int32) (w14_6 : Value), i14 + n = (f 55 11).toNatClampNeg → (fun (z : Int32) => ∀ (wc : Value) (w14_6 : Value), am_F 1 am_k_77 103 [.ref 38, .int act, .int (nI thing), .ref 55, .int z, wc, w14_6] [] (am_S f g) res) (am_for (st_rulesOnK_14 act thing f) n i14 a14_4) → am_F 1 am_k_77 14 [.ref 38, .int act, .int (nI thing), .ref 55, .int a14_4, .int (nI i14), w14_6] [] (am_S f g) res := by
  intro n
  induction n with
  | zero =>
    intro i14 a14_4 w14_6 hi hK
    refine am_F.pos 4 rfl (by show (f 55 11) ≤ nI i14; rw [show (f 55 11 : Int32) = nI ((f 55 11).toNatClampNeg) from hRcK]; exact nI_le (by omega) (by omega)) ?_
    exact hK _ _
  | succ n ih =>
    intro i14 a14_4 w14_6 hi hK
    refine am_F.neg 4 rfl (by show ¬ (f 55 11) ≤ nI i14; rw [show (f 55 11 : Int32) = nI ((f 55 11).toNatClampNeg) from hRcK]; exact nI_ge (by omega) (by omega)) ?_
    have hb14 : i14 < (f 55 11).toNatClampNeg := by omega
    show am_F _ _ 23 [.ref 38, .int act, .int (nI thing), .ref 55, .int a14_4, .int (nI i14), w14_6] [] (am_S f g) _
    obtain ⟨K, hKd⟩ : ∃ K : (Int32) → Prop, K = fun s => (fun (z : Int32) => ∀ (wc : Value) (w14_6 : Value), am_F 1 am_k_77 103 [.ref 38, .int act, .int (nI thing), .ref 55, .int z, wc, w14_6] [] (am_S f g) res) (am_for (st_rulesOnK_14 act thing f) n (i14 + 1) s) := ⟨_, rfl⟩
    have hK : K ((st_rulesOnK_14 act thing f) i14 a14_4) := by rw [hKd]; exact hK
    unfold st_rulesOnK_14 at hK
    refine am_F.ops (pc' := 29) (L' := [.ref 38, .int act, .int (nI thing), .ref 55, .int a14_4, .int (nI i14), w14_6]) (S' := [.int (nI i14), .int (f 38 6)]) (μ' := (am_S f g)) 3 rfl ?_
    refine am_F.call rfl rfl (x_has (f 38 6) (nI i14) f g ) (by decide) ?_
    show am_F _ _ 32 [.ref 38, .int act, .int (nI thing), .ref 55, .int a14_4, .int (nI i14), w14_6] [.int (am_b (fn_has (f 38 6) (nI i14)))] (am_S f g) _
    refine am_F.bifK 1 rfl K hK (fun c3 hK => ?_) (fun c3 hK => ?_)
    · show am_F _ _ 35 [.ref 38, .int act, .int (nI thing), .ref 55, .int a14_4, .int (nI i14), w14_6] [] (am_S f g) _
      refine am_F.ops (pc' := 41) (L' := [.ref 38, .int act, .int (nI thing), .ref 55, .int a14_4, .int (nI i14), w14_6]) (S' := [.int (nI i14), .ref 57]) (μ' := (am_S f g)) 3 rfl ?_
      refine am_F.ialE (m := i14) (N := 30) rfl rfl rfl rfl (by omega) (by decide) ?_
      show am_F _ _ 42 [.ref 38, .int act, .int (nI thing), .ref 55, .int a14_4, .int (nI i14), w14_6] [.int (f 57 i14)] (am_S f g) _
      refine am_F.ops (pc' := 43) (L' := [.ref 38, .int act, .int (nI thing), .ref 55, .int a14_4, .int (nI i14), w14_6]) (S' := [.int act, .int (f 57 i14)]) (μ' := (am_S f g)) 1 rfl ?_
      refine am_F.call rfl rfl (x_has (f 57 i14) act f g ) (by decide) ?_
      show am_F _ _ 46 [.ref 38, .int act, .int (nI thing), .ref 55, .int a14_4, .int (nI i14), w14_6] [.int (am_b (fn_has (f 57 i14) act))] (am_S f g) _
      refine am_F.bifK 1 rfl K hK (fun c5 hK => ?_) (fun c5 hK => ?_)
      · show am_F _ _ 49 [.ref 38, .int act, .int (nI thing), .ref 55, .int a14_4, .int (nI i14), w14_6] [] (am_S f g) _
        refine am_F.ops (pc' := 60) (L' := [.ref 38, .int act, .int (nI thing), .ref 55, .int a14_4, .int (nI i14), w14_6]) (S' := [.int (nI i14), .ref 58, .int (nI thing), .ref 39]) (μ' := (am_S f g)) 6 rfl ?_
        refine am_F.ialE (m := i14) (N := 30) rfl rfl rfl rfl (by omega) (by decide) ?_
        show am_F _ _ 61 [.ref 38, .int act, .int (nI thing), .ref 55, .int a14_4, .int (nI i14), w14_6] [.int (f 58 i14), .int (nI thing), .ref 39] (am_S f g) _
        refine am_F.call rfl rfl (x_stepsUpK thing (f 58 i14) f g hPaK (by omega)) (by decide) ?_
        show am_F _ _ 64 [.ref 38, .int act, .int (nI thing), .ref 55, .int a14_4, .int (nI i14), w14_6] [.int (fn_stepsUpK thing (f 58 i14) f)] (am_S f g) _
        refine am_F.ops (pc' := 68) (L' := [.ref 38, .int act, .int (nI thing), .ref 55, .int a14_4, .int (nI i14), .int (fn_stepsUpK thing (f 58 i14) f)]) (S' := [.int (fn_stepsUpK thing (f 58 i14) f)]) (μ' := (am_S f g)) 2 rfl ?_
        refine am_F.iteK 1 rfl K hK (fun c7 hK => ?_) (fun c7 hK => ?_)
        · show am_F _ _ 88 [.ref 38, .int act, .int (nI thing), .ref 55, .int a14_4, .int (nI i14), .int (fn_stepsUpK thing (f 58 i14) f)] [] (am_S f g) _
          refine am_F.ops (pc' := 14) (L' := [.ref 38, .int act, .int (nI thing), .ref 55, .int (a14_4 ||| (1 <<< ((nI i14) &&& 31))), .int ((nI i14) + 1), .int (fn_stepsUpK thing (f 58 i14) f)]) (S' := []) (μ' := (am_S f g)) 8 rfl ?_
          rw [nI_1 i14]
          subst hKd
          exact ih (i14 + 1) (a14_4 ||| (1 <<< ((nI i14) &&& 31))) (.int (fn_stepsUpK thing (f 58 i14) f)) (by omega)  hK
        · show am_F _ _ 71 [.ref 38, .int act, .int (nI thing), .ref 55, .int a14_4, .int (nI i14), .int (fn_stepsUpK thing (f 58 i14) f)] [] (am_S f g) _
          refine am_F.ops (pc' := 73) (L' := [.ref 38, .int act, .int (nI thing), .ref 55, .int a14_4, .int (nI i14), .int (fn_stepsUpK thing (f 58 i14) f)]) (S' := [.int (fn_stepsUpK thing (f 58 i14) f)]) (μ' := (am_S f g)) 1 rfl ?_
          refine am_F.iteK 1 rfl K hK (fun c9 hK => ?_) (fun c9 hK => ?_)
          · show am_F _ _ 97 [.ref 38, .int act, .int (nI thing), .ref 55, .int a14_4, .int (nI i14), .int (fn_stepsUpK thing (f 58 i14) f)] [] (am_S f g) _
            refine am_F.ops (pc' := 14) (L' := [.ref 38, .int act, .int (nI thing), .ref 55, .int a14_4, .int ((nI i14) + 1), .int (fn_stepsUpK thing (f 58 i14) f)]) (S' := []) (μ' := (am_S f g)) 2 rfl ?_
            rw [nI_1 i14]
            subst hKd
            exact ih (i14 + 1) a14_4 (.int (fn_stepsUpK thing (f 58 i14) f)) (by omega)  hK
          · show am_F _ _ 76 [.ref 38, .int act, .int (nI thing), .ref 55, .int a14_4, .int (nI i14), .int (fn_stepsUpK thing (f 58 i14) f)] [] (am_S f g) _
            refine am_F.ops (pc' := 82) (L' := [.ref 38, .int act, .int (nI thing), .ref 55, .int a14_4, .int (nI i14), .int (fn_stepsUpK thing (f 58 i14) f)]) (S' := [.int (nI i14), .int (f 55 10)]) (μ' := (am_S f g)) 3 rfl ?_
            refine am_F.call rfl rfl (x_has (f 55 10) (nI i14) f g ) (by decide) ?_
            show am_F _ _ 85 [.ref 38, .int act, .int (nI thing), .ref 55, .int a14_4, .int (nI i14), .int (fn_stepsUpK thing (f 58 i14) f)] [.int (am_b (fn_has (f 55 10) (nI i14)))] (am_S f g) _
            refine am_F.bifK 1 rfl K hK (fun c11 hK => ?_) (fun c11 hK => ?_)
            · show am_F _ _ 88 [.ref 38, .int act, .int (nI thing), .ref 55, .int a14_4, .int (nI i14), .int (fn_stepsUpK thing (f 58 i14) f)] [] (am_S f g) _
              refine am_F.ops (pc' := 14) (L' := [.ref 38, .int act, .int (nI thing), .ref 55, .int (a14_4 ||| (1 <<< ((nI i14) &&& 31))), .int ((nI i14) + 1), .int (fn_stepsUpK thing (f 58 i14) f)]) (S' := []) (μ' := (am_S f g)) 8 rfl ?_
              rw [nI_1 i14]
              subst hKd
              exact ih (i14 + 1) (a14_4 ||| (1 <<< ((nI i14) &&& 31))) (.int (fn_stepsUpK thing (f 58 i14) f)) (by omega)  hK
            · show am_F _ _ 97 [.ref 38, .int act, .int (nI thing), .ref 55, .int a14_4, .int (nI i14), .int (fn_stepsUpK thing (f 58 i14) f)] [] (am_S f g) _
              refine am_F.ops (pc' := 14) (L' := [.ref 38, .int act, .int (nI thing), .ref 55, .int a14_4, .int ((nI i14) + 1), .int (fn_stepsUpK thing (f 58 i14) f)]) (S' := []) (μ' := (am_S f g)) 2 rfl ?_
              rw [nI_1 i14]
              subst hKd
              exact ih (i14 + 1) a14_4 (.int (fn_stepsUpK thing (f 58 i14) f)) (by omega)  hK
      · show am_F _ _ 97 [.ref 38, .int act, .int (nI thing), .ref 55, .int a14_4, .int (nI i14), w14_6] [] (am_S f g) _
        refine am_F.ops (pc' := 14) (L' := [.ref 38, .int act, .int (nI thing), .ref 55, .int a14_4, .int ((nI i14) + 1), w14_6]) (S' := []) (μ' := (am_S f g)) 2 rfl ?_
        rw [nI_1 i14]
        subst hKd
        exact ih (i14 + 1) a14_4 w14_6 (by omega)  hK
    · show am_F _ _ 97 [.ref 38, .int act, .int (nI thing), .ref 55, .int a14_4, .int (nI i14), w14_6] [] (am_S f g) _
      refine am_F.ops (pc' := 14) (L' := [.ref 38, .int act, .int (nI thing), .ref 55, .int a14_4, .int ((nI i14) + 1), w14_6]) (S' := []) (μ' := (am_S f g)) 2 rfl ?_
      rw [nI_1 i14]
      subst hKd
      exact ih (i14 + 1) a14_4 w14_6 (by omega)  hK
theorem x_rulesOnK (act : Int32) (thing : Nat) (f : Nat → Nat → Int32) (g : Nat → Nat → Int64) (hRcK : f 55 11 = nI (f 55 11).toNatClampNeg) (hRnK : (f 55 11).toNatClampNeg ≤ 30) (hPaK : ∀ t, t < 16 → (f 66 t).toInt < 16) (hthing : thing < 16) : am_D 1 77 7 [.ref 38, .int act, .int (nI thing)] (am_S f g) (some (Value.int (fn_rulesOnK act thing f)), am_S f g) := by
  refine am_D.of (code := am_k_77) rfl (L0 := [.ref 38, .int act, .int (nI thing), am_un, am_un, am_un, am_un]) rfl ?_
  generalize hres : (some (Value.int (fn_rulesOnK act thing f)), am_S f g) = res
  obtain ⟨K, hKd⟩ : ∃ K : Int32 → Prop, K = fun z => (some (Value.int z), am_S f g) = res := ⟨_, rfl⟩
  have hK : K (fn_rulesOnK act thing f) := by rw [hKd]; exact hres
  clear hres
  unfold fn_rulesOnK at hK
  refine am_F.ops (pc' := 14) (L' := [.ref 38, .int act, .int (nI thing), .ref 55, .int 0, .int 0, am_un]) (S' := []) (μ' := (am_S f g)) 8 rfl ?_
  show am_F _ _ 14 [.ref 38, .int act, .int (nI thing), .ref 55, .int 0, .int (nI 0), am_un] [] (am_S f g) _
  refine lp_rulesOnK_14 act thing f g hRcK hRnK hPaK hthing _ ((f 55 11).toNatClampNeg) 0 0 am_un (by omega)  ?_
  rw [show am_for (st_rulesOnK_14 act thing f) ((f 55 11).toNatClampNeg) 0 0 = (lf_rulesOnK_14 act thing f) from rfl]
  generalize (lf_rulesOnK_14 act thing f) = z14_12 at hK ⊢
  intro wc w14_6
  show am_F _ _ 103 [.ref 38, .int act, .int (nI thing), .ref 55, .int z14_12, wc, w14_6] [] (am_S f g) _
  refine am_F.ops (pc' := 105) (L' := [.ref 38, .int act, .int (nI thing), .ref 55, .int z14_12, wc, w14_6]) (S' := [.int z14_12]) (μ' := (am_S f g)) 1 rfl ?_
  subst hKd
  exact am_F.eq (am_F.ret rfl rfl) hK
/-- AccessLattice$Loans.copyFrom -/
def fn_copyLoansK (f : Nat → Nat → Int32) (g : Nat → Nat → Int64) : (Nat → Int32) × (Nat → Int32) × (Nat → Int32) × (Nat → Int32) × (Nat → Int32) × (Nat → Int32) × (Nat → Int32) × (Nat → Int64) := (upd (f 48) 7 (f 11 7), va_cpy (f 12) (f 49) 0 0 40, va_cpy (f 13) (f 50) 0 0 40, va_cpy (f 14) (f 51) 0 0 40, va_cpy (f 15) (f 52) 0 0 40, va_cpy (f 16) (f 53) 0 0 40, va_cpy (f 17) (f 54) 0 0 40, vp_updL (g 48) 6 (g 11 6))
theorem x_copyLoansK (f : Nat → Nat → Int32) (g : Nat → Nat → Int64)  : am_D 0 139 2 [.ref 48, .ref 11] (am_S f g) ((none : Option Value), am_S (am_row (am_row (am_row (am_row (am_row (am_row (am_row f 48 ((fn_copyLoansK f g).1)) 49 ((fn_copyLoansK f g).2.1)) 50 ((fn_copyLoansK f g).2.2.1)) 51 ((fn_copyLoansK f g).2.2.2.1)) 52 ((fn_copyLoansK f g).2.2.2.2.1)) 53 ((fn_copyLoansK f g).2.2.2.2.2.1)) 54 ((fn_copyLoansK f g).2.2.2.2.2.2.1)) (am_row g 48 ((fn_copyLoansK f g).2.2.2.2.2.2.2))) := by
  refine am_D.of (code := am_k_139) rfl (L0 := [.ref 48, .ref 11]) rfl ?_
  generalize hres : ((none : Option Value), am_S (am_row (am_row (am_row (am_row (am_row (am_row (am_row f 48 ((fn_copyLoansK f g).1)) 49 ((fn_copyLoansK f g).2.1)) 50 ((fn_copyLoansK f g).2.2.1)) 51 ((fn_copyLoansK f g).2.2.2.1)) 52 ((fn_copyLoansK f g).2.2.2.2.1)) 53 ((fn_copyLoansK f g).2.2.2.2.2.1)) 54 ((fn_copyLoansK f g).2.2.2.2.2.2.1)) (am_row g 48 ((fn_copyLoansK f g).2.2.2.2.2.2.2))) = res
  obtain ⟨K, hKd⟩ : ∃ K : ((Nat → Int32) × (Nat → Int32) × (Nat → Int32) × (Nat → Int32) × (Nat → Int32) × (Nat → Int32) × (Nat → Int32) × (Nat → Int64)) → Prop, K = fun z => ((none : Option Value), am_S (am_row (am_row (am_row (am_row (am_row (am_row (am_row f 48 z.1) 49 z.2.1) 50 z.2.2.1) 51 z.2.2.2.1) 52 z.2.2.2.2.1) 53 z.2.2.2.2.2.1) 54 z.2.2.2.2.2.2.1) (am_row g 48 z.2.2.2.2.2.2.2)) = res := ⟨_, rfl⟩
  have hK : K (fn_copyLoansK f g) := by rw [hKd]; exact hres
  clear hres
  unfold fn_copyLoansK at hK
  refine am_F.ops (pc' := 12) (L' := [.ref 48, .ref 11]) (S' := [.int 40, .int 0, .ref 49, .int 0, .ref 12]) (μ' := (am_S f g)) 7 rfl ?_
  refine am_F.cpyE (F' := (am_row f 49 (va_cpy (f 12) (f 49) 0 0 40))) (sp := 0) (dp := 0) (z := 40) (n0 := 40) (n1 := 40) rfl rfl rfl rfl rfl rfl rfl rfl (by omega) (by omega) (by decide) (by decide) (by first | rfl | (funext a; by_cases z0 : a = 49; (subst z0; rfl); simp only [am_ui, am_ul, am_row_ne z0])) ?_
  refine am_F.ops (pc' := 27) (L' := [.ref 48, .ref 11]) (S' := [.int 40, .int 0, .ref 50, .int 0, .ref 13]) (μ' := (am_S (am_row f 49 (va_cpy (f 12) (f 49) 0 0 40)) g)) 7 rfl ?_
  refine am_F.cpyE (F' := (am_row (am_row f 49 (va_cpy (f 12) (f 49) 0 0 40)) 50 (va_cpy (f 13) (f 50) 0 0 40))) (sp := 0) (dp := 0) (z := 40) (n0 := 40) (n1 := 40) rfl rfl rfl rfl rfl rfl rfl rfl (by omega) (by omega) (by decide) (by decide) (by first | rfl | (funext a; by_cases z0 : a = 49; (subst z0; rfl); by_cases z1 : a = 50; (subst z1; rfl); simp only [am_ui, am_ul, am_row_ne z0, am_row_ne z1])) ?_
  refine am_F.ops (pc' := 42) (L' := [.ref 48, .ref 11]) (S' := [.int 40, .int 0, .ref 51, .int 0, .ref 14]) (μ' := (am_S (am_row (am_row f 49 (va_cpy (f 12) (f 49) 0 0 40)) 50 (va_cpy (f 13) (f 50) 0 0 40)) g)) 7 rfl ?_
  refine am_F.cpyE (F' := (am_row (am_row (am_row f 49 (va_cpy (f 12) (f 49) 0 0 40)) 50 (va_cpy (f 13) (f 50) 0 0 40)) 51 (va_cpy (f 14) (f 51) 0 0 40))) (sp := 0) (dp := 0) (z := 40) (n0 := 40) (n1 := 40) rfl rfl rfl rfl rfl rfl rfl rfl (by omega) (by omega) (by decide) (by decide) (by first | rfl | (funext a; by_cases z0 : a = 49; (subst z0; rfl); by_cases z1 : a = 50; (subst z1; rfl); by_cases z2 : a = 51; (subst z2; rfl); simp only [am_ui, am_ul, am_row_ne z0, am_row_ne z1, am_row_ne z2])) ?_
  refine am_F.ops (pc' := 57) (L' := [.ref 48, .ref 11]) (S' := [.int 40, .int 0, .ref 52, .int 0, .ref 15]) (μ' := (am_S (am_row (am_row (am_row f 49 (va_cpy (f 12) (f 49) 0 0 40)) 50 (va_cpy (f 13) (f 50) 0 0 40)) 51 (va_cpy (f 14) (f 51) 0 0 40)) g)) 7 rfl ?_
  refine am_F.cpyE (F' := (am_row (am_row (am_row (am_row f 49 (va_cpy (f 12) (f 49) 0 0 40)) 50 (va_cpy (f 13) (f 50) 0 0 40)) 51 (va_cpy (f 14) (f 51) 0 0 40)) 52 (va_cpy (f 15) (f 52) 0 0 40))) (sp := 0) (dp := 0) (z := 40) (n0 := 40) (n1 := 40) rfl rfl rfl rfl rfl rfl rfl rfl (by omega) (by omega) (by decide) (by decide) (by first | rfl | (funext a; by_cases z0 : a = 49; (subst z0; rfl); by_cases z1 : a = 50; (subst z1; rfl); by_cases z2 : a = 51; (subst z2; rfl); by_cases z3 : a = 52; (subst z3; rfl); simp only [am_ui, am_ul, am_row_ne z0, am_row_ne z1, am_row_ne z2, am_row_ne z3])) ?_
  refine am_F.ops (pc' := 72) (L' := [.ref 48, .ref 11]) (S' := [.int 40, .int 0, .ref 53, .int 0, .ref 16]) (μ' := (am_S (am_row (am_row (am_row (am_row f 49 (va_cpy (f 12) (f 49) 0 0 40)) 50 (va_cpy (f 13) (f 50) 0 0 40)) 51 (va_cpy (f 14) (f 51) 0 0 40)) 52 (va_cpy (f 15) (f 52) 0 0 40)) g)) 7 rfl ?_
  refine am_F.cpyE (F' := (am_row (am_row (am_row (am_row (am_row f 49 (va_cpy (f 12) (f 49) 0 0 40)) 50 (va_cpy (f 13) (f 50) 0 0 40)) 51 (va_cpy (f 14) (f 51) 0 0 40)) 52 (va_cpy (f 15) (f 52) 0 0 40)) 53 (va_cpy (f 16) (f 53) 0 0 40))) (sp := 0) (dp := 0) (z := 40) (n0 := 40) (n1 := 40) rfl rfl rfl rfl rfl rfl rfl rfl (by omega) (by omega) (by decide) (by decide) (by first | rfl | (funext a; by_cases z0 : a = 49; (subst z0; rfl); by_cases z1 : a = 50; (subst z1; rfl); by_cases z2 : a = 51; (subst z2; rfl); by_cases z3 : a = 52; (subst z3; rfl); by_cases z4 : a = 53; (subst z4; rfl); simp only [am_ui, am_ul, am_row_ne z0, am_row_ne z1, am_row_ne z2, am_row_ne z3, am_row_ne z4])) ?_
  refine am_F.ops (pc' := 87) (L' := [.ref 48, .ref 11]) (S' := [.int 40, .int 0, .ref 54, .int 0, .ref 17]) (μ' := (am_S (am_row (am_row (am_row (am_row (am_row f 49 (va_cpy (f 12) (f 49) 0 0 40)) 50 (va_cpy (f 13) (f 50) 0 0 40)) 51 (va_cpy (f 14) (f 51) 0 0 40)) 52 (va_cpy (f 15) (f 52) 0 0 40)) 53 (va_cpy (f 16) (f 53) 0 0 40)) g)) 7 rfl ?_
  refine am_F.cpyE (F' := (am_row (am_row (am_row (am_row (am_row (am_row f 49 (va_cpy (f 12) (f 49) 0 0 40)) 50 (va_cpy (f 13) (f 50) 0 0 40)) 51 (va_cpy (f 14) (f 51) 0 0 40)) 52 (va_cpy (f 15) (f 52) 0 0 40)) 53 (va_cpy (f 16) (f 53) 0 0 40)) 54 (va_cpy (f 17) (f 54) 0 0 40))) (sp := 0) (dp := 0) (z := 40) (n0 := 40) (n1 := 40) rfl rfl rfl rfl rfl rfl rfl rfl (by omega) (by omega) (by decide) (by decide) (by first | rfl | (funext a; by_cases z0 : a = 49; (subst z0; rfl); by_cases z1 : a = 50; (subst z1; rfl); by_cases z2 : a = 51; (subst z2; rfl); by_cases z3 : a = 52; (subst z3; rfl); by_cases z4 : a = 53; (subst z4; rfl); by_cases z5 : a = 54; (subst z5; rfl); simp only [am_ui, am_ul, am_row_ne z0, am_row_ne z1, am_row_ne z2, am_row_ne z3, am_row_ne z4, am_row_ne z5])) ?_
  refine am_F.ops (pc' := 95) (L' := [.ref 48, .ref 11]) (S' := [.long (g 11 6), .ref 48]) (μ' := (am_S (am_row (am_row (am_row (am_row (am_row (am_row f 49 (va_cpy (f 12) (f 49) 0 0 40)) 50 (va_cpy (f 13) (f 50) 0 0 40)) 51 (va_cpy (f 14) (f 51) 0 0 40)) 52 (va_cpy (f 15) (f 52) 0 0 40)) 53 (va_cpy (f 16) (f 53) 0 0 40)) 54 (va_cpy (f 17) (f 54) 0 0 40)) g)) 3 rfl ?_
  refine am_F.pfl (G' := (am_row g 48 (vp_updL (g 48) 6 (g 11 6)))) rfl rfl (by first | rfl | (funext a; by_cases z0 : a = 48; (subst z0; rfl); simp only [am_ui, am_ul, am_row_ne z0])) ?_
  refine am_F.ops (pc' := 103) (L' := [.ref 48, .ref 11]) (S' := [.int (f 11 7), .ref 48]) (μ' := (am_S (am_row (am_row (am_row (am_row (am_row (am_row f 49 (va_cpy (f 12) (f 49) 0 0 40)) 50 (va_cpy (f 13) (f 50) 0 0 40)) 51 (va_cpy (f 14) (f 51) 0 0 40)) 52 (va_cpy (f 15) (f 52) 0 0 40)) 53 (va_cpy (f 16) (f 53) 0 0 40)) 54 (va_cpy (f 17) (f 54) 0 0 40)) (am_row g 48 (vp_updL (g 48) 6 (g 11 6))))) 3 rfl ?_
  refine am_F.pfi (F' := (am_row (am_row (am_row (am_row (am_row (am_row (am_row f 48 (upd (f 48) 7 (f 11 7))) 49 (va_cpy (f 12) (f 49) 0 0 40)) 50 (va_cpy (f 13) (f 50) 0 0 40)) 51 (va_cpy (f 14) (f 51) 0 0 40)) 52 (va_cpy (f 15) (f 52) 0 0 40)) 53 (va_cpy (f 16) (f 53) 0 0 40)) 54 (va_cpy (f 17) (f 54) 0 0 40))) rfl rfl (by first | rfl | (funext a; by_cases z0 : a = 48; (subst z0; rfl); by_cases z1 : a = 49; (subst z1; rfl); by_cases z2 : a = 50; (subst z2; rfl); by_cases z3 : a = 51; (subst z3; rfl); by_cases z4 : a = 52; (subst z4; rfl); by_cases z5 : a = 53; (subst z5; rfl); by_cases z6 : a = 54; (subst z6; rfl); simp only [am_ui, am_ul, am_row_ne z0, am_row_ne z1, am_row_ne z2, am_row_ne z3, am_row_ne z4, am_row_ne z5, am_row_ne z6])) ?_
  subst hKd
  exact am_F.eq (am_F.ret rfl rfl) hK
/-- AccessLattice$Rules.copyFrom -/
def fn_copyRulesK (f : Nat → Nat → Int32) : (Nat → Int32) × (Nat → Int32) × (Nat → Int32) × (Nat → Int32) × (Nat → Int32) × (Nat → Int32) × (Nat → Int32) × (Nat → Int32) × (Nat → Int32) := (upd (upd (upd (upd (f 55) 8 (f 18 8)) 9 (f 18 9)) 10 (f 18 10)) 11 (f 18 11), va_cpy (f 19) (f 56) 0 0 30, va_cpy (f 20) (f 57) 0 0 30, va_cpy (f 21) (f 58) 0 0 30, va_cpy (f 22) (f 59) 0 0 30, va_cpy (f 23) (f 60) 0 0 30, va_cpy (f 24) (f 61) 0 0 30, va_cpy (f 25) (f 62) 0 0 30, va_cpy (f 26) (f 63) 0 0 2400)
theorem x_copyRulesK (f : Nat → Nat → Int32) (g : Nat → Nat → Int64)  : am_D 0 140 2 [.ref 55, .ref 18] (am_S f g) ((none : Option Value), am_S (am_row (am_row (am_row (am_row (am_row (am_row (am_row (am_row (am_row f 55 ((fn_copyRulesK f).1)) 56 ((fn_copyRulesK f).2.1)) 57 ((fn_copyRulesK f).2.2.1)) 58 ((fn_copyRulesK f).2.2.2.1)) 59 ((fn_copyRulesK f).2.2.2.2.1)) 60 ((fn_copyRulesK f).2.2.2.2.2.1)) 61 ((fn_copyRulesK f).2.2.2.2.2.2.1)) 62 ((fn_copyRulesK f).2.2.2.2.2.2.2.1)) 63 ((fn_copyRulesK f).2.2.2.2.2.2.2.2)) g) := by
  refine am_D.of (code := am_k_140) rfl (L0 := [.ref 55, .ref 18]) rfl ?_
  generalize hres : ((none : Option Value), am_S (am_row (am_row (am_row (am_row (am_row (am_row (am_row (am_row (am_row f 55 ((fn_copyRulesK f).1)) 56 ((fn_copyRulesK f).2.1)) 57 ((fn_copyRulesK f).2.2.1)) 58 ((fn_copyRulesK f).2.2.2.1)) 59 ((fn_copyRulesK f).2.2.2.2.1)) 60 ((fn_copyRulesK f).2.2.2.2.2.1)) 61 ((fn_copyRulesK f).2.2.2.2.2.2.1)) 62 ((fn_copyRulesK f).2.2.2.2.2.2.2.1)) 63 ((fn_copyRulesK f).2.2.2.2.2.2.2.2)) g) = res
  obtain ⟨K, hKd⟩ : ∃ K : ((Nat → Int32) × (Nat → Int32) × (Nat → Int32) × (Nat → Int32) × (Nat → Int32) × (Nat → Int32) × (Nat → Int32) × (Nat → Int32) × (Nat → Int32)) → Prop, K = fun z => ((none : Option Value), am_S (am_row (am_row (am_row (am_row (am_row (am_row (am_row (am_row (am_row f 55 z.1) 56 z.2.1) 57 z.2.2.1) 58 z.2.2.2.1) 59 z.2.2.2.2.1) 60 z.2.2.2.2.2.1) 61 z.2.2.2.2.2.2.1) 62 z.2.2.2.2.2.2.2.1) 63 z.2.2.2.2.2.2.2.2) g) = res := ⟨_, rfl⟩
  have hK : K (fn_copyRulesK f) := by rw [hKd]; exact hres
  clear hres
  unfold fn_copyRulesK at hK
  refine am_F.ops (pc' := 12) (L' := [.ref 55, .ref 18]) (S' := [.int 30, .int 0, .ref 56, .int 0, .ref 19]) (μ' := (am_S f g)) 7 rfl ?_
  refine am_F.cpyE (F' := (am_row f 56 (va_cpy (f 19) (f 56) 0 0 30))) (sp := 0) (dp := 0) (z := 30) (n0 := 30) (n1 := 30) rfl rfl rfl rfl rfl rfl rfl rfl (by omega) (by omega) (by decide) (by decide) (by first | rfl | (funext a; by_cases z0 : a = 56; (subst z0; rfl); simp only [am_ui, am_ul, am_row_ne z0])) ?_
  refine am_F.ops (pc' := 27) (L' := [.ref 55, .ref 18]) (S' := [.int 30, .int 0, .ref 57, .int 0, .ref 20]) (μ' := (am_S (am_row f 56 (va_cpy (f 19) (f 56) 0 0 30)) g)) 7 rfl ?_
  refine am_F.cpyE (F' := (am_row (am_row f 56 (va_cpy (f 19) (f 56) 0 0 30)) 57 (va_cpy (f 20) (f 57) 0 0 30))) (sp := 0) (dp := 0) (z := 30) (n0 := 30) (n1 := 30) rfl rfl rfl rfl rfl rfl rfl rfl (by omega) (by omega) (by decide) (by decide) (by first | rfl | (funext a; by_cases z0 : a = 56; (subst z0; rfl); by_cases z1 : a = 57; (subst z1; rfl); simp only [am_ui, am_ul, am_row_ne z0, am_row_ne z1])) ?_
  refine am_F.ops (pc' := 42) (L' := [.ref 55, .ref 18]) (S' := [.int 30, .int 0, .ref 58, .int 0, .ref 21]) (μ' := (am_S (am_row (am_row f 56 (va_cpy (f 19) (f 56) 0 0 30)) 57 (va_cpy (f 20) (f 57) 0 0 30)) g)) 7 rfl ?_
  refine am_F.cpyE (F' := (am_row (am_row (am_row f 56 (va_cpy (f 19) (f 56) 0 0 30)) 57 (va_cpy (f 20) (f 57) 0 0 30)) 58 (va_cpy (f 21) (f 58) 0 0 30))) (sp := 0) (dp := 0) (z := 30) (n0 := 30) (n1 := 30) rfl rfl rfl rfl rfl rfl rfl rfl (by omega) (by omega) (by decide) (by decide) (by first | rfl | (funext a; by_cases z0 : a = 56; (subst z0; rfl); by_cases z1 : a = 57; (subst z1; rfl); by_cases z2 : a = 58; (subst z2; rfl); simp only [am_ui, am_ul, am_row_ne z0, am_row_ne z1, am_row_ne z2])) ?_
  refine am_F.ops (pc' := 57) (L' := [.ref 55, .ref 18]) (S' := [.int 30, .int 0, .ref 59, .int 0, .ref 22]) (μ' := (am_S (am_row (am_row (am_row f 56 (va_cpy (f 19) (f 56) 0 0 30)) 57 (va_cpy (f 20) (f 57) 0 0 30)) 58 (va_cpy (f 21) (f 58) 0 0 30)) g)) 7 rfl ?_
  refine am_F.cpyE (F' := (am_row (am_row (am_row (am_row f 56 (va_cpy (f 19) (f 56) 0 0 30)) 57 (va_cpy (f 20) (f 57) 0 0 30)) 58 (va_cpy (f 21) (f 58) 0 0 30)) 59 (va_cpy (f 22) (f 59) 0 0 30))) (sp := 0) (dp := 0) (z := 30) (n0 := 30) (n1 := 30) rfl rfl rfl rfl rfl rfl rfl rfl (by omega) (by omega) (by decide) (by decide) (by first | rfl | (funext a; by_cases z0 : a = 56; (subst z0; rfl); by_cases z1 : a = 57; (subst z1; rfl); by_cases z2 : a = 58; (subst z2; rfl); by_cases z3 : a = 59; (subst z3; rfl); simp only [am_ui, am_ul, am_row_ne z0, am_row_ne z1, am_row_ne z2, am_row_ne z3])) ?_
  refine am_F.ops (pc' := 72) (L' := [.ref 55, .ref 18]) (S' := [.int 30, .int 0, .ref 60, .int 0, .ref 23]) (μ' := (am_S (am_row (am_row (am_row (am_row f 56 (va_cpy (f 19) (f 56) 0 0 30)) 57 (va_cpy (f 20) (f 57) 0 0 30)) 58 (va_cpy (f 21) (f 58) 0 0 30)) 59 (va_cpy (f 22) (f 59) 0 0 30)) g)) 7 rfl ?_
  refine am_F.cpyE (F' := (am_row (am_row (am_row (am_row (am_row f 56 (va_cpy (f 19) (f 56) 0 0 30)) 57 (va_cpy (f 20) (f 57) 0 0 30)) 58 (va_cpy (f 21) (f 58) 0 0 30)) 59 (va_cpy (f 22) (f 59) 0 0 30)) 60 (va_cpy (f 23) (f 60) 0 0 30))) (sp := 0) (dp := 0) (z := 30) (n0 := 30) (n1 := 30) rfl rfl rfl rfl rfl rfl rfl rfl (by omega) (by omega) (by decide) (by decide) (by first | rfl | (funext a; by_cases z0 : a = 56; (subst z0; rfl); by_cases z1 : a = 57; (subst z1; rfl); by_cases z2 : a = 58; (subst z2; rfl); by_cases z3 : a = 59; (subst z3; rfl); by_cases z4 : a = 60; (subst z4; rfl); simp only [am_ui, am_ul, am_row_ne z0, am_row_ne z1, am_row_ne z2, am_row_ne z3, am_row_ne z4])) ?_
  refine am_F.ops (pc' := 87) (L' := [.ref 55, .ref 18]) (S' := [.int 30, .int 0, .ref 61, .int 0, .ref 24]) (μ' := (am_S (am_row (am_row (am_row (am_row (am_row f 56 (va_cpy (f 19) (f 56) 0 0 30)) 57 (va_cpy (f 20) (f 57) 0 0 30)) 58 (va_cpy (f 21) (f 58) 0 0 30)) 59 (va_cpy (f 22) (f 59) 0 0 30)) 60 (va_cpy (f 23) (f 60) 0 0 30)) g)) 7 rfl ?_
  refine am_F.cpyE (F' := (am_row (am_row (am_row (am_row (am_row (am_row f 56 (va_cpy (f 19) (f 56) 0 0 30)) 57 (va_cpy (f 20) (f 57) 0 0 30)) 58 (va_cpy (f 21) (f 58) 0 0 30)) 59 (va_cpy (f 22) (f 59) 0 0 30)) 60 (va_cpy (f 23) (f 60) 0 0 30)) 61 (va_cpy (f 24) (f 61) 0 0 30))) (sp := 0) (dp := 0) (z := 30) (n0 := 30) (n1 := 30) rfl rfl rfl rfl rfl rfl rfl rfl (by omega) (by omega) (by decide) (by decide) (by first | rfl | (funext a; by_cases z0 : a = 56; (subst z0; rfl); by_cases z1 : a = 57; (subst z1; rfl); by_cases z2 : a = 58; (subst z2; rfl); by_cases z3 : a = 59; (subst z3; rfl); by_cases z4 : a = 60; (subst z4; rfl); by_cases z5 : a = 61; (subst z5; rfl); simp only [am_ui, am_ul, am_row_ne z0, am_row_ne z1, am_row_ne z2, am_row_ne z3, am_row_ne z4, am_row_ne z5])) ?_
  refine am_F.ops (pc' := 102) (L' := [.ref 55, .ref 18]) (S' := [.int 30, .int 0, .ref 62, .int 0, .ref 25]) (μ' := (am_S (am_row (am_row (am_row (am_row (am_row (am_row f 56 (va_cpy (f 19) (f 56) 0 0 30)) 57 (va_cpy (f 20) (f 57) 0 0 30)) 58 (va_cpy (f 21) (f 58) 0 0 30)) 59 (va_cpy (f 22) (f 59) 0 0 30)) 60 (va_cpy (f 23) (f 60) 0 0 30)) 61 (va_cpy (f 24) (f 61) 0 0 30)) g)) 7 rfl ?_
  refine am_F.cpyE (F' := (am_row (am_row (am_row (am_row (am_row (am_row (am_row f 56 (va_cpy (f 19) (f 56) 0 0 30)) 57 (va_cpy (f 20) (f 57) 0 0 30)) 58 (va_cpy (f 21) (f 58) 0 0 30)) 59 (va_cpy (f 22) (f 59) 0 0 30)) 60 (va_cpy (f 23) (f 60) 0 0 30)) 61 (va_cpy (f 24) (f 61) 0 0 30)) 62 (va_cpy (f 25) (f 62) 0 0 30))) (sp := 0) (dp := 0) (z := 30) (n0 := 30) (n1 := 30) rfl rfl rfl rfl rfl rfl rfl rfl (by omega) (by omega) (by decide) (by decide) (by first | rfl | (funext a; by_cases z0 : a = 56; (subst z0; rfl); by_cases z1 : a = 57; (subst z1; rfl); by_cases z2 : a = 58; (subst z2; rfl); by_cases z3 : a = 59; (subst z3; rfl); by_cases z4 : a = 60; (subst z4; rfl); by_cases z5 : a = 61; (subst z5; rfl); by_cases z6 : a = 62; (subst z6; rfl); simp only [am_ui, am_ul, am_row_ne z0, am_row_ne z1, am_row_ne z2, am_row_ne z3, am_row_ne z4, am_row_ne z5, am_row_ne z6])) ?_
  refine am_F.ops (pc' := 120) (L' := [.ref 55, .ref 18]) (S' := [.int 2400, .int 0, .ref 63, .int 0, .ref 26]) (μ' := (am_S (am_row (am_row (am_row (am_row (am_row (am_row (am_row f 56 (va_cpy (f 19) (f 56) 0 0 30)) 57 (va_cpy (f 20) (f 57) 0 0 30)) 58 (va_cpy (f 21) (f 58) 0 0 30)) 59 (va_cpy (f 22) (f 59) 0 0 30)) 60 (va_cpy (f 23) (f 60) 0 0 30)) 61 (va_cpy (f 24) (f 61) 0 0 30)) 62 (va_cpy (f 25) (f 62) 0 0 30)) g)) 9 rfl ?_
  refine am_F.cpyE (F' := (am_row (am_row (am_row (am_row (am_row (am_row (am_row (am_row f 56 (va_cpy (f 19) (f 56) 0 0 30)) 57 (va_cpy (f 20) (f 57) 0 0 30)) 58 (va_cpy (f 21) (f 58) 0 0 30)) 59 (va_cpy (f 22) (f 59) 0 0 30)) 60 (va_cpy (f 23) (f 60) 0 0 30)) 61 (va_cpy (f 24) (f 61) 0 0 30)) 62 (va_cpy (f 25) (f 62) 0 0 30)) 63 (va_cpy (f 26) (f 63) 0 0 2400))) (sp := 0) (dp := 0) (z := 2400) (n0 := 2400) (n1 := 2400) rfl rfl rfl rfl rfl rfl rfl rfl (by omega) (by omega) (by decide) (by decide) (by first | rfl | (funext a; by_cases z0 : a = 56; (subst z0; rfl); by_cases z1 : a = 57; (subst z1; rfl); by_cases z2 : a = 58; (subst z2; rfl); by_cases z3 : a = 59; (subst z3; rfl); by_cases z4 : a = 60; (subst z4; rfl); by_cases z5 : a = 61; (subst z5; rfl); by_cases z6 : a = 62; (subst z6; rfl); by_cases z7 : a = 63; (subst z7; rfl); simp only [am_ui, am_ul, am_row_ne z0, am_row_ne z1, am_row_ne z2, am_row_ne z3, am_row_ne z4, am_row_ne z5, am_row_ne z6, am_row_ne z7])) ?_
  refine am_F.ops (pc' := 128) (L' := [.ref 55, .ref 18]) (S' := [.int (f 18 8), .ref 55]) (μ' := (am_S (am_row (am_row (am_row (am_row (am_row (am_row (am_row (am_row f 56 (va_cpy (f 19) (f 56) 0 0 30)) 57 (va_cpy (f 20) (f 57) 0 0 30)) 58 (va_cpy (f 21) (f 58) 0 0 30)) 59 (va_cpy (f 22) (f 59) 0 0 30)) 60 (va_cpy (f 23) (f 60) 0 0 30)) 61 (va_cpy (f 24) (f 61) 0 0 30)) 62 (va_cpy (f 25) (f 62) 0 0 30)) 63 (va_cpy (f 26) (f 63) 0 0 2400)) g)) 3 rfl ?_
  refine am_F.pfi (F' := (am_row (am_row (am_row (am_row (am_row (am_row (am_row (am_row (am_row f 55 (upd (f 55) 8 (f 18 8))) 56 (va_cpy (f 19) (f 56) 0 0 30)) 57 (va_cpy (f 20) (f 57) 0 0 30)) 58 (va_cpy (f 21) (f 58) 0 0 30)) 59 (va_cpy (f 22) (f 59) 0 0 30)) 60 (va_cpy (f 23) (f 60) 0 0 30)) 61 (va_cpy (f 24) (f 61) 0 0 30)) 62 (va_cpy (f 25) (f 62) 0 0 30)) 63 (va_cpy (f 26) (f 63) 0 0 2400))) rfl rfl (by first | rfl | (funext a; by_cases z0 : a = 55; (subst z0; rfl); by_cases z1 : a = 56; (subst z1; rfl); by_cases z2 : a = 57; (subst z2; rfl); by_cases z3 : a = 58; (subst z3; rfl); by_cases z4 : a = 59; (subst z4; rfl); by_cases z5 : a = 60; (subst z5; rfl); by_cases z6 : a = 61; (subst z6; rfl); by_cases z7 : a = 62; (subst z7; rfl); by_cases z8 : a = 63; (subst z8; rfl); simp only [am_ui, am_ul, am_row_ne z0, am_row_ne z1, am_row_ne z2, am_row_ne z3, am_row_ne z4, am_row_ne z5, am_row_ne z6, am_row_ne z7, am_row_ne z8])) ?_
  refine am_F.ops (pc' := 136) (L' := [.ref 55, .ref 18]) (S' := [.int (f 18 9), .ref 55]) (μ' := (am_S (am_row (am_row (am_row (am_row (am_row (am_row (am_row (am_row (am_row f 55 (upd (f 55) 8 (f 18 8))) 56 (va_cpy (f 19) (f 56) 0 0 30)) 57 (va_cpy (f 20) (f 57) 0 0 30)) 58 (va_cpy (f 21) (f 58) 0 0 30)) 59 (va_cpy (f 22) (f 59) 0 0 30)) 60 (va_cpy (f 23) (f 60) 0 0 30)) 61 (va_cpy (f 24) (f 61) 0 0 30)) 62 (va_cpy (f 25) (f 62) 0 0 30)) 63 (va_cpy (f 26) (f 63) 0 0 2400)) g)) 3 rfl ?_
  refine am_F.pfi (F' := (am_row (am_row (am_row (am_row (am_row (am_row (am_row (am_row (am_row f 55 (upd (upd (f 55) 8 (f 18 8)) 9 (f 18 9))) 56 (va_cpy (f 19) (f 56) 0 0 30)) 57 (va_cpy (f 20) (f 57) 0 0 30)) 58 (va_cpy (f 21) (f 58) 0 0 30)) 59 (va_cpy (f 22) (f 59) 0 0 30)) 60 (va_cpy (f 23) (f 60) 0 0 30)) 61 (va_cpy (f 24) (f 61) 0 0 30)) 62 (va_cpy (f 25) (f 62) 0 0 30)) 63 (va_cpy (f 26) (f 63) 0 0 2400))) rfl rfl (by first | rfl | (funext a; by_cases z0 : a = 55; (subst z0; rfl); by_cases z1 : a = 56; (subst z1; rfl); by_cases z2 : a = 57; (subst z2; rfl); by_cases z3 : a = 58; (subst z3; rfl); by_cases z4 : a = 59; (subst z4; rfl); by_cases z5 : a = 60; (subst z5; rfl); by_cases z6 : a = 61; (subst z6; rfl); by_cases z7 : a = 62; (subst z7; rfl); by_cases z8 : a = 63; (subst z8; rfl); simp only [am_ui, am_ul, am_row_ne z0, am_row_ne z1, am_row_ne z2, am_row_ne z3, am_row_ne z4, am_row_ne z5, am_row_ne z6, am_row_ne z7, am_row_ne z8])) ?_
  refine am_F.ops (pc' := 144) (L' := [.ref 55, .ref 18]) (S' := [.int (f 18 10), .ref 55]) (μ' := (am_S (am_row (am_row (am_row (am_row (am_row (am_row (am_row (am_row (am_row f 55 (upd (upd (f 55) 8 (f 18 8)) 9 (f 18 9))) 56 (va_cpy (f 19) (f 56) 0 0 30)) 57 (va_cpy (f 20) (f 57) 0 0 30)) 58 (va_cpy (f 21) (f 58) 0 0 30)) 59 (va_cpy (f 22) (f 59) 0 0 30)) 60 (va_cpy (f 23) (f 60) 0 0 30)) 61 (va_cpy (f 24) (f 61) 0 0 30)) 62 (va_cpy (f 25) (f 62) 0 0 30)) 63 (va_cpy (f 26) (f 63) 0 0 2400)) g)) 3 rfl ?_
  refine am_F.pfi (F' := (am_row (am_row (am_row (am_row (am_row (am_row (am_row (am_row (am_row f 55 (upd (upd (upd (f 55) 8 (f 18 8)) 9 (f 18 9)) 10 (f 18 10))) 56 (va_cpy (f 19) (f 56) 0 0 30)) 57 (va_cpy (f 20) (f 57) 0 0 30)) 58 (va_cpy (f 21) (f 58) 0 0 30)) 59 (va_cpy (f 22) (f 59) 0 0 30)) 60 (va_cpy (f 23) (f 60) 0 0 30)) 61 (va_cpy (f 24) (f 61) 0 0 30)) 62 (va_cpy (f 25) (f 62) 0 0 30)) 63 (va_cpy (f 26) (f 63) 0 0 2400))) rfl rfl (by first | rfl | (funext a; by_cases z0 : a = 55; (subst z0; rfl); by_cases z1 : a = 56; (subst z1; rfl); by_cases z2 : a = 57; (subst z2; rfl); by_cases z3 : a = 58; (subst z3; rfl); by_cases z4 : a = 59; (subst z4; rfl); by_cases z5 : a = 60; (subst z5; rfl); by_cases z6 : a = 61; (subst z6; rfl); by_cases z7 : a = 62; (subst z7; rfl); by_cases z8 : a = 63; (subst z8; rfl); simp only [am_ui, am_ul, am_row_ne z0, am_row_ne z1, am_row_ne z2, am_row_ne z3, am_row_ne z4, am_row_ne z5, am_row_ne z6, am_row_ne z7, am_row_ne z8])) ?_
  refine am_F.ops (pc' := 152) (L' := [.ref 55, .ref 18]) (S' := [.int (f 18 11), .ref 55]) (μ' := (am_S (am_row (am_row (am_row (am_row (am_row (am_row (am_row (am_row (am_row f 55 (upd (upd (upd (f 55) 8 (f 18 8)) 9 (f 18 9)) 10 (f 18 10))) 56 (va_cpy (f 19) (f 56) 0 0 30)) 57 (va_cpy (f 20) (f 57) 0 0 30)) 58 (va_cpy (f 21) (f 58) 0 0 30)) 59 (va_cpy (f 22) (f 59) 0 0 30)) 60 (va_cpy (f 23) (f 60) 0 0 30)) 61 (va_cpy (f 24) (f 61) 0 0 30)) 62 (va_cpy (f 25) (f 62) 0 0 30)) 63 (va_cpy (f 26) (f 63) 0 0 2400)) g)) 3 rfl ?_
  refine am_F.pfi (F' := (am_row (am_row (am_row (am_row (am_row (am_row (am_row (am_row (am_row f 55 (upd (upd (upd (upd (f 55) 8 (f 18 8)) 9 (f 18 9)) 10 (f 18 10)) 11 (f 18 11))) 56 (va_cpy (f 19) (f 56) 0 0 30)) 57 (va_cpy (f 20) (f 57) 0 0 30)) 58 (va_cpy (f 21) (f 58) 0 0 30)) 59 (va_cpy (f 22) (f 59) 0 0 30)) 60 (va_cpy (f 23) (f 60) 0 0 30)) 61 (va_cpy (f 24) (f 61) 0 0 30)) 62 (va_cpy (f 25) (f 62) 0 0 30)) 63 (va_cpy (f 26) (f 63) 0 0 2400))) rfl rfl (by first | rfl | (funext a; by_cases z0 : a = 55; (subst z0; rfl); by_cases z1 : a = 56; (subst z1; rfl); by_cases z2 : a = 57; (subst z2; rfl); by_cases z3 : a = 58; (subst z3; rfl); by_cases z4 : a = 59; (subst z4; rfl); by_cases z5 : a = 60; (subst z5; rfl); by_cases z6 : a = 61; (subst z6; rfl); by_cases z7 : a = 62; (subst z7; rfl); by_cases z8 : a = 63; (subst z8; rfl); simp only [am_ui, am_ul, am_row_ne z0, am_row_ne z1, am_row_ne z2, am_row_ne z3, am_row_ne z4, am_row_ne z5, am_row_ne z6, am_row_ne z7, am_row_ne z8])) ?_
  subst hKd
  exact am_F.eq (am_F.ret rfl rfl) hK
