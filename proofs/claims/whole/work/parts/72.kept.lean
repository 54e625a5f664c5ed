/-! the kept view (wip/whole/n6.py) -/
set_option linter.constructorNameAsVariable false
set_option linter.unusedVariables false
/-- AccessLattice$View.work -/
def fn_workK (code : Int32) (top : Int32) (f : Nat → Nat → Int32) : Int32 × (Nat → Int32) := (if 2000 ≤ code then (if (code - 2000) = 33 then (bif (fn_between top 1 80) then (top, upd (f 74) ((top - 1).toNatClampNeg) (if (code - 2000) = 126 then -(f 74 ((top - 1).toNatClampNeg)) else am_b (if (f 74 ((top - 1).toNatClampNeg)) = 0 then true else false))) else (top, f 74)) else (if (code - 2000) = 126 then (bif (fn_between top 1 80) then (top, upd (f 74) ((top - 1).toNatClampNeg) (if (code - 2000) = 126 then -(f 74 ((top - 1).toNatClampNeg)) else am_b (if (f 74 ((top - 1).toNatClampNeg)) = 0 then true else false))) else (top, f 74)) else (bif (fn_between top 2 80) then (top - 1, upd (f 74) ((top - 2).toNatClampNeg) (fn_combined (code - 2000) (f 74 ((top - 2).toNatClampNeg)) (f 74 ((top - 1).toNatClampNeg)))) else (top, f 74)))) else (if 80 ≤ top then ((if 80 < (top + 1) then 80 else (top + 1)), f 74) else ((if 80 < (top + 1) then 80 else (top + 1)), upd (f 74) top.toNatClampNeg (bif (fn_between code 1000 1010) then f 73 ((code - 1000).toNatClampNeg) else code))))
theorem x_workK (code : Int32) (top : Int32) (f : Nat → Nat → Int32) (g : Nat → Nat → Int64) (hT : 0 ≤ top.toInt ∧ top.toInt ≤ 80) : am_D 1 82 5 [.ref 38, .int code, .int top] (am_S f g) (some (Value.int ((fn_workK code top f).1)), am_S (am_row f 74 ((fn_workK code top f).2)) g) := by
  refine am_D.of (code := am_k_82) rfl (L0 := [.ref 38, .int code, .int top, am_un, am_un]) rfl ?_
  generalize hres : (some (Value.int ((fn_workK code top f).1)), am_S (am_row f 74 ((fn_workK code top f).2)) g) = res
  obtain ⟨K, hKd⟩ : ∃ K : (Int32 × (Nat → Int32)) → Prop, K = fun z => (some (Value.int z.1), am_S (am_row f 74 z.2) g) = res := ⟨_, rfl⟩
  have hK : K (fn_workK code top f) := by rw [hKd]; exact hres
  clear hres
  unfold fn_workK at hK
  refine am_F.ops (pc' := 4) (L' := [.ref 38, .int code, .int top, am_un, am_un]) (S' := [.int 2000, .int code]) (μ' := (am_S f g)) 2 rfl ?_
  refine am_F.iteK 1 rfl K hK (fun c1 hK => ?_) (fun c1 hK => ?_)
  · show am_F _ _ 63 [.ref 38, .int code, .int top, am_un, am_un] [] (am_S f g) _
    refine am_F.ops (pc' := 72) (L' := [.ref 38, .int code, .int top, .int (code - 2000), am_un]) (S' := [.int 33, .int (code - 2000)]) (μ' := (am_S f g)) 6 rfl ?_
    refine am_F.iteK 1 rfl K hK (fun c2 hK => ?_) (fun c2 hK => ?_)
    · show am_F _ _ 81 [.ref 38, .int code, .int top, .int (code - 2000), am_un] [] (am_S f g) _
      refine am_F.ops (pc' := 88) (L' := [.ref 38, .int code, .int top, .int (code - 2000), am_un]) (S' := [.int 80, .int 1, .int top]) (μ' := (am_S f g)) 5 rfl ?_
      refine am_F.call rfl rfl (x_between top 1 80 f g ) (by decide) ?_
      show am_F _ _ 91 [.ref 38, .int code, .int top, .int (code - 2000), am_un] [.int (am_b (fn_between top 1 80))] (am_S f g) _
      refine am_F.bifK 1 rfl K hK (fun c4 hK => ?_) (fun c4 hK => ?_)
      · show am_F _ _ 94 [.ref 38, .int code, .int top, .int (code - 2000), am_un] [] (am_S f g) _
        refine am_F.ops (pc' := 101) (L' := [.ref 38, .int code, .int top, .int (code - 2000), am_un]) (S' := [.int (top - 1), .ref 74]) (μ' := (am_S f g)) 5 rfl ?_
        refine am_F.ial (N := 80) rfl rfl rfl (am_inbT (by assumption) (by decide) (by decide) (by decide) (by decide)) ?_
        show am_F _ _ 102 [.ref 38, .int code, .int top, .int (code - 2000), am_un] [.int (f 74 ((top - 1).toNatClampNeg))] (am_S f g) _
        refine am_F.ops (pc' := 114) (L' := [.ref 38, .int code, .int top, .int (code - 2000), .int (f 74 ((top - 1).toNatClampNeg))]) (S' := [.int 126, .int (code - 2000), .int (top - 1), .ref 74]) (μ' := (am_S f g)) 8 rfl ?_
        refine am_F.to (am_To.ite (pc' := 133) (L2 := [.ref 38, .int code, .int top, .int (code - 2000), .int (f 74 ((top - 1).toNatClampNeg))]) (S2 := [.int (top - 1), .ref 74]) (μ2 := (am_S f g)) (a := -(f 74 ((top - 1).toNatClampNeg))) (b := am_b (if (f 74 ((top - 1).toNatClampNeg)) = 0 then true else false)) 1 rfl (fun c5 => ?_) (fun c5 => ?_)) ?_
        · intro res9 g9
          show am_F _ _ 117 [.ref 38, .int code, .int top, .int (code - 2000), .int (f 74 ((top - 1).toNatClampNeg))] [.int (top - 1), .ref 74] (am_S f g) _
          refine am_F.ops (pc' := 133) (L' := [.ref 38, .int code, .int top, .int (code - 2000), .int (f 74 ((top - 1).toNatClampNeg))]) (S' := [.int (-(f 74 ((top - 1).toNatClampNeg))), .int (top - 1), .ref 74]) (μ' := (am_S f g)) 3 rfl ?_
          exact g9
        · intro res9 g9
          show am_F _ _ 123 [.ref 38, .int code, .int top, .int (code - 2000), .int (f 74 ((top - 1).toNatClampNeg))] [.int (top - 1), .ref 74] (am_S f g) _
          refine am_F.ops (pc' := 125) (L' := [.ref 38, .int code, .int top, .int (code - 2000), .int (f 74 ((top - 1).toNatClampNeg))]) (S' := [.int (f 74 ((top - 1).toNatClampNeg)), .int (top - 1), .ref 74]) (μ' := (am_S f g)) 1 rfl ?_
          refine am_F.to (am_To.iteB (pc' := 133) (L2 := [.ref 38, .int code, .int top, .int (code - 2000), .int (f 74 ((top - 1).toNatClampNeg))]) (S2 := [.int (top - 1), .ref 74]) (μ2 := (am_S f g)) (a := true) (b := false) 1 rfl (fun c6 => ?_) (fun c6 => ?_)) g9
          · intro res9 g9
            show am_F _ _ 128 [.ref 38, .int code, .int top, .int (code - 2000), .int (f 74 ((top - 1).toNatClampNeg))] [.int (top - 1), .ref 74] (am_S f g) _
            refine am_F.ops (pc' := 133) (L' := [.ref 38, .int code, .int top, .int (code - 2000), .int (f 74 ((top - 1).toNatClampNeg))]) (S' := [.int 1, .int (top - 1), .ref 74]) (μ' := (am_S f g)) 2 rfl ?_
            exact g9
          · intro res9 g9
            show am_F _ _ 132 [.ref 38, .int code, .int top, .int (code - 2000), .int (f 74 ((top - 1).toNatClampNeg))] [.int (top - 1), .ref 74] (am_S f g) _
            refine am_F.ops (pc' := 133) (L' := [.ref 38, .int code, .int top, .int (code - 2000), .int (f 74 ((top - 1).toNatClampNeg))]) (S' := [.int 0, .int (top - 1), .ref 74]) (μ' := (am_S f g)) 1 rfl ?_
            exact g9
        show am_F _ _ 133 [.ref 38, .int code, .int top, .int (code - 2000), .int (f 74 ((top - 1).toNatClampNeg))] [.int (if (code - 2000) = 126 then -(f 74 ((top - 1).toNatClampNeg)) else am_b (if (f 74 ((top - 1).toNatClampNeg)) = 0 then true else false)), .int (top - 1), .ref 74] (am_S f g) _
        refine am_F.ias (F' := (am_row f 74 (upd (f 74) ((top - 1).toNatClampNeg) (if (code - 2000) = 126 then -(f 74 ((top - 1).toNatClampNeg)) else am_b (if (f 74 ((top - 1).toNatClampNeg)) = 0 then true else false))))) (N := 80) rfl rfl rfl (am_inbT (by assumption) (by decide) (by decide) (by decide) (by decide)) (by first | rfl | (funext a; by_cases z0 : a = 74; (subst z0; rfl); simp only [am_ui, am_ul, am_row_ne z0])) ?_
        refine am_F.ops (pc' := 135) (L' := [.ref 38, .int code, .int top, .int (code - 2000), .int (f 74 ((top - 1).toNatClampNeg))]) (S' := [.int top]) (μ' := (am_S (am_row f 74 (upd (f 74) ((top - 1).toNatClampNeg) (if (code - 2000) = 126 then -(f 74 ((top - 1).toNatClampNeg)) else am_b (if (f 74 ((top - 1).toNatClampNeg)) = 0 then true else false)))) g)) 1 rfl ?_
        subst hKd
        exact am_F.eq (am_F.ret rfl rfl) hK
      · show am_F _ _ 134 [.ref 38, .int code, .int top, .int (code - 2000), am_un] [] (am_S f g) _
        refine am_F.ops (pc' := 135) (L' := [.ref 38, .int code, .int top, .int (code - 2000), am_un]) (S' := [.int top]) (μ' := (am_S f g)) 1 rfl ?_
        refine am_F.mem (F' := (am_row f 74 (f 74))) (G' := g) ?_ (by first | rfl | (funext a; by_cases z0 : a = 74; (subst z0; rfl); simp only [am_ui, am_ul, am_row_ne z0])) (by first | rfl | (funext a; by_cases z0 : a = 74; (subst z0; rfl); simp only [am_ui, am_ul, am_row_ne z0]))
        subst hKd
        exact am_F.eq (am_F.ret rfl rfl) hK
    · show am_F _ _ 75 [.ref 38, .int code, .int top, .int (code - 2000), am_un] [] (am_S f g) _
      refine am_F.ops (pc' := 78) (L' := [.ref 38, .int code, .int top, .int (code - 2000), am_un]) (S' := [.int 126, .int (code - 2000)]) (μ' := (am_S f g)) 2 rfl ?_
      refine am_F.iteK 1 rfl K hK (fun c7 hK => ?_) (fun c7 hK => ?_)
      · show am_F _ _ 81 [.ref 38, .int code, .int top, .int (code - 2000), am_un] [] (am_S f g) _
        refine am_F.ops (pc' := 88) (L' := [.ref 38, .int code, .int top, .int (code - 2000), am_un]) (S' := [.int 80, .int 1, .int top]) (μ' := (am_S f g)) 5 rfl ?_
        refine am_F.call rfl rfl (x_between top 1 80 f g ) (by decide) ?_
        show am_F _ _ 91 [.ref 38, .int code, .int top, .int (code - 2000), am_un] [.int (am_b (fn_between top 1 80))] (am_S f g) _
        refine am_F.bifK 1 rfl K hK (fun c9 hK => ?_) (fun c9 hK => ?_)
        · show am_F _ _ 94 [.ref 38, .int code, .int top, .int (code - 2000), am_un] [] (am_S f g) _
          refine am_F.ops (pc' := 101) (L' := [.ref 38, .int code, .int top, .int (code - 2000), am_un]) (S' := [.int (top - 1), .ref 74]) (μ' := (am_S f g)) 5 rfl ?_
          refine am_F.ial (N := 80) rfl rfl rfl (am_inbT (by assumption) (by decide) (by decide) (by decide) (by decide)) ?_
          show am_F _ _ 102 [.ref 38, .int code, .int top, .int (code - 2000), am_un] [.int (f 74 ((top - 1).toNatClampNeg))] (am_S f g) _
          refine am_F.ops (pc' := 114) (L' := [.ref 38, .int code, .int top, .int (code - 2000), .int (f 74 ((top - 1).toNatClampNeg))]) (S' := [.int 126, .int (code - 2000), .int (top - 1), .ref 74]) (μ' := (am_S f g)) 8 rfl ?_
          refine am_F.to (am_To.ite (pc' := 133) (L2 := [.ref 38, .int code, .int top, .int (code - 2000), .int (f 74 ((top - 1).toNatClampNeg))]) (S2 := [.int (top - 1), .ref 74]) (μ2 := (am_S f g)) (a := -(f 74 ((top - 1).toNatClampNeg))) (b := am_b (if (f 74 ((top - 1).toNatClampNeg)) = 0 then true else false)) 1 rfl (fun c10 => ?_) (fun c10 => ?_)) ?_
          · intro res9 g9
            show am_F _ _ 117 [.ref 38, .int code, .int top, .int (code - 2000), .int (f 74 ((top - 1).toNatClampNeg))] [.int (top - 1), .ref 74] (am_S f g) _
            refine am_F.ops (pc' := 133) (L' := [.ref 38, .int code, .int top, .int (code - 2000), .int (f 74 ((top - 1).toNatClampNeg))]) (S' := [.int (-(f 74 ((top - 1).toNatClampNeg))), .int (top - 1), .ref 74]) (μ' := (am_S f g)) 3 rfl ?_
            exact g9
          · intro res9 g9
            show am_F _ _ 123 [.ref 38, .int code, .int top, .int (code - 2000), .int (f 74 ((top - 1).toNatClampNeg))] [.int (top - 1), .ref 74] (am_S f g) _
            refine am_F.ops (pc' := 125) (L' := [.ref 38, .int code, .int top, .int (code - 2000), .int (f 74 ((top - 1).toNatClampNeg))]) (S' := [.int (f 74 ((top - 1).toNatClampNeg)), .int (top - 1), .ref 74]) (μ' := (am_S f g)) 1 rfl ?_
            refine am_F.to (am_To.iteB (pc' := 133) (L2 := [.ref 38, .int code, .int top, .int (code - 2000), .int (f 74 ((top - 1).toNatClampNeg))]) (S2 := [.int (top - 1), .ref 74]) (μ2 := (am_S f g)) (a := true) (b := false) 1 rfl (fun c11 => ?_) (fun c11 => ?_)) g9
            · intro res9 g9
              show am_F _ _ 128 [.ref 38, .int code, .int top, .int (code - 2000), .int (f 74 ((top - 1).toNatClampNeg))] [.int (top - 1), .ref 74] (am_S f g) _
              refine am_F.ops (pc' := 133) (L' := [.ref 38, .int code, .int top, .int (code - 2000), .int (f 74 ((top - 1).toNatClampNeg))]) (S' := [.int 1, .int (top - 1), .ref 74]) (μ' := (am_S f g)) 2 rfl ?_
              exact g9
            · intro res9 g9
              show am_F _ _ 132 [.ref 38, .int code, .int top, .int (code - 2000), .int (f 74 ((top - 1).toNatClampNeg))] [.int (top - 1), .ref 74] (am_S f g) _
              refine am_F.ops (pc' := 133) (L' := [.ref 38, .int code, .int top, .int (code - 2000), .int (f 74 ((top - 1).toNatClampNeg))]) (S' := [.int 0, .int (top - 1), .ref 74]) (μ' := (am_S f g)) 1 rfl ?_
              exact g9
          show am_F _ _ 133 [.ref 38, .int code, .int top, .int (code - 2000), .int (f 74 ((top - 1).toNatClampNeg))] [.int (if (code - 2000) = 126 then -(f 74 ((top - 1).toNatClampNeg)) else am_b (if (f 74 ((top - 1).toNatClampNeg)) = 0 then true else false)), .int (top - 1), .ref 74] (am_S f g) _
          refine am_F.ias (F' := (am_row f 74 (upd (f 74) ((top - 1).toNatClampNeg) (if (code - 2000) = 126 then -(f 74 ((top - 1).toNatClampNeg)) else am_b (if (f 74 ((top - 1).toNatClampNeg)) = 0 then true else false))))) (N := 80) rfl rfl rfl (am_inbT (by assumption) (by decide) (by decide) (by decide) (by decide)) (by first | rfl | (funext a; by_cases z0 : a = 74; (subst z0; rfl); simp only [am_ui, am_ul, am_row_ne z0])) ?_
          refine am_F.ops (pc' := 135) (L' := [.ref 38, .int code, .int top, .int (code - 2000), .int (f 74 ((top - 1).toNatClampNeg))]) (S' := [.int top]) (μ' := (am_S (am_row f 74 (upd (f 74) ((top - 1).toNatClampNeg) (if (code - 2000) = 126 then -(f 74 ((top - 1).toNatClampNeg)) else am_b (if (f 74 ((top - 1).toNatClampNeg)) = 0 then true else false)))) g)) 1 rfl ?_
          subst hKd
          exact am_F.eq (am_F.ret rfl rfl) hK
        · show am_F _ _ 134 [.ref 38, .int code, .int top, .int (code - 2000), am_un] [] (am_S f g) _
          refine am_F.ops (pc' := 135) (L' := [.ref 38, .int code, .int top, .int (code - 2000), am_un]) (S' := [.int top]) (μ' := (am_S f g)) 1 rfl ?_
          refine am_F.mem (F' := (am_row f 74 (f 74))) (G' := g) ?_ (by first | rfl | (funext a; by_cases z0 : a = 74; (subst z0; rfl); simp only [am_ui, am_ul, am_row_ne z0])) (by first | rfl | (funext a; by_cases z0 : a = 74; (subst z0; rfl); simp only [am_ui, am_ul, am_row_ne z0]))
          subst hKd
          exact am_F.eq (am_F.ret rfl rfl) hK
      · show am_F _ _ 136 [.ref 38, .int code, .int top, .int (code - 2000), am_un] [] (am_S f g) _
        refine am_F.ops (pc' := 143) (L' := [.ref 38, .int code, .int top, .int (code - 2000), am_un]) (S' := [.int 80, .int 2, .int top]) (μ' := (am_S f g)) 5 rfl ?_
        refine am_F.call rfl rfl (x_between top 2 80 f g ) (by decide) ?_
        show am_F _ _ 146 [.ref 38, .int code, .int top, .int (code - 2000), am_un] [.int (am_b (fn_between top 2 80))] (am_S f g) _
        refine am_F.bifK 1 rfl K hK (fun c12 hK => ?_) (fun c12 hK => ?_)
        · show am_F _ _ 151 [.ref 38, .int code, .int top, .int (code - 2000), am_un] [] (am_S f g) _
          refine am_F.ops (pc' := 166) (L' := [.ref 38, .int code, .int top, .int (code - 2000), am_un]) (S' := [.int (top - 2), .ref 74, .int (code - 2000), .int (top - 2), .ref 74]) (μ' := (am_S f g)) 11 rfl ?_
          refine am_F.ial (N := 80) rfl rfl rfl (am_inbT (by assumption) (by decide) (by decide) (by decide) (by decide)) ?_
          show am_F _ _ 167 [.ref 38, .int code, .int top, .int (code - 2000), am_un] [.int (f 74 ((top - 2).toNatClampNeg)), .int (code - 2000), .int (top - 2), .ref 74] (am_S f g) _
          refine am_F.ops (pc' := 174) (L' := [.ref 38, .int code, .int top, .int (code - 2000), am_un]) (S' := [.int (top - 1), .ref 74, .int (f 74 ((top - 2).toNatClampNeg)), .int (code - 2000), .int (top - 2), .ref 74]) (μ' := (am_S f g)) 5 rfl ?_
          refine am_F.ial (N := 80) rfl rfl rfl (am_inbT (by assumption) (by decide) (by decide) (by decide) (by decide)) ?_
          show am_F _ _ 175 [.ref 38, .int code, .int top, .int (code - 2000), am_un] [.int (f 74 ((top - 1).toNatClampNeg)), .int (f 74 ((top - 2).toNatClampNeg)), .int (code - 2000), .int (top - 2), .ref 74] (am_S f g) _
          refine am_F.call rfl rfl (x_combined (code - 2000) (f 74 ((top - 2).toNatClampNeg)) (f 74 ((top - 1).toNatClampNeg)) f g ) (by decide) ?_
          show am_F _ _ 178 [.ref 38, .int code, .int top, .int (code - 2000), am_un] [.int (fn_combined (code - 2000) (f 74 ((top - 2).toNatClampNeg)) (f 74 ((top - 1).toNatClampNeg))), .int (top - 2), .ref 74] (am_S f g) _
          refine am_F.ias (F' := (am_row f 74 (upd (f 74) ((top - 2).toNatClampNeg) (fn_combined (code - 2000) (f 74 ((top - 2).toNatClampNeg)) (f 74 ((top - 1).toNatClampNeg)))))) (N := 80) rfl rfl rfl (am_inbT (by assumption) (by decide) (by decide) (by decide) (by decide)) (by first | rfl | (funext a; by_cases z0 : a = 74; (subst z0; rfl); simp only [am_ui, am_ul, am_row_ne z0])) ?_
          refine am_F.ops (pc' := 182) (L' := [.ref 38, .int code, .int top, .int (code - 2000), am_un]) (S' := [.int (top - 1)]) (μ' := (am_S (am_row f 74 (upd (f 74) ((top - 2).toNatClampNeg) (fn_combined (code - 2000) (f 74 ((top - 2).toNatClampNeg)) (f 74 ((top - 1).toNatClampNeg))))) g)) 3 rfl ?_
          subst hKd
          exact am_F.eq (am_F.ret rfl rfl) hK
        · show am_F _ _ 149 [.ref 38, .int code, .int top, .int (code - 2000), am_un] [] (am_S f g) _
          refine am_F.ops (pc' := 150) (L' := [.ref 38, .int code, .int top, .int (code - 2000), am_un]) (S' := [.int top]) (μ' := (am_S f g)) 1 rfl ?_
          refine am_F.mem (F' := (am_row f 74 (f 74))) (G' := g) ?_ (by first | rfl | (funext a; by_cases z0 : a = 74; (subst z0; rfl); simp only [am_ui, am_ul, am_row_ne z0])) (by first | rfl | (funext a; by_cases z0 : a = 74; (subst z0; rfl); simp only [am_ui, am_ul, am_row_ne z0]))
          subst hKd
          exact am_F.eq (am_F.ret rfl rfl) hK
  · show am_F _ _ 7 [.ref 38, .int code, .int top, am_un, am_un] [] (am_S f g) _
    refine am_F.ops (pc' := 13) (L' := [.ref 38, .int code, .int top, am_un, am_un]) (S' := [.int 80, .int top]) (μ' := (am_S f g)) 4 rfl ?_
    refine am_F.iteK 1 rfl K hK (fun c14 hK => ?_) (fun c14 hK => ?_)
    · show am_F _ _ 51 [.ref 38, .int code, .int top, am_un, am_un] [] (am_S f g) _
      refine am_F.ops (pc' := 62) (L' := [.ref 38, .int code, .int top, am_un, am_un]) (S' := [.int (if 80 < (top + 1) then 80 else (top + 1))]) (μ' := (am_S f g)) 7 rfl ?_
      refine am_F.mem (F' := (am_row f 74 (f 74))) (G' := g) ?_ (by first | rfl | (funext a; by_cases z0 : a = 74; (subst z0; rfl); simp only [am_ui, am_ul, am_row_ne z0])) (by first | rfl | (funext a; by_cases z0 : a = 74; (subst z0; rfl); simp only [am_ui, am_ul, am_row_ne z0]))
      subst hKd
      exact am_F.eq (am_F.ret rfl rfl) hK
    · show am_F _ _ 16 [.ref 38, .int code, .int top, am_un, am_un] [] (am_S f g) _
      refine am_F.ops (pc' := 23) (L' := [.ref 38, .int code, .int top, am_un, am_un]) (S' := [.int 1010, .int 1000, .int code]) (μ' := (am_S f g)) 3 rfl ?_
      refine am_F.call rfl rfl (x_between code 1000 1010 f g ) (by decide) ?_
      show am_F _ _ 26 [.ref 38, .int code, .int top, am_un, am_un] [.int (am_b (fn_between code 1000 1010))] (am_S f g) _
      refine am_F.ops (pc' := 33) (L' := [.ref 38, .int code, .int top, .int (am_b (fn_between code 1000 1010)), am_un]) (S' := [.int (am_b (fn_between code 1000 1010)), .int top, .ref 74]) (μ' := (am_S f g)) 5 rfl ?_
      refine am_F.to (am_To.bif (pc' := 50) (L2 := [.ref 38, .int code, .int top, .int (am_b (fn_between code 1000 1010)), am_un]) (S2 := [.int top, .ref 74]) (μ2 := (am_S f g)) (a := f 73 ((code - 1000).toNatClampNeg)) (b := code) 1 rfl (fun c15 => ?_) (fun c15 => ?_)) ?_
      · intro res9 g9
        show am_F _ _ 36 [.ref 38, .int code, .int top, .int (am_b (fn_between code 1000 1010)), am_un] [.int top, .ref 74] (am_S f g) _
        refine am_F.ops (pc' := 45) (L' := [.ref 38, .int code, .int top, .int (am_b (fn_between code 1000 1010)), am_un]) (S' := [.int (code - 1000), .ref 73, .int top, .ref 74]) (μ' := (am_S f g)) 5 rfl ?_
        refine am_F.ial (N := 11) rfl rfl rfl (am_inbSub (by assumption) (by decide) (by decide) (by decide)) ?_
        show am_F _ _ 46 [.ref 38, .int code, .int top, .int (am_b (fn_between code 1000 1010)), am_un] [.int (f 73 ((code - 1000).toNatClampNeg)), .int top, .ref 74] (am_S f g) _
        refine am_F.ops (pc' := 50) (L' := [.ref 38, .int code, .int top, .int (am_b (fn_between code 1000 1010)), am_un]) (S' := [.int (f 73 ((code - 1000).toNatClampNeg)), .int top, .ref 74]) (μ' := (am_S f g)) 1 rfl ?_
        exact g9
      · intro res9 g9
        show am_F _ _ 49 [.ref 38, .int code, .int top, .int (am_b (fn_between code 1000 1010)), am_un] [.int top, .ref 74] (am_S f g) _
        refine am_F.ops (pc' := 50) (L' := [.ref 38, .int code, .int top, .int (am_b (fn_between code 1000 1010)), am_un]) (S' := [.int code, .int top, .ref 74]) (μ' := (am_S f g)) 1 rfl ?_
        exact g9
      show am_F _ _ 50 [.ref 38, .int code, .int top, .int (am_b (fn_between code 1000 1010)), am_un] [.int (bif (fn_between code 1000 1010) then f 73 ((code - 1000).toNatClampNeg) else code), .int top, .ref 74] (am_S f g) _
      refine am_F.ias (F' := (am_row f 74 (upd (f 74) top.toNatClampNeg (bif (fn_between code 1000 1010) then f 73 ((code - 1000).toNatClampNeg) else code)))) (N := 80) rfl rfl rfl (am_inbG hT.1 (by assumption) rfl) (by first | rfl | (funext a; by_cases z0 : a = 74; (subst z0; rfl); simp only [am_ui, am_ul, am_row_ne z0])) ?_
      refine am_F.ops (pc' := 62) (L' := [.ref 38, .int code, .int top, .int (am_b (fn_between code 1000 1010)), am_un]) (S' := [.int (if 80 < (top + 1) then 80 else (top + 1))]) (μ' := (am_S (am_row f 74 (upd (f 74) top.toNatClampNeg (bif (fn_between code 1000 1010) then f 73 ((code - 1000).toNatClampNeg) else code))) g)) 7 rfl ?_
      subst hKd
      exact am_F.eq (am_F.ret rfl rfl) hK
theorem am_workK_nn (code top : Int32) (f : Nat → Nat → Int32) (h : 0 ≤ top.toInt ∧ top.toInt ≤ 80) : 0 ≤ (fn_workK code top f).1.toInt ∧ (fn_workK code top f).1.toInt ≤ 80 := by
  have e1 : (top + 1).toInt = top.toInt + 1 := by
    rw [Int32.toInt_add]
    refine Int.bmod_eq_of_le ?_ ?_ <;> first | (simp only [show (1 : Int32).toInt = 1 from rfl]; omega) | (simp only [show (1 : Int32).toInt = 1 from rfl, Int32.size]; omega)
  have e2 : 0 ≤ (if 80 < top + 1 then (80 : Int32) else top + 1).toInt ∧ (if 80 < top + 1 then (80 : Int32) else top + 1).toInt ≤ 80 := by
    by_cases c : 80 < top + 1
    · rw [if_pos c]; decide
    · rw [if_neg c, e1]
      rw [Int32.lt_iff_toInt_lt, e1, show (80 : Int32).toInt = 80 from rfl] at c
      omega
  have e3 : ∀ hi : Int32, fn_between top 2 hi = true → 0 ≤ (top - 1).toInt ∧ (top - 1).toInt ≤ 80 := fun hi c => by
    have g := (am_btT c).1
    rw [show (2 : Int32).toInt = 2 from rfl] at g
    rw [am_subT (by decide) (by rw [show (1 : Int32).toInt = 1 from rfl]; omega), show (1 : Int32).toInt = 1 from rfl]
    omega
  show am_p80 (fn_workK code top f)
  unfold fn_workK
  refine am_iteP (fun _ => ?_) (fun _ => ?_)
  · refine am_iteP (fun _ => ?_) (fun _ => ?_)
    · exact am_bifP (fun _ => h) (fun _ => h)
    · refine am_iteP (fun _ => ?_) (fun _ => ?_)
      · exact am_bifP (fun _ => h) (fun _ => h)
      · exact am_bifP (fun c => e3 _ c) (fun _ => h)
  · exact am_iteP (fun _ => e2) (fun _ => e2)
/-- AccessLattice$View.meets -/
def st_meetsK_117 (rule : Nat) (user : Nat) (act : Int32) (thing : Nat) (f : Nat → Nat → Int32) : Nat → Int32 × (Nat → Int32) → Int32 × (Nat → Int32) := fun i117 z => match z with
  | (a117_7, r117_74) => ((fn_workK (f 63 ((rule * 80) + i117)) a117_7 (am_row (am_row f 73 (upd (upd (upd (va_cpy (f 65) (va_cpy (f 64) (f 73) (user * 4) 0 4) (thing * 4) 4 4) 8 (f 38 7)) 9 act) 10 (fn_stepsUpK thing (f 58 rule) (am_row f 73 (upd (upd (va_cpy (f 65) (va_cpy (f 64) (f 73) (user * 4) 0 4) (thing * 4) 4 4) 8 (f 38 7)) 9 act))))) 74 r117_74)).1, (fn_workK (f 63 ((rule * 80) + i117)) a117_7 (am_row (am_row f 73 (upd (upd (upd (va_cpy (f 65) (va_cpy (f 64) (f 73) (user * 4) 0 4) (thing * 4) 4 4) 8 (f 38 7)) 9 act) 10 (fn_stepsUpK thing (f 58 rule) (am_row f 73 (upd (upd (va_cpy (f 65) (va_cpy (f 64) (f 73) (user * 4) 0 4) (thing * 4) 4 4) 8 (f 38 7)) 9 act))))) 74 r117_74)).2)
def lf_meetsK_117 (rule : Nat) (user : Nat) (act : Int32) (thing : Nat) (f : Nat → Nat → Int32) : Int32 × (Nat → Int32) := am_for (st_meetsK_117 rule user act thing f) ((f 62 rule).toNatClampNeg) 0 (0, f 74)
def fn_meetsK (rule : Nat) (user : Nat) (act : Int32) (thing : Nat) (f : Nat → Nat → Int32) : Bool × (Nat → Int32) × (Nat → Int32) := (if (if 80 < (f 62 rule) then 80 else (f 62 rule)) = 0 then (true, f 73, f 74) else ((if (lf_meetsK_117 rule user act thing f).1 = 1 then (if ((lf_meetsK_117 rule user act thing f).2 0) = 0 then false else true) else false), upd (upd (upd (va_cpy (f 65) (va_cpy (f 64) (f 73) (user * 4) 0 4) (thing * 4) 4 4) 8 (f 38 7)) 9 act) 10 (fn_stepsUpK thing (f 58 rule) (am_row f 73 (upd (upd (va_cpy (f 65) (va_cpy (f 64) (f 73) (user * 4) 0 4) (thing * 4) 4 4) 8 (f 38 7)) 9 act))), (lf_meetsK_117 rule user act thing f).2))
theorem lp_meetsK_117 (rule : Nat) (user : Nat) (act : Int32) (thing : Nat) (f : Nat → Nat → Int32) (g : Nat → Nat → Int64) (hPaK : ∀ t, t < 16 → (f 66 t).toInt < 16) (hCr1 : f 62 rule = nI (f 62 rule).toNatClampNeg) (hCr2 : (f 62 rule).toNatClampNeg ≤ 80) (hrule : rule < 30) (huser : user < 16) (hthing : thing < 16) (res : Option Value × am_M) : ∀ (n i117 : Nat) (a117_7 : Int32) (r117_74 : Nat → Int32) , i117 + n = (f 62 rule).toNatClampNeg → (0 ≤ a117_7.toInt ∧ a117_7.toInt ≤ 80) → (fun (z : Int32 × (Nat → Int32)) => ∀ (wc117 : Value), am_F 2 am_k_81 151 [.ref 38, .int (nI rule), .int (nI user), .int act, .int (nI thing), .ref 55, .int (if 80 < (f 62 rule) then 80 else (f 62 rule)), .int z.1, wc117] [] (am_S (am_row (am_row f 73 (upd (upd (upd (va_cpy (f 65) (va_cpy (f 64) (f 73) (user * 4) 0 4) (thing * 4) 4 4) 8 (f 38 7)) 9 act) 10 (fn_stepsUpK thing (f 58 rule) (am_row f 73 (upd (upd (va_cpy (f 65) (va_cpy (f 64) (f 73) (user * 4) 0 4) (thing * 4) 4 4) 8 (f 38 7)) 9 act))))) 74 z.2) g) res) (am_for (st_meetsK_117 rule user act thing f) n i117 (a117_7, r117_74)) → am_F 2 am_k_81 117 [.ref 38, .int (nI rule), .int (nI user), .int act, .int (nI thing), .ref 55, .int (if 80 < (f 62 rule) then 80 else (f 62 rule)), .int a117_7, .int (nI i117)] [] (am_S (am_row (am_row f 73 (upd (upd (upd (va_cpy (f 65) (va_cpy (f 64) (f 73) (user * 4) 0 4) (thing * 4) 4 4) 8 (f 38 7)) 9 act) 10 (fn_stepsUpK thing (f 58 rule) (am_row f 73 (upd (upd (va_cpy (f 65) (va_cpy (f 64) (f 73) (user * 4) 0 4) (thing * 4) 4 4) 8 (f 38 7)) 9 act))))) 74 r117_74) g) res := by
  intro n
  induction n with
  | zero =>
    intro i117 a117_7 r117_74 hi hv117 hK
    refine am_F.pos 3 rfl (by show (if 80 < (f 62 rule) then 80 else (f 62 rule)) ≤ nI i117; rw [show ((if 80 < (f 62 rule) then 80 else (f 62 rule)) : Int32) = nI ((f 62 rule).toNatClampNeg) from (am_min80 ⟨hCr1, hCr2⟩)]; exact nI_le (by omega) (by omega)) ?_
    exact hK _
  | succ n ih =>
    intro i117 a117_7 r117_74 hi hv117 hK
    refine am_F.neg 3 rfl (by show ¬ (if 80 < (f 62 rule) then 80 else (f 62 rule)) ≤ nI i117; rw [show ((if 80 < (f 62 rule) then 80 else (f 62 rule)) : Int32) = nI ((f 62 rule).toNatClampNeg) from (am_min80 ⟨hCr1, hCr2⟩)]; exact nI_ge (by omega) (by omega)) ?_
    have hb117 : i117 < (f 62 rule).toNatClampNeg := by omega
    show am_F _ _ 124 [.ref 38, .int (nI rule), .int (nI user), .int act, .int (nI thing), .ref 55, .int (if 80 < (f 62 rule) then 80 else (f 62 rule)), .int a117_7, .int (nI i117)] [] (am_S (am_row (am_row f 73 (upd (upd (upd (va_cpy (f 65) (va_cpy (f 64) (f 73) (user * 4) 0 4) (thing * 4) 4 4) 8 (f 38 7)) 9 act) 10 (fn_stepsUpK thing (f 58 rule) (am_row f 73 (upd (upd (va_cpy (f 65) (va_cpy (f 64) (f 73) (user * 4) 0 4) (thing * 4) 4 4) 8 (f 38 7)) 9 act))))) 74 r117_74) g) _
    obtain ⟨K, hKd⟩ : ∃ K : (Int32 × (Nat → Int32)) → Prop, K = fun s => (fun (z : Int32 × (Nat → Int32)) => ∀ (wc117 : Value), am_F 2 am_k_81 151 [.ref 38, .int (nI rule), .int (nI user), .int act, .int (nI thing), .ref 55, .int (if 80 < (f 62 rule) then 80 else (f 62 rule)), .int z.1, wc117] [] (am_S (am_row (am_row f 73 (upd (upd (upd (va_cpy (f 65) (va_cpy (f 64) (f 73) (user * 4) 0 4) (thing * 4) 4 4) 8 (f 38 7)) 9 act) 10 (fn_stepsUpK thing (f 58 rule) (am_row f 73 (upd (upd (va_cpy (f 65) (va_cpy (f 64) (f 73) (user * 4) 0 4) (thing * 4) 4 4) 8 (f 38 7)) 9 act))))) 74 z.2) g) res) (am_for (st_meetsK_117 rule user act thing f) n (i117 + 1) s) := ⟨_, rfl⟩
    have hK : K ((st_meetsK_117 rule user act thing f) i117 (a117_7, r117_74)) := by rw [hKd]; exact hK
    unfold st_meetsK_117 at hK
    simp only at hK
    refine am_F.ops (pc' := 137) (L' := [.ref 38, .int (nI rule), .int (nI user), .int act, .int (nI thing), .ref 55, .int (if 80 < (f 62 rule) then 80 else (f 62 rule)), .int a117_7, .int (nI i117)]) (S' := [.int (((nI rule) * 80) + (nI i117)), .ref 63, .ref 38]) (μ' := (am_S (am_row (am_row f 73 (upd (upd (upd (va_cpy (f 65) (va_cpy (f 64) (f 73) (user * 4) 0 4) (thing * 4) 4 4) 8 (f 38 7)) 9 act) 10 (fn_stepsUpK thing (f 58 rule) (am_row f 73 (upd (upd (va_cpy (f 65) (va_cpy (f 64) (f 73) (user * 4) 0 4) (thing * 4) 4 4) 8 (f 38 7)) 9 act))))) 74 r117_74) g)) 8 rfl ?_
    refine am_F.ialE (m := ((rule * 80) + i117)) (N := 2400) rfl rfl rfl (am_addE (am_mulE rfl rfl) rfl) (by omega) (by decide) ?_
    show am_F _ _ 138 [.ref 38, .int (nI rule), .int (nI user), .int act, .int (nI thing), .ref 55, .int (if 80 < (f 62 rule) then 80 else (f 62 rule)), .int a117_7, .int (nI i117)] [.int (f 63 ((rule * 80) + i117)), .ref 38] (am_S (am_row (am_row f 73 (upd (upd (upd (va_cpy (f 65) (va_cpy (f 64) (f 73) (user * 4) 0 4) (thing * 4) 4 4) 8 (f 38 7)) 9 act) 10 (fn_stepsUpK thing (f 58 rule) (am_row f 73 (upd (upd (va_cpy (f 65) (va_cpy (f 64) (f 73) (user * 4) 0 4) (thing * 4) 4 4) 8 (f 38 7)) 9 act))))) 74 r117_74) g) _
    refine am_F.ops (pc' := 140) (L' := [.ref 38, .int (nI rule), .int (nI user), .int act, .int (nI thing), .ref 55, .int (if 80 < (f 62 rule) then 80 else (f 62 rule)), .int a117_7, .int (nI i117)]) (S' := [.int a117_7, .int (f 63 ((rule * 80) + i117)), .ref 38]) (μ' := (am_S (am_row (am_row f 73 (upd (upd (upd (va_cpy (f 65) (va_cpy (f 64) (f 73) (user * 4) 0 4) (thing * 4) 4 4) 8 (f 38 7)) 9 act) 10 (fn_stepsUpK thing (f 58 rule) (am_row f 73 (upd (upd (va_cpy (f 65) (va_cpy (f 64) (f 73) (user * 4) 0 4) (thing * 4) 4 4) 8 (f 38 7)) 9 act))))) 74 r117_74) g)) 1 rfl ?_
    refine am_F.call rfl rfl (x_workK (f 63 ((rule * 80) + i117)) a117_7 (am_row (am_row f 73 (upd (upd (upd (va_cpy (f 65) (va_cpy (f 64) (f 73) (user * 4) 0 4) (thing * 4) 4 4) 8 (f 38 7)) 9 act) 10 (fn_stepsUpK thing (f 58 rule) (am_row f 73 (upd (upd (va_cpy (f 65) (va_cpy (f 64) (f 73) (user * 4) 0 4) (thing * 4) 4 4) 8 (f 38 7)) 9 act))))) 74 r117_74) g hv117) (by decide) ?_
    obtain ⟨y3, hy3⟩ : ∃ z, (fn_workK (f 63 ((rule * 80) + i117)) a117_7 (am_row (am_row f 73 (upd (upd (upd (va_cpy (f 65) (va_cpy (f 64) (f 73) (user * 4) 0 4) (thing * 4) 4 4) 8 (f 38 7)) 9 act) 10 (fn_stepsUpK thing (f 58 rule) (am_row f 73 (upd (upd (va_cpy (f 65) (va_cpy (f 64) (f 73) (user * 4) 0 4) (thing * 4) 4 4) 8 (f 38 7)) 9 act))))) 74 r117_74)) = z := ⟨_, rfl⟩
    (try rw [hy3] at hK)
    (try rw [hy3])
    refine am_F.mem (F' := (am_row (am_row f 73 (upd (upd (upd (va_cpy (f 65) (va_cpy (f 64) (f 73) (user * 4) 0 4) (thing * 4) 4 4) 8 (f 38 7)) 9 act) 10 (fn_stepsUpK thing (f 58 rule) (am_row f 73 (upd (upd (va_cpy (f 65) (va_cpy (f 64) (f 73) (user * 4) 0 4) (thing * 4) 4 4) 8 (f 38 7)) 9 act))))) 74 y3.2)) (G' := g) ?_ (by first | rfl | (funext a; by_cases z0 : a = 73; (subst z0; rfl); by_cases z1 : a = 74; (subst z1; rfl); simp only [am_ui, am_ul, am_row_ne z0, am_row_ne z1])) (by first | rfl | (funext a; by_cases z0 : a = 73; (subst z0; rfl); by_cases z1 : a = 74; (subst z1; rfl); simp only [am_ui, am_ul, am_row_ne z0, am_row_ne z1]))
    show am_F _ _ 143 [.ref 38, .int (nI rule), .int (nI user), .int act, .int (nI thing), .ref 55, .int (if 80 < (f 62 rule) then 80 else (f 62 rule)), .int a117_7, .int (nI i117)] [.int y3.1] (am_S (am_row (am_row f 73 (upd (upd (upd (va_cpy (f 65) (va_cpy (f 64) (f 73) (user * 4) 0 4) (thing * 4) 4 4) 8 (f 38 7)) 9 act) 10 (fn_stepsUpK thing (f 58 rule) (am_row f 73 (upd (upd (va_cpy (f 65) (va_cpy (f 64) (f 73) (user * 4) 0 4) (thing * 4) 4 4) 8 (f 38 7)) 9 act))))) 74 y3.2) g) _
    refine am_F.ops (pc' := 117) (L' := [.ref 38, .int (nI rule), .int (nI user), .int act, .int (nI thing), .ref 55, .int (if 80 < (f 62 rule) then 80 else (f 62 rule)), .int y3.1, .int ((nI i117) + 1)]) (S' := []) (μ' := (am_S (am_row (am_row f 73 (upd (upd (upd (va_cpy (f 65) (va_cpy (f 64) (f 73) (user * 4) 0 4) (thing * 4) 4 4) 8 (f 38 7)) 9 act) 10 (fn_stepsUpK thing (f 58 rule) (am_row f 73 (upd (upd (va_cpy (f 65) (va_cpy (f 64) (f 73) (user * 4) 0 4) (thing * 4) 4 4) 8 (f 38 7)) 9 act))))) 74 y3.2) g)) 3 rfl ?_
    rw [nI_1 i117]
    subst hKd
    exact ih (i117 + 1) y3.1 y3.2 (by omega) (by subst_vars; exact am_workK_nn _ _ _ hv117) hK
theorem x_meetsK (rule : Nat) (user : Nat) (act : Int32) (thing : Nat) (f : Nat → Nat → Int32) (g : Nat → Nat → Int64) (hPaK : ∀ t, t < 16 → (f 66 t).toInt < 16) (hCr1 : f 62 rule = nI (f 62 rule).toNatClampNeg) (hCr2 : (f 62 rule).toNatClampNeg ≤ 80) (hrule : rule < 30) (huser : user < 16) (hthing : thing < 16) : am_D 2 81 9 [.ref 38, .int (nI rule), .int (nI user), .int act, .int (nI thing)] (am_S f g) (some (Value.int (am_b ((fn_meetsK rule user act thing f).1))), am_S (am_row (am_row f 73 ((fn_meetsK rule user act thing f).2.1)) 74 ((fn_meetsK rule user act thing f).2.2)) g) := by
  refine am_D.of (code := am_k_81) rfl (L0 := [.ref 38, .int (nI rule), .int (nI user), .int act, .int (nI thing), am_un, am_un, am_un, am_un]) rfl ?_
  generalize hres : (some (Value.int (am_b ((fn_meetsK rule user act thing f).1))), am_S (am_row (am_row f 73 ((fn_meetsK rule user act thing f).2.1)) 74 ((fn_meetsK rule user act thing f).2.2)) g) = res
  obtain ⟨K, hKd⟩ : ∃ K : (Bool × (Nat → Int32) × (Nat → Int32)) → Prop, K = fun z => (some (Value.int (am_b z.1)), am_S (am_row (am_row f 73 z.2.1) 74 z.2.2) g) = res := ⟨_, rfl⟩
  have hK : K (fn_meetsK rule user act thing f) := by rw [hKd]; exact hres
  clear hres
  unfold fn_meetsK at hK
  refine am_F.ops (pc' := 15) (L' := [.ref 38, .int (nI rule), .int (nI user), .int act, .int (nI thing), .ref 55, am_un, am_un, am_un]) (S' := [.int (nI rule), .ref 62]) (μ' := (am_S f g)) 7 rfl ?_
  refine am_F.ialE (m := rule) (N := 30) rfl rfl rfl rfl (by omega) (by decide) ?_
  show am_F _ _ 16 [.ref 38, .int (nI rule), .int (nI user), .int act, .int (nI thing), .ref 55, am_un, am_un, am_un] [.int (f 62 rule)] (am_S f g) _
  refine am_F.ops (pc' := 25) (L' := [.ref 38, .int (nI rule), .int (nI user), .int act, .int (nI thing), .ref 55, .int (if 80 < (f 62 rule) then 80 else (f 62 rule)), am_un, am_un]) (S' := [.int (if 80 < (f 62 rule) then 80 else (f 62 rule))]) (μ' := (am_S f g)) 4 rfl ?_
  refine am_F.iteK 1 rfl K hK (fun c1 hK => ?_) (fun c1 hK => ?_)
  · show am_F _ _ 28 [.ref 38, .int (nI rule), .int (nI user), .int act, .int (nI thing), .ref 55, .int (if 80 < (f 62 rule) then 80 else (f 62 rule)), am_un, am_un] [] (am_S f g) _
    refine am_F.ops (pc' := 29) (L' := [.ref 38, .int (nI rule), .int (nI user), .int act, .int (nI thing), .ref 55, .int (if 80 < (f 62 rule) then 80 else (f 62 rule)), am_un, am_un]) (S' := [.int 1]) (μ' := (am_S f g)) 1 rfl ?_
    refine am_F.mem (F' := (am_row (am_row f 73 (f 73)) 74 (f 74))) (G' := g) ?_ (by first | rfl | (funext a; by_cases z0 : a = 73; (subst z0; rfl); by_cases z1 : a = 74; (subst z1; rfl); simp only [am_ui, am_ul, am_row_ne z0, am_row_ne z1])) (by first | rfl | (funext a; by_cases z0 : a = 73; (subst z0; rfl); by_cases z1 : a = 74; (subst z1; rfl); simp only [am_ui, am_ul, am_row_ne z0, am_row_ne z1]))
    subst hKd
    exact am_F.eq (am_F.ret rfl rfl) hK
  · show am_F _ _ 30 [.ref 38, .int (nI rule), .int (nI user), .int act, .int (nI thing), .ref 55, .int (if 80 < (f 62 rule) then 80 else (f 62 rule)), am_un, am_un] [] (am_S f g) _
    refine am_F.ops (pc' := 46) (L' := [.ref 38, .int (nI rule), .int (nI user), .int act, .int (nI thing), .ref 55, .int (if 80 < (f 62 rule) then 80 else (f 62 rule)), am_un, am_un]) (S' := [.int 4, .int 0, .ref 73, .int ((nI user) * 4), .ref 64]) (μ' := (am_S f g)) 10 rfl ?_
    refine am_F.cpyE (F' := (am_row f 73 (va_cpy (f 64) (f 73) (user * 4) 0 4))) (sp := (user * 4)) (dp := 0) (z := 4) (n0 := 64) (n1 := 11) rfl rfl rfl rfl rfl (am_mulE rfl rfl) rfl rfl (by omega) (by omega) (by decide) (by decide) (by first | rfl | (funext a; by_cases z0 : a = 73; (subst z0; rfl); simp only [am_ui, am_ul, am_row_ne z0])) ?_
    refine am_F.ops (pc' := 66) (L' := [.ref 38, .int (nI rule), .int (nI user), .int act, .int (nI thing), .ref 55, .int (if 80 < (f 62 rule) then 80 else (f 62 rule)), am_un, am_un]) (S' := [.int 4, .int 4, .ref 73, .int ((nI thing) * 4), .ref 65]) (μ' := (am_S (am_row f 73 (va_cpy (f 64) (f 73) (user * 4) 0 4)) g)) 10 rfl ?_
    refine am_F.cpyE (F' := (am_row f 73 (va_cpy (f 65) (va_cpy (f 64) (f 73) (user * 4) 0 4) (thing * 4) 4 4))) (sp := (thing * 4)) (dp := 4) (z := 4) (n0 := 64) (n1 := 11) rfl rfl rfl rfl rfl (am_mulE rfl rfl) rfl rfl (by omega) (by omega) (by decide) (by decide) (by first | rfl | (funext a; by_cases z0 : a = 73; (subst z0; rfl); simp only [am_ui, am_ul, am_row_ne z0])) ?_
    refine am_F.ops (pc' := 79) (L' := [.ref 38, .int (nI rule), .int (nI user), .int act, .int (nI thing), .ref 55, .int (if 80 < (f 62 rule) then 80 else (f 62 rule)), am_un, am_un]) (S' := [.int (f 38 7), .int 8, .ref 73]) (μ' := (am_S (am_row f 73 (va_cpy (f 65) (va_cpy (f 64) (f 73) (user * 4) 0 4) (thing * 4) 4 4)) g)) 5 rfl ?_
    refine am_F.iasE (F' := (am_row f 73 (upd (va_cpy (f 65) (va_cpy (f 64) (f 73) (user * 4) 0 4) (thing * 4) 4 4) 8 (f 38 7)))) (m := 8) (N := 11) rfl rfl rfl rfl (by omega) (by decide) (by first | rfl | (funext a; by_cases z0 : a = 73; (subst z0; rfl); simp only [am_ui, am_ul, am_row_ne z0])) ?_
    refine am_F.ops (pc' := 87) (L' := [.ref 38, .int (nI rule), .int (nI user), .int act, .int (nI thing), .ref 55, .int (if 80 < (f 62 rule) then 80 else (f 62 rule)), am_un, am_un]) (S' := [.int act, .int 9, .ref 73]) (μ' := (am_S (am_row f 73 (upd (va_cpy (f 65) (va_cpy (f 64) (f 73) (user * 4) 0 4) (thing * 4) 4 4) 8 (f 38 7))) g)) 4 rfl ?_
    refine am_F.iasE (F' := (am_row f 73 (upd (upd (va_cpy (f 65) (va_cpy (f 64) (f 73) (user * 4) 0 4) (thing * 4) 4 4) 8 (f 38 7)) 9 act))) (m := 9) (N := 11) rfl rfl rfl rfl (by omega) (by decide) (by first | rfl | (funext a; by_cases z0 : a = 73; (subst z0; rfl); simp only [am_ui, am_ul, am_row_ne z0])) ?_
    refine am_F.ops (pc' := 106) (L' := [.ref 38, .int (nI rule), .int (nI user), .int act, .int (nI thing), .ref 55, .int (if 80 < (f 62 rule) then 80 else (f 62 rule)), am_un, am_un]) (S' := [.int (nI rule), .ref 58, .int (nI thing), .ref 39, .int 10, .ref 73]) (μ' := (am_S (am_row f 73 (upd (upd (va_cpy (f 65) (va_cpy (f 64) (f 73) (user * 4) 0 4) (thing * 4) 4 4) 8 (f 38 7)) 9 act)) g)) 9 rfl ?_
    refine am_F.ialE (m := rule) (N := 30) rfl rfl rfl rfl (by omega) (by decide) ?_
    show am_F _ _ 107 [.ref 38, .int (nI rule), .int (nI user), .int act, .int (nI thing), .ref 55, .int (if 80 < (f 62 rule) then 80 else (f 62 rule)), am_un, am_un] [.int (f 58 rule), .int (nI thing), .ref 39, .int 10, .ref 73] (am_S (am_row f 73 (upd (upd (va_cpy (f 65) (va_cpy (f 64) (f 73) (user * 4) 0 4) (thing * 4) 4 4) 8 (f 38 7)) 9 act)) g) _
    refine am_F.call rfl rfl (x_stepsUpK thing (f 58 rule) (am_row f 73 (upd (upd (va_cpy (f 65) (va_cpy (f 64) (f 73) (user * 4) 0 4) (thing * 4) 4 4) 8 (f 38 7)) 9 act)) g hPaK (by omega)) (by decide) ?_
    show am_F _ _ 110 [.ref 38, .int (nI rule), .int (nI user), .int act, .int (nI thing), .ref 55, .int (if 80 < (f 62 rule) then 80 else (f 62 rule)), am_un, am_un] [.int (fn_stepsUpK thing (f 58 rule) (am_row f 73 (upd (upd (va_cpy (f 65) (va_cpy (f 64) (f 73) (user * 4) 0 4) (thing * 4) 4 4) 8 (f 38 7)) 9 act))), .int 10, .ref 73] (am_S (am_row f 73 (upd (upd (va_cpy (f 65) (va_cpy (f 64) (f 73) (user * 4) 0 4) (thing * 4) 4 4) 8 (f 38 7)) 9 act)) g) _
    refine am_F.iasE (F' := (am_row f 73 (upd (upd (upd (va_cpy (f 65) (va_cpy (f 64) (f 73) (user * 4) 0 4) (thing * 4) 4 4) 8 (f 38 7)) 9 act) 10 (fn_stepsUpK thing (f 58 rule) (am_row f 73 (upd (upd (va_cpy (f 65) (va_cpy (f 64) (f 73) (user * 4) 0 4) (thing * 4) 4 4) 8 (f 38 7)) 9 act)))))) (m := 10) (N := 11) rfl rfl rfl rfl (by omega) (by decide) (by first | rfl | (funext a; by_cases z0 : a = 73; (subst z0; rfl); simp only [am_ui, am_ul, am_row_ne z0])) ?_
    refine am_F.ops (pc' := 117) (L' := [.ref 38, .int (nI rule), .int (nI user), .int act, .int (nI thing), .ref 55, .int (if 80 < (f 62 rule) then 80 else (f 62 rule)), .int 0, .int 0]) (S' := []) (μ' := (am_S (am_row f 73 (upd (upd (upd (va_cpy (f 65) (va_cpy (f 64) (f 73) (user * 4) 0 4) (thing * 4) 4 4) 8 (f 38 7)) 9 act) 10 (fn_stepsUpK thing (f 58 rule) (am_row f 73 (upd (upd (va_cpy (f 65) (va_cpy (f 64) (f 73) (user * 4) 0 4) (thing * 4) 4 4) 8 (f 38 7)) 9 act))))) g)) 4 rfl ?_
    refine am_F.mem (F' := (am_row (am_row f 73 (upd (upd (upd (va_cpy (f 65) (va_cpy (f 64) (f 73) (user * 4) 0 4) (thing * 4) 4 4) 8 (f 38 7)) 9 act) 10 (fn_stepsUpK thing (f 58 rule) (am_row f 73 (upd (upd (va_cpy (f 65) (va_cpy (f 64) (f 73) (user * 4) 0 4) (thing * 4) 4 4) 8 (f 38 7)) 9 act))))) 74 (f 74))) (G' := g) ?_ (by first | rfl | (funext a; by_cases z0 : a = 73; (subst z0; rfl); by_cases z1 : a = 74; (subst z1; rfl); simp only [am_ui, am_ul, am_row_ne z0, am_row_ne z1])) (by first | rfl | (funext a; by_cases z0 : a = 73; (subst z0; rfl); by_cases z1 : a = 74; (subst z1; rfl); simp only [am_ui, am_ul, am_row_ne z0, am_row_ne z1]))
    show am_F _ _ 117 [.ref 38, .int (nI rule), .int (nI user), .int act, .int (nI thing), .ref 55, .int (if 80 < (f 62 rule) then 80 else (f 62 rule)), .int 0, .int (nI 0)] [] (am_S (am_row (am_row f 73 (upd (upd (upd (va_cpy (f 65) (va_cpy (f 64) (f 73) (user * 4) 0 4) (thing * 4) 4 4) 8 (f 38 7)) 9 act) 10 (fn_stepsUpK thing (f 58 rule) (am_row f 73 (upd (upd (va_cpy (f 65) (va_cpy (f 64) (f 73) (user * 4) 0 4) (thing * 4) 4 4) 8 (f 38 7)) 9 act))))) 74 (f 74)) g) _
    refine lp_meetsK_117 rule user act thing f g hPaK hCr1 hCr2 hrule huser hthing _ ((f 62 rule).toNatClampNeg) 0 0 (f 74)  (by omega) (by decide) ?_
    rw [show am_for (st_meetsK_117 rule user act thing f) ((f 62 rule).toNatClampNeg) 0 (0, f 74) = (lf_meetsK_117 rule user act thing f) from rfl]
    generalize (lf_meetsK_117 rule user act thing f) = z117_4 at hK ⊢
    intro wc117
    show am_F _ _ 151 [.ref 38, .int (nI rule), .int (nI user), .int act, .int (nI thing), .ref 55, .int (if 80 < (f 62 rule) then 80 else (f 62 rule)), .int z117_4.1, wc117] [] (am_S (am_row (am_row f 73 (upd (upd (upd (va_cpy (f 65) (va_cpy (f 64) (f 73) (user * 4) 0 4) (thing * 4) 4 4) 8 (f 38 7)) 9 act) 10 (fn_stepsUpK thing (f 58 rule) (am_row f 73 (upd (upd (va_cpy (f 65) (va_cpy (f 64) (f 73) (user * 4) 0 4) (thing * 4) 4 4) 8 (f 38 7)) 9 act))))) 74 z117_4.2) g) _
    refine am_F.ops (pc' := 154) (L' := [.ref 38, .int (nI rule), .int (nI user), .int act, .int (nI thing), .ref 55, .int (if 80 < (f 62 rule) then 80 else (f 62 rule)), .int z117_4.1, wc117]) (S' := [.int 1, .int z117_4.1]) (μ' := (am_S (am_row (am_row f 73 (upd (upd (upd (va_cpy (f 65) (va_cpy (f 64) (f 73) (user * 4) 0 4) (thing * 4) 4 4) 8 (f 38 7)) 9 act) 10 (fn_stepsUpK thing (f 58 rule) (am_row f 73 (upd (upd (va_cpy (f 65) (va_cpy (f 64) (f 73) (user * 4) 0 4) (thing * 4) 4 4) 8 (f 38 7)) 9 act))))) 74 z117_4.2) g)) 2 rfl ?_
    refine am_F.to (am_To.iteB (pc' := 171) (L2 := [.ref 38, .int (nI rule), .int (nI user), .int act, .int (nI thing), .ref 55, .int (if 80 < (f 62 rule) then 80 else (f 62 rule)), .int z117_4.1, wc117]) (S2 := []) (μ2 := (am_S (am_row (am_row f 73 (upd (upd (upd (va_cpy (f 65) (va_cpy (f 64) (f 73) (user * 4) 0 4) (thing * 4) 4 4) 8 (f 38 7)) 9 act) 10 (fn_stepsUpK thing (f 58 rule) (am_row f 73 (upd (upd (va_cpy (f 65) (va_cpy (f 64) (f 73) (user * 4) 0 4) (thing * 4) 4 4) 8 (f 38 7)) 9 act))))) 74 z117_4.2) g)) (a := (if (z117_4.2 0) = 0 then false else true)) (b := false) 1 rfl (fun c5 => ?_) (fun c5 => ?_)) ?_
    · intro res9 g9
      show am_F _ _ 157 [.ref 38, .int (nI rule), .int (nI user), .int act, .int (nI thing), .ref 55, .int (if 80 < (f 62 rule) then 80 else (f 62 rule)), .int z117_4.1, wc117] [] (am_S (am_row (am_row f 73 (upd (upd (upd (va_cpy (f 65) (va_cpy (f 64) (f 73) (user * 4) 0 4) (thing * 4) 4 4) 8 (f 38 7)) 9 act) 10 (fn_stepsUpK thing (f 58 rule) (am_row f 73 (upd (upd (va_cpy (f 65) (va_cpy (f 64) (f 73) (user * 4) 0 4) (thing * 4) 4 4) 8 (f 38 7)) 9 act))))) 74 z117_4.2) g) _
      refine am_F.ops (pc' := 163) (L' := [.ref 38, .int (nI rule), .int (nI user), .int act, .int (nI thing), .ref 55, .int (if 80 < (f 62 rule) then 80 else (f 62 rule)), .int z117_4.1, wc117]) (S' := [.int (z117_4.2 0)]) (μ' := (am_S (am_row (am_row f 73 (upd (upd (upd (va_cpy (f 65) (va_cpy (f 64) (f 73) (user * 4) 0 4) (thing * 4) 4 4) 8 (f 38 7)) 9 act) 10 (fn_stepsUpK thing (f 58 rule) (am_row f 73 (upd (upd (va_cpy (f 65) (va_cpy (f 64) (f 73) (user * 4) 0 4) (thing * 4) 4 4) 8 (f 38 7)) 9 act))))) 74 z117_4.2) g)) 4 rfl ?_
      refine am_F.to (am_To.iteB (pc' := 171) (L2 := [.ref 38, .int (nI rule), .int (nI user), .int act, .int (nI thing), .ref 55, .int (if 80 < (f 62 rule) then 80 else (f 62 rule)), .int z117_4.1, wc117]) (S2 := []) (μ2 := (am_S (am_row (am_row f 73 (upd (upd (upd (va_cpy (f 65) (va_cpy (f 64) (f 73) (user * 4) 0 4) (thing * 4) 4 4) 8 (f 38 7)) 9 act) 10 (fn_stepsUpK thing (f 58 rule) (am_row f 73 (upd (upd (va_cpy (f 65) (va_cpy (f 64) (f 73) (user * 4) 0 4) (thing * 4) 4 4) 8 (f 38 7)) 9 act))))) 74 z117_4.2) g)) (a := false) (b := true) 1 rfl (fun c6 => ?_) (fun c6 => ?_)) g9
      · intro res9 g9
        show am_F _ _ 170 [.ref 38, .int (nI rule), .int (nI user), .int act, .int (nI thing), .ref 55, .int (if 80 < (f 62 rule) then 80 else (f 62 rule)), .int z117_4.1, wc117] [] (am_S (am_row (am_row f 73 (upd (upd (upd (va_cpy (f 65) (va_cpy (f 64) (f 73) (user * 4) 0 4) (thing * 4) 4 4) 8 (f 38 7)) 9 act) 10 (fn_stepsUpK thing (f 58 rule) (am_row f 73 (upd (upd (va_cpy (f 65) (va_cpy (f 64) (f 73) (user * 4) 0 4) (thing * 4) 4 4) 8 (f 38 7)) 9 act))))) 74 z117_4.2) g) _
        refine am_F.ops (pc' := 171) (L' := [.ref 38, .int (nI rule), .int (nI user), .int act, .int (nI thing), .ref 55, .int (if 80 < (f 62 rule) then 80 else (f 62 rule)), .int z117_4.1, wc117]) (S' := [.int 0]) (μ' := (am_S (am_row (am_row f 73 (upd (upd (upd (va_cpy (f 65) (va_cpy (f 64) (f 73) (user * 4) 0 4) (thing * 4) 4 4) 8 (f 38 7)) 9 act) 10 (fn_stepsUpK thing (f 58 rule) (am_row f 73 (upd (upd (va_cpy (f 65) (va_cpy (f 64) (f 73) (user * 4) 0 4) (thing * 4) 4 4) 8 (f 38 7)) 9 act))))) 74 z117_4.2) g)) 1 rfl ?_
        exact g9
      · intro res9 g9
        show am_F _ _ 166 [.ref 38, .int (nI rule), .int (nI user), .int act, .int (nI thing), .ref 55, .int (if 80 < (f 62 rule) then 80 else (f 62 rule)), .int z117_4.1, wc117] [] (am_S (am_row (am_row f 73 (upd (upd (upd (va_cpy (f 65) (va_cpy (f 64) (f 73) (user * 4) 0 4) (thing * 4) 4 4) 8 (f 38 7)) 9 act) 10 (fn_stepsUpK thing (f 58 rule) (am_row f 73 (upd (upd (va_cpy (f 65) (va_cpy (f 64) (f 73) (user * 4) 0 4) (thing * 4) 4 4) 8 (f 38 7)) 9 act))))) 74 z117_4.2) g) _
        refine am_F.ops (pc' := 171) (L' := [.ref 38, .int (nI rule), .int (nI user), .int act, .int (nI thing), .ref 55, .int (if 80 < (f 62 rule) then 80 else (f 62 rule)), .int z117_4.1, wc117]) (S' := [.int 1]) (μ' := (am_S (am_row (am_row f 73 (upd (upd (upd (va_cpy (f 65) (va_cpy (f 64) (f 73) (user * 4) 0 4) (thing * 4) 4 4) 8 (f 38 7)) 9 act) 10 (fn_stepsUpK thing (f 58 rule) (am_row f 73 (upd (upd (va_cpy (f 65) (va_cpy (f 64) (f 73) (user * 4) 0 4) (thing * 4) 4 4) 8 (f 38 7)) 9 act))))) 74 z117_4.2) g)) 2 rfl ?_
        exact g9
    · intro res9 g9
      show am_F _ _ 170 [.ref 38, .int (nI rule), .int (nI user), .int act, .int (nI thing), .ref 55, .int (if 80 < (f 62 rule) then 80 else (f 62 rule)), .int z117_4.1, wc117] [] (am_S (am_row (am_row f 73 (upd (upd (upd (va_cpy (f 65) (va_cpy (f 64) (f 73) (user * 4) 0 4) (thing * 4) 4 4) 8 (f 38 7)) 9 act) 10 (fn_stepsUpK thing (f 58 rule) (am_row f 73 (upd (upd (va_cpy (f 65) (va_cpy (f 64) (f 73) (user * 4) 0 4) (thing * 4) 4 4) 8 (f 38 7)) 9 act))))) 74 z117_4.2) g) _
      refine am_F.ops (pc' := 171) (L' := [.ref 38, .int (nI rule), .int (nI user), .int act, .int (nI thing), .ref 55, .int (if 80 < (f 62 rule) then 80 else (f 62 rule)), .int z117_4.1, wc117]) (S' := [.int 0]) (μ' := (am_S (am_row (am_row f 73 (upd (upd (upd (va_cpy (f 65) (va_cpy (f 64) (f 73) (user * 4) 0 4) (thing * 4) 4 4) 8 (f 38 7)) 9 act) 10 (fn_stepsUpK thing (f 58 rule) (am_row f 73 (upd (upd (va_cpy (f 65) (va_cpy (f 64) (f 73) (user * 4) 0 4) (thing * 4) 4 4) 8 (f 38 7)) 9 act))))) 74 z117_4.2) g)) 1 rfl ?_
      exact g9
    show am_F _ _ 171 [.ref 38, .int (nI rule), .int (nI user), .int act, .int (nI thing), .ref 55, .int (if 80 < (f 62 rule) then 80 else (f 62 rule)), .int z117_4.1, wc117] [.int (am_b (if z117_4.1 = 1 then (if (z117_4.2 0) = 0 then false else true) else false))] (am_S (am_row (am_row f 73 (upd (upd (upd (va_cpy (f 65) (va_cpy (f 64) (f 73) (user * 4) 0 4) (thing * 4) 4 4) 8 (f 38 7)) 9 act) 10 (fn_stepsUpK thing (f 58 rule) (am_row f 73 (upd (upd (va_cpy (f 65) (va_cpy (f 64) (f 73) (user * 4) 0 4) (thing * 4) 4 4) 8 (f 38 7)) 9 act))))) 74 z117_4.2) g) _
    subst hKd
    exact am_F.eq (am_F.ret rfl (am_retB _ _)) hK
/-- AccessLattice$View.met -/
def st_metK_6 (user : Nat) (act : Int32) (thing : Nat) (rules : Int32) (f : Nat → Nat → Int32) : Nat → Int32 × (Nat → Int32) × (Nat → Int32) → Int32 × (Nat → Int32) × (Nat → Int32) := fun i6 z => match z with
  | (a6_5, r6_73, r6_74) => (bif (fn_has rules (nI i6)) then (bif ((fn_meetsK i6 user act thing (am_row (am_row f 73 r6_73) 74 r6_74)).1) then (a6_5 ||| (1 <<< ((nI i6) &&& 31)), (fn_meetsK i6 user act thing (am_row (am_row f 73 r6_73) 74 r6_74)).2.1, (fn_meetsK i6 user act thing (am_row (am_row f 73 r6_73) 74 r6_74)).2.2) else (a6_5, (fn_meetsK i6 user act thing (am_row (am_row f 73 r6_73) 74 r6_74)).2.1, (fn_meetsK i6 user act thing (am_row (am_row f 73 r6_73) 74 r6_74)).2.2)) else (a6_5, r6_73, r6_74))
def lf_metK_6 (user : Nat) (act : Int32) (thing : Nat) (rules : Int32) (f : Nat → Nat → Int32) : Int32 × (Nat → Int32) × (Nat → Int32) := am_for (st_metK_6 user act thing rules f) ((f 55 11).toNatClampNeg) 0 (0, f 73, f 74)
def fn_metK (user : Nat) (act : Int32) (thing : Nat) (rules : Int32) (f : Nat → Nat → Int32) : Int32 × (Nat → Int32) × (Nat → Int32) := ((lf_metK_6 user act thing rules f).1, (lf_metK_6 user act thing rules f).2.1, (lf_metK_6 user act thing rules f).2.2)
theorem lp_metK_6 (user : Nat) (act : Int32) (thing : Nat) (rules : Int32) (f : Nat → Nat → Int32) (g : Nat → Nat → Int64) (hRcK : f 55 11 = nI (f 55 11).toNatClampNeg) (hRnK : (f 55 11).toNatClampNeg ≤ 30) (hPaK : ∀ t, t < 16 → (f 66 t).toInt < 16) (hCsK : ∀ i, i < (f 55 11).toNatClampNeg → f 62 i = nI (f 62 i).toNatClampNeg ∧ (f 62 i).toNatClampNeg ≤ 80) (huser : user < 16) (hthing : thing < 16) (res : Option Value × am_M) : ∀ (n i6 : Nat) (a6_5 : Int32) (r6_73 : Nat → Int32) (r6_74 : Nat → Int32) , i6 + n = (f 55 11).toNatClampNeg → (fun (z : Int32 × (Nat → Int32) × (Nat → Int32)) => ∀ (wc6 : Value), am_F 3 am_k_80 58 [.ref 38, .int (nI user), .int act, .int (nI thing), .int rules, .int z.1, wc6] [] (am_S (am_row (am_row f 73 z.2.1) 74 z.2.2) g) res) (am_for (st_metK_6 user act thing rules f) n i6 (a6_5, r6_73, r6_74)) → am_F 3 am_k_80 6 [.ref 38, .int (nI user), .int act, .int (nI thing), .int rules, .int a6_5, .int (nI i6)] [] (am_S (am_row (am_row f 73 r6_73) 74 r6_74) g) res := by
  intro n
  induction n with
  | zero =>
    intro i6 a6_5 r6_73 r6_74 hi hK
    refine am_F.pos 6 rfl (by show (f 55 11) ≤ nI i6; rw [show (f 55 11 : Int32) = nI ((f 55 11).toNatClampNeg) from hRcK]; exact nI_le (by omega) (by omega)) ?_
    exact hK _
  | succ n ih =>
    intro i6 a6_5 r6_73 r6_74 hi hK
    refine am_F.neg 6 rfl (by show ¬ (f 55 11) ≤ nI i6; rw [show (f 55 11 : Int32) = nI ((f 55 11).toNatClampNeg) from hRcK]; exact nI_ge (by omega) (by omega)) ?_
    have hb6 : i6 < (f 55 11).toNatClampNeg := by omega
    show am_F _ _ 21 [.ref 38, .int (nI user), .int act, .int (nI thing), .int rules, .int a6_5, .int (nI i6)] [] (am_S (am_row (am_row f 73 r6_73) 74 r6_74) g) _
    obtain ⟨K, hKd⟩ : ∃ K : (Int32 × (Nat → Int32) × (Nat → Int32)) → Prop, K = fun s => (fun (z : Int32 × (Nat → Int32) × (Nat → Int32)) => ∀ (wc6 : Value), am_F 3 am_k_80 58 [.ref 38, .int (nI user), .int act, .int (nI thing), .int rules, .int z.1, wc6] [] (am_S (am_row (am_row f 73 z.2.1) 74 z.2.2) g) res) (am_for (st_metK_6 user act thing rules f) n (i6 + 1) s) := ⟨_, rfl⟩
    have hK : K ((st_metK_6 user act thing rules f) i6 (a6_5, r6_73, r6_74)) := by rw [hKd]; exact hK
    unfold st_metK_6 at hK
    simp only at hK
    refine am_F.ops (pc' := 25) (L' := [.ref 38, .int (nI user), .int act, .int (nI thing), .int rules, .int a6_5, .int (nI i6)]) (S' := [.int (nI i6), .int rules]) (μ' := (am_S (am_row (am_row f 73 r6_73) 74 r6_74) g)) 2 rfl ?_
    refine am_F.call rfl rfl (x_has rules (nI i6) (am_row (am_row f 73 r6_73) 74 r6_74) g ) (by decide) ?_
    show am_F _ _ 28 [.ref 38, .int (nI user), .int act, .int (nI thing), .int rules, .int a6_5, .int (nI i6)] [.int (am_b (fn_has rules (nI i6)))] (am_S (am_row (am_row f 73 r6_73) 74 r6_74) g) _
    refine am_F.bifK 1 rfl K hK (fun c7 hK => ?_) (fun c7 hK => ?_)
    · show am_F _ _ 31 [.ref 38, .int (nI user), .int act, .int (nI thing), .int rules, .int a6_5, .int (nI i6)] [] (am_S (am_row (am_row f 73 r6_73) 74 r6_74) g) _
      refine am_F.ops (pc' := 37) (L' := [.ref 38, .int (nI user), .int act, .int (nI thing), .int rules, .int a6_5, .int (nI i6)]) (S' := [.int (nI thing), .int act, .int (nI user), .int (nI i6), .ref 38]) (μ' := (am_S (am_row (am_row f 73 r6_73) 74 r6_74) g)) 5 rfl ?_
      refine am_F.call rfl rfl (x_meetsK i6 user act thing (am_row (am_row f 73 r6_73) 74 r6_74) g hPaK (hCsK _ (by omega)).1 (hCsK _ (by omega)).2 (by omega) (by omega) (by omega)) (by decide) ?_
      obtain ⟨y8, hy8⟩ : ∃ z, (fn_meetsK i6 user act thing (am_row (am_row f 73 r6_73) 74 r6_74)) = z := ⟨_, rfl⟩
      (try rw [hy8] at hK)
      (try rw [hy8])
      refine am_F.mem (F' := (am_row (am_row f 73 y8.2.1) 74 y8.2.2)) (G' := g) ?_ (by first | rfl | (funext a; by_cases z0 : a = 73; (subst z0; rfl); by_cases z1 : a = 74; (subst z1; rfl); simp only [am_ui, am_ul, am_row_ne z0, am_row_ne z1])) (by first | rfl | (funext a; by_cases z0 : a = 73; (subst z0; rfl); by_cases z1 : a = 74; (subst z1; rfl); simp only [am_ui, am_ul, am_row_ne z0, am_row_ne z1]))
      show am_F _ _ 40 [.ref 38, .int (nI user), .int act, .int (nI thing), .int rules, .int a6_5, .int (nI i6)] [.int (am_b (y8.1))] (am_S (am_row (am_row f 73 y8.2.1) 74 y8.2.2) g) _
      refine am_F.bifK 1 rfl K hK (fun c10 hK => ?_) (fun c10 hK => ?_)
      · show am_F _ _ 43 [.ref 38, .int (nI user), .int act, .int (nI thing), .int rules, .int a6_5, .int (nI i6)] [] (am_S (am_row (am_row f 73 y8.2.1) 74 y8.2.2) g) _
        refine am_F.ops (pc' := 6) (L' := [.ref 38, .int (nI user), .int act, .int (nI thing), .int rules, .int (a6_5 ||| (1 <<< ((nI i6) &&& 31))), .int ((nI i6) + 1)]) (S' := []) (μ' := (am_S (am_row (am_row f 73 y8.2.1) 74 y8.2.2) g)) 8 rfl ?_
        rw [nI_1 i6]
        subst hKd
        exact ih (i6 + 1) (a6_5 ||| (1 <<< ((nI i6) &&& 31))) y8.2.1 y8.2.2 (by omega)  hK
      · show am_F _ _ 52 [.ref 38, .int (nI user), .int act, .int (nI thing), .int rules, .int a6_5, .int (nI i6)] [] (am_S (am_row (am_row f 73 y8.2.1) 74 y8.2.2) g) _
        refine am_F.ops (pc' := 6) (L' := [.ref 38, .int (nI user), .int act, .int (nI thing), .int rules, .int a6_5, .int ((nI i6) + 1)]) (S' := []) (μ' := (am_S (am_row (am_row f 73 y8.2.1) 74 y8.2.2) g)) 2 rfl ?_
        rw [nI_1 i6]
        subst hKd
        exact ih (i6 + 1) a6_5 y8.2.1 y8.2.2 (by omega)  hK
    · show am_F _ _ 52 [.ref 38, .int (nI user), .int act, .int (nI thing), .int rules, .int a6_5, .int (nI i6)] [] (am_S (am_row (am_row f 73 r6_73) 74 r6_74) g) _
      refine am_F.ops (pc' := 6) (L' := [.ref 38, .int (nI user), .int act, .int (nI thing), .int rules, .int a6_5, .int ((nI i6) + 1)]) (S' := []) (μ' := (am_S (am_row (am_row f 73 r6_73) 74 r6_74) g)) 2 rfl ?_
      rw [nI_1 i6]
      subst hKd
      exact ih (i6 + 1) a6_5 r6_73 r6_74 (by omega)  hK
theorem x_metK (user : Nat) (act : Int32) (thing : Nat) (rules : Int32) (f : Nat → Nat → Int32) (g : Nat → Nat → Int64) (hRcK : f 55 11 = nI (f 55 11).toNatClampNeg) (hRnK : (f 55 11).toNatClampNeg ≤ 30) (hPaK : ∀ t, t < 16 → (f 66 t).toInt < 16) (hCsK : ∀ i, i < (f 55 11).toNatClampNeg → f 62 i = nI (f 62 i).toNatClampNeg ∧ (f 62 i).toNatClampNeg ≤ 80) (huser : user < 16) (hthing : thing < 16) : am_D 3 80 7 [.ref 38, .int (nI user), .int act, .int (nI thing), .int rules] (am_S f g) (some (Value.int ((fn_metK user act thing rules f).1)), am_S (am_row (am_row f 73 ((fn_metK user act thing rules f).2.1)) 74 ((fn_metK user act thing rules f).2.2)) g) := by
  refine am_D.of (code := am_k_80) rfl (L0 := [.ref 38, .int (nI user), .int act, .int (nI thing), .int rules, am_un, am_un]) rfl ?_
  generalize hres : (some (Value.int ((fn_metK user act thing rules f).1)), am_S (am_row (am_row f 73 ((fn_metK user act thing rules f).2.1)) 74 ((fn_metK user act thing rules f).2.2)) g) = res
  obtain ⟨K, hKd⟩ : ∃ K : (Int32 × (Nat → Int32) × (Nat → Int32)) → Prop, K = fun z => (some (Value.int z.1), am_S (am_row (am_row f 73 z.2.1) 74 z.2.2) g) = res := ⟨_, rfl⟩
  have hK : K (fn_metK user act thing rules f) := by rw [hKd]; exact hres
  clear hres
  unfold fn_metK at hK
  refine am_F.ops (pc' := 6) (L' := [.ref 38, .int (nI user), .int act, .int (nI thing), .int rules, .int 0, .int 0]) (S' := []) (μ' := (am_S f g)) 4 rfl ?_
  refine am_F.mem (F' := (am_row (am_row f 73 (f 73)) 74 (f 74))) (G' := g) ?_ (by first | rfl | (funext a; by_cases z0 : a = 73; (subst z0; rfl); by_cases z1 : a = 74; (subst z1; rfl); simp only [am_ui, am_ul, am_row_ne z0, am_row_ne z1])) (by first | rfl | (funext a; by_cases z0 : a = 73; (subst z0; rfl); by_cases z1 : a = 74; (subst z1; rfl); simp only [am_ui, am_ul, am_row_ne z0, am_row_ne z1]))
  show am_F _ _ 6 [.ref 38, .int (nI user), .int act, .int (nI thing), .int rules, .int 0, .int (nI 0)] [] (am_S (am_row (am_row f 73 (f 73)) 74 (f 74)) g) _
  refine lp_metK_6 user act thing rules f g hRcK hRnK hPaK hCsK huser hthing _ ((f 55 11).toNatClampNeg) 0 0 (f 73) (f 74)  (by omega)  ?_
  rw [show am_for (st_metK_6 user act thing rules f) ((f 55 11).toNatClampNeg) 0 (0, f 73, f 74) = (lf_metK_6 user act thing rules f) from rfl]
  generalize (lf_metK_6 user act thing rules f) = z6_11 at hK ⊢
  intro wc6
  show am_F _ _ 58 [.ref 38, .int (nI user), .int act, .int (nI thing), .int rules, .int z6_11.1, wc6] [] (am_S (am_row (am_row f 73 z6_11.2.1) 74 z6_11.2.2) g) _
  refine am_F.ops (pc' := 60) (L' := [.ref 38, .int (nI user), .int act, .int (nI thing), .int rules, .int z6_11.1, wc6]) (S' := [.int z6_11.1]) (μ' := (am_S (am_row (am_row f 73 z6_11.2.1) 74 z6_11.2.2) g)) 1 rfl ?_
  subst hKd
  exact am_F.eq (am_F.ret rfl rfl) hK
/-- AccessLattice$View.decider -/
def fn_deciderK (user : Nat) (act : Int32) (thing : Nat) (rules : Int32) (f : Nat → Nat → Int32) : Int32 × (Nat → Int32) × (Nat → Int32) := (if (if rules = 0 then 0 else (fn_ofRolesK rules (f 72 user) f)) = 0 then ((-1), f 73, f 74) else ((fn_firstK (fn_metK user act thing (if rules = 0 then 0 else (fn_ofRolesK rules (f 72 user) f)) f).1 (am_row (am_row f 73 (fn_metK user act thing (if rules = 0 then 0 else (fn_ofRolesK rules (f 72 user) f)) f).2.1) 74 (fn_metK user act thing (if rules = 0 then 0 else (fn_ofRolesK rules (f 72 user) f)) f).2.2)), (fn_metK user act thing (if rules = 0 then 0 else (fn_ofRolesK rules (f 72 user) f)) f).2.1, (fn_metK user act thing (if rules = 0 then 0 else (fn_ofRolesK rules (f 72 user) f)) f).2.2))
theorem x_deciderK (user : Nat) (act : Int32) (thing : Nat) (rules : Int32) (f : Nat → Nat → Int32) (g : Nat → Nat → Int64) (hRcK : f 55 11 = nI (f 55 11).toNatClampNeg) (hRnK : (f 55 11).toNatClampNeg ≤ 30) (hPaK : ∀ t, t < 16 → (f 66 t).toInt < 16) (hCsK : ∀ i, i < (f 55 11).toNatClampNeg → f 62 i = nI (f 62 i).toNatClampNeg ∧ (f 62 i).toNatClampNeg ≤ 80) (huser : user < 16) (hthing : thing < 16) : am_D 4 78 6 [.ref 38, .int (nI user), .int act, .int (nI thing), .int rules] (am_S f g) (some (Value.int ((fn_deciderK user act thing rules f).1)), am_S (am_row (am_row f 73 ((fn_deciderK user act thing rules f).2.1)) 74 ((fn_deciderK user act thing rules f).2.2)) g) := by
  refine am_D.of (code := am_k_78) rfl (L0 := [.ref 38, .int (nI user), .int act, .int (nI thing), .int rules, am_un]) rfl ?_
  generalize hres : (some (Value.int ((fn_deciderK user act thing rules f).1)), am_S (am_row (am_row f 73 ((fn_deciderK user act thing rules f).2.1)) 74 ((fn_deciderK user act thing rules f).2.2)) g) = res
  obtain ⟨K, hKd⟩ : ∃ K : (Int32 × (Nat → Int32) × (Nat → Int32)) → Prop, K = fun z => (some (Value.int z.1), am_S (am_row (am_row f 73 z.2.1) 74 z.2.2) g) = res := ⟨_, rfl⟩
  have hK : K (fn_deciderK user act thing rules f) := by rw [hKd]; exact hres
  clear hres
  unfold fn_deciderK at hK
  refine am_F.ops (pc' := 2) (L' := [.ref 38, .int (nI user), .int act, .int (nI thing), .int rules, am_un]) (S' := [.int rules]) (μ' := (am_S f g)) 1 rfl ?_
  refine am_F.to (am_To.ite (pc' := 27) (L2 := [.ref 38, .int (nI user), .int act, .int (nI thing), .int rules, am_un]) (S2 := []) (μ2 := (am_S f g)) (a := 0) (b := (fn_ofRolesK rules (f 72 user) f)) 1 rfl (fun c1 => ?_) (fun c1 => ?_)) ?_
  · intro res9 g9
    show am_F _ _ 5 [.ref 38, .int (nI user), .int act, .int (nI thing), .int rules, am_un] [] (am_S f g) _
    refine am_F.ops (pc' := 27) (L' := [.ref 38, .int (nI user), .int act, .int (nI thing), .int rules, am_un]) (S' := [.int 0]) (μ' := (am_S f g)) 2 rfl ?_
    exact g9
  · intro res9 g9
    show am_F _ _ 9 [.ref 38, .int (nI user), .int act, .int (nI thing), .int rules, am_un] [] (am_S f g) _
    refine am_F.ops (pc' := 23) (L' := [.ref 38, .int (nI user), .int act, .int (nI thing), .int rules, am_un]) (S' := [.int (nI user), .ref 72, .int rules, .ref 55]) (μ' := (am_S f g)) 7 rfl ?_
    refine am_F.ialE (m := user) (N := 16) rfl rfl rfl rfl (by omega) (by decide) ?_
    show am_F _ _ 24 [.ref 38, .int (nI user), .int act, .int (nI thing), .int rules, am_un] [.int (f 72 user), .int rules, .ref 55] (am_S f g) _
    refine am_F.call rfl rfl (x_ofRolesK rules (f 72 user) f g hRcK hRnK) (by decide) ?_
    show am_F _ _ 27 [.ref 38, .int (nI user), .int act, .int (nI thing), .int rules, am_un] [.int (fn_ofRolesK rules (f 72 user) f)] (am_S f g) _
    exact g9
  show am_F _ _ 27 [.ref 38, .int (nI user), .int act, .int (nI thing), .int rules, am_un] [.int (if rules = 0 then 0 else (fn_ofRolesK rules (f 72 user) f))] (am_S f g) _
  refine am_F.ops (pc' := 31) (L' := [.ref 38, .int (nI user), .int act, .int (nI thing), .int rules, .int (if rules = 0 then 0 else (fn_ofRolesK rules (f 72 user) f))]) (S' := [.int (if rules = 0 then 0 else (fn_ofRolesK rules (f 72 user) f))]) (μ' := (am_S f g)) 2 rfl ?_
  refine am_F.iteK 1 rfl K hK (fun c3 hK => ?_) (fun c3 hK => ?_)
  · show am_F _ _ 34 [.ref 38, .int (nI user), .int act, .int (nI thing), .int rules, .int (if rules = 0 then 0 else (fn_ofRolesK rules (f 72 user) f))] [] (am_S f g) _
    refine am_F.ops (pc' := 57) (L' := [.ref 38, .int (nI user), .int act, .int (nI thing), .int rules, .int (if rules = 0 then 0 else (fn_ofRolesK rules (f 72 user) f))]) (S' := [.int (-1)]) (μ' := (am_S f g)) 2 rfl ?_
    refine am_F.mem (F' := (am_row (am_row f 73 (f 73)) 74 (f 74))) (G' := g) ?_ (by first | rfl | (funext a; by_cases z0 : a = 73; (subst z0; rfl); by_cases z1 : a = 74; (subst z1; rfl); simp only [am_ui, am_ul, am_row_ne z0, am_row_ne z1])) (by first | rfl | (funext a; by_cases z0 : a = 73; (subst z0; rfl); by_cases z1 : a = 74; (subst z1; rfl); simp only [am_ui, am_ul, am_row_ne z0, am_row_ne z1]))
    subst hKd
    exact am_F.eq (am_F.ret rfl rfl) hK
  · show am_F _ _ 38 [.ref 38, .int (nI user), .int act, .int (nI thing), .int rules, .int (if rules = 0 then 0 else (fn_ofRolesK rules (f 72 user) f))] [] (am_S f g) _
    refine am_F.ops (pc' := 51) (L' := [.ref 38, .int (nI user), .int act, .int (nI thing), .int rules, .int (if rules = 0 then 0 else (fn_ofRolesK rules (f 72 user) f))]) (S' := [.int (if rules = 0 then 0 else (fn_ofRolesK rules (f 72 user) f)), .int (nI thing), .int act, .int (nI user), .ref 38, .ref 55]) (μ' := (am_S f g)) 8 rfl ?_
    refine am_F.call rfl rfl (x_metK user act thing (if rules = 0 then 0 else (fn_ofRolesK rules (f 72 user) f)) f g hRcK hRnK hPaK hCsK (by omega) (by omega)) (by decide) ?_
    obtain ⟨y4, hy4⟩ : ∃ z, (fn_metK user act thing (if rules = 0 then 0 else (fn_ofRolesK rules (f 72 user) f)) f) = z := ⟨_, rfl⟩
    (try rw [hy4] at hK)
    (try rw [hy4])
    refine am_F.mem (F' := (am_row (am_row f 73 y4.2.1) 74 y4.2.2)) (G' := g) ?_ (by first | rfl | (funext a; by_cases z0 : a = 73; (subst z0; rfl); by_cases z1 : a = 74; (subst z1; rfl); simp only [am_ui, am_ul, am_row_ne z0, am_row_ne z1])) (by first | rfl | (funext a; by_cases z0 : a = 73; (subst z0; rfl); by_cases z1 : a = 74; (subst z1; rfl); simp only [am_ui, am_ul, am_row_ne z0, am_row_ne z1]))
    show am_F _ _ 54 [.ref 38, .int (nI user), .int act, .int (nI thing), .int rules, .int (if rules = 0 then 0 else (fn_ofRolesK rules (f 72 user) f))] [.int y4.1, .ref 55] (am_S (am_row (am_row f 73 y4.2.1) 74 y4.2.2) g) _
    refine am_F.call rfl rfl (x_firstK y4.1 (am_row (am_row f 73 y4.2.1) 74 y4.2.2) g hRcK hRnK) (by decide) ?_
    show am_F _ _ 57 [.ref 38, .int (nI user), .int act, .int (nI thing), .int rules, .int (if rules = 0 then 0 else (fn_ofRolesK rules (f 72 user) f))] [.int (fn_firstK y4.1 (am_row (am_row f 73 y4.2.1) 74 y4.2.2))] (am_S (am_row (am_row f 73 y4.2.1) 74 y4.2.2) g) _
    subst hKd
    exact am_F.eq (am_F.ret rfl rfl) hK
