/-! the reference: the rest (wip/whole/n3.py) -/
set_option linter.constructorNameAsVariable false
set_option linter.unusedVariables false
/-- AccessLatticeModel.within, with checks -/
noncomputable def fn_m_within (a0 : Int32) (a1 : Int32) (f : Nat → Nat → Int32) : Option (Int32 × (Nat → Int32)) := (bif (fn_m_isOne a0) then (bif (fn_m_isIn a1 (-1) 15) then (if a1 < 0 then (some (f 89 (128 + (a0.toNatClampNeg)), upd (f 89) (128 + (a0.toNatClampNeg)) a1)) else (am_ob (fn_m_depth a1 a0 f) (fun (y6 : Int32) => (if y6 < 0 then (some (f 89 (128 + (a0.toNatClampNeg)), upd (f 89) (128 + (a0.toNatClampNeg)) a1)) else (some ((-4), f 89)))))) else (some ((-1), f 89))) else (some ((-1), f 89)))
theorem x_m_within (a0 : Int32) (a1 : Int32) (f : Nat → Nat → Int32) (g : Nat → Nat → Int64)  (z0 : Int32 × (Nat → Int32)) (hz0 : (fn_m_within a0 a1 f) = some z0) : am_D 2 149 4 [.ref 88, .int a0, .int a1] (am_S f g) (some (Value.int z0.1), am_S (am_row f 89 z0.2) g) := by
  refine am_D.of (code := am_k_149) rfl (L0 := [.ref 88, .int a0, .int a1, am_un]) rfl ?_
  generalize hres : (some (Value.int z0.1), am_S (am_row f 89 z0.2) g) = res
  obtain ⟨K, hKd⟩ : ∃ K : Option (Int32 × (Nat → Int32)) → Prop, K = am_KO (fun z => (some (Value.int z.1), am_S (am_row f 89 z.2) g) = res) := ⟨_, rfl⟩
  have hK : K (fn_m_within a0 a1 f) := by rw [hKd, hz0]; exact hres
  have hKn : ¬ K none := by rw [hKd]; exact id
  clear hres hz0
  unfold fn_m_within at hK
  refine am_F.ops (pc' := 1) (L' := [.ref 88, .int a0, .int a1, am_un]) (S' := [.int a0]) (μ' := (am_S f g)) 1 rfl ?_
  refine am_F.call rfl rfl (x_m_isOne a0 f g ) (by first | decide | omega) ?_
  show am_F _ _ 4 [.ref 88, .int a0, .int a1, am_un] [.int (am_b (fn_m_isOne a0))] (am_S f g) _
  refine am_F.bifK 1 rfl K hK (fun c2 hK => ?_) (fun c2 hK => ?_)
  · obtain ⟨a0_n, ha0_n, ea0_n⟩ := am_mOne c2
    subst ea0_n
    try simp only [nI_clamp (show a0_n < 2147483648 by omega)] at hK
    show am_F _ _ 7 [.ref 88, .int (nI a0_n), .int a1, am_un] [] (am_S f g) _
    refine am_F.ops (pc' := 11) (L' := [.ref 88, .int (nI a0_n), .int a1, am_un]) (S' := [.int 15, .int (-1), .int a1]) (μ' := (am_S f g)) 3 rfl ?_
    refine am_F.call rfl rfl (x_m_isIn a1 (-1) 15 f g ) (by first | decide | omega) ?_
    show am_F _ _ 14 [.ref 88, .int (nI a0_n), .int a1, am_un] [.int (am_b (fn_m_isIn a1 (-1) 15))] (am_S f g) _
    refine am_F.bifK 1 rfl K hK (fun c4 hK => ?_) (fun c4 hK => ?_)
    · show am_F _ _ 19 [.ref 88, .int (nI a0_n), .int a1, am_un] [] (am_S f g) _
      refine am_F.ops (pc' := 20) (L' := [.ref 88, .int (nI a0_n), .int a1, am_un]) (S' := [.int a1]) (μ' := (am_S f g)) 1 rfl ?_
      refine am_F.iteK 1 rfl K hK (fun c5 hK => ?_) (fun c5 hK => ?_)
      · show am_F _ _ 35 [.ref 88, .int (nI a0_n), .int a1, am_un] [] (am_S f g) _
        refine am_F.ops (pc' := 44) (L' := [.ref 88, .int (nI a0_n), .int a1, am_un]) (S' := [.int (128 + (nI a0_n)), .ref 89]) (μ' := (am_S f g)) 5 rfl ?_
        refine am_F.ialE (m := (128 + a0_n)) (N := 3340) rfl rfl rfl (am_addE rfl rfl) (by omega) (by decide) ?_
        show am_F _ _ 45 [.ref 88, .int (nI a0_n), .int a1, am_un] [.int (f 89 (128 + a0_n))] (am_S f g) _
        refine am_F.ops (pc' := 56) (L' := [.ref 88, .int (nI a0_n), .int a1, .int (f 89 (128 + a0_n))]) (S' := [.int a1, .int (128 + (nI a0_n)), .ref 89]) (μ' := (am_S f g)) 7 rfl ?_
        refine am_F.iasE (F' := (am_row f 89 (upd (f 89) (128 + a0_n) a1))) (m := (128 + a0_n)) (N := 3340) rfl rfl rfl (am_addE rfl rfl) (by omega) (by decide) (by first | rfl | (funext a; by_cases z0 : a = 89; (subst z0; rfl); simp only [am_ui, am_ul, am_row_ne z0])) ?_
        refine am_F.ops (pc' := 58) (L' := [.ref 88, .int (nI a0_n), .int a1, .int (f 89 (128 + a0_n))]) (S' := [.int (f 89 (128 + a0_n))]) (μ' := (am_S (am_row f 89 (upd (f 89) (128 + a0_n) a1)) g)) 1 rfl ?_
        subst hKd
        have hQ := am_KO_s hK
        exact am_F.eq (am_F.ret rfl rfl) hQ
      · show am_F _ _ 23 [.ref 88, .int (nI a0_n), .int a1, am_un] [] (am_S f g) _
        refine am_F.ops (pc' := 26) (L' := [.ref 88, .int (nI a0_n), .int a1, am_un]) (S' := [.int (nI a0_n), .int a1, .ref 88]) (μ' := (am_S f g)) 3 rfl ?_
        obtain ⟨y6, hy6, hK⟩ := am_ob_e hKn hK
        refine am_F.call rfl rfl (x_m_depth a1 (nI a0_n) f g  y6 hy6) (by first | decide | omega) ?_
        show am_F _ _ 29 [.ref 88, .int (nI a0_n), .int a1, am_un] [.int y6] (am_S f g) _
        refine am_F.iteK 1 rfl K hK (fun c7 hK => ?_) (fun c7 hK => ?_)
        · show am_F _ _ 35 [.ref 88, .int (nI a0_n), .int a1, am_un] [] (am_S f g) _
          refine am_F.ops (pc' := 44) (L' := [.ref 88, .int (nI a0_n), .int a1, am_un]) (S' := [.int (128 + (nI a0_n)), .ref 89]) (μ' := (am_S f g)) 5 rfl ?_
          refine am_F.ialE (m := (128 + a0_n)) (N := 3340) rfl rfl rfl (am_addE rfl rfl) (by omega) (by decide) ?_
          show am_F _ _ 45 [.ref 88, .int (nI a0_n), .int a1, am_un] [.int (f 89 (128 + a0_n))] (am_S f g) _
          refine am_F.ops (pc' := 56) (L' := [.ref 88, .int (nI a0_n), .int a1, .int (f 89 (128 + a0_n))]) (S' := [.int a1, .int (128 + (nI a0_n)), .ref 89]) (μ' := (am_S f g)) 7 rfl ?_
          refine am_F.iasE (F' := (am_row f 89 (upd (f 89) (128 + a0_n) a1))) (m := (128 + a0_n)) (N := 3340) rfl rfl rfl (am_addE rfl rfl) (by omega) (by decide) (by first | rfl | (funext a; by_cases z0 : a = 89; (subst z0; rfl); simp only [am_ui, am_ul, am_row_ne z0])) ?_
          refine am_F.ops (pc' := 58) (L' := [.ref 88, .int (nI a0_n), .int a1, .int (f 89 (128 + a0_n))]) (S' := [.int (f 89 (128 + a0_n))]) (μ' := (am_S (am_row f 89 (upd (f 89) (128 + a0_n) a1)) g)) 1 rfl ?_
          subst hKd
          have hQ := am_KO_s hK
          exact am_F.eq (am_F.ret rfl rfl) hQ
        · show am_F _ _ 32 [.ref 88, .int (nI a0_n), .int a1, am_un] [] (am_S f g) _
          refine am_F.ops (pc' := 34) (L' := [.ref 88, .int (nI a0_n), .int a1, am_un]) (S' := [.int (-4)]) (μ' := (am_S f g)) 1 rfl ?_
          refine am_F.mem (F' := (am_row f 89 (f 89))) (G' := g) ?_ (by first | rfl | (funext a; by_cases z0 : a = 89; (subst z0; rfl); simp only [am_ui, am_ul, am_row_ne z0])) (by first | rfl | (funext a; by_cases z0 : a = 89; (subst z0; rfl); simp only [am_ui, am_ul, am_row_ne z0]))
          subst hKd
          have hQ := am_KO_s hK
          exact am_F.eq (am_F.ret rfl rfl) hQ
    · show am_F _ _ 17 [.ref 88, .int (nI a0_n), .int a1, am_un] [] (am_S f g) _
      refine am_F.ops (pc' := 18) (L' := [.ref 88, .int (nI a0_n), .int a1, am_un]) (S' := [.int (-1)]) (μ' := (am_S f g)) 1 rfl ?_
      refine am_F.mem (F' := (am_row f 89 (f 89))) (G' := g) ?_ (by first | rfl | (funext a; by_cases z0 : a = 89; (subst z0; rfl); simp only [am_ui, am_ul, am_row_ne z0])) (by first | rfl | (funext a; by_cases z0 : a = 89; (subst z0; rfl); simp only [am_ui, am_ul, am_row_ne z0]))
      subst hKd
      have hQ := am_KO_s hK
      exact am_F.eq (am_F.ret rfl rfl) hQ
  · show am_F _ _ 17 [.ref 88, .int a0, .int a1, am_un] [] (am_S f g) _
    refine am_F.ops (pc' := 18) (L' := [.ref 88, .int a0, .int a1, am_un]) (S' := [.int (-1)]) (μ' := (am_S f g)) 1 rfl ?_
    refine am_F.mem (F' := (am_row f 89 (f 89))) (G' := g) ?_ (by first | rfl | (funext a; by_cases z0 : a = 89; (subst z0; rfl); simp only [am_ui, am_ul, am_row_ne z0])) (by first | rfl | (funext a; by_cases z0 : a = 89; (subst z0; rfl); simp only [am_ui, am_ul, am_row_ne z0]))
    subst hKd
    have hQ := am_KO_s hK
    exact am_F.eq (am_F.ret rfl rfl) hQ
/-- AccessLatticeModel.senior, with checks -/
noncomputable def fn_m_senior (a0 : Int32) (a1 : Int32) (a2 : Int32) (f : Nat → Nat → Int32) : Option (Int32 × (Nat → Int32) × (Nat → Int32) × (Nat → Int32) × (Nat → Int32) × (Nat → Int32)) := (bif (fn_m_isRole a0) then (bif (fn_m_isRole a1) then (bif (fn_m_isIn a2 0 1) then (if am_b (fn_m_has (f 89 (144 + (a0.toNatClampNeg))) a1) = am_b (if a2 = 1 then true else false) then (some ((-2), f 89, f 92, f 93, f 94, f 96)) else (if a2 = 1 then (if (f 89 203) = 40 then (some ((-3), f 89, f 92, f 93, f 94, f 96)) else (bif (fn_m_has (f 92 (a1.toNatClampNeg)) a0) then (some ((-4), f 89, f 92, f 93, f 94, f 96)) else (am_ob (fn_m_lattice (am_row f 89 (upd (f 89) (144 + (a0.toNatClampNeg)) ((f 89 (144 + (a0.toNatClampNeg))) ^^^ ((1 : Int32) <<< (a1 &&& 31)))))) (fun (y14 : (Nat → Int32)) => (am_chk (am_mOK (upd (f 89) (144 + (a0.toNatClampNeg)) ((f 89 (144 + (a0.toNatClampNeg))) ^^^ ((1 : Int32) <<< (a1 &&& 31))))) (bif ((fn_m_isAnyUnlike_153 (am_row (am_row f 89 (upd (f 89) (144 + (a0.toNatClampNeg)) ((f 89 (144 + (a0.toNatClampNeg))) ^^^ ((1 : Int32) <<< (a1 &&& 31))))) 92 y14)).1) then (am_ob (fn_m_lattice (am_row (am_row (am_row (am_row (am_row f 89 (upd (upd (f 89) (144 + (a0.toNatClampNeg)) ((f 89 (144 + (a0.toNatClampNeg))) ^^^ ((1 : Int32) <<< (a1 &&& 31)))) (144 + (a0.toNatClampNeg)) (((upd (f 89) (144 + (a0.toNatClampNeg)) ((f 89 (144 + (a0.toNatClampNeg))) ^^^ ((1 : Int32) <<< (a1 &&& 31)))) (144 + (a0.toNatClampNeg))) ^^^ ((1 : Int32) <<< (a1 &&& 31))))) 92 y14) 93 (fn_m_isAnyUnlike_153 (am_row (am_row f 89 (upd (f 89) (144 + (a0.toNatClampNeg)) ((f 89 (144 + (a0.toNatClampNeg))) ^^^ ((1 : Int32) <<< (a1 &&& 31))))) 92 y14)).2.1) 94 (fn_m_isAnyUnlike_153 (am_row (am_row f 89 (upd (f 89) (144 + (a0.toNatClampNeg)) ((f 89 (144 + (a0.toNatClampNeg))) ^^^ ((1 : Int32) <<< (a1 &&& 31))))) 92 y14)).2.2.1) 96 (fn_m_isAnyUnlike_153 (am_row (am_row f 89 (upd (f 89) (144 + (a0.toNatClampNeg)) ((f 89 (144 + (a0.toNatClampNeg))) ^^^ ((1 : Int32) <<< (a1 &&& 31))))) 92 y14)).2.2.2)) (fun (y18 : (Nat → Int32)) => (some ((-6), upd (upd (f 89) (144 + (a0.toNatClampNeg)) ((f 89 (144 + (a0.toNatClampNeg))) ^^^ ((1 : Int32) <<< (a1 &&& 31)))) (144 + (a0.toNatClampNeg)) (((upd (f 89) (144 + (a0.toNatClampNeg)) ((f 89 (144 + (a0.toNatClampNeg))) ^^^ ((1 : Int32) <<< (a1 &&& 31)))) (144 + (a0.toNatClampNeg))) ^^^ ((1 : Int32) <<< (a1 &&& 31))), y18, (fn_m_isAnyUnlike_153 (am_row (am_row f 89 (upd (f 89) (144 + (a0.toNatClampNeg)) ((f 89 (144 + (a0.toNatClampNeg))) ^^^ ((1 : Int32) <<< (a1 &&& 31))))) 92 y14)).2.1, (fn_m_isAnyUnlike_153 (am_row (am_row f 89 (upd (f 89) (144 + (a0.toNatClampNeg)) ((f 89 (144 + (a0.toNatClampNeg))) ^^^ ((1 : Int32) <<< (a1 &&& 31))))) 92 y14)).2.2.1, (fn_m_isAnyUnlike_153 (am_row (am_row f 89 (upd (f 89) (144 + (a0.toNatClampNeg)) ((f 89 (144 + (a0.toNatClampNeg))) ^^^ ((1 : Int32) <<< (a1 &&& 31))))) 92 y14)).2.2.2)))) else (some (((upd (f 89) (144 + (a0.toNatClampNeg)) ((f 89 (144 + (a0.toNatClampNeg))) ^^^ ((1 : Int32) <<< (a1 &&& 31)))) 203) + 1, upd (upd (f 89) (144 + (a0.toNatClampNeg)) ((f 89 (144 + (a0.toNatClampNeg))) ^^^ ((1 : Int32) <<< (a1 &&& 31)))) 203 (((upd (f 89) (144 + (a0.toNatClampNeg)) ((f 89 (144 + (a0.toNatClampNeg))) ^^^ ((1 : Int32) <<< (a1 &&& 31)))) 203) + 1), y14, (fn_m_isAnyUnlike_153 (am_row (am_row f 89 (upd (f 89) (144 + (a0.toNatClampNeg)) ((f 89 (144 + (a0.toNatClampNeg))) ^^^ ((1 : Int32) <<< (a1 &&& 31))))) 92 y14)).2.1, (fn_m_isAnyUnlike_153 (am_row (am_row f 89 (upd (f 89) (144 + (a0.toNatClampNeg)) ((f 89 (144 + (a0.toNatClampNeg))) ^^^ ((1 : Int32) <<< (a1 &&& 31))))) 92 y14)).2.2.1, (fn_m_isAnyUnlike_153 (am_row (am_row f 89 (upd (f 89) (144 + (a0.toNatClampNeg)) ((f 89 (144 + (a0.toNatClampNeg))) ^^^ ((1 : Int32) <<< (a1 &&& 31))))) 92 y14)).2.2.2)))))))) else (am_ob (fn_m_lattice (am_row f 89 (upd (f 89) (144 + (a0.toNatClampNeg)) ((f 89 (144 + (a0.toNatClampNeg))) ^^^ ((1 : Int32) <<< (a1 &&& 31)))))) (fun (y19 : (Nat → Int32)) => (some (((upd (f 89) (144 + (a0.toNatClampNeg)) ((f 89 (144 + (a0.toNatClampNeg))) ^^^ ((1 : Int32) <<< (a1 &&& 31)))) 203) + (-1), upd (upd (f 89) (144 + (a0.toNatClampNeg)) ((f 89 (144 + (a0.toNatClampNeg))) ^^^ ((1 : Int32) <<< (a1 &&& 31)))) 203 (((upd (f 89) (144 + (a0.toNatClampNeg)) ((f 89 (144 + (a0.toNatClampNeg))) ^^^ ((1 : Int32) <<< (a1 &&& 31)))) 203) + (-1)), y19, f 93, f 94, f 96)))))) else (some ((-1), f 89, f 92, f 93, f 94, f 96))) else (some ((-1), f 89, f 92, f 93, f 94, f 96))) else (some ((-1), f 89, f 92, f 93, f 94, f 96)))
theorem x_m_senior (a0 : Int32) (a1 : Int32) (a2 : Int32) (f : Nat → Nat → Int32) (g : Nat → Nat → Int64)  (z0 : Int32 × (Nat → Int32) × (Nat → Int32) × (Nat → Int32) × (Nat → Int32) × (Nat → Int32)) (hz0 : (fn_m_senior a0 a1 a2 f) = some z0) : am_D 5 151 4 [.ref 88, .int a0, .int a1, .int a2] (am_S f g) (some (Value.int z0.1), am_S (am_row (am_row (am_row (am_row (am_row f 89 z0.2.1) 92 z0.2.2.1) 93 z0.2.2.2.1) 94 z0.2.2.2.2.1) 96 z0.2.2.2.2.2) g) := by
  refine am_D.of (code := am_k_151) rfl (L0 := [.ref 88, .int a0, .int a1, .int a2]) rfl ?_
  generalize hres : (some (Value.int z0.1), am_S (am_row (am_row (am_row (am_row (am_row f 89 z0.2.1) 92 z0.2.2.1) 93 z0.2.2.2.1) 94 z0.2.2.2.2.1) 96 z0.2.2.2.2.2) g) = res
  obtain ⟨K, hKd⟩ : ∃ K : Option (Int32 × (Nat → Int32) × (Nat → Int32) × (Nat → Int32) × (Nat → Int32) × (Nat → Int32)) → Prop, K = am_KO (fun z => (some (Value.int z.1), am_S (am_row (am_row (am_row (am_row (am_row f 89 z.2.1) 92 z.2.2.1) 93 z.2.2.2.1) 94 z.2.2.2.2.1) 96 z.2.2.2.2.2) g) = res) := ⟨_, rfl⟩
  have hK : K (fn_m_senior a0 a1 a2 f) := by rw [hKd, hz0]; exact hres
  have hKn : ¬ K none := by rw [hKd]; exact id
  clear hres hz0
  unfold fn_m_senior at hK
  refine am_F.ops (pc' := 1) (L' := [.ref 88, .int a0, .int a1, .int a2]) (S' := [.int a0]) (μ' := (am_S f g)) 1 rfl ?_
  refine am_F.call rfl rfl (x_m_isRole a0 f g ) (by first | decide | omega) ?_
  show am_F _ _ 4 [.ref 88, .int a0, .int a1, .int a2] [.int (am_b (fn_m_isRole a0))] (am_S f g) _
  refine am_F.bifK 1 rfl K hK (fun c2 hK => ?_) (fun c2 hK => ?_)
  · obtain ⟨a0_n, ha0_n, ea0_n⟩ := am_mRole c2
    subst ea0_n
    try simp only [nI_clamp (show a0_n < 2147483648 by omega)] at hK
    show am_F _ _ 7 [.ref 88, .int (nI a0_n), .int a1, .int a2] [] (am_S f g) _
    refine am_F.ops (pc' := 8) (L' := [.ref 88, .int (nI a0_n), .int a1, .int a2]) (S' := [.int a1]) (μ' := (am_S f g)) 1 rfl ?_
    refine am_F.call rfl rfl (x_m_isRole a1 f g ) (by first | decide | omega) ?_
    show am_F _ _ 11 [.ref 88, .int (nI a0_n), .int a1, .int a2] [.int (am_b (fn_m_isRole a1))] (am_S f g) _
    refine am_F.bifK 1 rfl K hK (fun c4 hK => ?_) (fun c4 hK => ?_)
    · obtain ⟨a1_n, ha1_n, ea1_n⟩ := am_mRole c4
      subst ea1_n
      try simp only [nI_clamp (show a1_n < 2147483648 by omega)] at hK
      show am_F _ _ 14 [.ref 88, .int (nI a0_n), .int (nI a1_n), .int a2] [] (am_S f g) _
      refine am_F.ops (pc' := 17) (L' := [.ref 88, .int (nI a0_n), .int (nI a1_n), .int a2]) (S' := [.int 1, .int 0, .int a2]) (μ' := (am_S f g)) 3 rfl ?_
      refine am_F.call rfl rfl (x_m_isIn a2 0 1 f g ) (by first | decide | omega) ?_
      show am_F _ _ 20 [.ref 88, .int (nI a0_n), .int (nI a1_n), .int a2] [.int (am_b (fn_m_isIn a2 0 1))] (am_S f g) _
      refine am_F.bifK 1 rfl K hK (fun c6 hK => ?_) (fun c6 hK => ?_)
      · obtain ⟨a2_n, ha2_n, ea2_n⟩ := am_mInN (N := 2) c6 (by decide)
        subst ea2_n
        try simp only [nI_clamp (show a2_n < 2147483648 by omega)] at hK
        show am_F _ _ 25 [.ref 88, .int (nI a0_n), .int (nI a1_n), .int (nI a2_n)] [] (am_S f g) _
        refine am_F.ops (pc' := 34) (L' := [.ref 88, .int (nI a0_n), .int (nI a1_n), .int (nI a2_n)]) (S' := [.int (144 + (nI a0_n)), .ref 89]) (μ' := (am_S f g)) 5 rfl ?_
        refine am_F.ialE (m := (144 + a0_n)) (N := 3340) rfl rfl rfl (am_addE rfl rfl) (by omega) (by decide) ?_
        show am_F _ _ 35 [.ref 88, .int (nI a0_n), .int (nI a1_n), .int (nI a2_n)] [.int (f 89 (144 + a0_n))] (am_S f g) _
        refine am_F.ops (pc' := 36) (L' := [.ref 88, .int (nI a0_n), .int (nI a1_n), .int (nI a2_n)]) (S' := [.int (nI a1_n), .int (f 89 (144 + a0_n))]) (μ' := (am_S f g)) 1 rfl ?_
        refine am_F.call rfl rfl (x_m_has (f 89 (144 + a0_n)) (nI a1_n) f g ) (by first | decide | omega) ?_
        show am_F _ _ 39 [.ref 88, .int (nI a0_n), .int (nI a1_n), .int (nI a2_n)] [.int (am_b (fn_m_has (f 89 (144 + a0_n)) (nI a1_n)))] (am_S f g) _
        refine am_F.ops (pc' := 41) (L' := [.ref 88, .int (nI a0_n), .int (nI a1_n), .int (nI a2_n)]) (S' := [.int 1, .int (nI a2_n), .int (am_b (fn_m_has (f 89 (144 + a0_n)) (nI a1_n)))]) (μ' := (am_S f g)) 2 rfl ?_
        refine am_F.to (am_To.iteB (pc' := 49) (L2 := [.ref 88, .int (nI a0_n), .int (nI a1_n), .int (nI a2_n)]) (S2 := [.int (am_b (fn_m_has (f 89 (144 + a0_n)) (nI a1_n)))]) (μ2 := (am_S f g)) (a := true) (b := false) 1 rfl (fun c8 => ?_) (fun c8 => ?_)) ?_
        · intro res9 g9
          show am_F _ _ 44 [.ref 88, .int (nI a0_n), .int (nI a1_n), .int (nI a2_n)] [.int (am_b (fn_m_has (f 89 (144 + a0_n)) (nI a1_n)))] (am_S f g) _
          refine am_F.ops (pc' := 49) (L' := [.ref 88, .int (nI a0_n), .int (nI a1_n), .int (nI a2_n)]) (S' := [.int 1, .int (am_b (fn_m_has (f 89 (144 + a0_n)) (nI a1_n)))]) (μ' := (am_S f g)) 2 rfl ?_
          exact g9
        · intro res9 g9
          show am_F _ _ 48 [.ref 88, .int (nI a0_n), .int (nI a1_n), .int (nI a2_n)] [.int (am_b (fn_m_has (f 89 (144 + a0_n)) (nI a1_n)))] (am_S f g) _
          refine am_F.ops (pc' := 49) (L' := [.ref 88, .int (nI a0_n), .int (nI a1_n), .int (nI a2_n)]) (S' := [.int 0, .int (am_b (fn_m_has (f 89 (144 + a0_n)) (nI a1_n)))]) (μ' := (am_S f g)) 1 rfl ?_
          exact g9
        show am_F _ _ 49 [.ref 88, .int (nI a0_n), .int (nI a1_n), .int (nI a2_n)] [.int (am_b (if (nI a2_n) = 1 then true else false)), .int (am_b (fn_m_has (f 89 (144 + a0_n)) (nI a1_n)))] (am_S f g) _
        refine am_F.iteK 1 rfl K hK (fun c9 hK => ?_) (fun c9 hK => ?_)
        · show am_F _ _ 52 [.ref 88, .int (nI a0_n), .int (nI a1_n), .int (nI a2_n)] [] (am_S f g) _
          refine am_F.ops (pc' := 54) (L' := [.ref 88, .int (nI a0_n), .int (nI a1_n), .int (nI a2_n)]) (S' := [.int (-2)]) (μ' := (am_S f g)) 1 rfl ?_
          refine am_F.mem (F' := (am_row (am_row (am_row (am_row (am_row f 89 (f 89)) 92 (f 92)) 93 (f 93)) 94 (f 94)) 96 (f 96))) (G' := g) ?_ (by first | rfl | (funext a; by_cases z0 : a = 89; (subst z0; rfl); by_cases z1 : a = 92; (subst z1; rfl); by_cases z2 : a = 93; (subst z2; rfl); by_cases z3 : a = 94; (subst z3; rfl); by_cases z4 : a = 96; (subst z4; rfl); simp only [am_ui, am_ul, am_row_ne z0, am_row_ne z1, am_row_ne z2, am_row_ne z3, am_row_ne z4])) (by first | rfl | (funext a; by_cases z0 : a = 89; (subst z0; rfl); by_cases z1 : a = 92; (subst z1; rfl); by_cases z2 : a = 93; (subst z2; rfl); by_cases z3 : a = 94; (subst z3; rfl); by_cases z4 : a = 96; (subst z4; rfl); simp only [am_ui, am_ul, am_row_ne z0, am_row_ne z1, am_row_ne z2, am_row_ne z3, am_row_ne z4]))
          subst hKd
          have hQ := am_KO_s hK
          exact am_F.eq (am_F.ret rfl rfl) hQ
        · show am_F _ _ 55 [.ref 88, .int (nI a0_n), .int (nI a1_n), .int (nI a2_n)] [] (am_S f g) _
          refine am_F.ops (pc' := 57) (L' := [.ref 88, .int (nI a0_n), .int (nI a1_n), .int (nI a2_n)]) (S' := [.int 1, .int (nI a2_n)]) (μ' := (am_S f g)) 2 rfl ?_
          refine am_F.iteK 1 rfl K hK (fun c10 hK => ?_) (fun c10 hK => ?_)
          · show am_F _ _ 60 [.ref 88, .int (nI a0_n), .int (nI a1_n), .int (nI a2_n)] [] (am_S f g) _
            refine am_F.ops (pc' := 70) (L' := [.ref 88, .int (nI a0_n), .int (nI a1_n), .int (nI a2_n)]) (S' := [.int 40, .int (f 89 203)]) (μ' := (am_S f g)) 5 rfl ?_
            refine am_F.iteK 1 rfl K hK (fun c11 hK => ?_) (fun c11 hK => ?_)
            · show am_F _ _ 73 [.ref 88, .int (nI a0_n), .int (nI a1_n), .int (nI a2_n)] [] (am_S f g) _
              refine am_F.ops (pc' := 75) (L' := [.ref 88, .int (nI a0_n), .int (nI a1_n), .int (nI a2_n)]) (S' := [.int (-3)]) (μ' := (am_S f g)) 1 rfl ?_
              refine am_F.mem (F' := (am_row (am_row (am_row (am_row (am_row f 89 (f 89)) 92 (f 92)) 93 (f 93)) 94 (f 94)) 96 (f 96))) (G' := g) ?_ (by first | rfl | (funext a; by_cases z0 : a = 89; (subst z0; rfl); by_cases z1 : a = 92; (subst z1; rfl); by_cases z2 : a = 93; (subst z2; rfl); by_cases z3 : a = 94; (subst z3; rfl); by_cases z4 : a = 96; (subst z4; rfl); simp only [am_ui, am_ul, am_row_ne z0, am_row_ne z1, am_row_ne z2, am_row_ne z3, am_row_ne z4])) (by first | rfl | (funext a; by_cases z0 : a = 89; (subst z0; rfl); by_cases z1 : a = 92; (subst z1; rfl); by_cases z2 : a = 93; (subst z2; rfl); by_cases z3 : a = 94; (subst z3; rfl); by_cases z4 : a = 96; (subst z4; rfl); simp only [am_ui, am_ul, am_row_ne z0, am_row_ne z1, am_row_ne z2, am_row_ne z3, am_row_ne z4]))
              subst hKd
              have hQ := am_KO_s hK
              exact am_F.eq (am_F.ret rfl rfl) hQ
            · show am_F _ _ 76 [.ref 88, .int (nI a0_n), .int (nI a1_n), .int (nI a2_n)] [] (am_S f g) _
              refine am_F.ops (pc' := 78) (L' := [.ref 88, .int (nI a0_n), .int (nI a1_n), .int (nI a2_n)]) (S' := [.int 1, .int (nI a2_n)]) (μ' := (am_S f g)) 2 rfl ?_
              refine am_F.pos 1 rfl c10 ?_
              show am_F _ _ 81 [.ref 88, .int (nI a0_n), .int (nI a1_n), .int (nI a2_n)] [] (am_S f g) _
              refine am_F.ops (pc' := 86) (L' := [.ref 88, .int (nI a0_n), .int (nI a1_n), .int (nI a2_n)]) (S' := [.int (nI a1_n), .ref 92]) (μ' := (am_S f g)) 3 rfl ?_
              refine am_F.ialE (m := a1_n) (N := 20) rfl rfl rfl rfl (by omega) (by decide) ?_
              show am_F _ _ 87 [.ref 88, .int (nI a0_n), .int (nI a1_n), .int (nI a2_n)] [.int (f 92 a1_n)] (am_S f g) _
              refine am_F.ops (pc' := 88) (L' := [.ref 88, .int (nI a0_n), .int (nI a1_n), .int (nI a2_n)]) (S' := [.int (nI a0_n), .int (f 92 a1_n)]) (μ' := (am_S f g)) 1 rfl ?_
              refine am_F.call rfl rfl (x_m_has (f 92 a1_n) (nI a0_n) f g ) (by first | decide | omega) ?_
              show am_F _ _ 91 [.ref 88, .int (nI a0_n), .int (nI a1_n), .int (nI a2_n)] [.int (am_b (fn_m_has (f 92 a1_n) (nI a0_n)))] (am_S f g) _
              refine am_F.bifK 1 rfl K hK (fun c13 hK => ?_) (fun c13 hK => ?_)
              · show am_F _ _ 94 [.ref 88, .int (nI a0_n), .int (nI a1_n), .int (nI a2_n)] [] (am_S f g) _
                refine am_F.ops (pc' := 96) (L' := [.ref 88, .int (nI a0_n), .int (nI a1_n), .int (nI a2_n)]) (S' := [.int (-4)]) (μ' := (am_S f g)) 1 rfl ?_
                refine am_F.mem (F' := (am_row (am_row (am_row (am_row (am_row f 89 (f 89)) 92 (f 92)) 93 (f 93)) 94 (f 94)) 96 (f 96))) (G' := g) ?_ (by first | rfl | (funext a; by_cases z0 : a = 89; (subst z0; rfl); by_cases z1 : a = 92; (subst z1; rfl); by_cases z2 : a = 93; (subst z2; rfl); by_cases z3 : a = 94; (subst z3; rfl); by_cases z4 : a = 96; (subst z4; rfl); simp only [am_ui, am_ul, am_row_ne z0, am_row_ne z1, am_row_ne z2, am_row_ne z3, am_row_ne z4])) (by first | rfl | (funext a; by_cases z0 : a = 89; (subst z0; rfl); by_cases z1 : a = 92; (subst z1; rfl); by_cases z2 : a = 93; (subst z2; rfl); by_cases z3 : a = 94; (subst z3; rfl); by_cases z4 : a = 96; (subst z4; rfl); simp only [am_ui, am_ul, am_row_ne z0, am_row_ne z1, am_row_ne z2, am_row_ne z3, am_row_ne z4]))
                subst hKd
                have hQ := am_KO_s hK
                exact am_F.eq (am_F.ret rfl rfl) hQ
              · show am_F _ _ 97 [.ref 88, .int (nI a0_n), .int (nI a1_n), .int (nI a2_n)] [] (am_S f g) _
                refine am_F.ops (pc' := 107) (L' := [.ref 88, .int (nI a0_n), .int (nI a1_n), .int (nI a2_n)]) (S' := [.int (144 + (nI a0_n)), .ref 89, .int (144 + (nI a0_n)), .ref 89]) (μ' := (am_S f g)) 6 rfl ?_
                refine am_F.ialE (m := (144 + a0_n)) (N := 3340) rfl rfl rfl (am_addE rfl rfl) (by omega) (by decide) ?_
                show am_F _ _ 108 [.ref 88, .int (nI a0_n), .int (nI a1_n), .int (nI a2_n)] [.int (f 89 (144 + a0_n)), .int (144 + (nI a0_n)), .ref 89] (am_S f g) _
                refine am_F.ops (pc' := 112) (L' := [.ref 88, .int (nI a0_n), .int (nI a1_n), .int (nI a2_n)]) (S' := [.int ((f 89 (144 + a0_n)) ^^^ ((1 : Int32) <<< ((nI a1_n) &&& 31))), .int (144 + (nI a0_n)), .ref 89]) (μ' := (am_S f g)) 4 rfl ?_
                refine am_F.iasE (F' := (am_row f 89 (upd (f 89) (144 + a0_n) ((f 89 (144 + a0_n)) ^^^ ((1 : Int32) <<< ((nI a1_n) &&& 31)))))) (m := (144 + a0_n)) (N := 3340) rfl rfl rfl (am_addE rfl rfl) (by omega) (by decide) (by first | rfl | (funext a; by_cases z0 : a = 89; (subst z0; rfl); simp only [am_ui, am_ul, am_row_ne z0])) ?_
                refine am_F.ops (pc' := 114) (L' := [.ref 88, .int (nI a0_n), .int (nI a1_n), .int (nI a2_n)]) (S' := [.ref 88]) (μ' := (am_S (am_row f 89 (upd (f 89) (144 + a0_n) ((f 89 (144 + a0_n)) ^^^ ((1 : Int32) <<< ((nI a1_n) &&& 31))))) g)) 1 rfl ?_
                obtain ⟨y14, hy14, hK⟩ := am_ob_e hKn hK
                refine am_F.call rfl rfl (x_m_lattice  (am_row f 89 (upd (f 89) (144 + a0_n) ((f 89 (144 + a0_n)) ^^^ ((1 : Int32) <<< ((nI a1_n) &&& 31))))) g  y14 hy14) (by first | decide | omega) ?_
                refine am_F.mem (F' := (am_row (am_row f 89 (upd (f 89) (144 + a0_n) ((f 89 (144 + a0_n)) ^^^ ((1 : Int32) <<< ((nI a1_n) &&& 31))))) 92 y14)) (G' := g) ?_ (by first | rfl | (funext a; by_cases z0 : a = 89; (subst z0; rfl); by_cases z1 : a = 92; (subst z1; rfl); simp only [am_ui, am_ul, am_row_ne z0, am_row_ne z1])) (by first | rfl | (funext a; by_cases z0 : a = 89; (subst z0; rfl); by_cases z1 : a = 92; (subst z1; rfl); simp only [am_ui, am_ul, am_row_ne z0, am_row_ne z1]))
                show am_F _ _ 117 [.ref 88, .int (nI a0_n), .int (nI a1_n), .int (nI a2_n)] [] (am_S (am_row (am_row f 89 (upd (f 89) (144 + a0_n) ((f 89 (144 + a0_n)) ^^^ ((1 : Int32) <<< ((nI a1_n) &&& 31))))) 92 y14) g) _
                refine am_F.ops (pc' := 119) (L' := [.ref 88, .int (nI a0_n), .int (nI a1_n), .int (nI a2_n)]) (S' := [.int 1, .int (nI a2_n)]) (μ' := (am_S (am_row (am_row f 89 (upd (f 89) (144 + a0_n) ((f 89 (144 + a0_n)) ^^^ ((1 : Int32) <<< ((nI a1_n) &&& 31))))) 92 y14) g)) 2 rfl ?_
                refine am_F.pos 1 rfl c10 ?_
                show am_F _ _ 122 [.ref 88, .int (nI a0_n), .int (nI a1_n), .int (nI a2_n)] [] (am_S (am_row (am_row f 89 (upd (f 89) (144 + a0_n) ((f 89 (144 + a0_n)) ^^^ ((1 : Int32) <<< ((nI a1_n) &&& 31))))) 92 y14) g) _
                refine am_F.ops (pc' := 123) (L' := [.ref 88, .int (nI a0_n), .int (nI a1_n), .int (nI a2_n)]) (S' := [.ref 88]) (μ' := (am_S (am_row (am_row f 89 (upd (f 89) (144 + a0_n) ((f 89 (144 + a0_n)) ^^^ ((1 : Int32) <<< ((nI a1_n) &&& 31))))) 92 y14) g)) 1 rfl ?_
                obtain ⟨q15, hK⟩ := am_chk_e hKn hK
                obtain ⟨y16, hy16⟩ : ∃ z, (fn_m_isAnyUnlike_153 (am_row (am_row f 89 (upd (f 89) (144 + a0_n) ((f 89 (144 + a0_n)) ^^^ ((1 : Int32) <<< ((nI a1_n) &&& 31))))) 92 y14)) = z := ⟨_, rfl⟩
                (try rw [hy16] at hK)
                refine am_F.call rfl rfl (x_m_isAnyUnlike_153  (am_row (am_row f 89 (upd (f 89) (144 + a0_n) ((f 89 (144 + a0_n)) ^^^ ((1 : Int32) <<< ((nI a1_n) &&& 31))))) 92 y14) g (am_mOK_e (f := (am_row (am_row f 89 (upd (f 89) (144 + a0_n) ((f 89 (144 + a0_n)) ^^^ ((1 : Int32) <<< ((nI a1_n) &&& 31))))) 92 y14)) q15).1 (am_mOK_e (f := (am_row (am_row f 89 (upd (f 89) (144 + a0_n) ((f 89 (144 + a0_n)) ^^^ ((1 : Int32) <<< ((nI a1_n) &&& 31))))) 92 y14)) q15).2.1 (am_mOK_e (f := (am_row (am_row f 89 (upd (f 89) (144 + a0_n) ((f 89 (144 + a0_n)) ^^^ ((1 : Int32) <<< ((nI a1_n) &&& 31))))) 92 y14)) q15).2.2.1 (am_mOK_e (f := (am_row (am_row f 89 (upd (f 89) (144 + a0_n) ((f 89 (144 + a0_n)) ^^^ ((1 : Int32) <<< ((nI a1_n) &&& 31))))) 92 y14)) q15).2.2.2.1 (am_mOK_e (f := (am_row (am_row f 89 (upd (f 89) (144 + a0_n) ((f 89 (144 + a0_n)) ^^^ ((1 : Int32) <<< ((nI a1_n) &&& 31))))) 92 y14)) q15).2.2.2.2.1 (am_mOK_e (f := (am_row (am_row f 89 (upd (f 89) (144 + a0_n) ((f 89 (144 + a0_n)) ^^^ ((1 : Int32) <<< ((nI a1_n) &&& 31))))) 92 y14)) q15).2.2.2.2.2.1 (am_mOK_e (f := (am_row (am_row f 89 (upd (f 89) (144 + a0_n) ((f 89 (144 + a0_n)) ^^^ ((1 : Int32) <<< ((nI a1_n) &&& 31))))) 92 y14)) q15).2.2.2.2.2.2) (by first | decide | omega) ?_
                (try rw [hy16])
                refine am_F.mem (F' := (am_row (am_row (am_row (am_row (am_row f 89 (upd (f 89) (144 + a0_n) ((f 89 (144 + a0_n)) ^^^ ((1 : Int32) <<< ((nI a1_n) &&& 31))))) 92 y14) 93 y16.2.1) 94 y16.2.2.1) 96 y16.2.2.2)) (G' := g) ?_ (by first | rfl | (funext a; by_cases z0 : a = 89; (subst z0; rfl); by_cases z1 : a = 92; (subst z1; rfl); by_cases z2 : a = 93; (subst z2; rfl); by_cases z3 : a = 94; (subst z3; rfl); by_cases z4 : a = 96; (subst z4; rfl); simp only [am_ui, am_ul, am_row_ne z0, am_row_ne z1, am_row_ne z2, am_row_ne z3, am_row_ne z4])) (by first | rfl | (funext a; by_cases z0 : a = 89; (subst z0; rfl); by_cases z1 : a = 92; (subst z1; rfl); by_cases z2 : a = 93; (subst z2; rfl); by_cases z3 : a = 94; (subst z3; rfl); by_cases z4 : a = 96; (subst z4; rfl); simp only [am_ui, am_ul, am_row_ne z0, am_row_ne z1, am_row_ne z2, am_row_ne z3, am_row_ne z4]))
                show am_F _ _ 126 [.ref 88, .int (nI a0_n), .int (nI a1_n), .int (nI a2_n)] [.int (am_b (y16.1))] (am_S (am_row (am_row (am_row (am_row (am_row f 89 (upd (f 89) (144 + a0_n) ((f 89 (144 + a0_n)) ^^^ ((1 : Int32) <<< ((nI a1_n) &&& 31))))) 92 y14) 93 y16.2.1) 94 y16.2.2.1) 96 y16.2.2.2) g) _
                refine am_F.bifK 1 rfl K hK (fun c17 hK => ?_) (fun c17 hK => ?_)
                · show am_F _ _ 129 [.ref 88, .int (nI a0_n), .int (nI a1_n), .int (nI a2_n)] [] (am_S (am_row (am_row (am_row (am_row (am_row f 89 (upd (f 89) (144 + a0_n) ((f 89 (144 + a0_n)) ^^^ ((1 : Int32) <<< ((nI a1_n) &&& 31))))) 92 y14) 93 y16.2.1) 94 y16.2.2.1) 96 y16.2.2.2) g) _
                  refine am_F.ops (pc' := 139) (L' := [.ref 88, .int (nI a0_n), .int (nI a1_n), .int (nI a2_n)]) (S' := [.int (144 + (nI a0_n)), .ref 89, .int (144 + (nI a0_n)), .ref 89]) (μ' := (am_S (am_row (am_row (am_row (am_row (am_row f 89 (upd (f 89) (144 + a0_n) ((f 89 (144 + a0_n)) ^^^ ((1 : Int32) <<< ((nI a1_n) &&& 31))))) 92 y14) 93 y16.2.1) 94 y16.2.2.1) 96 y16.2.2.2) g)) 6 rfl ?_
                  refine am_F.ialE (m := (144 + a0_n)) (N := 3340) rfl rfl rfl (am_addE rfl rfl) (by omega) (by decide) ?_
                  show am_F _ _ 140 [.ref 88, .int (nI a0_n), .int (nI a1_n), .int (nI a2_n)] [.int ((upd (f 89) (144 + a0_n) ((f 89 (144 + a0_n)) ^^^ ((1 : Int32) <<< ((nI a1_n) &&& 31)))) (144 + a0_n)), .int (144 + (nI a0_n)), .ref 89] (am_S (am_row (am_row (am_row (am_row (am_row f 89 (upd (f 89) (144 + a0_n) ((f 89 (144 + a0_n)) ^^^ ((1 : Int32) <<< ((nI a1_n) &&& 31))))) 92 y14) 93 y16.2.1) 94 y16.2.2.1) 96 y16.2.2.2) g) _
                  refine am_F.ops (pc' := 144) (L' := [.ref 88, .int (nI a0_n), .int (nI a1_n), .int (nI a2_n)]) (S' := [.int (((upd (f 89) (144 + a0_n) ((f 89 (144 + a0_n)) ^^^ ((1 : Int32) <<< ((nI a1_n) &&& 31)))) (144 + a0_n)) ^^^ ((1 : Int32) <<< ((nI a1_n) &&& 31))), .int (144 + (nI a0_n)), .ref 89]) (μ' := (am_S (am_row (am_row (am_row (am_row (am_row f 89 (upd (f 89) (144 + a0_n) ((f 89 (144 + a0_n)) ^^^ ((1 : Int32) <<< ((nI a1_n) &&& 31))))) 92 y14) 93 y16.2.1) 94 y16.2.2.1) 96 y16.2.2.2) g)) 4 rfl ?_
                  refine am_F.iasE (F' := (am_row (am_row (am_row (am_row (am_row f 89 (upd (upd (f 89) (144 + a0_n) ((f 89 (144 + a0_n)) ^^^ ((1 : Int32) <<< ((nI a1_n) &&& 31)))) (144 + a0_n) (((upd (f 89) (144 + a0_n) ((f 89 (144 + a0_n)) ^^^ ((1 : Int32) <<< ((nI a1_n) &&& 31)))) (144 + a0_n)) ^^^ ((1 : Int32) <<< ((nI a1_n) &&& 31))))) 92 y14) 93 y16.2.1) 94 y16.2.2.1) 96 y16.2.2.2)) (m := (144 + a0_n)) (N := 3340) rfl rfl rfl (am_addE rfl rfl) (by omega) (by decide) (by first | rfl | (funext a; by_cases z0 : a = 89; (subst z0; rfl); by_cases z1 : a = 92; (subst z1; rfl); by_cases z2 : a = 93; (subst z2; rfl); by_cases z3 : a = 94; (subst z3; rfl); by_cases z4 : a = 96; (subst z4; rfl); simp only [am_ui, am_ul, am_row_ne z0, am_row_ne z1, am_row_ne z2, am_row_ne z3, am_row_ne z4])) ?_
                  refine am_F.ops (pc' := 146) (L' := [.ref 88, .int (nI a0_n), .int (nI a1_n), .int (nI a2_n)]) (S' := [.ref 88]) (μ' := (am_S (am_row (am_row (am_row (am_row (am_row f 89 (upd (upd (f 89) (144 + a0_n) ((f 89 (144 + a0_n)) ^^^ ((1 : Int32) <<< ((nI a1_n) &&& 31)))) (144 + a0_n) (((upd (f 89) (144 + a0_n) ((f 89 (144 + a0_n)) ^^^ ((1 : Int32) <<< ((nI a1_n) &&& 31)))) (144 + a0_n)) ^^^ ((1 : Int32) <<< ((nI a1_n) &&& 31))))) 92 y14) 93 y16.2.1) 94 y16.2.2.1) 96 y16.2.2.2) g)) 1 rfl ?_
                  obtain ⟨y18, hy18, hK⟩ := am_ob_e hKn hK
                  refine am_F.call rfl rfl (x_m_lattice  (am_row (am_row (am_row (am_row (am_row f 89 (upd (upd (f 89) (144 + a0_n) ((f 89 (144 + a0_n)) ^^^ ((1 : Int32) <<< ((nI a1_n) &&& 31)))) (144 + a0_n) (((upd (f 89) (144 + a0_n) ((f 89 (144 + a0_n)) ^^^ ((1 : Int32) <<< ((nI a1_n) &&& 31)))) (144 + a0_n)) ^^^ ((1 : Int32) <<< ((nI a1_n) &&& 31))))) 92 y14) 93 y16.2.1) 94 y16.2.2.1) 96 y16.2.2.2) g  y18 hy18) (by first | decide | omega) ?_
                  refine am_F.mem (F' := (am_row (am_row (am_row (am_row (am_row f 89 (upd (upd (f 89) (144 + a0_n) ((f 89 (144 + a0_n)) ^^^ ((1 : Int32) <<< ((nI a1_n) &&& 31)))) (144 + a0_n) (((upd (f 89) (144 + a0_n) ((f 89 (144 + a0_n)) ^^^ ((1 : Int32) <<< ((nI a1_n) &&& 31)))) (144 + a0_n)) ^^^ ((1 : Int32) <<< ((nI a1_n) &&& 31))))) 92 y18) 93 y16.2.1) 94 y16.2.2.1) 96 y16.2.2.2)) (G' := g) ?_ (by first | rfl | (funext a; by_cases z0 : a = 89; (subst z0; rfl); by_cases z1 : a = 92; (subst z1; rfl); by_cases z2 : a = 93; (subst z2; rfl); by_cases z3 : a = 94; (subst z3; rfl); by_cases z4 : a = 96; (subst z4; rfl); simp only [am_ui, am_ul, am_row_ne z0, am_row_ne z1, am_row_ne z2, am_row_ne z3, am_row_ne z4])) (by first | rfl | (funext a; by_cases z0 : a = 89; (subst z0; rfl); by_cases z1 : a = 92; (subst z1; rfl); by_cases z2 : a = 93; (subst z2; rfl); by_cases z3 : a = 94; (subst z3; rfl); by_cases z4 : a = 96; (subst z4; rfl); simp only [am_ui, am_ul, am_row_ne z0, am_row_ne z1, am_row_ne z2, am_row_ne z3, am_row_ne z4]))
                  show am_F _ _ 149 [.ref 88, .int (nI a0_n), .int (nI a1_n), .int (nI a2_n)] [] (am_S (am_row (am_row (am_row (am_row (am_row f 89 (upd (upd (f 89) (144 + a0_n) ((f 89 (144 + a0_n)) ^^^ ((1 : Int32) <<< ((nI a1_n) &&& 31)))) (144 + a0_n) (((upd (f 89) (144 + a0_n) ((f 89 (144 + a0_n)) ^^^ ((1 : Int32) <<< ((nI a1_n) &&& 31)))) (144 + a0_n)) ^^^ ((1 : Int32) <<< ((nI a1_n) &&& 31))))) 92 y18) 93 y16.2.1) 94 y16.2.2.1) 96 y16.2.2.2) g) _
                  refine am_F.ops (pc' := 151) (L' := [.ref 88, .int (nI a0_n), .int (nI a1_n), .int (nI a2_n)]) (S' := [.int (-6)]) (μ' := (am_S (am_row (am_row (am_row (am_row (am_row f 89 (upd (upd (f 89) (144 + a0_n) ((f 89 (144 + a0_n)) ^^^ ((1 : Int32) <<< ((nI a1_n) &&& 31)))) (144 + a0_n) (((upd (f 89) (144 + a0_n) ((f 89 (144 + a0_n)) ^^^ ((1 : Int32) <<< ((nI a1_n) &&& 31)))) (144 + a0_n)) ^^^ ((1 : Int32) <<< ((nI a1_n) &&& 31))))) 92 y18) 93 y16.2.1) 94 y16.2.2.1) 96 y16.2.2.2) g)) 1 rfl ?_
                  subst hKd
                  have hQ := am_KO_s hK
                  exact am_F.eq (am_F.ret rfl rfl) hQ
                · show am_F _ _ 152 [.ref 88, .int (nI a0_n), .int (nI a1_n), .int (nI a2_n)] [] (am_S (am_row (am_row (am_row (am_row (am_row f 89 (upd (f 89) (144 + a0_n) ((f 89 (144 + a0_n)) ^^^ ((1 : Int32) <<< ((nI a1_n) &&& 31))))) 92 y14) 93 y16.2.1) 94 y16.2.2.1) 96 y16.2.2.2) g) _
                  refine am_F.ops (pc' := 163) (L' := [.ref 88, .int (nI a0_n), .int (nI a1_n), .int (nI a2_n)]) (S' := [.int 1, .int (nI a2_n), .int ((upd (f 89) (144 + a0_n) ((f 89 (144 + a0_n)) ^^^ ((1 : Int32) <<< ((nI a1_n) &&& 31)))) 203), .int 203, .ref 89]) (μ' := (am_S (am_row (am_row (am_row (am_row (am_row f 89 (upd (f 89) (144 + a0_n) ((f 89 (144 + a0_n)) ^^^ ((1 : Int32) <<< ((nI a1_n) &&& 31))))) 92 y14) 93 y16.2.1) 94 y16.2.2.1) 96 y16.2.2.2) g)) 7 rfl ?_
                  refine am_F.pos 1 rfl c10 ?_
                  show am_F _ _ 166 [.ref 88, .int (nI a0_n), .int (nI a1_n), .int (nI a2_n)] [.int ((upd (f 89) (144 + a0_n) ((f 89 (144 + a0_n)) ^^^ ((1 : Int32) <<< ((nI a1_n) &&& 31)))) 203), .int 203, .ref 89] (am_S (am_row (am_row (am_row (am_row (am_row f 89 (upd (f 89) (144 + a0_n) ((f 89 (144 + a0_n)) ^^^ ((1 : Int32) <<< ((nI a1_n) &&& 31))))) 92 y14) 93 y16.2.1) 94 y16.2.2.1) 96 y16.2.2.2) g) _
                  refine am_F.ops (pc' := 172) (L' := [.ref 88, .int (nI a0_n), .int (nI a1_n), .int (nI a2_n)]) (S' := [.int (((upd (f 89) (144 + a0_n) ((f 89 (144 + a0_n)) ^^^ ((1 : Int32) <<< ((nI a1_n) &&& 31)))) 203) + 1), .int 203, .ref 89]) (μ' := (am_S (am_row (am_row (am_row (am_row (am_row f 89 (upd (f 89) (144 + a0_n) ((f 89 (144 + a0_n)) ^^^ ((1 : Int32) <<< ((nI a1_n) &&& 31))))) 92 y14) 93 y16.2.1) 94 y16.2.2.1) 96 y16.2.2.2) g)) 3 rfl ?_
                  refine am_F.iasE (F' := (am_row (am_row (am_row (am_row (am_row f 89 (upd (upd (f 89) (144 + a0_n) ((f 89 (144 + a0_n)) ^^^ ((1 : Int32) <<< ((nI a1_n) &&& 31)))) 203 (((upd (f 89) (144 + a0_n) ((f 89 (144 + a0_n)) ^^^ ((1 : Int32) <<< ((nI a1_n) &&& 31)))) 203) + 1))) 92 y14) 93 y16.2.1) 94 y16.2.2.1) 96 y16.2.2.2)) (m := 203) (N := 3340) rfl rfl rfl rfl (by omega) (by decide) (by first | rfl | (funext a; by_cases z0 : a = 89; (subst z0; rfl); by_cases z1 : a = 92; (subst z1; rfl); by_cases z2 : a = 93; (subst z2; rfl); by_cases z3 : a = 94; (subst z3; rfl); by_cases z4 : a = 96; (subst z4; rfl); simp only [am_ui, am_ul, am_row_ne z0, am_row_ne z1, am_row_ne z2, am_row_ne z3, am_row_ne z4])) ?_
                  refine am_F.ops (pc' := 181) (L' := [.ref 88, .int (nI a0_n), .int (nI a1_n), .int (nI a2_n)]) (S' := [.int (((upd (f 89) (144 + a0_n) ((f 89 (144 + a0_n)) ^^^ ((1 : Int32) <<< ((nI a1_n) &&& 31)))) 203) + 1)]) (μ' := (am_S (am_row (am_row (am_row (am_row (am_row f 89 (upd (upd (f 89) (144 + a0_n) ((f 89 (144 + a0_n)) ^^^ ((1 : Int32) <<< ((nI a1_n) &&& 31)))) 203 (((upd (f 89) (144 + a0_n) ((f 89 (144 + a0_n)) ^^^ ((1 : Int32) <<< ((nI a1_n) &&& 31)))) 203) + 1))) 92 y14) 93 y16.2.1) 94 y16.2.2.1) 96 y16.2.2.2) g)) 4 rfl ?_
                  subst hKd
                  have hQ := am_KO_s hK
                  exact am_F.eq (am_F.ret rfl rfl) hQ
          · show am_F _ _ 76 [.ref 88, .int (nI a0_n), .int (nI a1_n), .int (nI a2_n)] [] (am_S f g) _
            refine am_F.ops (pc' := 78) (L' := [.ref 88, .int (nI a0_n), .int (nI a1_n), .int (nI a2_n)]) (S' := [.int 1, .int (nI a2_n)]) (μ' := (am_S f g)) 2 rfl ?_
            refine am_F.neg 1 rfl c10 ?_
            show am_F _ _ 97 [.ref 88, .int (nI a0_n), .int (nI a1_n), .int (nI a2_n)] [] (am_S f g) _
            refine am_F.ops (pc' := 107) (L' := [.ref 88, .int (nI a0_n), .int (nI a1_n), .int (nI a2_n)]) (S' := [.int (144 + (nI a0_n)), .ref 89, .int (144 + (nI a0_n)), .ref 89]) (μ' := (am_S f g)) 6 rfl ?_
            refine am_F.ialE (m := (144 + a0_n)) (N := 3340) rfl rfl rfl (am_addE rfl rfl) (by omega) (by decide) ?_
            show am_F _ _ 108 [.ref 88, .int (nI a0_n), .int (nI a1_n), .int (nI a2_n)] [.int (f 89 (144 + a0_n)), .int (144 + (nI a0_n)), .ref 89] (am_S f g) _
            refine am_F.ops (pc' := 112) (L' := [.ref 88, .int (nI a0_n), .int (nI a1_n), .int (nI a2_n)]) (S' := [.int ((f 89 (144 + a0_n)) ^^^ ((1 : Int32) <<< ((nI a1_n) &&& 31))), .int (144 + (nI a0_n)), .ref 89]) (μ' := (am_S f g)) 4 rfl ?_
            refine am_F.iasE (F' := (am_row f 89 (upd (f 89) (144 + a0_n) ((f 89 (144 + a0_n)) ^^^ ((1 : Int32) <<< ((nI a1_n) &&& 31)))))) (m := (144 + a0_n)) (N := 3340) rfl rfl rfl (am_addE rfl rfl) (by omega) (by decide) (by first | rfl | (funext a; by_cases z0 : a = 89; (subst z0; rfl); simp only [am_ui, am_ul, am_row_ne z0])) ?_
            refine am_F.ops (pc' := 114) (L' := [.ref 88, .int (nI a0_n), .int (nI a1_n), .int (nI a2_n)]) (S' := [.ref 88]) (μ' := (am_S (am_row f 89 (upd (f 89) (144 + a0_n) ((f 89 (144 + a0_n)) ^^^ ((1 : Int32) <<< ((nI a1_n) &&& 31))))) g)) 1 rfl ?_
            obtain ⟨y19, hy19, hK⟩ := am_ob_e hKn hK
            refine am_F.call rfl rfl (x_m_lattice  (am_row f 89 (upd (f 89) (144 + a0_n) ((f 89 (144 + a0_n)) ^^^ ((1 : Int32) <<< ((nI a1_n) &&& 31))))) g  y19 hy19) (by first | decide | omega) ?_
            refine am_F.mem (F' := (am_row (am_row f 89 (upd (f 89) (144 + a0_n) ((f 89 (144 + a0_n)) ^^^ ((1 : Int32) <<< ((nI a1_n) &&& 31))))) 92 y19)) (G' := g) ?_ (by first | rfl | (funext a; by_cases z0 : a = 89; (subst z0; rfl); by_cases z1 : a = 92; (subst z1; rfl); simp only [am_ui, am_ul, am_row_ne z0, am_row_ne z1])) (by first | rfl | (funext a; by_cases z0 : a = 89; (subst z0; rfl); by_cases z1 : a = 92; (subst z1; rfl); simp only [am_ui, am_ul, am_row_ne z0, am_row_ne z1]))
            show am_F _ _ 117 [.ref 88, .int (nI a0_n), .int (nI a1_n), .int (nI a2_n)] [] (am_S (am_row (am_row f 89 (upd (f 89) (144 + a0_n) ((f 89 (144 + a0_n)) ^^^ ((1 : Int32) <<< ((nI a1_n) &&& 31))))) 92 y19) g) _
            refine am_F.ops (pc' := 119) (L' := [.ref 88, .int (nI a0_n), .int (nI a1_n), .int (nI a2_n)]) (S' := [.int 1, .int (nI a2_n)]) (μ' := (am_S (am_row (am_row f 89 (upd (f 89) (144 + a0_n) ((f 89 (144 + a0_n)) ^^^ ((1 : Int32) <<< ((nI a1_n) &&& 31))))) 92 y19) g)) 2 rfl ?_
            refine am_F.neg 1 rfl c10 ?_
            show am_F _ _ 152 [.ref 88, .int (nI a0_n), .int (nI a1_n), .int (nI a2_n)] [] (am_S (am_row (am_row f 89 (upd (f 89) (144 + a0_n) ((f 89 (144 + a0_n)) ^^^ ((1 : Int32) <<< ((nI a1_n) &&& 31))))) 92 y19) g) _
            refine am_F.ops (pc' := 163) (L' := [.ref 88, .int (nI a0_n), .int (nI a1_n), .int (nI a2_n)]) (S' := [.int 1, .int (nI a2_n), .int ((upd (f 89) (144 + a0_n) ((f 89 (144 + a0_n)) ^^^ ((1 : Int32) <<< ((nI a1_n) &&& 31)))) 203), .int 203, .ref 89]) (μ' := (am_S (am_row (am_row f 89 (upd (f 89) (144 + a0_n) ((f 89 (144 + a0_n)) ^^^ ((1 : Int32) <<< ((nI a1_n) &&& 31))))) 92 y19) g)) 7 rfl ?_
            refine am_F.neg 1 rfl c10 ?_
            show am_F _ _ 170 [.ref 88, .int (nI a0_n), .int (nI a1_n), .int (nI a2_n)] [.int ((upd (f 89) (144 + a0_n) ((f 89 (144 + a0_n)) ^^^ ((1 : Int32) <<< ((nI a1_n) &&& 31)))) 203), .int 203, .ref 89] (am_S (am_row (am_row f 89 (upd (f 89) (144 + a0_n) ((f 89 (144 + a0_n)) ^^^ ((1 : Int32) <<< ((nI a1_n) &&& 31))))) 92 y19) g) _
            refine am_F.ops (pc' := 172) (L' := [.ref 88, .int (nI a0_n), .int (nI a1_n), .int (nI a2_n)]) (S' := [.int (((upd (f 89) (144 + a0_n) ((f 89 (144 + a0_n)) ^^^ ((1 : Int32) <<< ((nI a1_n) &&& 31)))) 203) + (-1)), .int 203, .ref 89]) (μ' := (am_S (am_row (am_row f 89 (upd (f 89) (144 + a0_n) ((f 89 (144 + a0_n)) ^^^ ((1 : Int32) <<< ((nI a1_n) &&& 31))))) 92 y19) g)) 2 rfl ?_
            refine am_F.iasE (F' := (am_row (am_row f 89 (upd (upd (f 89) (144 + a0_n) ((f 89 (144 + a0_n)) ^^^ ((1 : Int32) <<< ((nI a1_n) &&& 31)))) 203 (((upd (f 89) (144 + a0_n) ((f 89 (144 + a0_n)) ^^^ ((1 : Int32) <<< ((nI a1_n) &&& 31)))) 203) + (-1)))) 92 y19)) (m := 203) (N := 3340) rfl rfl rfl rfl (by omega) (by decide) (by first | rfl | (funext a; by_cases z0 : a = 89; (subst z0; rfl); by_cases z1 : a = 92; (subst z1; rfl); simp only [am_ui, am_ul, am_row_ne z0, am_row_ne z1])) ?_
            refine am_F.ops (pc' := 181) (L' := [.ref 88, .int (nI a0_n), .int (nI a1_n), .int (nI a2_n)]) (S' := [.int (((upd (f 89) (144 + a0_n) ((f 89 (144 + a0_n)) ^^^ ((1 : Int32) <<< ((nI a1_n) &&& 31)))) 203) + (-1))]) (μ' := (am_S (am_row (am_row f 89 (upd (upd (f 89) (144 + a0_n) ((f 89 (144 + a0_n)) ^^^ ((1 : Int32) <<< ((nI a1_n) &&& 31)))) 203 (((upd (f 89) (144 + a0_n) ((f 89 (144 + a0_n)) ^^^ ((1 : Int32) <<< ((nI a1_n) &&& 31)))) 203) + (-1)))) 92 y19) g)) 4 rfl ?_
            refine am_F.mem (F' := (am_row (am_row (am_row (am_row (am_row f 89 (upd (upd (f 89) (144 + a0_n) ((f 89 (144 + a0_n)) ^^^ ((1 : Int32) <<< ((nI a1_n) &&& 31)))) 203 (((upd (f 89) (144 + a0_n) ((f 89 (144 + a0_n)) ^^^ ((1 : Int32) <<< ((nI a1_n) &&& 31)))) 203) + (-1)))) 92 y19) 93 (f 93)) 94 (f 94)) 96 (f 96))) (G' := g) ?_ (by first | rfl | (funext a; by_cases z0 : a = 89; (subst z0; rfl); by_cases z1 : a = 92; (subst z1; rfl); by_cases z2 : a = 93; (subst z2; rfl); by_cases z3 : a = 94; (subst z3; rfl); by_cases z4 : a = 96; (subst z4; rfl); simp only [am_ui, am_ul, am_row_ne z0, am_row_ne z1, am_row_ne z2, am_row_ne z3, am_row_ne z4])) (by first | rfl | (funext a; by_cases z0 : a = 89; (subst z0; rfl); by_cases z1 : a = 92; (subst z1; rfl); by_cases z2 : a = 93; (subst z2; rfl); by_cases z3 : a = 94; (subst z3; rfl); by_cases z4 : a = 96; (subst z4; rfl); simp only [am_ui, am_ul, am_row_ne z0, am_row_ne z1, am_row_ne z2, am_row_ne z3, am_row_ne z4]))
            subst hKd
            have hQ := am_KO_s hK
            exact am_F.eq (am_F.ret rfl rfl) hQ
      · show am_F _ _ 23 [.ref 88, .int (nI a0_n), .int (nI a1_n), .int a2] [] (am_S f g) _
        refine am_F.ops (pc' := 24) (L' := [.ref 88, .int (nI a0_n), .int (nI a1_n), .int a2]) (S' := [.int (-1)]) (μ' := (am_S f g)) 1 rfl ?_
        refine am_F.mem (F' := (am_row (am_row (am_row (am_row (am_row f 89 (f 89)) 92 (f 92)) 93 (f 93)) 94 (f 94)) 96 (f 96))) (G' := g) ?_ (by first | rfl | (funext a; by_cases z0 : a = 89; (subst z0; rfl); by_cases z1 : a = 92; (subst z1; rfl); by_cases z2 : a = 93; (subst z2; rfl); by_cases z3 : a = 94; (subst z3; rfl); by_cases z4 : a = 96; (subst z4; rfl); simp only [am_ui, am_ul, am_row_ne z0, am_row_ne z1, am_row_ne z2, am_row_ne z3, am_row_ne z4])) (by first | rfl | (funext a; by_cases z0 : a = 89; (subst z0; rfl); by_cases z1 : a = 92; (subst z1; rfl); by_cases z2 : a = 93; (subst z2; rfl); by_cases z3 : a = 94; (subst z3; rfl); by_cases z4 : a = 96; (subst z4; rfl); simp only [am_ui, am_ul, am_row_ne z0, am_row_ne z1, am_row_ne z2, am_row_ne z3, am_row_ne z4]))
        subst hKd
        have hQ := am_KO_s hK
        exact am_F.eq (am_F.ret rfl rfl) hQ
    · show am_F _ _ 23 [.ref 88, .int (nI a0_n), .int a1, .int a2] [] (am_S f g) _
      refine am_F.ops (pc' := 24) (L' := [.ref 88, .int (nI a0_n), .int a1, .int a2]) (S' := [.int (-1)]) (μ' := (am_S f g)) 1 rfl ?_
      refine am_F.mem (F' := (am_row (am_row (am_row (am_row (am_row f 89 (f 89)) 92 (f 92)) 93 (f 93)) 94 (f 94)) 96 (f 96))) (G' := g) ?_ (by first | rfl | (funext a; by_cases z0 : a = 89; (subst z0; rfl); by_cases z1 : a = 92; (subst z1; rfl); by_cases z2 : a = 93; (subst z2; rfl); by_cases z3 : a = 94; (subst z3; rfl); by_cases z4 : a = 96; (subst z4; rfl); simp only [am_ui, am_ul, am_row_ne z0, am_row_ne z1, am_row_ne z2, am_row_ne z3, am_row_ne z4])) (by first | rfl | (funext a; by_cases z0 : a = 89; (subst z0; rfl); by_cases z1 : a = 92; (subst z1; rfl); by_cases z2 : a = 93; (subst z2; rfl); by_cases z3 : a = 94; (subst z3; rfl); by_cases z4 : a = 96; (subst z4; rfl); simp only [am_ui, am_ul, am_row_ne z0, am_row_ne z1, am_row_ne z2, am_row_ne z3, am_row_ne z4]))
      subst hKd
      have hQ := am_KO_s hK
      exact am_F.eq (am_F.ret rfl rfl) hQ
  · show am_F _ _ 23 [.ref 88, .int a0, .int a1, .int a2] [] (am_S f g) _
    refine am_F.ops (pc' := 24) (L' := [.ref 88, .int a0, .int a1, .int a2]) (S' := [.int (-1)]) (μ' := (am_S f g)) 1 rfl ?_
    refine am_F.mem (F' := (am_row (am_row (am_row (am_row (am_row f 89 (f 89)) 92 (f 92)) 93 (f 93)) 94 (f 94)) 96 (f 96))) (G' := g) ?_ (by first | rfl | (funext a; by_cases z0 : a = 89; (subst z0; rfl); by_cases z1 : a = 92; (subst z1; rfl); by_cases z2 : a = 93; (subst z2; rfl); by_cases z3 : a = 94; (subst z3; rfl); by_cases z4 : a = 96; (subst z4; rfl); simp only [am_ui, am_ul, am_row_ne z0, am_row_ne z1, am_row_ne z2, am_row_ne z3, am_row_ne z4])) (by first | rfl | (funext a; by_cases z0 : a = 89; (subst z0; rfl); by_cases z1 : a = 92; (subst z1; rfl); by_cases z2 : a = 93; (subst z2; rfl); by_cases z3 : a = 94; (subst z3; rfl); by_cases z4 : a = 96; (subst z4; rfl); simp only [am_ui, am_ul, am_row_ne z0, am_row_ne z1, am_row_ne z2, am_row_ne z3, am_row_ne z4]))
    subst hKd
    have hQ := am_KO_s hK
    exact am_F.eq (am_F.ret rfl rfl) hQ
/-- AccessLatticeModel.rule, with checks -/
def st_m_rule_261 (f : Nat → Nat → Int32) : Nat → (Nat → Int32) → (Nat → Int32) := fun i261 r261_89 => (upd r261_89 ((760 + (80 * (f 89 202).toNatClampNeg)) + i261) (f 98 i261))
def lf_m_rule_261 (a0 : Int32) (a1 : Int32) (a2 : Int32) (a3_n : Nat) (a4 : Int32) (f : Nat → Nat → Int32) : (Nat → Int32) := am_for (st_m_rule_261 f) 0 0 (upd (upd (upd (upd (upd (upd (upd (upd (upd (f 89) ((490 + (9 * (f 89 202).toNatClampNeg)) + 0) (a0 / 100)) ((490 + (9 * (f 89 202).toNatClampNeg)) + 1) (a0 - a0 / 100 * 100)) ((490 + (9 * (f 89 202).toNatClampNeg)) + 2) a1) ((490 + (9 * (f 89 202).toNatClampNeg)) + 3) (a2 - a2 / 100 * 100)) ((490 + (9 * (f 89 202).toNatClampNeg)) + 4) (a2 / 100)) ((490 + (9 * (f 89 202).toNatClampNeg)) + 5) (nI a3_n)) ((490 + (9 * (f 89 202).toNatClampNeg)) + 6) a4) ((490 + (9 * (f 89 202).toNatClampNeg)) + 7) (-1)) ((490 + (9 * (f 89 202).toNatClampNeg)) + 8) 0)
noncomputable def st_m_rule_261_25 (f : Nat → Nat → Int32) (y17 : Int32 × (Nat → Int32) × (Nat → Int32)) : Int32 × (Nat → Int32) → Option (Int32 × (Nat → Int32) ⊕ (Int32 × (Nat → Int32) ⊕ Empty)) := fun z => match z with
  | (a261_8, r261_89) => (if (y17.2.1 15) ≤ a261_8 then (some (.inr (.inl (a261_8, r261_89)))) else (am_chk (am_inb a261_8 81 = true) (am_chk (am_inb ((760 + (80 * (f 89 202))) + a261_8) 3340 = true) (some (.inl (a261_8 + 1, upd r261_89 (((760 + (80 * (f 89 202))) + a261_8).toNatClampNeg) (y17.2.2 a261_8.toNatClampNeg)))))))
noncomputable def lf_m_rule_261_26 (a0 : Int32) (a1 : Int32) (a2 : Int32) (a3_n : Nat) (a4 : Int32) (f : Nat → Nat → Int32) (y17 : Int32 × (Nat → Int32) × (Nat → Int32)) : Option (Int32 × (Nat → Int32) ⊕ Empty) := am_while (st_m_rule_261_25 f y17) (0, upd (upd (upd (upd (upd (upd (upd (upd (upd (f 89) ((490 + (9 * (f 89 202).toNatClampNeg)) + 0) (a0 / 100)) ((490 + (9 * (f 89 202).toNatClampNeg)) + 1) (a0 - a0 / 100 * 100)) ((490 + (9 * (f 89 202).toNatClampNeg)) + 2) a1) ((490 + (9 * (f 89 202).toNatClampNeg)) + 3) (a2 - a2 / 100 * 100)) ((490 + (9 * (f 89 202).toNatClampNeg)) + 4) (a2 / 100)) ((490 + (9 * (f 89 202).toNatClampNeg)) + 5) (nI a3_n)) ((490 + (9 * (f 89 202).toNatClampNeg)) + 6) a4) ((490 + (9 * (f 89 202).toNatClampNeg)) + 7) (-1)) ((490 + (9 * (f 89 202).toNatClampNeg)) + 8) (y17.2.1 15))
def st_m_rule_261_30 (f : Nat → Nat → Int32) : Nat → (Nat → Int32) → (Nat → Int32) := fun i261 r261_89 => (upd r261_89 ((760 + (80 * (f 89 202).toNatClampNeg)) + i261) (f 98 i261))
def lf_m_rule_261_31 (a0 : Int32) (a1 : Int32) (a2 : Int32) (a3_n : Nat) (a4 : Int32) (f : Nat → Nat → Int32) : (Nat → Int32) := am_for (st_m_rule_261_30 f) 0 0 (upd (upd (upd (upd (upd (upd (upd (upd (upd (f 89) ((490 + (9 * (f 89 202).toNatClampNeg)) + 0) (a0 / 100)) ((490 + (9 * (f 89 202).toNatClampNeg)) + 1) (a0 - a0 / 100 * 100)) ((490 + (9 * (f 89 202).toNatClampNeg)) + 2) a1) ((490 + (9 * (f 89 202).toNatClampNeg)) + 3) (a2 - a2 / 100 * 100)) ((490 + (9 * (f 89 202).toNatClampNeg)) + 4) (a2 / 100)) ((490 + (9 * (f 89 202).toNatClampNeg)) + 5) (nI a3_n)) ((490 + (9 * (f 89 202).toNatClampNeg)) + 6) a4) ((490 + (9 * (f 89 202).toNatClampNeg)) + 7) (-1)) ((490 + (9 * (f 89 202).toNatClampNeg)) + 8) 0)
noncomputable def st_m_rule_261_41 (f : Nat → Nat → Int32) (y33 : Int32 × (Nat → Int32) × (Nat → Int32)) : Int32 × (Nat → Int32) → Option (Int32 × (Nat → Int32) ⊕ (Int32 × (Nat → Int32) ⊕ Empty)) := fun z => match z with
  | (a261_8, r261_89) => (if (y33.2.1 15) ≤ a261_8 then (some (.inr (.inl (a261_8, r261_89)))) else (am_chk (am_inb a261_8 81 = true) (am_chk (am_inb ((760 + (80 * (f 89 202))) + a261_8) 3340 = true) (some (.inl (a261_8 + 1, upd r261_89 (((760 + (80 * (f 89 202))) + a261_8).toNatClampNeg) (y33.2.2 a261_8.toNatClampNeg)))))))
noncomputable def lf_m_rule_261_42 (a0 : Int32) (a1 : Int32) (a2 : Int32) (a3_n : Nat) (a4 : Int32) (f : Nat → Nat → Int32) (y33 : Int32 × (Nat → Int32) × (Nat → Int32)) : Option (Int32 × (Nat → Int32) ⊕ Empty) := am_while (st_m_rule_261_41 f y33) (0, upd (upd (upd (upd (upd (upd (upd (upd (upd (f 89) ((490 + (9 * (f 89 202).toNatClampNeg)) + 0) (a0 / 100)) ((490 + (9 * (f 89 202).toNatClampNeg)) + 1) (a0 - a0 / 100 * 100)) ((490 + (9 * (f 89 202).toNatClampNeg)) + 2) a1) ((490 + (9 * (f 89 202).toNatClampNeg)) + 3) (a2 - a2 / 100 * 100)) ((490 + (9 * (f 89 202).toNatClampNeg)) + 4) (a2 / 100)) ((490 + (9 * (f 89 202).toNatClampNeg)) + 5) (nI a3_n)) ((490 + (9 * (f 89 202).toNatClampNeg)) + 6) a4) ((490 + (9 * (f 89 202).toNatClampNeg)) + 7) (-1)) ((490 + (9 * (f 89 202).toNatClampNeg)) + 8) (y33.2.1 15))
noncomputable def fn_m_rule (a0 : Int32) (a1 : Int32) (a2 : Int32) (a3 : Int32) (a4 : Int32) (f : Nat → Nat → Int32) : Option (Int32 × (Nat → Int32) × (Nat → Int32) × (Nat → Int32)) := (bif (fn_m_isIn (a0 / 100) 0 1) then (bif (fn_m_isRole (a0 - a0 / 100 * 100)) then (bif (fn_m_isIn a1 1 255) then (bif (fn_m_isIn (a2 / 100) 0 1) then (bif (fn_m_isOne (a2 - a2 / 100 * 100)) then (bif (fn_m_isIn a3 0 9999) then (if a4 = (-1) then (if (f 89 202) = 30 then (some ((-3), f 88, f 89, f 98)) else (if (f 88 11) ≤ 0 then (some (f 89 202, upd (f 88) 15 0, upd (lf_m_rule_261 a0 a1 a2 (a3.toNatClampNeg) a4 f) 202 (((lf_m_rule_261 a0 a1 a2 (a3.toNatClampNeg) a4 f) 202) + 1), f 98)) else (am_ob (fn_m_reads (am_row f 88 (upd (f 88) 15 0))) (fun (y17 : Int32 × (Nat → Int32) × (Nat → Int32)) => (if y17.1 < 0 then (am_ob (lf_m_rule_261_26 a0 a1 a2 (a3.toNatClampNeg) a4 f y17) (fun zz => Sum.elim (fun (z261 : Int32 × (Nat → Int32)) => (some (f 89 202, y17.2.1, upd z261.2 202 ((z261.2 202) + 1), y17.2.2))) (fun (z : Empty) => z.elim) zz)) else (some ((-100) - (y17.2.1 13), y17.2.1, f 89, y17.2.2))))))) else (if a3 < a4 then (if (f 89 202) = 30 then (some ((-3), f 88, f 89, f 98)) else (if (f 88 11) ≤ 0 then (some (f 89 202, upd (f 88) 15 0, upd (lf_m_rule_261_31 a0 a1 a2 (a3.toNatClampNeg) a4 f) 202 (((lf_m_rule_261_31 a0 a1 a2 (a3.toNatClampNeg) a4 f) 202) + 1), f 98)) else (am_ob (fn_m_reads (am_row f 88 (upd (f 88) 15 0))) (fun (y33 : Int32 × (Nat → Int32) × (Nat → Int32)) => (if y33.1 < 0 then (am_ob (lf_m_rule_261_42 a0 a1 a2 (a3.toNatClampNeg) a4 f y33) (fun zz => Sum.elim (fun (z261 : Int32 × (Nat → Int32)) => (some (f 89 202, y33.2.1, upd z261.2 202 ((z261.2 202) + 1), y33.2.2))) (fun (z : Empty) => z.elim) zz)) else (some ((-100) - (y33.2.1 13), y33.2.1, f 89, y33.2.2))))))) else (some ((-1), f 88, f 89, f 98)))) else (some ((-1), f 88, f 89, f 98))) else (some ((-1), f 88, f 89, f 98))) else (some ((-1), f 88, f 89, f 98))) else (some ((-1), f 88, f 89, f 98))) else (some ((-1), f 88, f 89, f 98))) else (some ((-1), f 88, f 89, f 98)))
set_option maxRecDepth 20000 in
theorem lp_m_rule_261 (a0 : Int32) (a1 : Int32) (a2 : Int32) (a3_n : Nat) (a4 : Int32) (f : Nat → Nat → Int32) (g : Nat → Nat → Int64) (hmk : am_mOK (f 89)) (hlC : f 89 201 = nI (f 89 201).toNatClampNeg) (hlN : (f 89 201).toNatClampNeg ≤ 40) (hrC : f 89 202 = nI (f 89 202).toNatClampNeg) (hrN : (f 89 202).toNatClampNeg ≤ 30) (hl0 : ∀ i, i < (f 89 201).toNatClampNeg → am_inb (fn_m_loanAt i 0 f) 16 = true) (hl5 : ∀ i, i < (f 89 201).toNatClampNeg → ¬ fn_m_loanAt i 5 f < 0 → am_inb (fn_m_loanAt i 5 f) 40 = true) (hl2 : ∀ i, i < (f 89 201).toNatClampNeg → am_inb (fn_m_loanAt i 2 f) 20 = true) (ha3_n : a3_n < 10000) (res : Option Value × am_M) : ∀ (n i261 : Nat) (r261_89 : Nat → Int32) , i261 + n = 0 → (fun (z : (Nat → Int32)) => ∀ (wc261 : Value), am_F 61 am_k_172 300 [.ref 88, .int a0, .int a1, .int a2, .int (nI a3_n), .int a4, .int (f 89 202), .int (490 + (9 * (f 89 202))), wc261] [] (am_S (am_row (am_row f 88 (upd (f 88) 15 0)) 89 z) g) res) (am_for (st_m_rule_261 f) n i261 r261_89) → am_F 61 am_k_172 261 [.ref 88, .int a0, .int a1, .int a2, .int (nI a3_n), .int a4, .int (f 89 202), .int (490 + (9 * (f 89 202))), .int (nI i261)] [] (am_S (am_row (am_row f 88 (upd (f 88) 15 0)) 89 r261_89) g) res := by
  intro n
  induction n with
  | zero =>
    intro i261 r261_89 hi hK
    refine am_F.pos 4 rfl (by show 0 ≤ nI i261; rw [show (0 : Int32) = nI 0 from rfl]; exact nI_le (by omega) (by omega)) ?_
    exact hK _
  | succ n ih =>
    intro i261 r261_89 hi hK
    refine am_F.neg 4 rfl (by show ¬ 0 ≤ nI i261; rw [show (0 : Int32) = nI 0 from rfl]; exact nI_ge (by omega) (by omega)) ?_
    have hb261 : i261 < 0 := by omega
    show am_F _ _ 270 [.ref 88, .int a0, .int a1, .int a2, .int (nI a3_n), .int a4, .int (f 89 202), .int (490 + (9 * (f 89 202))), .int (nI i261)] [] (am_S (am_row (am_row f 88 (upd (f 88) 15 0)) 89 r261_89) g) _
    obtain ⟨K, hKd⟩ : ∃ K : ((Nat → Int32)) → Prop, K = fun s => (fun (z : (Nat → Int32)) => ∀ (wc261 : Value), am_F 61 am_k_172 300 [.ref 88, .int a0, .int a1, .int a2, .int (nI a3_n), .int a4, .int (f 89 202), .int (490 + (9 * (f 89 202))), wc261] [] (am_S (am_row (am_row f 88 (upd (f 88) 15 0)) 89 z) g) res) (am_for (st_m_rule_261 f) n (i261 + 1) s) := ⟨_, rfl⟩
    have hK : K ((st_m_rule_261 f) i261 r261_89) := by rw [hKd]; exact hK
    unfold st_m_rule_261 at hK
    refine am_F.ops (pc' := 292) (L' := [.ref 88, .int a0, .int a1, .int a2, .int (nI a3_n), .int a4, .int (f 89 202), .int (490 + (9 * (f 89 202))), .int (nI i261)]) (S' := [.int (nI i261), .ref 98, .int ((760 + (80 * (f 89 202))) + (nI i261)), .ref 89]) (μ' := (am_S (am_row (am_row f 88 (upd (f 88) 15 0)) 89 r261_89) g)) 12 rfl ?_
    refine am_F.ialE (m := i261) (N := 81) rfl rfl rfl rfl (by omega) (by decide) ?_
    show am_F _ _ 293 [.ref 88, .int a0, .int a1, .int a2, .int (nI a3_n), .int a4, .int (f 89 202), .int (490 + (9 * (f 89 202))), .int (nI i261)] [.int (f 98 i261), .int ((760 + (80 * (f 89 202))) + (nI i261)), .ref 89] (am_S (am_row (am_row f 88 (upd (f 88) 15 0)) 89 r261_89) g) _
    refine am_F.iasE (F' := (am_row (am_row f 88 (upd (f 88) 15 0)) 89 (upd r261_89 ((760 + (80 * (f 89 202).toNatClampNeg)) + i261) (f 98 i261)))) (m := ((760 + (80 * (f 89 202).toNatClampNeg)) + i261)) (N := 3340) rfl rfl rfl (am_addE (am_addE rfl (am_mulE rfl hrC)) rfl) (by omega) (by decide) (by first | rfl | (funext a; by_cases z0 : a = 88; (subst z0; rfl); by_cases z1 : a = 89; (subst z1; rfl); simp only [am_ui, am_ul, am_row_ne z0, am_row_ne z1])) ?_
    refine am_F.ops (pc' := 261) (L' := [.ref 88, .int a0, .int a1, .int a2, .int (nI a3_n), .int a4, .int (f 89 202), .int (490 + (9 * (f 89 202))), .int ((nI i261) + 1)]) (S' := []) (μ' := (am_S (am_row (am_row f 88 (upd (f 88) 15 0)) 89 (upd r261_89 ((760 + (80 * (f 89 202).toNatClampNeg)) + i261) (f 98 i261))) g)) 2 rfl ?_
    rw [nI_1 i261]
    subst hKd
    exact ih (i261 + 1) (upd r261_89 ((760 + (80 * (f 89 202).toNatClampNeg)) + i261) (f 98 i261)) (by omega)  hK
set_option maxRecDepth 20000 in
theorem lp_m_rule_261_25 (a0 : Int32) (a1 : Int32) (a2 : Int32) (a3_n : Nat) (a4 : Int32) (f : Nat → Nat → Int32) (g : Nat → Nat → Int64) (y17 : Int32 × (Nat → Int32) × (Nat → Int32)) (hmk : am_mOK (f 89)) (hlC : f 89 201 = nI (f 89 201).toNatClampNeg) (hlN : (f 89 201).toNatClampNeg ≤ 40) (hrC : f 89 202 = nI (f 89 202).toNatClampNeg) (hrN : (f 89 202).toNatClampNeg ≤ 30) (hl0 : ∀ i, i < (f 89 201).toNatClampNeg → am_inb (fn_m_loanAt i 0 f) 16 = true) (hl5 : ∀ i, i < (f 89 201).toNatClampNeg → ¬ fn_m_loanAt i 5 f < 0 → am_inb (fn_m_loanAt i 5 f) 40 = true) (hl2 : ∀ i, i < (f 89 201).toNatClampNeg → am_inb (fn_m_loanAt i 2 f) 20 = true) (ha3_n : a3_n < 10000) (res : Option Value × am_M) : ∀ (n : Nat) (a261_8 : Int32) (r261_89 : Nat → Int32), am_KO (am_KX (fun (z : Int32 × (Nat → Int32)) => am_F 61 am_k_172 300 [.ref 88, .int a0, .int a1, .int a2, .int (nI a3_n), .int a4, .int (f 89 202), .int (490 + (9 * (f 89 202))), .int z.1] [] (am_S (am_row (am_row (am_row f 88 y17.2.1) 89 z.2) 98 y17.2.2) g) res) (fun (z : Empty) => True)) (am_wh (st_m_rule_261_25 f y17) n (a261_8, r261_89)) → am_F 61 am_k_172 261 [.ref 88, .int a0, .int a1, .int a2, .int (nI a3_n), .int a4, .int (f 89 202), .int (490 + (9 * (f 89 202))), .int a261_8] [] (am_S (am_row (am_row (am_row f 88 y17.2.1) 89 r261_89) 98 y17.2.2) g) res := by
  intro n
  induction n with
  | zero =>
    intro a261_8 r261_89 hK
    exact False.elim hK
  | succ n ih =>
    intro a261_8 r261_89 hK
    obtain ⟨K, hKd⟩ : ∃ K : Option (Int32 × (Nat → Int32) ⊕ (Int32 × (Nat → Int32) ⊕ Empty)) → Prop, K = fun s => am_KO (am_KX (fun (z : Int32 × (Nat → Int32)) => am_F 61 am_k_172 300 [.ref 88, .int a0, .int a1, .int a2, .int (nI a3_n), .int a4, .int (f 89 202), .int (490 + (9 * (f 89 202))), .int z.1] [] (am_S (am_row (am_row (am_row f 88 y17.2.1) 89 z.2) 98 y17.2.2) g) res) (fun (z : Empty) => True)) (am_whn (am_wh (st_m_rule_261_25 f y17) n) s) := ⟨_, rfl⟩
    have hK : K ((st_m_rule_261_25 f y17) (a261_8, r261_89)) := by rw [am_wh_s] at hK; rw [hKd]; with_reducible exact hK
    have hKn : ¬ K none := by rw [hKd]; exact id
    unfold st_m_rule_261_25 at hK
    simp only at hK
    refine am_F.ops (pc' := 267) (L' := [.ref 88, .int a0, .int a1, .int a2, .int (nI a3_n), .int a4, .int (f 89 202), .int (490 + (9 * (f 89 202))), .int a261_8]) (S' := [.int (y17.2.1 15), .int a261_8]) (μ' := (am_S (am_row (am_row (am_row f 88 y17.2.1) 89 r261_89) 98 y17.2.2) g)) 3 rfl ?_
    refine am_F.iteK 1 rfl K hK (fun c22 hK => ?_) (fun c22 hK => ?_)
    · show am_F _ _ 300 [.ref 88, .int a0, .int a1, .int a2, .int (nI a3_n), .int a4, .int (f 89 202), .int (490 + (9 * (f 89 202))), .int a261_8] [] (am_S (am_row (am_row (am_row f 88 y17.2.1) 89 r261_89) 98 y17.2.2) g) _
      subst hKd
      exact hK 
    · show am_F _ _ 270 [.ref 88, .int a0, .int a1, .int a2, .int (nI a3_n), .int a4, .int (f 89 202), .int (490 + (9 * (f 89 202))), .int a261_8] [] (am_S (am_row (am_row (am_row f 88 y17.2.1) 89 r261_89) 98 y17.2.2) g) _
      refine am_F.ops (pc' := 292) (L' := [.ref 88, .int a0, .int a1, .int a2, .int (nI a3_n), .int a4, .int (f 89 202), .int (490 + (9 * (f 89 202))), .int a261_8]) (S' := [.int a261_8, .ref 98, .int ((760 + (80 * (f 89 202))) + a261_8), .ref 89]) (μ' := (am_S (am_row (am_row (am_row f 88 y17.2.1) 89 r261_89) 98 y17.2.2) g)) 12 rfl ?_
      obtain ⟨q23, hK⟩ := am_chk_e hKn hK
      refine am_F.ial (N := 81) rfl rfl rfl q23 ?_
      show am_F _ _ 293 [.ref 88, .int a0, .int a1, .int a2, .int (nI a3_n), .int a4, .int (f 89 202), .int (490 + (9 * (f 89 202))), .int a261_8] [.int (y17.2.2 a261_8.toNatClampNeg), .int ((760 + (80 * (f 89 202))) + a261_8), .ref 89] (am_S (am_row (am_row (am_row f 88 y17.2.1) 89 r261_89) 98 y17.2.2) g) _
      obtain ⟨q24, hK⟩ := am_chk_e hKn hK
      refine am_F.ias (F' := (am_row (am_row (am_row f 88 y17.2.1) 89 (upd r261_89 (((760 + (80 * (f 89 202))) + a261_8).toNatClampNeg) (y17.2.2 a261_8.toNatClampNeg))) 98 y17.2.2)) (N := 3340) rfl rfl rfl q24 (by first | rfl | (funext a; by_cases z0 : a = 88; (subst z0; rfl); by_cases z1 : a = 89; (subst z1; rfl); by_cases z2 : a = 98; (subst z2; rfl); simp only [am_ui, am_ul, am_row_ne z0, am_row_ne z1, am_row_ne z2])) ?_
      refine am_F.ops (pc' := 261) (L' := [.ref 88, .int a0, .int a1, .int a2, .int (nI a3_n), .int a4, .int (f 89 202), .int (490 + (9 * (f 89 202))), .int (a261_8 + 1)]) (S' := []) (μ' := (am_S (am_row (am_row (am_row f 88 y17.2.1) 89 (upd r261_89 (((760 + (80 * (f 89 202))) + a261_8).toNatClampNeg) (y17.2.2 a261_8.toNatClampNeg))) 98 y17.2.2) g)) 2 rfl ?_
      subst hKd
      exact ih (a261_8 + 1) (upd r261_89 (((760 + (80 * (f 89 202))) + a261_8).toNatClampNeg) (y17.2.2 a261_8.toNatClampNeg)) hK
set_option maxRecDepth 20000 in
theorem lp_m_rule_261_30 (a0 : Int32) (a1 : Int32) (a2 : Int32) (a3_n : Nat) (a4 : Int32) (f : Nat → Nat → Int32) (g : Nat → Nat → Int64) (hmk : am_mOK (f 89)) (hlC : f 89 201 = nI (f 89 201).toNatClampNeg) (hlN : (f 89 201).toNatClampNeg ≤ 40) (hrC : f 89 202 = nI (f 89 202).toNatClampNeg) (hrN : (f 89 202).toNatClampNeg ≤ 30) (hl0 : ∀ i, i < (f 89 201).toNatClampNeg → am_inb (fn_m_loanAt i 0 f) 16 = true) (hl5 : ∀ i, i < (f 89 201).toNatClampNeg → ¬ fn_m_loanAt i 5 f < 0 → am_inb (fn_m_loanAt i 5 f) 40 = true) (hl2 : ∀ i, i < (f 89 201).toNatClampNeg → am_inb (fn_m_loanAt i 2 f) 20 = true) (ha3_n : a3_n < 10000) (res : Option Value × am_M) : ∀ (n i261 : Nat) (r261_89 : Nat → Int32) , i261 + n = 0 → (fun (z : (Nat → Int32)) => ∀ (wc261 : Value), am_F 61 am_k_172 300 [.ref 88, .int a0, .int a1, .int a2, .int (nI a3_n), .int a4, .int (f 89 202), .int (490 + (9 * (f 89 202))), wc261] [] (am_S (am_row (am_row f 88 (upd (f 88) 15 0)) 89 z) g) res) (am_for (st_m_rule_261_30 f) n i261 r261_89) → am_F 61 am_k_172 261 [.ref 88, .int a0, .int a1, .int a2, .int (nI a3_n), .int a4, .int (f 89 202), .int (490 + (9 * (f 89 202))), .int (nI i261)] [] (am_S (am_row (am_row f 88 (upd (f 88) 15 0)) 89 r261_89) g) res := by
  intro n
  induction n with
  | zero =>
    intro i261 r261_89 hi hK
    refine am_F.pos 4 rfl (by show 0 ≤ nI i261; rw [show (0 : Int32) = nI 0 from rfl]; exact nI_le (by omega) (by omega)) ?_
    exact hK _
  | succ n ih =>
    intro i261 r261_89 hi hK
    refine am_F.neg 4 rfl (by show ¬ 0 ≤ nI i261; rw [show (0 : Int32) = nI 0 from rfl]; exact nI_ge (by omega) (by omega)) ?_
    have hb261 : i261 < 0 := by omega
    show am_F _ _ 270 [.ref 88, .int a0, .int a1, .int a2, .int (nI a3_n), .int a4, .int (f 89 202), .int (490 + (9 * (f 89 202))), .int (nI i261)] [] (am_S (am_row (am_row f 88 (upd (f 88) 15 0)) 89 r261_89) g) _
    obtain ⟨K, hKd⟩ : ∃ K : ((Nat → Int32)) → Prop, K = fun s => (fun (z : (Nat → Int32)) => ∀ (wc261 : Value), am_F 61 am_k_172 300 [.ref 88, .int a0, .int a1, .int a2, .int (nI a3_n), .int a4, .int (f 89 202), .int (490 + (9 * (f 89 202))), wc261] [] (am_S (am_row (am_row f 88 (upd (f 88) 15 0)) 89 z) g) res) (am_for (st_m_rule_261_30 f) n (i261 + 1) s) := ⟨_, rfl⟩
    have hK : K ((st_m_rule_261_30 f) i261 r261_89) := by rw [hKd]; exact hK
    unfold st_m_rule_261_30 at hK
    refine am_F.ops (pc' := 292) (L' := [.ref 88, .int a0, .int a1, .int a2, .int (nI a3_n), .int a4, .int (f 89 202), .int (490 + (9 * (f 89 202))), .int (nI i261)]) (S' := [.int (nI i261), .ref 98, .int ((760 + (80 * (f 89 202))) + (nI i261)), .ref 89]) (μ' := (am_S (am_row (am_row f 88 (upd (f 88) 15 0)) 89 r261_89) g)) 12 rfl ?_
    refine am_F.ialE (m := i261) (N := 81) rfl rfl rfl rfl (by omega) (by decide) ?_
    show am_F _ _ 293 [.ref 88, .int a0, .int a1, .int a2, .int (nI a3_n), .int a4, .int (f 89 202), .int (490 + (9 * (f 89 202))), .int (nI i261)] [.int (f 98 i261), .int ((760 + (80 * (f 89 202))) + (nI i261)), .ref 89] (am_S (am_row (am_row f 88 (upd (f 88) 15 0)) 89 r261_89) g) _
    refine am_F.iasE (F' := (am_row (am_row f 88 (upd (f 88) 15 0)) 89 (upd r261_89 ((760 + (80 * (f 89 202).toNatClampNeg)) + i261) (f 98 i261)))) (m := ((760 + (80 * (f 89 202).toNatClampNeg)) + i261)) (N := 3340) rfl rfl rfl (am_addE (am_addE rfl (am_mulE rfl hrC)) rfl) (by omega) (by decide) (by first | rfl | (funext a; by_cases z0 : a = 88; (subst z0; rfl); by_cases z1 : a = 89; (subst z1; rfl); simp only [am_ui, am_ul, am_row_ne z0, am_row_ne z1])) ?_
    refine am_F.ops (pc' := 261) (L' := [.ref 88, .int a0, .int a1, .int a2, .int (nI a3_n), .int a4, .int (f 89 202), .int (490 + (9 * (f 89 202))), .int ((nI i261) + 1)]) (S' := []) (μ' := (am_S (am_row (am_row f 88 (upd (f 88) 15 0)) 89 (upd r261_89 ((760 + (80 * (f 89 202).toNatClampNeg)) + i261) (f 98 i261))) g)) 2 rfl ?_
    rw [nI_1 i261]
    subst hKd
    exact ih (i261 + 1) (upd r261_89 ((760 + (80 * (f 89 202).toNatClampNeg)) + i261) (f 98 i261)) (by omega)  hK
set_option maxRecDepth 20000 in
theorem lp_m_rule_261_41 (a0 : Int32) (a1 : Int32) (a2 : Int32) (a3_n : Nat) (a4 : Int32) (f : Nat → Nat → Int32) (g : Nat → Nat → Int64) (y33 : Int32 × (Nat → Int32) × (Nat → Int32)) (hmk : am_mOK (f 89)) (hlC : f 89 201 = nI (f 89 201).toNatClampNeg) (hlN : (f 89 201).toNatClampNeg ≤ 40) (hrC : f 89 202 = nI (f 89 202).toNatClampNeg) (hrN : (f 89 202).toNatClampNeg ≤ 30) (hl0 : ∀ i, i < (f 89 201).toNatClampNeg → am_inb (fn_m_loanAt i 0 f) 16 = true) (hl5 : ∀ i, i < (f 89 201).toNatClampNeg → ¬ fn_m_loanAt i 5 f < 0 → am_inb (fn_m_loanAt i 5 f) 40 = true) (hl2 : ∀ i, i < (f 89 201).toNatClampNeg → am_inb (fn_m_loanAt i 2 f) 20 = true) (ha3_n : a3_n < 10000) (res : Option Value × am_M) : ∀ (n : Nat) (a261_8 : Int32) (r261_89 : Nat → Int32), am_KO (am_KX (fun (z : Int32 × (Nat → Int32)) => am_F 61 am_k_172 300 [.ref 88, .int a0, .int a1, .int a2, .int (nI a3_n), .int a4, .int (f 89 202), .int (490 + (9 * (f 89 202))), .int z.1] [] (am_S (am_row (am_row (am_row f 88 y33.2.1) 89 z.2) 98 y33.2.2) g) res) (fun (z : Empty) => True)) (am_wh (st_m_rule_261_41 f y33) n (a261_8, r261_89)) → am_F 61 am_k_172 261 [.ref 88, .int a0, .int a1, .int a2, .int (nI a3_n), .int a4, .int (f 89 202), .int (490 + (9 * (f 89 202))), .int a261_8] [] (am_S (am_row (am_row (am_row f 88 y33.2.1) 89 r261_89) 98 y33.2.2) g) res := by
  intro n
  induction n with
  | zero =>
    intro a261_8 r261_89 hK
    exact False.elim hK
  | succ n ih =>
    intro a261_8 r261_89 hK
    obtain ⟨K, hKd⟩ : ∃ K : Option (Int32 × (Nat → Int32) ⊕ (Int32 × (Nat → Int32) ⊕ Empty)) → Prop, K = fun s => am_KO (am_KX (fun (z : Int32 × (Nat → Int32)) => am_F 61 am_k_172 300 [.ref 88, .int a0, .int a1, .int a2, .int (nI a3_n), .int a4, .int (f 89 202), .int (490 + (9 * (f 89 202))), .int z.1] [] (am_S (am_row (am_row (am_row f 88 y33.2.1) 89 z.2) 98 y33.2.2) g) res) (fun (z : Empty) => True)) (am_whn (am_wh (st_m_rule_261_41 f y33) n) s) := ⟨_, rfl⟩
    have hK : K ((st_m_rule_261_41 f y33) (a261_8, r261_89)) := by rw [am_wh_s] at hK; rw [hKd]; with_reducible exact hK
    have hKn : ¬ K none := by rw [hKd]; exact id
    unfold st_m_rule_261_41 at hK
    simp only at hK
    refine am_F.ops (pc' := 267) (L' := [.ref 88, .int a0, .int a1, .int a2, .int (nI a3_n), .int a4, .int (f 89 202), .int (490 + (9 * (f 89 202))), .int a261_8]) (S' := [.int (y33.2.1 15), .int a261_8]) (μ' := (am_S (am_row (am_row (am_row f 88 y33.2.1) 89 r261_89) 98 y33.2.2) g)) 3 rfl ?_
    refine am_F.iteK 1 rfl K hK (fun c38 hK => ?_) (fun c38 hK => ?_)
    · show am_F _ _ 300 [.ref 88, .int a0, .int a1, .int a2, .int (nI a3_n), .int a4, .int (f 89 202), .int (490 + (9 * (f 89 202))), .int a261_8] [] (am_S (am_row (am_row (am_row f 88 y33.2.1) 89 r261_89) 98 y33.2.2) g) _
      subst hKd
      exact hK 
    · show am_F _ _ 270 [.ref 88, .int a0, .int a1, .int a2, .int (nI a3_n), .int a4, .int (f 89 202), .int (490 + (9 * (f 89 202))), .int a261_8] [] (am_S (am_row (am_row (am_row f 88 y33.2.1) 89 r261_89) 98 y33.2.2) g) _
      refine am_F.ops (pc' := 292) (L' := [.ref 88, .int a0, .int a1, .int a2, .int (nI a3_n), .int a4, .int (f 89 202), .int (490 + (9 * (f 89 202))), .int a261_8]) (S' := [.int a261_8, .ref 98, .int ((760 + (80 * (f 89 202))) + a261_8), .ref 89]) (μ' := (am_S (am_row (am_row (am_row f 88 y33.2.1) 89 r261_89) 98 y33.2.2) g)) 12 rfl ?_
      obtain ⟨q39, hK⟩ := am_chk_e hKn hK
      refine am_F.ial (N := 81) rfl rfl rfl q39 ?_
      show am_F _ _ 293 [.ref 88, .int a0, .int a1, .int a2, .int (nI a3_n), .int a4, .int (f 89 202), .int (490 + (9 * (f 89 202))), .int a261_8] [.int (y33.2.2 a261_8.toNatClampNeg), .int ((760 + (80 * (f 89 202))) + a261_8), .ref 89] (am_S (am_row (am_row (am_row f 88 y33.2.1) 89 r261_89) 98 y33.2.2) g) _
      obtain ⟨q40, hK⟩ := am_chk_e hKn hK
      refine am_F.ias (F' := (am_row (am_row (am_row f 88 y33.2.1) 89 (upd r261_89 (((760 + (80 * (f 89 202))) + a261_8).toNatClampNeg) (y33.2.2 a261_8.toNatClampNeg))) 98 y33.2.2)) (N := 3340) rfl rfl rfl q40 (by first | rfl | (funext a; by_cases z0 : a = 88; (subst z0; rfl); by_cases z1 : a = 89; (subst z1; rfl); by_cases z2 : a = 98; (subst z2; rfl); simp only [am_ui, am_ul, am_row_ne z0, am_row_ne z1, am_row_ne z2])) ?_
      refine am_F.ops (pc' := 261) (L' := [.ref 88, .int a0, .int a1, .int a2, .int (nI a3_n), .int a4, .int (f 89 202), .int (490 + (9 * (f 89 202))), .int (a261_8 + 1)]) (S' := []) (μ' := (am_S (am_row (am_row (am_row f 88 y33.2.1) 89 (upd r261_89 (((760 + (80 * (f 89 202))) + a261_8).toNatClampNeg) (y33.2.2 a261_8.toNatClampNeg))) 98 y33.2.2) g)) 2 rfl ?_
      subst hKd
      exact ih (a261_8 + 1) (upd r261_89 (((760 + (80 * (f 89 202))) + a261_8).toNatClampNeg) (y33.2.2 a261_8.toNatClampNeg)) hK
set_option maxRecDepth 20000 in
theorem x_m_rule (a0 : Int32) (a1 : Int32) (a2 : Int32) (a3 : Int32) (a4 : Int32) (f : Nat → Nat → Int32) (g : Nat → Nat → Int64) (hmk : am_mOK (f 89)) (z0 : Int32 × (Nat → Int32) × (Nat → Int32) × (Nat → Int32)) (hz0 : (fn_m_rule a0 a1 a2 a3 a4 f) = some z0) : am_D 61 172 9 [.ref 88, .int a0, .int a1, .int a2, .int a3, .int a4] (am_S f g) (some (Value.int z0.1), am_S (am_row (am_row (am_row f 88 z0.2.1) 89 z0.2.2.1) 98 z0.2.2.2) g) := by
  obtain ⟨hlC, hlN, hrC, hrN, hl0, hl5, hl2⟩ := am_mOK_e hmk
  refine am_D.of (code := am_k_172) rfl (L0 := [.ref 88, .int a0, .int a1, .int a2, .int a3, .int a4, am_un, am_un, am_un]) rfl ?_
  generalize hres : (some (Value.int z0.1), am_S (am_row (am_row (am_row f 88 z0.2.1) 89 z0.2.2.1) 98 z0.2.2.2) g) = res
  obtain ⟨K, hKd⟩ : ∃ K : Option (Int32 × (Nat → Int32) × (Nat → Int32) × (Nat → Int32)) → Prop, K = am_KO (fun z => (some (Value.int z.1), am_S (am_row (am_row (am_row f 88 z.2.1) 89 z.2.2.1) 98 z.2.2.2) g) = res) := ⟨_, rfl⟩
  have hK : K (fn_m_rule a0 a1 a2 a3 a4 f) := by rw [hKd, hz0]; exact hres
  have hKn : ¬ K none := by rw [hKd]; exact id
  clear hres hz0
  unfold fn_m_rule at hK
  refine am_F.ops (pc' := 6) (L' := [.ref 88, .int a0, .int a1, .int a2, .int a3, .int a4, am_un, am_un, am_un]) (S' := [.int 1, .int 0, .int (a0 / 100)]) (μ' := (am_S f g)) 5 rfl ?_
  refine am_F.call rfl rfl (x_m_isIn (a0 / 100) 0 1 f g ) (by first | decide | omega) ?_
  show am_F _ _ 9 [.ref 88, .int a0, .int a1, .int a2, .int a3, .int a4, am_un, am_un, am_un] [.int (am_b (fn_m_isIn (a0 / 100) 0 1))] (am_S f g) _
  refine am_F.bifK 1 rfl K hK (fun c2 hK => ?_) (fun c2 hK => ?_)
  · show am_F _ _ 12 [.ref 88, .int a0, .int a1, .int a2, .int a3, .int a4, am_un, am_un, am_un] [] (am_S f g) _
    refine am_F.ops (pc' := 16) (L' := [.ref 88, .int a0, .int a1, .int a2, .int a3, .int a4, am_un, am_un, am_un]) (S' := [.int (a0 - a0 / 100 * 100)]) (μ' := (am_S f g)) 3 rfl ?_
    refine am_F.call rfl rfl (x_m_isRole (a0 - a0 / 100 * 100) f g ) (by first | decide | omega) ?_
    show am_F _ _ 19 [.ref 88, .int a0, .int a1, .int a2, .int a3, .int a4, am_un, am_un, am_un] [.int (am_b (fn_m_isRole (a0 - a0 / 100 * 100)))] (am_S f g) _
    refine am_F.bifK 1 rfl K hK (fun c4 hK => ?_) (fun c4 hK => ?_)
    · show am_F _ _ 22 [.ref 88, .int a0, .int a1, .int a2, .int a3, .int a4, am_un, am_un, am_un] [] (am_S f g) _
      refine am_F.ops (pc' := 27) (L' := [.ref 88, .int a0, .int a1, .int a2, .int a3, .int a4, am_un, am_un, am_un]) (S' := [.int 255, .int 1, .int a1]) (μ' := (am_S f g)) 3 rfl ?_
      refine am_F.call rfl rfl (x_m_isIn a1 1 255 f g ) (by first | decide | omega) ?_
      show am_F _ _ 30 [.ref 88, .int a0, .int a1, .int a2, .int a3, .int a4, am_un, am_un, am_un] [.int (am_b (fn_m_isIn a1 1 255))] (am_S f g) _
      refine am_F.bifK 1 rfl K hK (fun c6 hK => ?_) (fun c6 hK => ?_)
      · show am_F _ _ 33 [.ref 88, .int a0, .int a1, .int a2, .int a3, .int a4, am_un, am_un, am_un] [] (am_S f g) _
        refine am_F.ops (pc' := 39) (L' := [.ref 88, .int a0, .int a1, .int a2, .int a3, .int a4, am_un, am_un, am_un]) (S' := [.int 1, .int 0, .int (a2 / 100)]) (μ' := (am_S f g)) 5 rfl ?_
        refine am_F.call rfl rfl (x_m_isIn (a2 / 100) 0 1 f g ) (by first | decide | omega) ?_
        show am_F _ _ 42 [.ref 88, .int a0, .int a1, .int a2, .int a3, .int a4, am_un, am_un, am_un] [.int (am_b (fn_m_isIn (a2 / 100) 0 1))] (am_S f g) _
        refine am_F.bifK 1 rfl K hK (fun c8 hK => ?_) (fun c8 hK => ?_)
        · show am_F _ _ 45 [.ref 88, .int a0, .int a1, .int a2, .int a3, .int a4, am_un, am_un, am_un] [] (am_S f g) _
          refine am_F.ops (pc' := 49) (L' := [.ref 88, .int a0, .int a1, .int a2, .int a3, .int a4, am_un, am_un, am_un]) (S' := [.int (a2 - a2 / 100 * 100)]) (μ' := (am_S f g)) 3 rfl ?_
          refine am_F.call rfl rfl (x_m_isOne (a2 - a2 / 100 * 100) f g ) (by first | decide | omega) ?_
          show am_F _ _ 52 [.ref 88, .int a0, .int a1, .int a2, .int a3, .int a4, am_un, am_un, am_un] [.int (am_b (fn_m_isOne (a2 - a2 / 100 * 100)))] (am_S f g) _
          refine am_F.bifK 1 rfl K hK (fun c10 hK => ?_) (fun c10 hK => ?_)
          · show am_F _ _ 57 [.ref 88, .int a0, .int a1, .int a2, .int a3, .int a4, am_un, am_un, am_un] [] (am_S f g) _
            refine am_F.ops (pc' := 63) (L' := [.ref 88, .int a0, .int a1, .int a2, .int a3, .int a4, am_un, am_un, am_un]) (S' := [.int 9999, .int 0, .int a3]) (μ' := (am_S f g)) 3 rfl ?_
            refine am_F.call rfl rfl (x_m_isIn a3 0 9999 f g ) (by first | decide | omega) ?_
            show am_F _ _ 66 [.ref 88, .int a0, .int a1, .int a2, .int a3, .int a4, am_un, am_un, am_un] [.int (am_b (fn_m_isIn a3 0 9999))] (am_S f g) _
            refine am_F.bifK 1 rfl K hK (fun c12 hK => ?_) (fun c12 hK => ?_)
            · obtain ⟨a3_n, ha3_n, ea3_n⟩ := am_mInN (N := 10000) c12 (by decide)
              subst ea3_n
              try simp only [nI_clamp (show a3_n < 2147483648 by omega)] at hK
              show am_F _ _ 69 [.ref 88, .int a0, .int a1, .int a2, .int (nI a3_n), .int a4, am_un, am_un, am_un] [] (am_S f g) _
              refine am_F.ops (pc' := 72) (L' := [.ref 88, .int a0, .int a1, .int a2, .int (nI a3_n), .int a4, am_un, am_un, am_un]) (S' := [.int (-1), .int a4]) (μ' := (am_S f g)) 2 rfl ?_
              refine am_F.iteK 1 rfl K hK (fun c13 hK => ?_) (fun c13 hK => ?_)
              · show am_F _ _ 84 [.ref 88, .int a0, .int a1, .int a2, .int (nI a3_n), .int a4, am_un, am_un, am_un] [] (am_S f g) _
                refine am_F.ops (pc' := 94) (L' := [.ref 88, .int a0, .int a1, .int a2, .int (nI a3_n), .int a4, am_un, am_un, am_un]) (S' := [.int 30, .int (f 89 202)]) (μ' := (am_S f g)) 5 rfl ?_
                refine am_F.iteK 1 rfl K hK (fun c14 hK => ?_) (fun c14 hK => ?_)
                · show am_F _ _ 97 [.ref 88, .int a0, .int a1, .int a2, .int (nI a3_n), .int a4, am_un, am_un, am_un] [] (am_S f g) _
                  refine am_F.ops (pc' := 99) (L' := [.ref 88, .int a0, .int a1, .int a2, .int (nI a3_n), .int a4, am_un, am_un, am_un]) (S' := [.int (-3)]) (μ' := (am_S f g)) 1 rfl ?_
                  refine am_F.mem (F' := (am_row (am_row (am_row f 88 (f 88)) 89 (f 89)) 98 (f 98))) (G' := g) ?_ (by first | rfl | (funext a; by_cases z0 : a = 88; (subst z0; rfl); by_cases z1 : a = 89; (subst z1; rfl); by_cases z2 : a = 98; (subst z2; rfl); simp only [am_ui, am_ul, am_row_ne z0, am_row_ne z1, am_row_ne z2])) (by first | rfl | (funext a; by_cases z0 : a = 88; (subst z0; rfl); by_cases z1 : a = 89; (subst z1; rfl); by_cases z2 : a = 98; (subst z2; rfl); simp only [am_ui, am_ul, am_row_ne z0, am_row_ne z1, am_row_ne z2]))
                  subst hKd
                  have hQ := am_KO_s hK
                  exact am_F.eq (am_F.ret rfl rfl) hQ
                · show am_F _ _ 100 [.ref 88, .int a0, .int a1, .int a2, .int (nI a3_n), .int a4, am_un, am_un, am_un] [] (am_S f g) _
                  refine am_F.ops (pc' := 102) (L' := [.ref 88, .int a0, .int a1, .int a2, .int (nI a3_n), .int a4, am_un, am_un, am_un]) (S' := [.int 0, .ref 88]) (μ' := (am_S f g)) 2 rfl ?_
                  refine am_F.pfi (F' := (am_row f 88 (upd (f 88) 15 0))) rfl rfl (by first | rfl | (funext a; by_cases z0 : a = 88; (subst z0; rfl); simp only [am_ui, am_ul, am_row_ne z0])) ?_
                  refine am_F.ops (pc' := 109) (L' := [.ref 88, .int a0, .int a1, .int a2, .int (nI a3_n), .int a4, am_un, am_un, am_un]) (S' := [.int (f 88 11)]) (μ' := (am_S (am_row f 88 (upd (f 88) 15 0)) g)) 2 rfl ?_
                  refine am_F.iteK 1 rfl K hK (fun c15 hK => ?_) (fun c15 hK => ?_)
                  · show am_F _ _ 127 [.ref 88, .int a0, .int a1, .int a2, .int (nI a3_n), .int a4, am_un, am_un, am_un] [] (am_S (am_row f 88 (upd (f 88) 15 0)) g) _
                    refine am_F.ops (pc' := 160) (L' := [.ref 88, .int a0, .int a1, .int a2, .int (nI a3_n), .int a4, .int (f 89 202), .int (490 + (9 * (f 89 202))), am_un]) (S' := [.int (a0 / 100), .int ((490 + (9 * (f 89 202))) + 0), .ref 89]) (μ' := (am_S (am_row f 88 (upd (f 88) 15 0)) g)) 19 rfl ?_
                    refine am_F.iasE (F' := (am_row (am_row f 88 (upd (f 88) 15 0)) 89 (upd (f 89) ((490 + (9 * (f 89 202).toNatClampNeg)) + 0) (a0 / 100)))) (m := ((490 + (9 * (f 89 202).toNatClampNeg)) + 0)) (N := 3340) rfl rfl rfl (am_addE (am_addE rfl (am_mulE rfl hrC)) rfl) (by omega) (by decide) (by first | rfl | (funext a; by_cases z0 : a = 88; (subst z0; rfl); by_cases z1 : a = 89; (subst z1; rfl); simp only [am_ui, am_ul, am_row_ne z0, am_row_ne z1])) ?_
                    refine am_F.ops (pc' := 173) (L' := [.ref 88, .int a0, .int a1, .int a2, .int (nI a3_n), .int a4, .int (f 89 202), .int (490 + (9 * (f 89 202))), am_un]) (S' := [.int (a0 - a0 / 100 * 100), .int ((490 + (9 * (f 89 202))) + 1), .ref 89]) (μ' := (am_S (am_row (am_row f 88 (upd (f 88) 15 0)) 89 (upd (f 89) ((490 + (9 * (f 89 202).toNatClampNeg)) + 0) (a0 / 100))) g)) 8 rfl ?_
                    refine am_F.iasE (F' := (am_row (am_row f 88 (upd (f 88) 15 0)) 89 (upd (upd (f 89) ((490 + (9 * (f 89 202).toNatClampNeg)) + 0) (a0 / 100)) ((490 + (9 * (f 89 202).toNatClampNeg)) + 1) (a0 - a0 / 100 * 100)))) (m := ((490 + (9 * (f 89 202).toNatClampNeg)) + 1)) (N := 3340) rfl rfl rfl (am_addE (am_addE rfl (am_mulE rfl hrC)) rfl) (by omega) (by decide) (by first | rfl | (funext a; by_cases z0 : a = 88; (subst z0; rfl); by_cases z1 : a = 89; (subst z1; rfl); simp only [am_ui, am_ul, am_row_ne z0, am_row_ne z1])) ?_
                    refine am_F.ops (pc' := 183) (L' := [.ref 88, .int a0, .int a1, .int a2, .int (nI a3_n), .int a4, .int (f 89 202), .int (490 + (9 * (f 89 202))), am_un]) (S' := [.int a1, .int ((490 + (9 * (f 89 202))) + 2), .ref 89]) (μ' := (am_S (am_row (am_row f 88 (upd (f 88) 15 0)) 89 (upd (upd (f 89) ((490 + (9 * (f 89 202).toNatClampNeg)) + 0) (a0 / 100)) ((490 + (9 * (f 89 202).toNatClampNeg)) + 1) (a0 - a0 / 100 * 100))) g)) 6 rfl ?_
                    refine am_F.iasE (F' := (am_row (am_row f 88 (upd (f 88) 15 0)) 89 (upd (upd (upd (f 89) ((490 + (9 * (f 89 202).toNatClampNeg)) + 0) (a0 / 100)) ((490 + (9 * (f 89 202).toNatClampNeg)) + 1) (a0 - a0 / 100 * 100)) ((490 + (9 * (f 89 202).toNatClampNeg)) + 2) a1))) (m := ((490 + (9 * (f 89 202).toNatClampNeg)) + 2)) (N := 3340) rfl rfl rfl (am_addE (am_addE rfl (am_mulE rfl hrC)) rfl) (by omega) (by decide) (by first | rfl | (funext a; by_cases z0 : a = 88; (subst z0; rfl); by_cases z1 : a = 89; (subst z1; rfl); simp only [am_ui, am_ul, am_row_ne z0, am_row_ne z1])) ?_
                    refine am_F.ops (pc' := 196) (L' := [.ref 88, .int a0, .int a1, .int a2, .int (nI a3_n), .int a4, .int (f 89 202), .int (490 + (9 * (f 89 202))), am_un]) (S' := [.int (a2 - a2 / 100 * 100), .int ((490 + (9 * (f 89 202))) + 3), .ref 89]) (μ' := (am_S (am_row (am_row f 88 (upd (f 88) 15 0)) 89 (upd (upd (upd (f 89) ((490 + (9 * (f 89 202).toNatClampNeg)) + 0) (a0 / 100)) ((490 + (9 * (f 89 202).toNatClampNeg)) + 1) (a0 - a0 / 100 * 100)) ((490 + (9 * (f 89 202).toNatClampNeg)) + 2) a1)) g)) 8 rfl ?_
                    refine am_F.iasE (F' := (am_row (am_row f 88 (upd (f 88) 15 0)) 89 (upd (upd (upd (upd (f 89) ((490 + (9 * (f 89 202).toNatClampNeg)) + 0) (a0 / 100)) ((490 + (9 * (f 89 202).toNatClampNeg)) + 1) (a0 - a0 / 100 * 100)) ((490 + (9 * (f 89 202).toNatClampNeg)) + 2) a1) ((490 + (9 * (f 89 202).toNatClampNeg)) + 3) (a2 - a2 / 100 * 100)))) (m := ((490 + (9 * (f 89 202).toNatClampNeg)) + 3)) (N := 3340) rfl rfl rfl (am_addE (am_addE rfl (am_mulE rfl hrC)) rfl) (by omega) (by decide) (by first | rfl | (funext a; by_cases z0 : a = 88; (subst z0; rfl); by_cases z1 : a = 89; (subst z1; rfl); simp only [am_ui, am_ul, am_row_ne z0, am_row_ne z1])) ?_
                    refine am_F.ops (pc' := 209) (L' := [.ref 88, .int a0, .int a1, .int a2, .int (nI a3_n), .int a4, .int (f 89 202), .int (490 + (9 * (f 89 202))), am_un]) (S' := [.int (a2 / 100), .int ((490 + (9 * (f 89 202))) + 4), .ref 89]) (μ' := (am_S (am_row (am_row f 88 (upd (f 88) 15 0)) 89 (upd (upd (upd (upd (f 89) ((490 + (9 * (f 89 202).toNatClampNeg)) + 0) (a0 / 100)) ((490 + (9 * (f 89 202).toNatClampNeg)) + 1) (a0 - a0 / 100 * 100)) ((490 + (9 * (f 89 202).toNatClampNeg)) + 2) a1) ((490 + (9 * (f 89 202).toNatClampNeg)) + 3) (a2 - a2 / 100 * 100))) g)) 8 rfl ?_
                    refine am_F.iasE (F' := (am_row (am_row f 88 (upd (f 88) 15 0)) 89 (upd (upd (upd (upd (upd (f 89) ((490 + (9 * (f 89 202).toNatClampNeg)) + 0) (a0 / 100)) ((490 + (9 * (f 89 202).toNatClampNeg)) + 1) (a0 - a0 / 100 * 100)) ((490 + (9 * (f 89 202).toNatClampNeg)) + 2) a1) ((490 + (9 * (f 89 202).toNatClampNeg)) + 3) (a2 - a2 / 100 * 100)) ((490 + (9 * (f 89 202).toNatClampNeg)) + 4) (a2 / 100)))) (m := ((490 + (9 * (f 89 202).toNatClampNeg)) + 4)) (N := 3340) rfl rfl rfl (am_addE (am_addE rfl (am_mulE rfl hrC)) rfl) (by omega) (by decide) (by first | rfl | (funext a; by_cases z0 : a = 88; (subst z0; rfl); by_cases z1 : a = 89; (subst z1; rfl); simp only [am_ui, am_ul, am_row_ne z0, am_row_ne z1])) ?_
                    refine am_F.ops (pc' := 220) (L' := [.ref 88, .int a0, .int a1, .int a2, .int (nI a3_n), .int a4, .int (f 89 202), .int (490 + (9 * (f 89 202))), am_un]) (S' := [.int (nI a3_n), .int ((490 + (9 * (f 89 202))) + 5), .ref 89]) (μ' := (am_S (am_row (am_row f 88 (upd (f 88) 15 0)) 89 (upd (upd (upd (upd (upd (f 89) ((490 + (9 * (f 89 202).toNatClampNeg)) + 0) (a0 / 100)) ((490 + (9 * (f 89 202).toNatClampNeg)) + 1) (a0 - a0 / 100 * 100)) ((490 + (9 * (f 89 202).toNatClampNeg)) + 2) a1) ((490 + (9 * (f 89 202).toNatClampNeg)) + 3) (a2 - a2 / 100 * 100)) ((490 + (9 * (f 89 202).toNatClampNeg)) + 4) (a2 / 100))) g)) 6 rfl ?_
                    refine am_F.iasE (F' := (am_row (am_row f 88 (upd (f 88) 15 0)) 89 (upd (upd (upd (upd (upd (upd (f 89) ((490 + (9 * (f 89 202).toNatClampNeg)) + 0) (a0 / 100)) ((490 + (9 * (f 89 202).toNatClampNeg)) + 1) (a0 - a0 / 100 * 100)) ((490 + (9 * (f 89 202).toNatClampNeg)) + 2) a1) ((490 + (9 * (f 89 202).toNatClampNeg)) + 3) (a2 - a2 / 100 * 100)) ((490 + (9 * (f 89 202).toNatClampNeg)) + 4) (a2 / 100)) ((490 + (9 * (f 89 202).toNatClampNeg)) + 5) (nI a3_n)))) (m := ((490 + (9 * (f 89 202).toNatClampNeg)) + 5)) (N := 3340) rfl rfl rfl (am_addE (am_addE rfl (am_mulE rfl hrC)) rfl) (by omega) (by decide) (by first | rfl | (funext a; by_cases z0 : a = 88; (subst z0; rfl); by_cases z1 : a = 89; (subst z1; rfl); simp only [am_ui, am_ul, am_row_ne z0, am_row_ne z1])) ?_
                    refine am_F.ops (pc' := 232) (L' := [.ref 88, .int a0, .int a1, .int a2, .int (nI a3_n), .int a4, .int (f 89 202), .int (490 + (9 * (f 89 202))), am_un]) (S' := [.int a4, .int ((490 + (9 * (f 89 202))) + 6), .ref 89]) (μ' := (am_S (am_row (am_row f 88 (upd (f 88) 15 0)) 89 (upd (upd (upd (upd (upd (upd (f 89) ((490 + (9 * (f 89 202).toNatClampNeg)) + 0) (a0 / 100)) ((490 + (9 * (f 89 202).toNatClampNeg)) + 1) (a0 - a0 / 100 * 100)) ((490 + (9 * (f 89 202).toNatClampNeg)) + 2) a1) ((490 + (9 * (f 89 202).toNatClampNeg)) + 3) (a2 - a2 / 100 * 100)) ((490 + (9 * (f 89 202).toNatClampNeg)) + 4) (a2 / 100)) ((490 + (9 * (f 89 202).toNatClampNeg)) + 5) (nI a3_n))) g)) 6 rfl ?_
                    refine am_F.iasE (F' := (am_row (am_row f 88 (upd (f 88) 15 0)) 89 (upd (upd (upd (upd (upd (upd (upd (f 89) ((490 + (9 * (f 89 202).toNatClampNeg)) + 0) (a0 / 100)) ((490 + (9 * (f 89 202).toNatClampNeg)) + 1) (a0 - a0 / 100 * 100)) ((490 + (9 * (f 89 202).toNatClampNeg)) + 2) a1) ((490 + (9 * (f 89 202).toNatClampNeg)) + 3) (a2 - a2 / 100 * 100)) ((490 + (9 * (f 89 202).toNatClampNeg)) + 4) (a2 / 100)) ((490 + (9 * (f 89 202).toNatClampNeg)) + 5) (nI a3_n)) ((490 + (9 * (f 89 202).toNatClampNeg)) + 6) a4))) (m := ((490 + (9 * (f 89 202).toNatClampNeg)) + 6)) (N := 3340) rfl rfl rfl (am_addE (am_addE rfl (am_mulE rfl hrC)) rfl) (by omega) (by decide) (by first | rfl | (funext a; by_cases z0 : a = 88; (subst z0; rfl); by_cases z1 : a = 89; (subst z1; rfl); simp only [am_ui, am_ul, am_row_ne z0, am_row_ne z1])) ?_
                    refine am_F.ops (pc' := 243) (L' := [.ref 88, .int a0, .int a1, .int a2, .int (nI a3_n), .int a4, .int (f 89 202), .int (490 + (9 * (f 89 202))), am_un]) (S' := [.int (-1), .int ((490 + (9 * (f 89 202))) + 7), .ref 89]) (μ' := (am_S (am_row (am_row f 88 (upd (f 88) 15 0)) 89 (upd (upd (upd (upd (upd (upd (upd (f 89) ((490 + (9 * (f 89 202).toNatClampNeg)) + 0) (a0 / 100)) ((490 + (9 * (f 89 202).toNatClampNeg)) + 1) (a0 - a0 / 100 * 100)) ((490 + (9 * (f 89 202).toNatClampNeg)) + 2) a1) ((490 + (9 * (f 89 202).toNatClampNeg)) + 3) (a2 - a2 / 100 * 100)) ((490 + (9 * (f 89 202).toNatClampNeg)) + 4) (a2 / 100)) ((490 + (9 * (f 89 202).toNatClampNeg)) + 5) (nI a3_n)) ((490 + (9 * (f 89 202).toNatClampNeg)) + 6) a4)) g)) 6 rfl ?_
                    refine am_F.iasE (F' := (am_row (am_row f 88 (upd (f 88) 15 0)) 89 (upd (upd (upd (upd (upd (upd (upd (upd (f 89) ((490 + (9 * (f 89 202).toNatClampNeg)) + 0) (a0 / 100)) ((490 + (9 * (f 89 202).toNatClampNeg)) + 1) (a0 - a0 / 100 * 100)) ((490 + (9 * (f 89 202).toNatClampNeg)) + 2) a1) ((490 + (9 * (f 89 202).toNatClampNeg)) + 3) (a2 - a2 / 100 * 100)) ((490 + (9 * (f 89 202).toNatClampNeg)) + 4) (a2 / 100)) ((490 + (9 * (f 89 202).toNatClampNeg)) + 5) (nI a3_n)) ((490 + (9 * (f 89 202).toNatClampNeg)) + 6) a4) ((490 + (9 * (f 89 202).toNatClampNeg)) + 7) (-1)))) (m := ((490 + (9 * (f 89 202).toNatClampNeg)) + 7)) (N := 3340) rfl rfl rfl (am_addE (am_addE rfl (am_mulE rfl hrC)) rfl) (by omega) (by decide) (by first | rfl | (funext a; by_cases z0 : a = 88; (subst z0; rfl); by_cases z1 : a = 89; (subst z1; rfl); simp only [am_ui, am_ul, am_row_ne z0, am_row_ne z1])) ?_
                    refine am_F.ops (pc' := 257) (L' := [.ref 88, .int a0, .int a1, .int a2, .int (nI a3_n), .int a4, .int (f 89 202), .int (490 + (9 * (f 89 202))), am_un]) (S' := [.int 0, .int ((490 + (9 * (f 89 202))) + 8), .ref 89]) (μ' := (am_S (am_row (am_row f 88 (upd (f 88) 15 0)) 89 (upd (upd (upd (upd (upd (upd (upd (upd (f 89) ((490 + (9 * (f 89 202).toNatClampNeg)) + 0) (a0 / 100)) ((490 + (9 * (f 89 202).toNatClampNeg)) + 1) (a0 - a0 / 100 * 100)) ((490 + (9 * (f 89 202).toNatClampNeg)) + 2) a1) ((490 + (9 * (f 89 202).toNatClampNeg)) + 3) (a2 - a2 / 100 * 100)) ((490 + (9 * (f 89 202).toNatClampNeg)) + 4) (a2 / 100)) ((490 + (9 * (f 89 202).toNatClampNeg)) + 5) (nI a3_n)) ((490 + (9 * (f 89 202).toNatClampNeg)) + 6) a4) ((490 + (9 * (f 89 202).toNatClampNeg)) + 7) (-1))) g)) 7 rfl ?_
                    refine am_F.iasE (F' := (am_row (am_row f 88 (upd (f 88) 15 0)) 89 (upd (upd (upd (upd (upd (upd (upd (upd (upd (f 89) ((490 + (9 * (f 89 202).toNatClampNeg)) + 0) (a0 / 100)) ((490 + (9 * (f 89 202).toNatClampNeg)) + 1) (a0 - a0 / 100 * 100)) ((490 + (9 * (f 89 202).toNatClampNeg)) + 2) a1) ((490 + (9 * (f 89 202).toNatClampNeg)) + 3) (a2 - a2 / 100 * 100)) ((490 + (9 * (f 89 202).toNatClampNeg)) + 4) (a2 / 100)) ((490 + (9 * (f 89 202).toNatClampNeg)) + 5) (nI a3_n)) ((490 + (9 * (f 89 202).toNatClampNeg)) + 6) a4) ((490 + (9 * (f 89 202).toNatClampNeg)) + 7) (-1)) ((490 + (9 * (f 89 202).toNatClampNeg)) + 8) 0))) (m := ((490 + (9 * (f 89 202).toNatClampNeg)) + 8)) (N := 3340) rfl rfl rfl (am_addE (am_addE rfl (am_mulE rfl hrC)) rfl) (by omega) (by decide) (by first | rfl | (funext a; by_cases z0 : a = 88; (subst z0; rfl); by_cases z1 : a = 89; (subst z1; rfl); simp only [am_ui, am_ul, am_row_ne z0, am_row_ne z1])) ?_
                    refine am_F.ops (pc' := 261) (L' := [.ref 88, .int a0, .int a1, .int a2, .int (nI a3_n), .int a4, .int (f 89 202), .int (490 + (9 * (f 89 202))), .int 0]) (S' := []) (μ' := (am_S (am_row (am_row f 88 (upd (f 88) 15 0)) 89 (upd (upd (upd (upd (upd (upd (upd (upd (upd (f 89) ((490 + (9 * (f 89 202).toNatClampNeg)) + 0) (a0 / 100)) ((490 + (9 * (f 89 202).toNatClampNeg)) + 1) (a0 - a0 / 100 * 100)) ((490 + (9 * (f 89 202).toNatClampNeg)) + 2) a1) ((490 + (9 * (f 89 202).toNatClampNeg)) + 3) (a2 - a2 / 100 * 100)) ((490 + (9 * (f 89 202).toNatClampNeg)) + 4) (a2 / 100)) ((490 + (9 * (f 89 202).toNatClampNeg)) + 5) (nI a3_n)) ((490 + (9 * (f 89 202).toNatClampNeg)) + 6) a4) ((490 + (9 * (f 89 202).toNatClampNeg)) + 7) (-1)) ((490 + (9 * (f 89 202).toNatClampNeg)) + 8) 0)) g)) 2 rfl ?_
                    show am_F _ _ 261 [.ref 88, .int a0, .int a1, .int a2, .int (nI a3_n), .int a4, .int (f 89 202), .int (490 + (9 * (f 89 202))), .int (nI 0)] [] (am_S (am_row (am_row f 88 (upd (f 88) 15 0)) 89 (upd (upd (upd (upd (upd (upd (upd (upd (upd (f 89) ((490 + (9 * (f 89 202).toNatClampNeg)) + 0) (a0 / 100)) ((490 + (9 * (f 89 202).toNatClampNeg)) + 1) (a0 - a0 / 100 * 100)) ((490 + (9 * (f 89 202).toNatClampNeg)) + 2) a1) ((490 + (9 * (f 89 202).toNatClampNeg)) + 3) (a2 - a2 / 100 * 100)) ((490 + (9 * (f 89 202).toNatClampNeg)) + 4) (a2 / 100)) ((490 + (9 * (f 89 202).toNatClampNeg)) + 5) (nI a3_n)) ((490 + (9 * (f 89 202).toNatClampNeg)) + 6) a4) ((490 + (9 * (f 89 202).toNatClampNeg)) + 7) (-1)) ((490 + (9 * (f 89 202).toNatClampNeg)) + 8) 0)) g) _
                    refine lp_m_rule_261 a0 a1 a2 a3_n a4 f g hmk hlC hlN hrC hrN hl0 hl5 hl2 ha3_n _ 0 0 (upd (upd (upd (upd (upd (upd (upd (upd (upd (f 89) ((490 + (9 * (f 89 202).toNatClampNeg)) + 0) (a0 / 100)) ((490 + (9 * (f 89 202).toNatClampNeg)) + 1) (a0 - a0 / 100 * 100)) ((490 + (9 * (f 89 202).toNatClampNeg)) + 2) a1) ((490 + (9 * (f 89 202).toNatClampNeg)) + 3) (a2 - a2 / 100 * 100)) ((490 + (9 * (f 89 202).toNatClampNeg)) + 4) (a2 / 100)) ((490 + (9 * (f 89 202).toNatClampNeg)) + 5) (nI a3_n)) ((490 + (9 * (f 89 202).toNatClampNeg)) + 6) a4) ((490 + (9 * (f 89 202).toNatClampNeg)) + 7) (-1)) ((490 + (9 * (f 89 202).toNatClampNeg)) + 8) 0)  (by omega)  ?_
                    rw [show am_for (st_m_rule_261 f) 0 0 (upd (upd (upd (upd (upd (upd (upd (upd (upd (f 89) ((490 + (9 * (f 89 202).toNatClampNeg)) + 0) (a0 / 100)) ((490 + (9 * (f 89 202).toNatClampNeg)) + 1) (a0 - a0 / 100 * 100)) ((490 + (9 * (f 89 202).toNatClampNeg)) + 2) a1) ((490 + (9 * (f 89 202).toNatClampNeg)) + 3) (a2 - a2 / 100 * 100)) ((490 + (9 * (f 89 202).toNatClampNeg)) + 4) (a2 / 100)) ((490 + (9 * (f 89 202).toNatClampNeg)) + 5) (nI a3_n)) ((490 + (9 * (f 89 202).toNatClampNeg)) + 6) a4) ((490 + (9 * (f 89 202).toNatClampNeg)) + 7) (-1)) ((490 + (9 * (f 89 202).toNatClampNeg)) + 8) 0) = (lf_m_rule_261 a0 a1 a2 a3_n a4 f) from rfl]
                    generalize (lf_m_rule_261 a0 a1 a2 a3_n a4 f) = z261_16 at hK ⊢
                    intro wc261
                    show am_F _ _ 300 [.ref 88, .int a0, .int a1, .int a2, .int (nI a3_n), .int a4, .int (f 89 202), .int (490 + (9 * (f 89 202))), wc261] [] (am_S (am_row (am_row f 88 (upd (f 88) 15 0)) 89 z261_16) g) _
                    refine am_F.ops (pc' := 311) (L' := [.ref 88, .int a0, .int a1, .int a2, .int (nI a3_n), .int a4, .int (f 89 202), .int (490 + (9 * (f 89 202))), wc261]) (S' := [.int ((z261_16 202) + 1), .int 202, .ref 89]) (μ' := (am_S (am_row (am_row f 88 (upd (f 88) 15 0)) 89 z261_16) g)) 7 rfl ?_
                    refine am_F.iasE (F' := (am_row (am_row f 88 (upd (f 88) 15 0)) 89 (upd z261_16 202 ((z261_16 202) + 1)))) (m := 202) (N := 3340) rfl rfl rfl rfl (by omega) (by decide) (by first | rfl | (funext a; by_cases z0 : a = 88; (subst z0; rfl); by_cases z1 : a = 89; (subst z1; rfl); simp only [am_ui, am_ul, am_row_ne z0, am_row_ne z1])) ?_
                    refine am_F.ops (pc' := 314) (L' := [.ref 88, .int a0, .int a1, .int a2, .int (nI a3_n), .int a4, .int (f 89 202), .int (490 + (9 * (f 89 202))), wc261]) (S' := [.int (f 89 202)]) (μ' := (am_S (am_row (am_row f 88 (upd (f 88) 15 0)) 89 (upd z261_16 202 ((z261_16 202) + 1))) g)) 1 rfl ?_
                    refine am_F.mem (F' := (am_row (am_row (am_row f 88 (upd (f 88) 15 0)) 89 (upd z261_16 202 ((z261_16 202) + 1))) 98 (f 98))) (G' := g) ?_ (by first | rfl | (funext a; by_cases z0 : a = 88; (subst z0; rfl); by_cases z1 : a = 89; (subst z1; rfl); by_cases z2 : a = 98; (subst z2; rfl); simp only [am_ui, am_ul, am_row_ne z0, am_row_ne z1, am_row_ne z2])) (by first | rfl | (funext a; by_cases z0 : a = 88; (subst z0; rfl); by_cases z1 : a = 89; (subst z1; rfl); by_cases z2 : a = 98; (subst z2; rfl); simp only [am_ui, am_ul, am_row_ne z0, am_row_ne z1, am_row_ne z2]))
                    subst hKd
                    have hQ := am_KO_s hK
                    exact am_F.eq (am_F.ret rfl rfl) hQ
                  · show am_F _ _ 112 [.ref 88, .int a0, .int a1, .int a2, .int (nI a3_n), .int a4, am_un, am_un, am_un] [] (am_S (am_row f 88 (upd (f 88) 15 0)) g) _
                    refine am_F.ops (pc' := 113) (L' := [.ref 88, .int a0, .int a1, .int a2, .int (nI a3_n), .int a4, am_un, am_un, am_un]) (S' := [.ref 88]) (μ' := (am_S (am_row f 88 (upd (f 88) 15 0)) g)) 1 rfl ?_
                    obtain ⟨y17, hy17, hK⟩ := am_ob_e hKn hK
                    refine am_F.call rfl rfl (x_m_reads  (am_row f 88 (upd (f 88) 15 0)) g  y17 hy17) (by first | decide | omega) ?_
                    refine am_F.mem (F' := (am_row (am_row f 88 y17.2.1) 98 y17.2.2)) (G' := g) ?_ (by first | rfl | (funext a; by_cases z0 : a = 88; (subst z0; rfl); by_cases z1 : a = 98; (subst z1; rfl); simp only [am_ui, am_ul, am_row_ne z0, am_row_ne z1])) (by first | rfl | (funext a; by_cases z0 : a = 88; (subst z0; rfl); by_cases z1 : a = 98; (subst z1; rfl); simp only [am_ui, am_ul, am_row_ne z0, am_row_ne z1]))
                    show am_F _ _ 116 [.ref 88, .int a0, .int a1, .int a2, .int (nI a3_n), .int a4, am_un, am_un, am_un] [.int y17.1] (am_S (am_row (am_row f 88 y17.2.1) 98 y17.2.2) g) _
                    refine am_F.iteK 1 rfl K hK (fun c18 hK => ?_) (fun c18 hK => ?_)
                    · show am_F _ _ 127 [.ref 88, .int a0, .int a1, .int a2, .int (nI a3_n), .int a4, am_un, am_un, am_un] [] (am_S (am_row (am_row f 88 y17.2.1) 98 y17.2.2) g) _
                      refine am_F.ops (pc' := 160) (L' := [.ref 88, .int a0, .int a1, .int a2, .int (nI a3_n), .int a4, .int (f 89 202), .int (490 + (9 * (f 89 202))), am_un]) (S' := [.int (a0 / 100), .int ((490 + (9 * (f 89 202))) + 0), .ref 89]) (μ' := (am_S (am_row (am_row f 88 y17.2.1) 98 y17.2.2) g)) 19 rfl ?_
                      refine am_F.iasE (F' := (am_row (am_row (am_row f 88 y17.2.1) 89 (upd (f 89) ((490 + (9 * (f 89 202).toNatClampNeg)) + 0) (a0 / 100))) 98 y17.2.2)) (m := ((490 + (9 * (f 89 202).toNatClampNeg)) + 0)) (N := 3340) rfl rfl rfl (am_addE (am_addE rfl (am_mulE rfl hrC)) rfl) (by omega) (by decide) (by first | rfl | (funext a; by_cases z0 : a = 88; (subst z0; rfl); by_cases z1 : a = 89; (subst z1; rfl); by_cases z2 : a = 98; (subst z2; rfl); simp only [am_ui, am_ul, am_row_ne z0, am_row_ne z1, am_row_ne z2])) ?_
                      refine am_F.ops (pc' := 173) (L' := [.ref 88, .int a0, .int a1, .int a2, .int (nI a3_n), .int a4, .int (f 89 202), .int (490 + (9 * (f 89 202))), am_un]) (S' := [.int (a0 - a0 / 100 * 100), .int ((490 + (9 * (f 89 202))) + 1), .ref 89]) (μ' := (am_S (am_row (am_row (am_row f 88 y17.2.1) 89 (upd (f 89) ((490 + (9 * (f 89 202).toNatClampNeg)) + 0) (a0 / 100))) 98 y17.2.2) g)) 8 rfl ?_
                      refine am_F.iasE (F' := (am_row (am_row (am_row f 88 y17.2.1) 89 (upd (upd (f 89) ((490 + (9 * (f 89 202).toNatClampNeg)) + 0) (a0 / 100)) ((490 + (9 * (f 89 202).toNatClampNeg)) + 1) (a0 - a0 / 100 * 100))) 98 y17.2.2)) (m := ((490 + (9 * (f 89 202).toNatClampNeg)) + 1)) (N := 3340) rfl rfl rfl (am_addE (am_addE rfl (am_mulE rfl hrC)) rfl) (by omega) (by decide) (by first | rfl | (funext a; by_cases z0 : a = 88; (subst z0; rfl); by_cases z1 : a = 89; (subst z1; rfl); by_cases z2 : a = 98; (subst z2; rfl); simp only [am_ui, am_ul, am_row_ne z0, am_row_ne z1, am_row_ne z2])) ?_
                      refine am_F.ops (pc' := 183) (L' := [.ref 88, .int a0, .int a1, .int a2, .int (nI a3_n), .int a4, .int (f 89 202), .int (490 + (9 * (f 89 202))), am_un]) (S' := [.int a1, .int ((490 + (9 * (f 89 202))) + 2), .ref 89]) (μ' := (am_S (am_row (am_row (am_row f 88 y17.2.1) 89 (upd (upd (f 89) ((490 + (9 * (f 89 202).toNatClampNeg)) + 0) (a0 / 100)) ((490 + (9 * (f 89 202).toNatClampNeg)) + 1) (a0 - a0 / 100 * 100))) 98 y17.2.2) g)) 6 rfl ?_
                      refine am_F.iasE (F' := (am_row (am_row (am_row f 88 y17.2.1) 89 (upd (upd (upd (f 89) ((490 + (9 * (f 89 202).toNatClampNeg)) + 0) (a0 / 100)) ((490 + (9 * (f 89 202).toNatClampNeg)) + 1) (a0 - a0 / 100 * 100)) ((490 + (9 * (f 89 202).toNatClampNeg)) + 2) a1)) 98 y17.2.2)) (m := ((490 + (9 * (f 89 202).toNatClampNeg)) + 2)) (N := 3340) rfl rfl rfl (am_addE (am_addE rfl (am_mulE rfl hrC)) rfl) (by omega) (by decide) (by first | rfl | (funext a; by_cases z0 : a = 88; (subst z0; rfl); by_cases z1 : a = 89; (subst z1; rfl); by_cases z2 : a = 98; (subst z2; rfl); simp only [am_ui, am_ul, am_row_ne z0, am_row_ne z1, am_row_ne z2])) ?_
                      refine am_F.ops (pc' := 196) (L' := [.ref 88, .int a0, .int a1, .int a2, .int (nI a3_n), .int a4, .int (f 89 202), .int (490 + (9 * (f 89 202))), am_un]) (S' := [.int (a2 - a2 / 100 * 100), .int ((490 + (9 * (f 89 202))) + 3), .ref 89]) (μ' := (am_S (am_row (am_row (am_row f 88 y17.2.1) 89 (upd (upd (upd (f 89) ((490 + (9 * (f 89 202).toNatClampNeg)) + 0) (a0 / 100)) ((490 + (9 * (f 89 202).toNatClampNeg)) + 1) (a0 - a0 / 100 * 100)) ((490 + (9 * (f 89 202).toNatClampNeg)) + 2) a1)) 98 y17.2.2) g)) 8 rfl ?_
                      refine am_F.iasE (F' := (am_row (am_row (am_row f 88 y17.2.1) 89 (upd (upd (upd (upd (f 89) ((490 + (9 * (f 89 202).toNatClampNeg)) + 0) (a0 / 100)) ((490 + (9 * (f 89 202).toNatClampNeg)) + 1) (a0 - a0 / 100 * 100)) ((490 + (9 * (f 89 202).toNatClampNeg)) + 2) a1) ((490 + (9 * (f 89 202).toNatClampNeg)) + 3) (a2 - a2 / 100 * 100))) 98 y17.2.2)) (m := ((490 + (9 * (f 89 202).toNatClampNeg)) + 3)) (N := 3340) rfl rfl rfl (am_addE (am_addE rfl (am_mulE rfl hrC)) rfl) (by omega) (by decide) (by first | rfl | (funext a; by_cases z0 : a = 88; (subst z0; rfl); by_cases z1 : a = 89; (subst z1; rfl); by_cases z2 : a = 98; (subst z2; rfl); simp only [am_ui, am_ul, am_row_ne z0, am_row_ne z1, am_row_ne z2])) ?_
                      refine am_F.ops (pc' := 209) (L' := [.ref 88, .int a0, .int a1, .int a2, .int (nI a3_n), .int a4, .int (f 89 202), .int (490 + (9 * (f 89 202))), am_un]) (S' := [.int (a2 / 100), .int ((490 + (9 * (f 89 202))) + 4), .ref 89]) (μ' := (am_S (am_row (am_row (am_row f 88 y17.2.1) 89 (upd (upd (upd (upd (f 89) ((490 + (9 * (f 89 202).toNatClampNeg)) + 0) (a0 / 100)) ((490 + (9 * (f 89 202).toNatClampNeg)) + 1) (a0 - a0 / 100 * 100)) ((490 + (9 * (f 89 202).toNatClampNeg)) + 2) a1) ((490 + (9 * (f 89 202).toNatClampNeg)) + 3) (a2 - a2 / 100 * 100))) 98 y17.2.2) g)) 8 rfl ?_
                      refine am_F.iasE (F' := (am_row (am_row (am_row f 88 y17.2.1) 89 (upd (upd (upd (upd (upd (f 89) ((490 + (9 * (f 89 202).toNatClampNeg)) + 0) (a0 / 100)) ((490 + (9 * (f 89 202).toNatClampNeg)) + 1) (a0 - a0 / 100 * 100)) ((490 + (9 * (f 89 202).toNatClampNeg)) + 2) a1) ((490 + (9 * (f 89 202).toNatClampNeg)) + 3) (a2 - a2 / 100 * 100)) ((490 + (9 * (f 89 202).toNatClampNeg)) + 4) (a2 / 100))) 98 y17.2.2)) (m := ((490 + (9 * (f 89 202).toNatClampNeg)) + 4)) (N := 3340) rfl rfl rfl (am_addE (am_addE rfl (am_mulE rfl hrC)) rfl) (by omega) (by decide) (by first | rfl | (funext a; by_cases z0 : a = 88; (subst z0; rfl); by_cases z1 : a = 89; (subst z1; rfl); by_cases z2 : a = 98; (subst z2; rfl); simp only [am_ui, am_ul, am_row_ne z0, am_row_ne z1, am_row_ne z2])) ?_
                      refine am_F.ops (pc' := 220) (L' := [.ref 88, .int a0, .int a1, .int a2, .int (nI a3_n), .int a4, .int (f 89 202), .int (490 + (9 * (f 89 202))), am_un]) (S' := [.int (nI a3_n), .int ((490 + (9 * (f 89 202))) + 5), .ref 89]) (μ' := (am_S (am_row (am_row (am_row f 88 y17.2.1) 89 (upd (upd (upd (upd (upd (f 89) ((490 + (9 * (f 89 202).toNatClampNeg)) + 0) (a0 / 100)) ((490 + (9 * (f 89 202).toNatClampNeg)) + 1) (a0 - a0 / 100 * 100)) ((490 + (9 * (f 89 202).toNatClampNeg)) + 2) a1) ((490 + (9 * (f 89 202).toNatClampNeg)) + 3) (a2 - a2 / 100 * 100)) ((490 + (9 * (f 89 202).toNatClampNeg)) + 4) (a2 / 100))) 98 y17.2.2) g)) 6 rfl ?_
                      refine am_F.iasE (F' := (am_row (am_row (am_row f 88 y17.2.1) 89 (upd (upd (upd (upd (upd (upd (f 89) ((490 + (9 * (f 89 202).toNatClampNeg)) + 0) (a0 / 100)) ((490 + (9 * (f 89 202).toNatClampNeg)) + 1) (a0 - a0 / 100 * 100)) ((490 + (9 * (f 89 202).toNatClampNeg)) + 2) a1) ((490 + (9 * (f 89 202).toNatClampNeg)) + 3) (a2 - a2 / 100 * 100)) ((490 + (9 * (f 89 202).toNatClampNeg)) + 4) (a2 / 100)) ((490 + (9 * (f 89 202).toNatClampNeg)) + 5) (nI a3_n))) 98 y17.2.2)) (m := ((490 + (9 * (f 89 202).toNatClampNeg)) + 5)) (N := 3340) rfl rfl rfl (am_addE (am_addE rfl (am_mulE rfl hrC)) rfl) (by omega) (by decide) (by first | rfl | (funext a; by_cases z0 : a = 88; (subst z0; rfl); by_cases z1 : a = 89; (subst z1; rfl); by_cases z2 : a = 98; (subst z2; rfl); simp only [am_ui, am_ul, am_row_ne z0, am_row_ne z1, am_row_ne z2])) ?_
                      refine am_F.ops (pc' := 232) (L' := [.ref 88, .int a0, .int a1, .int a2, .int (nI a3_n), .int a4, .int (f 89 202), .int (490 + (9 * (f 89 202))), am_un]) (S' := [.int a4, .int ((490 + (9 * (f 89 202))) + 6), .ref 89]) (μ' := (am_S (am_row (am_row (am_row f 88 y17.2.1) 89 (upd (upd (upd (upd (upd (upd (f 89) ((490 + (9 * (f 89 202).toNatClampNeg)) + 0) (a0 / 100)) ((490 + (9 * (f 89 202).toNatClampNeg)) + 1) (a0 - a0 / 100 * 100)) ((490 + (9 * (f 89 202).toNatClampNeg)) + 2) a1) ((490 + (9 * (f 89 202).toNatClampNeg)) + 3) (a2 - a2 / 100 * 100)) ((490 + (9 * (f 89 202).toNatClampNeg)) + 4) (a2 / 100)) ((490 + (9 * (f 89 202).toNatClampNeg)) + 5) (nI a3_n))) 98 y17.2.2) g)) 6 rfl ?_
                      refine am_F.iasE (F' := (am_row (am_row (am_row f 88 y17.2.1) 89 (upd (upd (upd (upd (upd (upd (upd (f 89) ((490 + (9 * (f 89 202).toNatClampNeg)) + 0) (a0 / 100)) ((490 + (9 * (f 89 202).toNatClampNeg)) + 1) (a0 - a0 / 100 * 100)) ((490 + (9 * (f 89 202).toNatClampNeg)) + 2) a1) ((490 + (9 * (f 89 202).toNatClampNeg)) + 3) (a2 - a2 / 100 * 100)) ((490 + (9 * (f 89 202).toNatClampNeg)) + 4) (a2 / 100)) ((490 + (9 * (f 89 202).toNatClampNeg)) + 5) (nI a3_n)) ((490 + (9 * (f 89 202).toNatClampNeg)) + 6) a4)) 98 y17.2.2)) (m := ((490 + (9 * (f 89 202).toNatClampNeg)) + 6)) (N := 3340) rfl rfl rfl (am_addE (am_addE rfl (am_mulE rfl hrC)) rfl) (by omega) (by decide) (by first | rfl | (funext a; by_cases z0 : a = 88; (subst z0; rfl); by_cases z1 : a = 89; (subst z1; rfl); by_cases z2 : a = 98; (subst z2; rfl); simp only [am_ui, am_ul, am_row_ne z0, am_row_ne z1, am_row_ne z2])) ?_
                      refine am_F.ops (pc' := 243) (L' := [.ref 88, .int a0, .int a1, .int a2, .int (nI a3_n), .int a4, .int (f 89 202), .int (490 + (9 * (f 89 202))), am_un]) (S' := [.int (-1), .int ((490 + (9 * (f 89 202))) + 7), .ref 89]) (μ' := (am_S (am_row (am_row (am_row f 88 y17.2.1) 89 (upd (upd (upd (upd (upd (upd (upd (f 89) ((490 + (9 * (f 89 202).toNatClampNeg)) + 0) (a0 / 100)) ((490 + (9 * (f 89 202).toNatClampNeg)) + 1) (a0 - a0 / 100 * 100)) ((490 + (9 * (f 89 202).toNatClampNeg)) + 2) a1) ((490 + (9 * (f 89 202).toNatClampNeg)) + 3) (a2 - a2 / 100 * 100)) ((490 + (9 * (f 89 202).toNatClampNeg)) + 4) (a2 / 100)) ((490 + (9 * (f 89 202).toNatClampNeg)) + 5) (nI a3_n)) ((490 + (9 * (f 89 202).toNatClampNeg)) + 6) a4)) 98 y17.2.2) g)) 6 rfl ?_
                      refine am_F.iasE (F' := (am_row (am_row (am_row f 88 y17.2.1) 89 (upd (upd (upd (upd (upd (upd (upd (upd (f 89) ((490 + (9 * (f 89 202).toNatClampNeg)) + 0) (a0 / 100)) ((490 + (9 * (f 89 202).toNatClampNeg)) + 1) (a0 - a0 / 100 * 100)) ((490 + (9 * (f 89 202).toNatClampNeg)) + 2) a1) ((490 + (9 * (f 89 202).toNatClampNeg)) + 3) (a2 - a2 / 100 * 100)) ((490 + (9 * (f 89 202).toNatClampNeg)) + 4) (a2 / 100)) ((490 + (9 * (f 89 202).toNatClampNeg)) + 5) (nI a3_n)) ((490 + (9 * (f 89 202).toNatClampNeg)) + 6) a4) ((490 + (9 * (f 89 202).toNatClampNeg)) + 7) (-1))) 98 y17.2.2)) (m := ((490 + (9 * (f 89 202).toNatClampNeg)) + 7)) (N := 3340) rfl rfl rfl (am_addE (am_addE rfl (am_mulE rfl hrC)) rfl) (by omega) (by decide) (by first | rfl | (funext a; by_cases z0 : a = 88; (subst z0; rfl); by_cases z1 : a = 89; (subst z1; rfl); by_cases z2 : a = 98; (subst z2; rfl); simp only [am_ui, am_ul, am_row_ne z0, am_row_ne z1, am_row_ne z2])) ?_
                      refine am_F.ops (pc' := 257) (L' := [.ref 88, .int a0, .int a1, .int a2, .int (nI a3_n), .int a4, .int (f 89 202), .int (490 + (9 * (f 89 202))), am_un]) (S' := [.int (y17.2.1 15), .int ((490 + (9 * (f 89 202))) + 8), .ref 89]) (μ' := (am_S (am_row (am_row (am_row f 88 y17.2.1) 89 (upd (upd (upd (upd (upd (upd (upd (upd (f 89) ((490 + (9 * (f 89 202).toNatClampNeg)) + 0) (a0 / 100)) ((490 + (9 * (f 89 202).toNatClampNeg)) + 1) (a0 - a0 / 100 * 100)) ((490 + (9 * (f 89 202).toNatClampNeg)) + 2) a1) ((490 + (9 * (f 89 202).toNatClampNeg)) + 3) (a2 - a2 / 100 * 100)) ((490 + (9 * (f 89 202).toNatClampNeg)) + 4) (a2 / 100)) ((490 + (9 * (f 89 202).toNatClampNeg)) + 5) (nI a3_n)) ((490 + (9 * (f 89 202).toNatClampNeg)) + 6) a4) ((490 + (9 * (f 89 202).toNatClampNeg)) + 7) (-1))) 98 y17.2.2) g)) 7 rfl ?_
                      refine am_F.iasE (F' := (am_row (am_row (am_row f 88 y17.2.1) 89 (upd (upd (upd (upd (upd (upd (upd (upd (upd (f 89) ((490 + (9 * (f 89 202).toNatClampNeg)) + 0) (a0 / 100)) ((490 + (9 * (f 89 202).toNatClampNeg)) + 1) (a0 - a0 / 100 * 100)) ((490 + (9 * (f 89 202).toNatClampNeg)) + 2) a1) ((490 + (9 * (f 89 202).toNatClampNeg)) + 3) (a2 - a2 / 100 * 100)) ((490 + (9 * (f 89 202).toNatClampNeg)) + 4) (a2 / 100)) ((490 + (9 * (f 89 202).toNatClampNeg)) + 5) (nI a3_n)) ((490 + (9 * (f 89 202).toNatClampNeg)) + 6) a4) ((490 + (9 * (f 89 202).toNatClampNeg)) + 7) (-1)) ((490 + (9 * (f 89 202).toNatClampNeg)) + 8) (y17.2.1 15))) 98 y17.2.2)) (m := ((490 + (9 * (f 89 202).toNatClampNeg)) + 8)) (N := 3340) rfl rfl rfl (am_addE (am_addE rfl (am_mulE rfl hrC)) rfl) (by omega) (by decide) (by first | rfl | (funext a; by_cases z0 : a = 88; (subst z0; rfl); by_cases z1 : a = 89; (subst z1; rfl); by_cases z2 : a = 98; (subst z2; rfl); simp only [am_ui, am_ul, am_row_ne z0, am_row_ne z1, am_row_ne z2])) ?_
                      refine am_F.ops (pc' := 261) (L' := [.ref 88, .int a0, .int a1, .int a2, .int (nI a3_n), .int a4, .int (f 89 202), .int (490 + (9 * (f 89 202))), .int 0]) (S' := []) (μ' := (am_S (am_row (am_row (am_row f 88 y17.2.1) 89 (upd (upd (upd (upd (upd (upd (upd (upd (upd (f 89) ((490 + (9 * (f 89 202).toNatClampNeg)) + 0) (a0 / 100)) ((490 + (9 * (f 89 202).toNatClampNeg)) + 1) (a0 - a0 / 100 * 100)) ((490 + (9 * (f 89 202).toNatClampNeg)) + 2) a1) ((490 + (9 * (f 89 202).toNatClampNeg)) + 3) (a2 - a2 / 100 * 100)) ((490 + (9 * (f 89 202).toNatClampNeg)) + 4) (a2 / 100)) ((490 + (9 * (f 89 202).toNatClampNeg)) + 5) (nI a3_n)) ((490 + (9 * (f 89 202).toNatClampNeg)) + 6) a4) ((490 + (9 * (f 89 202).toNatClampNeg)) + 7) (-1)) ((490 + (9 * (f 89 202).toNatClampNeg)) + 8) (y17.2.1 15))) 98 y17.2.2) g)) 2 rfl ?_
                      obtain ⟨z261, hz261, hK⟩ := am_ob_e hKn hK
                      obtain ⟨nz261, gz261⟩ := am_while_s (show am_while (st_m_rule_261_25 f y17) (0, upd (upd (upd (upd (upd (upd (upd (upd (upd (f 89) ((490 + (9 * (f 89 202).toNatClampNeg)) + 0) (a0 / 100)) ((490 + (9 * (f 89 202).toNatClampNeg)) + 1) (a0 - a0 / 100 * 100)) ((490 + (9 * (f 89 202).toNatClampNeg)) + 2) a1) ((490 + (9 * (f 89 202).toNatClampNeg)) + 3) (a2 - a2 / 100 * 100)) ((490 + (9 * (f 89 202).toNatClampNeg)) + 4) (a2 / 100)) ((490 + (9 * (f 89 202).toNatClampNeg)) + 5) (nI a3_n)) ((490 + (9 * (f 89 202).toNatClampNeg)) + 6) a4) ((490 + (9 * (f 89 202).toNatClampNeg)) + 7) (-1)) ((490 + (9 * (f 89 202).toNatClampNeg)) + 8) (y17.2.1 15)) = some z261 from hz261)
                      refine lp_m_rule_261_25 a0 a1 a2 a3_n a4 f g y17 hmk hlC hlN hrC hrN hl0 hl5 hl2 ha3_n _ nz261 0 (upd (upd (upd (upd (upd (upd (upd (upd (upd (f 89) ((490 + (9 * (f 89 202).toNatClampNeg)) + 0) (a0 / 100)) ((490 + (9 * (f 89 202).toNatClampNeg)) + 1) (a0 - a0 / 100 * 100)) ((490 + (9 * (f 89 202).toNatClampNeg)) + 2) a1) ((490 + (9 * (f 89 202).toNatClampNeg)) + 3) (a2 - a2 / 100 * 100)) ((490 + (9 * (f 89 202).toNatClampNeg)) + 4) (a2 / 100)) ((490 + (9 * (f 89 202).toNatClampNeg)) + 5) (nI a3_n)) ((490 + (9 * (f 89 202).toNatClampNeg)) + 6) a4) ((490 + (9 * (f 89 202).toNatClampNeg)) + 7) (-1)) ((490 + (9 * (f 89 202).toNatClampNeg)) + 8) (y17.2.1 15))  ?_
                      rw [gz261]
                      rcases z261 with z261 | z
                      · skip
                        show am_F _ _ 300 [.ref 88, .int a0, .int a1, .int a2, .int (nI a3_n), .int a4, .int (f 89 202), .int (490 + (9 * (f 89 202))), .int z261.1] [] (am_S (am_row (am_row (am_row f 88 y17.2.1) 89 z261.2) 98 y17.2.2) g) _
                        (try simp only [Sum.elim_inl] at hK)
                        refine am_F.ops (pc' := 311) (L' := [.ref 88, .int a0, .int a1, .int a2, .int (nI a3_n), .int a4, .int (f 89 202), .int (490 + (9 * (f 89 202))), .int z261.1]) (S' := [.int ((z261.2 202) + 1), .int 202, .ref 89]) (μ' := (am_S (am_row (am_row (am_row f 88 y17.2.1) 89 z261.2) 98 y17.2.2) g)) 7 rfl ?_
                        refine am_F.iasE (F' := (am_row (am_row (am_row f 88 y17.2.1) 89 (upd z261.2 202 ((z261.2 202) + 1))) 98 y17.2.2)) (m := 202) (N := 3340) rfl rfl rfl rfl (by omega) (by decide) (by first | rfl | (funext a; by_cases z0 : a = 88; (subst z0; rfl); by_cases z1 : a = 89; (subst z1; rfl); by_cases z2 : a = 98; (subst z2; rfl); simp only [am_ui, am_ul, am_row_ne z0, am_row_ne z1, am_row_ne z2])) ?_
                        refine am_F.ops (pc' := 314) (L' := [.ref 88, .int a0, .int a1, .int a2, .int (nI a3_n), .int a4, .int (f 89 202), .int (490 + (9 * (f 89 202))), .int z261.1]) (S' := [.int (f 89 202)]) (μ' := (am_S (am_row (am_row (am_row f 88 y17.2.1) 89 (upd z261.2 202 ((z261.2 202) + 1))) 98 y17.2.2) g)) 1 rfl ?_
                        subst hKd
                        have hQ := am_KO_s hK
                        exact am_F.eq (am_F.ret rfl rfl) hQ
                      · exact z.elim
                    · show am_F _ _ 119 [.ref 88, .int a0, .int a1, .int a2, .int (nI a3_n), .int a4, am_un, am_un, am_un] [] (am_S (am_row (am_row f 88 y17.2.1) 98 y17.2.2) g) _
                      refine am_F.ops (pc' := 126) (L' := [.ref 88, .int a0, .int a1, .int a2, .int (nI a3_n), .int a4, am_un, am_un, am_un]) (S' := [.int ((-100) - (y17.2.1 13))]) (μ' := (am_S (am_row (am_row f 88 y17.2.1) 98 y17.2.2) g)) 4 rfl ?_
                      refine am_F.mem (F' := (am_row (am_row (am_row f 88 y17.2.1) 89 (f 89)) 98 y17.2.2)) (G' := g) ?_ (by first | rfl | (funext a; by_cases z0 : a = 88; (subst z0; rfl); by_cases z1 : a = 89; (subst z1; rfl); by_cases z2 : a = 98; (subst z2; rfl); simp only [am_ui, am_ul, am_row_ne z0, am_row_ne z1, am_row_ne z2])) (by first | rfl | (funext a; by_cases z0 : a = 88; (subst z0; rfl); by_cases z1 : a = 89; (subst z1; rfl); by_cases z2 : a = 98; (subst z2; rfl); simp only [am_ui, am_ul, am_row_ne z0, am_row_ne z1, am_row_ne z2]))
                      subst hKd
                      have hQ := am_KO_s hK
                      exact am_F.eq (am_F.ret rfl rfl) hQ
              · show am_F _ _ 75 [.ref 88, .int a0, .int a1, .int a2, .int (nI a3_n), .int a4, am_un, am_un, am_un] [] (am_S f g) _
                refine am_F.ops (pc' := 79) (L' := [.ref 88, .int a0, .int a1, .int a2, .int (nI a3_n), .int a4, am_un, am_un, am_un]) (S' := [.int (nI a3_n), .int a4]) (μ' := (am_S f g)) 2 rfl ?_
                refine am_F.iteK 1 rfl K hK (fun c27 hK => ?_) (fun c27 hK => ?_)
                · show am_F _ _ 84 [.ref 88, .int a0, .int a1, .int a2, .int (nI a3_n), .int a4, am_un, am_un, am_un] [] (am_S f g) _
                  refine am_F.ops (pc' := 94) (L' := [.ref 88, .int a0, .int a1, .int a2, .int (nI a3_n), .int a4, am_un, am_un, am_un]) (S' := [.int 30, .int (f 89 202)]) (μ' := (am_S f g)) 5 rfl ?_
                  refine am_F.iteK 1 rfl K hK (fun c28 hK => ?_) (fun c28 hK => ?_)
                  · show am_F _ _ 97 [.ref 88, .int a0, .int a1, .int a2, .int (nI a3_n), .int a4, am_un, am_un, am_un] [] (am_S f g) _
                    refine am_F.ops (pc' := 99) (L' := [.ref 88, .int a0, .int a1, .int a2, .int (nI a3_n), .int a4, am_un, am_un, am_un]) (S' := [.int (-3)]) (μ' := (am_S f g)) 1 rfl ?_
                    refine am_F.mem (F' := (am_row (am_row (am_row f 88 (f 88)) 89 (f 89)) 98 (f 98))) (G' := g) ?_ (by first | rfl | (funext a; by_cases z0 : a = 88; (subst z0; rfl); by_cases z1 : a = 89; (subst z1; rfl); by_cases z2 : a = 98; (subst z2; rfl); simp only [am_ui, am_ul, am_row_ne z0, am_row_ne z1, am_row_ne z2])) (by first | rfl | (funext a; by_cases z0 : a = 88; (subst z0; rfl); by_cases z1 : a = 89; (subst z1; rfl); by_cases z2 : a = 98; (subst z2; rfl); simp only [am_ui, am_ul, am_row_ne z0, am_row_ne z1, am_row_ne z2]))
                    subst hKd
                    have hQ := am_KO_s hK
                    exact am_F.eq (am_F.ret rfl rfl) hQ
                  · show am_F _ _ 100 [.ref 88, .int a0, .int a1, .int a2, .int (nI a3_n), .int a4, am_un, am_un, am_un] [] (am_S f g) _
                    refine am_F.ops (pc' := 102) (L' := [.ref 88, .int a0, .int a1, .int a2, .int (nI a3_n), .int a4, am_un, am_un, am_un]) (S' := [.int 0, .ref 88]) (μ' := (am_S f g)) 2 rfl ?_
                    refine am_F.pfi (F' := (am_row f 88 (upd (f 88) 15 0))) rfl rfl (by first | rfl | (funext a; by_cases z0 : a = 88; (subst z0; rfl); simp only [am_ui, am_ul, am_row_ne z0])) ?_
                    refine am_F.ops (pc' := 109) (L' := [.ref 88, .int a0, .int a1, .int a2, .int (nI a3_n), .int a4, am_un, am_un, am_un]) (S' := [.int (f 88 11)]) (μ' := (am_S (am_row f 88 (upd (f 88) 15 0)) g)) 2 rfl ?_
                    refine am_F.iteK 1 rfl K hK (fun c29 hK => ?_) (fun c29 hK => ?_)
                    · show am_F _ _ 127 [.ref 88, .int a0, .int a1, .int a2, .int (nI a3_n), .int a4, am_un, am_un, am_un] [] (am_S (am_row f 88 (upd (f 88) 15 0)) g) _
                      refine am_F.ops (pc' := 160) (L' := [.ref 88, .int a0, .int a1, .int a2, .int (nI a3_n), .int a4, .int (f 89 202), .int (490 + (9 * (f 89 202))), am_un]) (S' := [.int (a0 / 100), .int ((490 + (9 * (f 89 202))) + 0), .ref 89]) (μ' := (am_S (am_row f 88 (upd (f 88) 15 0)) g)) 19 rfl ?_
                      refine am_F.iasE (F' := (am_row (am_row f 88 (upd (f 88) 15 0)) 89 (upd (f 89) ((490 + (9 * (f 89 202).toNatClampNeg)) + 0) (a0 / 100)))) (m := ((490 + (9 * (f 89 202).toNatClampNeg)) + 0)) (N := 3340) rfl rfl rfl (am_addE (am_addE rfl (am_mulE rfl hrC)) rfl) (by omega) (by decide) (by first | rfl | (funext a; by_cases z0 : a = 88; (subst z0; rfl); by_cases z1 : a = 89; (subst z1; rfl); simp only [am_ui, am_ul, am_row_ne z0, am_row_ne z1])) ?_
                      refine am_F.ops (pc' := 173) (L' := [.ref 88, .int a0, .int a1, .int a2, .int (nI a3_n), .int a4, .int (f 89 202), .int (490 + (9 * (f 89 202))), am_un]) (S' := [.int (a0 - a0 / 100 * 100), .int ((490 + (9 * (f 89 202))) + 1), .ref 89]) (μ' := (am_S (am_row (am_row f 88 (upd (f 88) 15 0)) 89 (upd (f 89) ((490 + (9 * (f 89 202).toNatClampNeg)) + 0) (a0 / 100))) g)) 8 rfl ?_
                      refine am_F.iasE (F' := (am_row (am_row f 88 (upd (f 88) 15 0)) 89 (upd (upd (f 89) ((490 + (9 * (f 89 202).toNatClampNeg)) + 0) (a0 / 100)) ((490 + (9 * (f 89 202).toNatClampNeg)) + 1) (a0 - a0 / 100 * 100)))) (m := ((490 + (9 * (f 89 202).toNatClampNeg)) + 1)) (N := 3340) rfl rfl rfl (am_addE (am_addE rfl (am_mulE rfl hrC)) rfl) (by omega) (by decide) (by first | rfl | (funext a; by_cases z0 : a = 88; (subst z0; rfl); by_cases z1 : a = 89; (subst z1; rfl); simp only [am_ui, am_ul, am_row_ne z0, am_row_ne z1])) ?_
                      refine am_F.ops (pc' := 183) (L' := [.ref 88, .int a0, .int a1, .int a2, .int (nI a3_n), .int a4, .int (f 89 202), .int (490 + (9 * (f 89 202))), am_un]) (S' := [.int a1, .int ((490 + (9 * (f 89 202))) + 2), .ref 89]) (μ' := (am_S (am_row (am_row f 88 (upd (f 88) 15 0)) 89 (upd (upd (f 89) ((490 + (9 * (f 89 202).toNatClampNeg)) + 0) (a0 / 100)) ((490 + (9 * (f 89 202).toNatClampNeg)) + 1) (a0 - a0 / 100 * 100))) g)) 6 rfl ?_
                      refine am_F.iasE (F' := (am_row (am_row f 88 (upd (f 88) 15 0)) 89 (upd (upd (upd (f 89) ((490 + (9 * (f 89 202).toNatClampNeg)) + 0) (a0 / 100)) ((490 + (9 * (f 89 202).toNatClampNeg)) + 1) (a0 - a0 / 100 * 100)) ((490 + (9 * (f 89 202).toNatClampNeg)) + 2) a1))) (m := ((490 + (9 * (f 89 202).toNatClampNeg)) + 2)) (N := 3340) rfl rfl rfl (am_addE (am_addE rfl (am_mulE rfl hrC)) rfl) (by omega) (by decide) (by first | rfl | (funext a; by_cases z0 : a = 88; (subst z0; rfl); by_cases z1 : a = 89; (subst z1; rfl); simp only [am_ui, am_ul, am_row_ne z0, am_row_ne z1])) ?_
                      refine am_F.ops (pc' := 196) (L' := [.ref 88, .int a0, .int a1, .int a2, .int (nI a3_n), .int a4, .int (f 89 202), .int (490 + (9 * (f 89 202))), am_un]) (S' := [.int (a2 - a2 / 100 * 100), .int ((490 + (9 * (f 89 202))) + 3), .ref 89]) (μ' := (am_S (am_row (am_row f 88 (upd (f 88) 15 0)) 89 (upd (upd (upd (f 89) ((490 + (9 * (f 89 202).toNatClampNeg)) + 0) (a0 / 100)) ((490 + (9 * (f 89 202).toNatClampNeg)) + 1) (a0 - a0 / 100 * 100)) ((490 + (9 * (f 89 202).toNatClampNeg)) + 2) a1)) g)) 8 rfl ?_
                      refine am_F.iasE (F' := (am_row (am_row f 88 (upd (f 88) 15 0)) 89 (upd (upd (upd (upd (f 89) ((490 + (9 * (f 89 202).toNatClampNeg)) + 0) (a0 / 100)) ((490 + (9 * (f 89 202).toNatClampNeg)) + 1) (a0 - a0 / 100 * 100)) ((490 + (9 * (f 89 202).toNatClampNeg)) + 2) a1) ((490 + (9 * (f 89 202).toNatClampNeg)) + 3) (a2 - a2 / 100 * 100)))) (m := ((490 + (9 * (f 89 202).toNatClampNeg)) + 3)) (N := 3340) rfl rfl rfl (am_addE (am_addE rfl (am_mulE rfl hrC)) rfl) (by omega) (by decide) (by first | rfl | (funext a; by_cases z0 : a = 88; (subst z0; rfl); by_cases z1 : a = 89; (subst z1; rfl); simp only [am_ui, am_ul, am_row_ne z0, am_row_ne z1])) ?_
                      refine am_F.ops (pc' := 209) (L' := [.ref 88, .int a0, .int a1, .int a2, .int (nI a3_n), .int a4, .int (f 89 202), .int (490 + (9 * (f 89 202))), am_un]) (S' := [.int (a2 / 100), .int ((490 + (9 * (f 89 202))) + 4), .ref 89]) (μ' := (am_S (am_row (am_row f 88 (upd (f 88) 15 0)) 89 (upd (upd (upd (upd (f 89) ((490 + (9 * (f 89 202).toNatClampNeg)) + 0) (a0 / 100)) ((490 + (9 * (f 89 202).toNatClampNeg)) + 1) (a0 - a0 / 100 * 100)) ((490 + (9 * (f 89 202).toNatClampNeg)) + 2) a1) ((490 + (9 * (f 89 202).toNatClampNeg)) + 3) (a2 - a2 / 100 * 100))) g)) 8 rfl ?_
                      refine am_F.iasE (F' := (am_row (am_row f 88 (upd (f 88) 15 0)) 89 (upd (upd (upd (upd (upd (f 89) ((490 + (9 * (f 89 202).toNatClampNeg)) + 0) (a0 / 100)) ((490 + (9 * (f 89 202).toNatClampNeg)) + 1) (a0 - a0 / 100 * 100)) ((490 + (9 * (f 89 202).toNatClampNeg)) + 2) a1) ((490 + (9 * (f 89 202).toNatClampNeg)) + 3) (a2 - a2 / 100 * 100)) ((490 + (9 * (f 89 202).toNatClampNeg)) + 4) (a2 / 100)))) (m := ((490 + (9 * (f 89 202).toNatClampNeg)) + 4)) (N := 3340) rfl rfl rfl (am_addE (am_addE rfl (am_mulE rfl hrC)) rfl) (by omega) (by decide) (by first | rfl | (funext a; by_cases z0 : a = 88; (subst z0; rfl); by_cases z1 : a = 89; (subst z1; rfl); simp only [am_ui, am_ul, am_row_ne z0, am_row_ne z1])) ?_
                      refine am_F.ops (pc' := 220) (L' := [.ref 88, .int a0, .int a1, .int a2, .int (nI a3_n), .int a4, .int (f 89 202), .int (490 + (9 * (f 89 202))), am_un]) (S' := [.int (nI a3_n), .int ((490 + (9 * (f 89 202))) + 5), .ref 89]) (μ' := (am_S (am_row (am_row f 88 (upd (f 88) 15 0)) 89 (upd (upd (upd (upd (upd (f 89) ((490 + (9 * (f 89 202).toNatClampNeg)) + 0) (a0 / 100)) ((490 + (9 * (f 89 202).toNatClampNeg)) + 1) (a0 - a0 / 100 * 100)) ((490 + (9 * (f 89 202).toNatClampNeg)) + 2) a1) ((490 + (9 * (f 89 202).toNatClampNeg)) + 3) (a2 - a2 / 100 * 100)) ((490 + (9 * (f 89 202).toNatClampNeg)) + 4) (a2 / 100))) g)) 6 rfl ?_
                      refine am_F.iasE (F' := (am_row (am_row f 88 (upd (f 88) 15 0)) 89 (upd (upd (upd (upd (upd (upd (f 89) ((490 + (9 * (f 89 202).toNatClampNeg)) + 0) (a0 / 100)) ((490 + (9 * (f 89 202).toNatClampNeg)) + 1) (a0 - a0 / 100 * 100)) ((490 + (9 * (f 89 202).toNatClampNeg)) + 2) a1) ((490 + (9 * (f 89 202).toNatClampNeg)) + 3) (a2 - a2 / 100 * 100)) ((490 + (9 * (f 89 202).toNatClampNeg)) + 4) (a2 / 100)) ((490 + (9 * (f 89 202).toNatClampNeg)) + 5) (nI a3_n)))) (m := ((490 + (9 * (f 89 202).toNatClampNeg)) + 5)) (N := 3340) rfl rfl rfl (am_addE (am_addE rfl (am_mulE rfl hrC)) rfl) (by omega) (by decide) (by first | rfl | (funext a; by_cases z0 : a = 88; (subst z0; rfl); by_cases z1 : a = 89; (subst z1; rfl); simp only [am_ui, am_ul, am_row_ne z0, am_row_ne z1])) ?_
                      refine am_F.ops (pc' := 232) (L' := [.ref 88, .int a0, .int a1, .int a2, .int (nI a3_n), .int a4, .int (f 89 202), .int (490 + (9 * (f 89 202))), am_un]) (S' := [.int a4, .int ((490 + (9 * (f 89 202))) + 6), .ref 89]) (μ' := (am_S (am_row (am_row f 88 (upd (f 88) 15 0)) 89 (upd (upd (upd (upd (upd (upd (f 89) ((490 + (9 * (f 89 202).toNatClampNeg)) + 0) (a0 / 100)) ((490 + (9 * (f 89 202).toNatClampNeg)) + 1) (a0 - a0 / 100 * 100)) ((490 + (9 * (f 89 202).toNatClampNeg)) + 2) a1) ((490 + (9 * (f 89 202).toNatClampNeg)) + 3) (a2 - a2 / 100 * 100)) ((490 + (9 * (f 89 202).toNatClampNeg)) + 4) (a2 / 100)) ((490 + (9 * (f 89 202).toNatClampNeg)) + 5) (nI a3_n))) g)) 6 rfl ?_
                      refine am_F.iasE (F' := (am_row (am_row f 88 (upd (f 88) 15 0)) 89 (upd (upd (upd (upd (upd (upd (upd (f 89) ((490 + (9 * (f 89 202).toNatClampNeg)) + 0) (a0 / 100)) ((490 + (9 * (f 89 202).toNatClampNeg)) + 1) (a0 - a0 / 100 * 100)) ((490 + (9 * (f 89 202).toNatClampNeg)) + 2) a1) ((490 + (9 * (f 89 202).toNatClampNeg)) + 3) (a2 - a2 / 100 * 100)) ((490 + (9 * (f 89 202).toNatClampNeg)) + 4) (a2 / 100)) ((490 + (9 * (f 89 202).toNatClampNeg)) + 5) (nI a3_n)) ((490 + (9 * (f 89 202).toNatClampNeg)) + 6) a4))) (m := ((490 + (9 * (f 89 202).toNatClampNeg)) + 6)) (N := 3340) rfl rfl rfl (am_addE (am_addE rfl (am_mulE rfl hrC)) rfl) (by omega) (by decide) (by first | rfl | (funext a; by_cases z0 : a = 88; (subst z0; rfl); by_cases z1 : a = 89; (subst z1; rfl); simp only [am_ui, am_ul, am_row_ne z0, am_row_ne z1])) ?_
                      refine am_F.ops (pc' := 243) (L' := [.ref 88, .int a0, .int a1, .int a2, .int (nI a3_n), .int a4, .int (f 89 202), .int (490 + (9 * (f 89 202))), am_un]) (S' := [.int (-1), .int ((490 + (9 * (f 89 202))) + 7), .ref 89]) (μ' := (am_S (am_row (am_row f 88 (upd (f 88) 15 0)) 89 (upd (upd (upd (upd (upd (upd (upd (f 89) ((490 + (9 * (f 89 202).toNatClampNeg)) + 0) (a0 / 100)) ((490 + (9 * (f 89 202).toNatClampNeg)) + 1) (a0 - a0 / 100 * 100)) ((490 + (9 * (f 89 202).toNatClampNeg)) + 2) a1) ((490 + (9 * (f 89 202).toNatClampNeg)) + 3) (a2 - a2 / 100 * 100)) ((490 + (9 * (f 89 202).toNatClampNeg)) + 4) (a2 / 100)) ((490 + (9 * (f 89 202).toNatClampNeg)) + 5) (nI a3_n)) ((490 + (9 * (f 89 202).toNatClampNeg)) + 6) a4)) g)) 6 rfl ?_
                      refine am_F.iasE (F' := (am_row (am_row f 88 (upd (f 88) 15 0)) 89 (upd (upd (upd (upd (upd (upd (upd (upd (f 89) ((490 + (9 * (f 89 202).toNatClampNeg)) + 0) (a0 / 100)) ((490 + (9 * (f 89 202).toNatClampNeg)) + 1) (a0 - a0 / 100 * 100)) ((490 + (9 * (f 89 202).toNatClampNeg)) + 2) a1) ((490 + (9 * (f 89 202).toNatClampNeg)) + 3) (a2 - a2 / 100 * 100)) ((490 + (9 * (f 89 202).toNatClampNeg)) + 4) (a2 / 100)) ((490 + (9 * (f 89 202).toNatClampNeg)) + 5) (nI a3_n)) ((490 + (9 * (f 89 202).toNatClampNeg)) + 6) a4) ((490 + (9 * (f 89 202).toNatClampNeg)) + 7) (-1)))) (m := ((490 + (9 * (f 89 202).toNatClampNeg)) + 7)) (N := 3340) rfl rfl rfl (am_addE (am_addE rfl (am_mulE rfl hrC)) rfl) (by omega) (by decide) (by first | rfl | (funext a; by_cases z0 : a = 88; (subst z0; rfl); by_cases z1 : a = 89; (subst z1; rfl); simp only [am_ui, am_ul, am_row_ne z0, am_row_ne z1])) ?_
                      refine am_F.ops (pc' := 257) (L' := [.ref 88, .int a0, .int a1, .int a2, .int (nI a3_n), .int a4, .int (f 89 202), .int (490 + (9 * (f 89 202))), am_un]) (S' := [.int 0, .int ((490 + (9 * (f 89 202))) + 8), .ref 89]) (μ' := (am_S (am_row (am_row f 88 (upd (f 88) 15 0)) 89 (upd (upd (upd (upd (upd (upd (upd (upd (f 89) ((490 + (9 * (f 89 202).toNatClampNeg)) + 0) (a0 / 100)) ((490 + (9 * (f 89 202).toNatClampNeg)) + 1) (a0 - a0 / 100 * 100)) ((490 + (9 * (f 89 202).toNatClampNeg)) + 2) a1) ((490 + (9 * (f 89 202).toNatClampNeg)) + 3) (a2 - a2 / 100 * 100)) ((490 + (9 * (f 89 202).toNatClampNeg)) + 4) (a2 / 100)) ((490 + (9 * (f 89 202).toNatClampNeg)) + 5) (nI a3_n)) ((490 + (9 * (f 89 202).toNatClampNeg)) + 6) a4) ((490 + (9 * (f 89 202).toNatClampNeg)) + 7) (-1))) g)) 7 rfl ?_
                      refine am_F.iasE (F' := (am_row (am_row f 88 (upd (f 88) 15 0)) 89 (upd (upd (upd (upd (upd (upd (upd (upd (upd (f 89) ((490 + (9 * (f 89 202).toNatClampNeg)) + 0) (a0 / 100)) ((490 + (9 * (f 89 202).toNatClampNeg)) + 1) (a0 - a0 / 100 * 100)) ((490 + (9 * (f 89 202).toNatClampNeg)) + 2) a1) ((490 + (9 * (f 89 202).toNatClampNeg)) + 3) (a2 - a2 / 100 * 100)) ((490 + (9 * (f 89 202).toNatClampNeg)) + 4) (a2 / 100)) ((490 + (9 * (f 89 202).toNatClampNeg)) + 5) (nI a3_n)) ((490 + (9 * (f 89 202).toNatClampNeg)) + 6) a4) ((490 + (9 * (f 89 202).toNatClampNeg)) + 7) (-1)) ((490 + (9 * (f 89 202).toNatClampNeg)) + 8) 0))) (m := ((490 + (9 * (f 89 202).toNatClampNeg)) + 8)) (N := 3340) rfl rfl rfl (am_addE (am_addE rfl (am_mulE rfl hrC)) rfl) (by omega) (by decide) (by first | rfl | (funext a; by_cases z0 : a = 88; (subst z0; rfl); by_cases z1 : a = 89; (subst z1; rfl); simp only [am_ui, am_ul, am_row_ne z0, am_row_ne z1])) ?_
                      refine am_F.ops (pc' := 261) (L' := [.ref 88, .int a0, .int a1, .int a2, .int (nI a3_n), .int a4, .int (f 89 202), .int (490 + (9 * (f 89 202))), .int 0]) (S' := []) (μ' := (am_S (am_row (am_row f 88 (upd (f 88) 15 0)) 89 (upd (upd (upd (upd (upd (upd (upd (upd (upd (f 89) ((490 + (9 * (f 89 202).toNatClampNeg)) + 0) (a0 / 100)) ((490 + (9 * (f 89 202).toNatClampNeg)) + 1) (a0 - a0 / 100 * 100)) ((490 + (9 * (f 89 202).toNatClampNeg)) + 2) a1) ((490 + (9 * (f 89 202).toNatClampNeg)) + 3) (a2 - a2 / 100 * 100)) ((490 + (9 * (f 89 202).toNatClampNeg)) + 4) (a2 / 100)) ((490 + (9 * (f 89 202).toNatClampNeg)) + 5) (nI a3_n)) ((490 + (9 * (f 89 202).toNatClampNeg)) + 6) a4) ((490 + (9 * (f 89 202).toNatClampNeg)) + 7) (-1)) ((490 + (9 * (f 89 202).toNatClampNeg)) + 8) 0)) g)) 2 rfl ?_
                      show am_F _ _ 261 [.ref 88, .int a0, .int a1, .int a2, .int (nI a3_n), .int a4, .int (f 89 202), .int (490 + (9 * (f 89 202))), .int (nI 0)] [] (am_S (am_row (am_row f 88 (upd (f 88) 15 0)) 89 (upd (upd (upd (upd (upd (upd (upd (upd (upd (f 89) ((490 + (9 * (f 89 202).toNatClampNeg)) + 0) (a0 / 100)) ((490 + (9 * (f 89 202).toNatClampNeg)) + 1) (a0 - a0 / 100 * 100)) ((490 + (9 * (f 89 202).toNatClampNeg)) + 2) a1) ((490 + (9 * (f 89 202).toNatClampNeg)) + 3) (a2 - a2 / 100 * 100)) ((490 + (9 * (f 89 202).toNatClampNeg)) + 4) (a2 / 100)) ((490 + (9 * (f 89 202).toNatClampNeg)) + 5) (nI a3_n)) ((490 + (9 * (f 89 202).toNatClampNeg)) + 6) a4) ((490 + (9 * (f 89 202).toNatClampNeg)) + 7) (-1)) ((490 + (9 * (f 89 202).toNatClampNeg)) + 8) 0)) g) _
                      refine lp_m_rule_261_30 a0 a1 a2 a3_n a4 f g hmk hlC hlN hrC hrN hl0 hl5 hl2 ha3_n _ 0 0 (upd (upd (upd (upd (upd (upd (upd (upd (upd (f 89) ((490 + (9 * (f 89 202).toNatClampNeg)) + 0) (a0 / 100)) ((490 + (9 * (f 89 202).toNatClampNeg)) + 1) (a0 - a0 / 100 * 100)) ((490 + (9 * (f 89 202).toNatClampNeg)) + 2) a1) ((490 + (9 * (f 89 202).toNatClampNeg)) + 3) (a2 - a2 / 100 * 100)) ((490 + (9 * (f 89 202).toNatClampNeg)) + 4) (a2 / 100)) ((490 + (9 * (f 89 202).toNatClampNeg)) + 5) (nI a3_n)) ((490 + (9 * (f 89 202).toNatClampNeg)) + 6) a4) ((490 + (9 * (f 89 202).toNatClampNeg)) + 7) (-1)) ((490 + (9 * (f 89 202).toNatClampNeg)) + 8) 0)  (by omega)  ?_
                      rw [show am_for (st_m_rule_261_30 f) 0 0 (upd (upd (upd (upd (upd (upd (upd (upd (upd (f 89) ((490 + (9 * (f 89 202).toNatClampNeg)) + 0) (a0 / 100)) ((490 + (9 * (f 89 202).toNatClampNeg)) + 1) (a0 - a0 / 100 * 100)) ((490 + (9 * (f 89 202).toNatClampNeg)) + 2) a1) ((490 + (9 * (f 89 202).toNatClampNeg)) + 3) (a2 - a2 / 100 * 100)) ((490 + (9 * (f 89 202).toNatClampNeg)) + 4) (a2 / 100)) ((490 + (9 * (f 89 202).toNatClampNeg)) + 5) (nI a3_n)) ((490 + (9 * (f 89 202).toNatClampNeg)) + 6) a4) ((490 + (9 * (f 89 202).toNatClampNeg)) + 7) (-1)) ((490 + (9 * (f 89 202).toNatClampNeg)) + 8) 0) = (lf_m_rule_261_31 a0 a1 a2 a3_n a4 f) from rfl]
                      generalize (lf_m_rule_261_31 a0 a1 a2 a3_n a4 f) = z261_32 at hK ⊢
                      intro wc261
                      show am_F _ _ 300 [.ref 88, .int a0, .int a1, .int a2, .int (nI a3_n), .int a4, .int (f 89 202), .int (490 + (9 * (f 89 202))), wc261] [] (am_S (am_row (am_row f 88 (upd (f 88) 15 0)) 89 z261_32) g) _
                      refine am_F.ops (pc' := 311) (L' := [.ref 88, .int a0, .int a1, .int a2, .int (nI a3_n), .int a4, .int (f 89 202), .int (490 + (9 * (f 89 202))), wc261]) (S' := [.int ((z261_32 202) + 1), .int 202, .ref 89]) (μ' := (am_S (am_row (am_row f 88 (upd (f 88) 15 0)) 89 z261_32) g)) 7 rfl ?_
                      refine am_F.iasE (F' := (am_row (am_row f 88 (upd (f 88) 15 0)) 89 (upd z261_32 202 ((z261_32 202) + 1)))) (m := 202) (N := 3340) rfl rfl rfl rfl (by omega) (by decide) (by first | rfl | (funext a; by_cases z0 : a = 88; (subst z0; rfl); by_cases z1 : a = 89; (subst z1; rfl); simp only [am_ui, am_ul, am_row_ne z0, am_row_ne z1])) ?_
                      refine am_F.ops (pc' := 314) (L' := [.ref 88, .int a0, .int a1, .int a2, .int (nI a3_n), .int a4, .int (f 89 202), .int (490 + (9 * (f 89 202))), wc261]) (S' := [.int (f 89 202)]) (μ' := (am_S (am_row (am_row f 88 (upd (f 88) 15 0)) 89 (upd z261_32 202 ((z261_32 202) + 1))) g)) 1 rfl ?_
                      refine am_F.mem (F' := (am_row (am_row (am_row f 88 (upd (f 88) 15 0)) 89 (upd z261_32 202 ((z261_32 202) + 1))) 98 (f 98))) (G' := g) ?_ (by first | rfl | (funext a; by_cases z0 : a = 88; (subst z0; rfl); by_cases z1 : a = 89; (subst z1; rfl); by_cases z2 : a = 98; (subst z2; rfl); simp only [am_ui, am_ul, am_row_ne z0, am_row_ne z1, am_row_ne z2])) (by first | rfl | (funext a; by_cases z0 : a = 88; (subst z0; rfl); by_cases z1 : a = 89; (subst z1; rfl); by_cases z2 : a = 98; (subst z2; rfl); simp only [am_ui, am_ul, am_row_ne z0, am_row_ne z1, am_row_ne z2]))
                      subst hKd
                      have hQ := am_KO_s hK
                      exact am_F.eq (am_F.ret rfl rfl) hQ
                    · show am_F _ _ 112 [.ref 88, .int a0, .int a1, .int a2, .int (nI a3_n), .int a4, am_un, am_un, am_un] [] (am_S (am_row f 88 (upd (f 88) 15 0)) g) _
                      refine am_F.ops (pc' := 113) (L' := [.ref 88, .int a0, .int a1, .int a2, .int (nI a3_n), .int a4, am_un, am_un, am_un]) (S' := [.ref 88]) (μ' := (am_S (am_row f 88 (upd (f 88) 15 0)) g)) 1 rfl ?_
                      obtain ⟨y33, hy33, hK⟩ := am_ob_e hKn hK
                      refine am_F.call rfl rfl (x_m_reads  (am_row f 88 (upd (f 88) 15 0)) g  y33 hy33) (by first | decide | omega) ?_
                      refine am_F.mem (F' := (am_row (am_row f 88 y33.2.1) 98 y33.2.2)) (G' := g) ?_ (by first | rfl | (funext a; by_cases z0 : a = 88; (subst z0; rfl); by_cases z1 : a = 98; (subst z1; rfl); simp only [am_ui, am_ul, am_row_ne z0, am_row_ne z1])) (by first | rfl | (funext a; by_cases z0 : a = 88; (subst z0; rfl); by_cases z1 : a = 98; (subst z1; rfl); simp only [am_ui, am_ul, am_row_ne z0, am_row_ne z1]))
                      show am_F _ _ 116 [.ref 88, .int a0, .int a1, .int a2, .int (nI a3_n), .int a4, am_un, am_un, am_un] [.int y33.1] (am_S (am_row (am_row f 88 y33.2.1) 98 y33.2.2) g) _
                      refine am_F.iteK 1 rfl K hK (fun c34 hK => ?_) (fun c34 hK => ?_)
                      · show am_F _ _ 127 [.ref 88, .int a0, .int a1, .int a2, .int (nI a3_n), .int a4, am_un, am_un, am_un] [] (am_S (am_row (am_row f 88 y33.2.1) 98 y33.2.2) g) _
                        refine am_F.ops (pc' := 160) (L' := [.ref 88, .int a0, .int a1, .int a2, .int (nI a3_n), .int a4, .int (f 89 202), .int (490 + (9 * (f 89 202))), am_un]) (S' := [.int (a0 / 100), .int ((490 + (9 * (f 89 202))) + 0), .ref 89]) (μ' := (am_S (am_row (am_row f 88 y33.2.1) 98 y33.2.2) g)) 19 rfl ?_
                        refine am_F.iasE (F' := (am_row (am_row (am_row f 88 y33.2.1) 89 (upd (f 89) ((490 + (9 * (f 89 202).toNatClampNeg)) + 0) (a0 / 100))) 98 y33.2.2)) (m := ((490 + (9 * (f 89 202).toNatClampNeg)) + 0)) (N := 3340) rfl rfl rfl (am_addE (am_addE rfl (am_mulE rfl hrC)) rfl) (by omega) (by decide) (by first | rfl | (funext a; by_cases z0 : a = 88; (subst z0; rfl); by_cases z1 : a = 89; (subst z1; rfl); by_cases z2 : a = 98; (subst z2; rfl); simp only [am_ui, am_ul, am_row_ne z0, am_row_ne z1, am_row_ne z2])) ?_
                        refine am_F.ops (pc' := 173) (L' := [.ref 88, .int a0, .int a1, .int a2, .int (nI a3_n), .int a4, .int (f 89 202), .int (490 + (9 * (f 89 202))), am_un]) (S' := [.int (a0 - a0 / 100 * 100), .int ((490 + (9 * (f 89 202))) + 1), .ref 89]) (μ' := (am_S (am_row (am_row (am_row f 88 y33.2.1) 89 (upd (f 89) ((490 + (9 * (f 89 202).toNatClampNeg)) + 0) (a0 / 100))) 98 y33.2.2) g)) 8 rfl ?_
                        refine am_F.iasE (F' := (am_row (am_row (am_row f 88 y33.2.1) 89 (upd (upd (f 89) ((490 + (9 * (f 89 202).toNatClampNeg)) + 0) (a0 / 100)) ((490 + (9 * (f 89 202).toNatClampNeg)) + 1) (a0 - a0 / 100 * 100))) 98 y33.2.2)) (m := ((490 + (9 * (f 89 202).toNatClampNeg)) + 1)) (N := 3340) rfl rfl rfl (am_addE (am_addE rfl (am_mulE rfl hrC)) rfl) (by omega) (by decide) (by first | rfl | (funext a; by_cases z0 : a = 88; (subst z0; rfl); by_cases z1 : a = 89; (subst z1; rfl); by_cases z2 : a = 98; (subst z2; rfl); simp only [am_ui, am_ul, am_row_ne z0, am_row_ne z1, am_row_ne z2])) ?_
                        refine am_F.ops (pc' := 183) (L' := [.ref 88, .int a0, .int a1, .int a2, .int (nI a3_n), .int a4, .int (f 89 202), .int (490 + (9 * (f 89 202))), am_un]) (S' := [.int a1, .int ((490 + (9 * (f 89 202))) + 2), .ref 89]) (μ' := (am_S (am_row (am_row (am_row f 88 y33.2.1) 89 (upd (upd (f 89) ((490 + (9 * (f 89 202).toNatClampNeg)) + 0) (a0 / 100)) ((490 + (9 * (f 89 202).toNatClampNeg)) + 1) (a0 - a0 / 100 * 100))) 98 y33.2.2) g)) 6 rfl ?_
                        refine am_F.iasE (F' := (am_row (am_row (am_row f 88 y33.2.1) 89 (upd (upd (upd (f 89) ((490 + (9 * (f 89 202).toNatClampNeg)) + 0) (a0 / 100)) ((490 + (9 * (f 89 202).toNatClampNeg)) + 1) (a0 - a0 / 100 * 100)) ((490 + (9 * (f 89 202).toNatClampNeg)) + 2) a1)) 98 y33.2.2)) (m := ((490 + (9 * (f 89 202).toNatClampNeg)) + 2)) (N := 3340) rfl rfl rfl (am_addE (am_addE rfl (am_mulE rfl hrC)) rfl) (by omega) (by decide) (by first | rfl | (funext a; by_cases z0 : a = 88; (subst z0; rfl); by_cases z1 : a = 89; (subst z1; rfl); by_cases z2 : a = 98; (subst z2; rfl); simp only [am_ui, am_ul, am_row_ne z0, am_row_ne z1, am_row_ne z2])) ?_
                        refine am_F.ops (pc' := 196) (L' := [.ref 88, .int a0, .int a1, .int a2, .int (nI a3_n), .int a4, .int (f 89 202), .int (490 + (9 * (f 89 202))), am_un]) (S' := [.int (a2 - a2 / 100 * 100), .int ((490 + (9 * (f 89 202))) + 3), .ref 89]) (μ' := (am_S (am_row (am_row (am_row f 88 y33.2.1) 89 (upd (upd (upd (f 89) ((490 + (9 * (f 89 202).toNatClampNeg)) + 0) (a0 / 100)) ((490 + (9 * (f 89 202).toNatClampNeg)) + 1) (a0 - a0 / 100 * 100)) ((490 + (9 * (f 89 202).toNatClampNeg)) + 2) a1)) 98 y33.2.2) g)) 8 rfl ?_
                        refine am_F.iasE (F' := (am_row (am_row (am_row f 88 y33.2.1) 89 (upd (upd (upd (upd (f 89) ((490 + (9 * (f 89 202).toNatClampNeg)) + 0) (a0 / 100)) ((490 + (9 * (f 89 202).toNatClampNeg)) + 1) (a0 - a0 / 100 * 100)) ((490 + (9 * (f 89 202).toNatClampNeg)) + 2) a1) ((490 + (9 * (f 89 202).toNatClampNeg)) + 3) (a2 - a2 / 100 * 100))) 98 y33.2.2)) (m := ((490 + (9 * (f 89 202).toNatClampNeg)) + 3)) (N := 3340) rfl rfl rfl (am_addE (am_addE rfl (am_mulE rfl hrC)) rfl) (by omega) (by decide) (by first | rfl | (funext a; by_cases z0 : a = 88; (subst z0; rfl); by_cases z1 : a = 89; (subst z1; rfl); by_cases z2 : a = 98; (subst z2; rfl); simp only [am_ui, am_ul, am_row_ne z0, am_row_ne z1, am_row_ne z2])) ?_
                        refine am_F.ops (pc' := 209) (L' := [.ref 88, .int a0, .int a1, .int a2, .int (nI a3_n), .int a4, .int (f 89 202), .int (490 + (9 * (f 89 202))), am_un]) (S' := [.int (a2 / 100), .int ((490 + (9 * (f 89 202))) + 4), .ref 89]) (μ' := (am_S (am_row (am_row (am_row f 88 y33.2.1) 89 (upd (upd (upd (upd (f 89) ((490 + (9 * (f 89 202).toNatClampNeg)) + 0) (a0 / 100)) ((490 + (9 * (f 89 202).toNatClampNeg)) + 1) (a0 - a0 / 100 * 100)) ((490 + (9 * (f 89 202).toNatClampNeg)) + 2) a1) ((490 + (9 * (f 89 202).toNatClampNeg)) + 3) (a2 - a2 / 100 * 100))) 98 y33.2.2) g)) 8 rfl ?_
                        refine am_F.iasE (F' := (am_row (am_row (am_row f 88 y33.2.1) 89 (upd (upd (upd (upd (upd (f 89) ((490 + (9 * (f 89 202).toNatClampNeg)) + 0) (a0 / 100)) ((490 + (9 * (f 89 202).toNatClampNeg)) + 1) (a0 - a0 / 100 * 100)) ((490 + (9 * (f 89 202).toNatClampNeg)) + 2) a1) ((490 + (9 * (f 89 202).toNatClampNeg)) + 3) (a2 - a2 / 100 * 100)) ((490 + (9 * (f 89 202).toNatClampNeg)) + 4) (a2 / 100))) 98 y33.2.2)) (m := ((490 + (9 * (f 89 202).toNatClampNeg)) + 4)) (N := 3340) rfl rfl rfl (am_addE (am_addE rfl (am_mulE rfl hrC)) rfl) (by omega) (by decide) (by first | rfl | (funext a; by_cases z0 : a = 88; (subst z0; rfl); by_cases z1 : a = 89; (subst z1; rfl); by_cases z2 : a = 98; (subst z2; rfl); simp only [am_ui, am_ul, am_row_ne z0, am_row_ne z1, am_row_ne z2])) ?_
                        refine am_F.ops (pc' := 220) (L' := [.ref 88, .int a0, .int a1, .int a2, .int (nI a3_n), .int a4, .int (f 89 202), .int (490 + (9 * (f 89 202))), am_un]) (S' := [.int (nI a3_n), .int ((490 + (9 * (f 89 202))) + 5), .ref 89]) (μ' := (am_S (am_row (am_row (am_row f 88 y33.2.1) 89 (upd (upd (upd (upd (upd (f 89) ((490 + (9 * (f 89 202).toNatClampNeg)) + 0) (a0 / 100)) ((490 + (9 * (f 89 202).toNatClampNeg)) + 1) (a0 - a0 / 100 * 100)) ((490 + (9 * (f 89 202).toNatClampNeg)) + 2) a1) ((490 + (9 * (f 89 202).toNatClampNeg)) + 3) (a2 - a2 / 100 * 100)) ((490 + (9 * (f 89 202).toNatClampNeg)) + 4) (a2 / 100))) 98 y33.2.2) g)) 6 rfl ?_
                        refine am_F.iasE (F' := (am_row (am_row (am_row f 88 y33.2.1) 89 (upd (upd (upd (upd (upd (upd (f 89) ((490 + (9 * (f 89 202).toNatClampNeg)) + 0) (a0 / 100)) ((490 + (9 * (f 89 202).toNatClampNeg)) + 1) (a0 - a0 / 100 * 100)) ((490 + (9 * (f 89 202).toNatClampNeg)) + 2) a1) ((490 + (9 * (f 89 202).toNatClampNeg)) + 3) (a2 - a2 / 100 * 100)) ((490 + (9 * (f 89 202).toNatClampNeg)) + 4) (a2 / 100)) ((490 + (9 * (f 89 202).toNatClampNeg)) + 5) (nI a3_n))) 98 y33.2.2)) (m := ((490 + (9 * (f 89 202).toNatClampNeg)) + 5)) (N := 3340) rfl rfl rfl (am_addE (am_addE rfl (am_mulE rfl hrC)) rfl) (by omega) (by decide) (by first | rfl | (funext a; by_cases z0 : a = 88; (subst z0; rfl); by_cases z1 : a = 89; (subst z1; rfl); by_cases z2 : a = 98; (subst z2; rfl); simp only [am_ui, am_ul, am_row_ne z0, am_row_ne z1, am_row_ne z2])) ?_
                        refine am_F.ops (pc' := 232) (L' := [.ref 88, .int a0, .int a1, .int a2, .int (nI a3_n), .int a4, .int (f 89 202), .int (490 + (9 * (f 89 202))), am_un]) (S' := [.int a4, .int ((490 + (9 * (f 89 202))) + 6), .ref 89]) (μ' := (am_S (am_row (am_row (am_row f 88 y33.2.1) 89 (upd (upd (upd (upd (upd (upd (f 89) ((490 + (9 * (f 89 202).toNatClampNeg)) + 0) (a0 / 100)) ((490 + (9 * (f 89 202).toNatClampNeg)) + 1) (a0 - a0 / 100 * 100)) ((490 + (9 * (f 89 202).toNatClampNeg)) + 2) a1) ((490 + (9 * (f 89 202).toNatClampNeg)) + 3) (a2 - a2 / 100 * 100)) ((490 + (9 * (f 89 202).toNatClampNeg)) + 4) (a2 / 100)) ((490 + (9 * (f 89 202).toNatClampNeg)) + 5) (nI a3_n))) 98 y33.2.2) g)) 6 rfl ?_
                        refine am_F.iasE (F' := (am_row (am_row (am_row f 88 y33.2.1) 89 (upd (upd (upd (upd (upd (upd (upd (f 89) ((490 + (9 * (f 89 202).toNatClampNeg)) + 0) (a0 / 100)) ((490 + (9 * (f 89 202).toNatClampNeg)) + 1) (a0 - a0 / 100 * 100)) ((490 + (9 * (f 89 202).toNatClampNeg)) + 2) a1) ((490 + (9 * (f 89 202).toNatClampNeg)) + 3) (a2 - a2 / 100 * 100)) ((490 + (9 * (f 89 202).toNatClampNeg)) + 4) (a2 / 100)) ((490 + (9 * (f 89 202).toNatClampNeg)) + 5) (nI a3_n)) ((490 + (9 * (f 89 202).toNatClampNeg)) + 6) a4)) 98 y33.2.2)) (m := ((490 + (9 * (f 89 202).toNatClampNeg)) + 6)) (N := 3340) rfl rfl rfl (am_addE (am_addE rfl (am_mulE rfl hrC)) rfl) (by omega) (by decide) (by first | rfl | (funext a; by_cases z0 : a = 88; (subst z0; rfl); by_cases z1 : a = 89; (subst z1; rfl); by_cases z2 : a = 98; (subst z2; rfl); simp only [am_ui, am_ul, am_row_ne z0, am_row_ne z1, am_row_ne z2])) ?_
                        refine am_F.ops (pc' := 243) (L' := [.ref 88, .int a0, .int a1, .int a2, .int (nI a3_n), .int a4, .int (f 89 202), .int (490 + (9 * (f 89 202))), am_un]) (S' := [.int (-1), .int ((490 + (9 * (f 89 202))) + 7), .ref 89]) (μ' := (am_S (am_row (am_row (am_row f 88 y33.2.1) 89 (upd (upd (upd (upd (upd (upd (upd (f 89) ((490 + (9 * (f 89 202).toNatClampNeg)) + 0) (a0 / 100)) ((490 + (9 * (f 89 202).toNatClampNeg)) + 1) (a0 - a0 / 100 * 100)) ((490 + (9 * (f 89 202).toNatClampNeg)) + 2) a1) ((490 + (9 * (f 89 202).toNatClampNeg)) + 3) (a2 - a2 / 100 * 100)) ((490 + (9 * (f 89 202).toNatClampNeg)) + 4) (a2 / 100)) ((490 + (9 * (f 89 202).toNatClampNeg)) + 5) (nI a3_n)) ((490 + (9 * (f 89 202).toNatClampNeg)) + 6) a4)) 98 y33.2.2) g)) 6 rfl ?_
                        refine am_F.iasE (F' := (am_row (am_row (am_row f 88 y33.2.1) 89 (upd (upd (upd (upd (upd (upd (upd (upd (f 89) ((490 + (9 * (f 89 202).toNatClampNeg)) + 0) (a0 / 100)) ((490 + (9 * (f 89 202).toNatClampNeg)) + 1) (a0 - a0 / 100 * 100)) ((490 + (9 * (f 89 202).toNatClampNeg)) + 2) a1) ((490 + (9 * (f 89 202).toNatClampNeg)) + 3) (a2 - a2 / 100 * 100)) ((490 + (9 * (f 89 202).toNatClampNeg)) + 4) (a2 / 100)) ((490 + (9 * (f 89 202).toNatClampNeg)) + 5) (nI a3_n)) ((490 + (9 * (f 89 202).toNatClampNeg)) + 6) a4) ((490 + (9 * (f 89 202).toNatClampNeg)) + 7) (-1))) 98 y33.2.2)) (m := ((490 + (9 * (f 89 202).toNatClampNeg)) + 7)) (N := 3340) rfl rfl rfl (am_addE (am_addE rfl (am_mulE rfl hrC)) rfl) (by omega) (by decide) (by first | rfl | (funext a; by_cases z0 : a = 88; (subst z0; rfl); by_cases z1 : a = 89; (subst z1; rfl); by_cases z2 : a = 98; (subst z2; rfl); simp only [am_ui, am_ul, am_row_ne z0, am_row_ne z1, am_row_ne z2])) ?_
                        refine am_F.ops (pc' := 257) (L' := [.ref 88, .int a0, .int a1, .int a2, .int (nI a3_n), .int a4, .int (f 89 202), .int (490 + (9 * (f 89 202))), am_un]) (S' := [.int (y33.2.1 15), .int ((490 + (9 * (f 89 202))) + 8), .ref 89]) (μ' := (am_S (am_row (am_row (am_row f 88 y33.2.1) 89 (upd (upd (upd (upd (upd (upd (upd (upd (f 89) ((490 + (9 * (f 89 202).toNatClampNeg)) + 0) (a0 / 100)) ((490 + (9 * (f 89 202).toNatClampNeg)) + 1) (a0 - a0 / 100 * 100)) ((490 + (9 * (f 89 202).toNatClampNeg)) + 2) a1) ((490 + (9 * (f 89 202).toNatClampNeg)) + 3) (a2 - a2 / 100 * 100)) ((490 + (9 * (f 89 202).toNatClampNeg)) + 4) (a2 / 100)) ((490 + (9 * (f 89 202).toNatClampNeg)) + 5) (nI a3_n)) ((490 + (9 * (f 89 202).toNatClampNeg)) + 6) a4) ((490 + (9 * (f 89 202).toNatClampNeg)) + 7) (-1))) 98 y33.2.2) g)) 7 rfl ?_
                        refine am_F.iasE (F' := (am_row (am_row (am_row f 88 y33.2.1) 89 (upd (upd (upd (upd (upd (upd (upd (upd (upd (f 89) ((490 + (9 * (f 89 202).toNatClampNeg)) + 0) (a0 / 100)) ((490 + (9 * (f 89 202).toNatClampNeg)) + 1) (a0 - a0 / 100 * 100)) ((490 + (9 * (f 89 202).toNatClampNeg)) + 2) a1) ((490 + (9 * (f 89 202).toNatClampNeg)) + 3) (a2 - a2 / 100 * 100)) ((490 + (9 * (f 89 202).toNatClampNeg)) + 4) (a2 / 100)) ((490 + (9 * (f 89 202).toNatClampNeg)) + 5) (nI a3_n)) ((490 + (9 * (f 89 202).toNatClampNeg)) + 6) a4) ((490 + (9 * (f 89 202).toNatClampNeg)) + 7) (-1)) ((490 + (9 * (f 89 202).toNatClampNeg)) + 8) (y33.2.1 15))) 98 y33.2.2)) (m := ((490 + (9 * (f 89 202).toNatClampNeg)) + 8)) (N := 3340) rfl rfl rfl (am_addE (am_addE rfl (am_mulE rfl hrC)) rfl) (by omega) (by decide) (by first | rfl | (funext a; by_cases z0 : a = 88; (subst z0; rfl); by_cases z1 : a = 89; (subst z1; rfl); by_cases z2 : a = 98; (subst z2; rfl); simp only [am_ui, am_ul, am_row_ne z0, am_row_ne z1, am_row_ne z2])) ?_
                        refine am_F.ops (pc' := 261) (L' := [.ref 88, .int a0, .int a1, .int a2, .int (nI a3_n), .int a4, .int (f 89 202), .int (490 + (9 * (f 89 202))), .int 0]) (S' := []) (μ' := (am_S (am_row (am_row (am_row f 88 y33.2.1) 89 (upd (upd (upd (upd (upd (upd (upd (upd (upd (f 89) ((490 + (9 * (f 89 202).toNatClampNeg)) + 0) (a0 / 100)) ((490 + (9 * (f 89 202).toNatClampNeg)) + 1) (a0 - a0 / 100 * 100)) ((490 + (9 * (f 89 202).toNatClampNeg)) + 2) a1) ((490 + (9 * (f 89 202).toNatClampNeg)) + 3) (a2 - a2 / 100 * 100)) ((490 + (9 * (f 89 202).toNatClampNeg)) + 4) (a2 / 100)) ((490 + (9 * (f 89 202).toNatClampNeg)) + 5) (nI a3_n)) ((490 + (9 * (f 89 202).toNatClampNeg)) + 6) a4) ((490 + (9 * (f 89 202).toNatClampNeg)) + 7) (-1)) ((490 + (9 * (f 89 202).toNatClampNeg)) + 8) (y33.2.1 15))) 98 y33.2.2) g)) 2 rfl ?_
                        obtain ⟨z261, hz261, hK⟩ := am_ob_e hKn hK
                        obtain ⟨nz261, gz261⟩ := am_while_s (show am_while (st_m_rule_261_41 f y33) (0, upd (upd (upd (upd (upd (upd (upd (upd (upd (f 89) ((490 + (9 * (f 89 202).toNatClampNeg)) + 0) (a0 / 100)) ((490 + (9 * (f 89 202).toNatClampNeg)) + 1) (a0 - a0 / 100 * 100)) ((490 + (9 * (f 89 202).toNatClampNeg)) + 2) a1) ((490 + (9 * (f 89 202).toNatClampNeg)) + 3) (a2 - a2 / 100 * 100)) ((490 + (9 * (f 89 202).toNatClampNeg)) + 4) (a2 / 100)) ((490 + (9 * (f 89 202).toNatClampNeg)) + 5) (nI a3_n)) ((490 + (9 * (f 89 202).toNatClampNeg)) + 6) a4) ((490 + (9 * (f 89 202).toNatClampNeg)) + 7) (-1)) ((490 + (9 * (f 89 202).toNatClampNeg)) + 8) (y33.2.1 15)) = some z261 from hz261)
                        refine lp_m_rule_261_41 a0 a1 a2 a3_n a4 f g y33 hmk hlC hlN hrC hrN hl0 hl5 hl2 ha3_n _ nz261 0 (upd (upd (upd (upd (upd (upd (upd (upd (upd (f 89) ((490 + (9 * (f 89 202).toNatClampNeg)) + 0) (a0 / 100)) ((490 + (9 * (f 89 202).toNatClampNeg)) + 1) (a0 - a0 / 100 * 100)) ((490 + (9 * (f 89 202).toNatClampNeg)) + 2) a1) ((490 + (9 * (f 89 202).toNatClampNeg)) + 3) (a2 - a2 / 100 * 100)) ((490 + (9 * (f 89 202).toNatClampNeg)) + 4) (a2 / 100)) ((490 + (9 * (f 89 202).toNatClampNeg)) + 5) (nI a3_n)) ((490 + (9 * (f 89 202).toNatClampNeg)) + 6) a4) ((490 + (9 * (f 89 202).toNatClampNeg)) + 7) (-1)) ((490 + (9 * (f 89 202).toNatClampNeg)) + 8) (y33.2.1 15))  ?_
                        rw [gz261]
                        rcases z261 with z261 | z
                        · skip
                          show am_F _ _ 300 [.ref 88, .int a0, .int a1, .int a2, .int (nI a3_n), .int a4, .int (f 89 202), .int (490 + (9 * (f 89 202))), .int z261.1] [] (am_S (am_row (am_row (am_row f 88 y33.2.1) 89 z261.2) 98 y33.2.2) g) _
                          (try simp only [Sum.elim_inl] at hK)
                          refine am_F.ops (pc' := 311) (L' := [.ref 88, .int a0, .int a1, .int a2, .int (nI a3_n), .int a4, .int (f 89 202), .int (490 + (9 * (f 89 202))), .int z261.1]) (S' := [.int ((z261.2 202) + 1), .int 202, .ref 89]) (μ' := (am_S (am_row (am_row (am_row f 88 y33.2.1) 89 z261.2) 98 y33.2.2) g)) 7 rfl ?_
                          refine am_F.iasE (F' := (am_row (am_row (am_row f 88 y33.2.1) 89 (upd z261.2 202 ((z261.2 202) + 1))) 98 y33.2.2)) (m := 202) (N := 3340) rfl rfl rfl rfl (by omega) (by decide) (by first | rfl | (funext a; by_cases z0 : a = 88; (subst z0; rfl); by_cases z1 : a = 89; (subst z1; rfl); by_cases z2 : a = 98; (subst z2; rfl); simp only [am_ui, am_ul, am_row_ne z0, am_row_ne z1, am_row_ne z2])) ?_
                          refine am_F.ops (pc' := 314) (L' := [.ref 88, .int a0, .int a1, .int a2, .int (nI a3_n), .int a4, .int (f 89 202), .int (490 + (9 * (f 89 202))), .int z261.1]) (S' := [.int (f 89 202)]) (μ' := (am_S (am_row (am_row (am_row f 88 y33.2.1) 89 (upd z261.2 202 ((z261.2 202) + 1))) 98 y33.2.2) g)) 1 rfl ?_
                          subst hKd
                          have hQ := am_KO_s hK
                          exact am_F.eq (am_F.ret rfl rfl) hQ
                        · exact z.elim
                      · show am_F _ _ 119 [.ref 88, .int a0, .int a1, .int a2, .int (nI a3_n), .int a4, am_un, am_un, am_un] [] (am_S (am_row (am_row f 88 y33.2.1) 98 y33.2.2) g) _
                        refine am_F.ops (pc' := 126) (L' := [.ref 88, .int a0, .int a1, .int a2, .int (nI a3_n), .int a4, am_un, am_un, am_un]) (S' := [.int ((-100) - (y33.2.1 13))]) (μ' := (am_S (am_row (am_row f 88 y33.2.1) 98 y33.2.2) g)) 4 rfl ?_
                        refine am_F.mem (F' := (am_row (am_row (am_row f 88 y33.2.1) 89 (f 89)) 98 y33.2.2)) (G' := g) ?_ (by first | rfl | (funext a; by_cases z0 : a = 88; (subst z0; rfl); by_cases z1 : a = 89; (subst z1; rfl); by_cases z2 : a = 98; (subst z2; rfl); simp only [am_ui, am_ul, am_row_ne z0, am_row_ne z1, am_row_ne z2])) (by first | rfl | (funext a; by_cases z0 : a = 88; (subst z0; rfl); by_cases z1 : a = 89; (subst z1; rfl); by_cases z2 : a = 98; (subst z2; rfl); simp only [am_ui, am_ul, am_row_ne z0, am_row_ne z1, am_row_ne z2]))
                        subst hKd
                        have hQ := am_KO_s hK
                        exact am_F.eq (am_F.ret rfl rfl) hQ
                · show am_F _ _ 82 [.ref 88, .int a0, .int a1, .int a2, .int (nI a3_n), .int a4, am_un, am_un, am_un] [] (am_S f g) _
                  refine am_F.ops (pc' := 83) (L' := [.ref 88, .int a0, .int a1, .int a2, .int (nI a3_n), .int a4, am_un, am_un, am_un]) (S' := [.int (-1)]) (μ' := (am_S f g)) 1 rfl ?_
                  refine am_F.mem (F' := (am_row (am_row (am_row f 88 (f 88)) 89 (f 89)) 98 (f 98))) (G' := g) ?_ (by first | rfl | (funext a; by_cases z0 : a = 88; (subst z0; rfl); by_cases z1 : a = 89; (subst z1; rfl); by_cases z2 : a = 98; (subst z2; rfl); simp only [am_ui, am_ul, am_row_ne z0, am_row_ne z1, am_row_ne z2])) (by first | rfl | (funext a; by_cases z0 : a = 88; (subst z0; rfl); by_cases z1 : a = 89; (subst z1; rfl); by_cases z2 : a = 98; (subst z2; rfl); simp only [am_ui, am_ul, am_row_ne z0, am_row_ne z1, am_row_ne z2]))
                  subst hKd
                  have hQ := am_KO_s hK
                  exact am_F.eq (am_F.ret rfl rfl) hQ
            · show am_F _ _ 82 [.ref 88, .int a0, .int a1, .int a2, .int a3, .int a4, am_un, am_un, am_un] [] (am_S f g) _
              refine am_F.ops (pc' := 83) (L' := [.ref 88, .int a0, .int a1, .int a2, .int a3, .int a4, am_un, am_un, am_un]) (S' := [.int (-1)]) (μ' := (am_S f g)) 1 rfl ?_
              refine am_F.mem (F' := (am_row (am_row (am_row f 88 (f 88)) 89 (f 89)) 98 (f 98))) (G' := g) ?_ (by first | rfl | (funext a; by_cases z0 : a = 88; (subst z0; rfl); by_cases z1 : a = 89; (subst z1; rfl); by_cases z2 : a = 98; (subst z2; rfl); simp only [am_ui, am_ul, am_row_ne z0, am_row_ne z1, am_row_ne z2])) (by first | rfl | (funext a; by_cases z0 : a = 88; (subst z0; rfl); by_cases z1 : a = 89; (subst z1; rfl); by_cases z2 : a = 98; (subst z2; rfl); simp only [am_ui, am_ul, am_row_ne z0, am_row_ne z1, am_row_ne z2]))
              subst hKd
              have hQ := am_KO_s hK
              exact am_F.eq (am_F.ret rfl rfl) hQ
          · show am_F _ _ 55 [.ref 88, .int a0, .int a1, .int a2, .int a3, .int a4, am_un, am_un, am_un] [] (am_S f g) _
            refine am_F.ops (pc' := 56) (L' := [.ref 88, .int a0, .int a1, .int a2, .int a3, .int a4, am_un, am_un, am_un]) (S' := [.int (-1)]) (μ' := (am_S f g)) 1 rfl ?_
            refine am_F.mem (F' := (am_row (am_row (am_row f 88 (f 88)) 89 (f 89)) 98 (f 98))) (G' := g) ?_ (by first | rfl | (funext a; by_cases z0 : a = 88; (subst z0; rfl); by_cases z1 : a = 89; (subst z1; rfl); by_cases z2 : a = 98; (subst z2; rfl); simp only [am_ui, am_ul, am_row_ne z0, am_row_ne z1, am_row_ne z2])) (by first | rfl | (funext a; by_cases z0 : a = 88; (subst z0; rfl); by_cases z1 : a = 89; (subst z1; rfl); by_cases z2 : a = 98; (subst z2; rfl); simp only [am_ui, am_ul, am_row_ne z0, am_row_ne z1, am_row_ne z2]))
            subst hKd
            have hQ := am_KO_s hK
            exact am_F.eq (am_F.ret rfl rfl) hQ
        · show am_F _ _ 55 [.ref 88, .int a0, .int a1, .int a2, .int a3, .int a4, am_un, am_un, am_un] [] (am_S f g) _
          refine am_F.ops (pc' := 56) (L' := [.ref 88, .int a0, .int a1, .int a2, .int a3, .int a4, am_un, am_un, am_un]) (S' := [.int (-1)]) (μ' := (am_S f g)) 1 rfl ?_
          refine am_F.mem (F' := (am_row (am_row (am_row f 88 (f 88)) 89 (f 89)) 98 (f 98))) (G' := g) ?_ (by first | rfl | (funext a; by_cases z0 : a = 88; (subst z0; rfl); by_cases z1 : a = 89; (subst z1; rfl); by_cases z2 : a = 98; (subst z2; rfl); simp only [am_ui, am_ul, am_row_ne z0, am_row_ne z1, am_row_ne z2])) (by first | rfl | (funext a; by_cases z0 : a = 88; (subst z0; rfl); by_cases z1 : a = 89; (subst z1; rfl); by_cases z2 : a = 98; (subst z2; rfl); simp only [am_ui, am_ul, am_row_ne z0, am_row_ne z1, am_row_ne z2]))
          subst hKd
          have hQ := am_KO_s hK
          exact am_F.eq (am_F.ret rfl rfl) hQ
      · show am_F _ _ 55 [.ref 88, .int a0, .int a1, .int a2, .int a3, .int a4, am_un, am_un, am_un] [] (am_S f g) _
        refine am_F.ops (pc' := 56) (L' := [.ref 88, .int a0, .int a1, .int a2, .int a3, .int a4, am_un, am_un, am_un]) (S' := [.int (-1)]) (μ' := (am_S f g)) 1 rfl ?_
        refine am_F.mem (F' := (am_row (am_row (am_row f 88 (f 88)) 89 (f 89)) 98 (f 98))) (G' := g) ?_ (by first | rfl | (funext a; by_cases z0 : a = 88; (subst z0; rfl); by_cases z1 : a = 89; (subst z1; rfl); by_cases z2 : a = 98; (subst z2; rfl); simp only [am_ui, am_ul, am_row_ne z0, am_row_ne z1, am_row_ne z2])) (by first | rfl | (funext a; by_cases z0 : a = 88; (subst z0; rfl); by_cases z1 : a = 89; (subst z1; rfl); by_cases z2 : a = 98; (subst z2; rfl); simp only [am_ui, am_ul, am_row_ne z0, am_row_ne z1, am_row_ne z2]))
        subst hKd
        have hQ := am_KO_s hK
        exact am_F.eq (am_F.ret rfl rfl) hQ
    · show am_F _ _ 55 [.ref 88, .int a0, .int a1, .int a2, .int a3, .int a4, am_un, am_un, am_un] [] (am_S f g) _
      refine am_F.ops (pc' := 56) (L' := [.ref 88, .int a0, .int a1, .int a2, .int a3, .int a4, am_un, am_un, am_un]) (S' := [.int (-1)]) (μ' := (am_S f g)) 1 rfl ?_
      refine am_F.mem (F' := (am_row (am_row (am_row f 88 (f 88)) 89 (f 89)) 98 (f 98))) (G' := g) ?_ (by first | rfl | (funext a; by_cases z0 : a = 88; (subst z0; rfl); by_cases z1 : a = 89; (subst z1; rfl); by_cases z2 : a = 98; (subst z2; rfl); simp only [am_ui, am_ul, am_row_ne z0, am_row_ne z1, am_row_ne z2])) (by first | rfl | (funext a; by_cases z0 : a = 88; (subst z0; rfl); by_cases z1 : a = 89; (subst z1; rfl); by_cases z2 : a = 98; (subst z2; rfl); simp only [am_ui, am_ul, am_row_ne z0, am_row_ne z1, am_row_ne z2]))
      subst hKd
      have hQ := am_KO_s hK
      exact am_F.eq (am_F.ret rfl rfl) hQ
  · show am_F _ _ 55 [.ref 88, .int a0, .int a1, .int a2, .int a3, .int a4, am_un, am_un, am_un] [] (am_S f g) _
    refine am_F.ops (pc' := 56) (L' := [.ref 88, .int a0, .int a1, .int a2, .int a3, .int a4, am_un, am_un, am_un]) (S' := [.int (-1)]) (μ' := (am_S f g)) 1 rfl ?_
    refine am_F.mem (F' := (am_row (am_row (am_row f 88 (f 88)) 89 (f 89)) 98 (f 98))) (G' := g) ?_ (by first | rfl | (funext a; by_cases z0 : a = 88; (subst z0; rfl); by_cases z1 : a = 89; (subst z1; rfl); by_cases z2 : a = 98; (subst z2; rfl); simp only [am_ui, am_ul, am_row_ne z0, am_row_ne z1, am_row_ne z2])) (by first | rfl | (funext a; by_cases z0 : a = 88; (subst z0; rfl); by_cases z1 : a = 89; (subst z1; rfl); by_cases z2 : a = 98; (subst z2; rfl); simp only [am_ui, am_ul, am_row_ne z0, am_row_ne z1, am_row_ne z2]))
    subst hKd
    have hQ := am_KO_s hK
    exact am_F.eq (am_F.ret rfl rfl) hQ
/-- AccessLatticeModel.seniors, with checks -/
noncomputable def st_m_seniors_4 (f : Nat → Nat → Int32) : (Nat → Int32) × (Nat → Int32) → Option ((Nat → Int32) × (Nat → Int32) ⊕ ((Nat → Int32) × (Nat → Int32) ⊕ Empty)) := fun z => match z with
  | (r4_88, r4_98) => (if (r4_88 15) ≤ 0 then (am_ob (fn_m_figures 2 (am_row (am_row f 88 r4_88) 98 r4_98)) (fun (y80 : Int32 × (Nat → Int32)) => (if y80.1 < 20 then (am_chk (¬ (am_row (am_row f 88 y80.2) 98 r4_98) 88 11 ≤ (am_row (am_row f 88 y80.2) 98 r4_98) 88 12 → am_inb ((am_row (am_row f 88 y80.2) 98 r4_98) 88 12) 80 = true) (am_ob (fn_m_figures 2 (am_row (am_row f 88 (fn_m_takes 62 (am_row (am_row f 88 y80.2) 98 r4_98))) 98 r4_98)) (fun (y85 : Int32 × (Nat → Int32)) => (if y85.1 < 20 then (am_chk (am_inb ((am_row (am_row f 88 y85.2) 98 r4_98) 88 15) 81 = true) (am_chk (¬ (am_row (am_row f 88 (fn_m_puts ((100 * y80.1) + y85.1) (am_row (am_row f 88 y85.2) 98 r4_98)).1) 98 (fn_m_puts ((100 * y80.1) + y85.1) (am_row (am_row f 88 y85.2) 98 r4_98)).2) 88 11 ≤ (am_row (am_row f 88 (fn_m_puts ((100 * y80.1) + y85.1) (am_row (am_row f 88 y85.2) 98 r4_98)).1) 98 (fn_m_puts ((100 * y80.1) + y85.1) (am_row (am_row f 88 y85.2) 98 r4_98)).2) 88 12 → am_inb ((am_row (am_row f 88 (fn_m_puts ((100 * y80.1) + y85.1) (am_row (am_row f 88 y85.2) 98 r4_98)).1) 98 (fn_m_puts ((100 * y80.1) + y85.1) (am_row (am_row f 88 y85.2) 98 r4_98)).2) 88 12) 80 = true) (bif (fn_m_sees 44 (am_row (am_row f 88 (fn_m_puts ((100 * y80.1) + y85.1) (am_row (am_row f 88 y85.2) 98 r4_98)).1) 98 (fn_m_puts ((100 * y80.1) + y85.1) (am_row (am_row f 88 y85.2) 98 r4_98)).2)) then (some (.inl ((fn_m_puts ((100 * y80.1) + y85.1) (am_row (am_row f 88 y85.2) 98 r4_98)).1, (fn_m_puts ((100 * y80.1) + y85.1) (am_row (am_row f 88 y85.2) 98 r4_98)).2))) else (some (.inr (.inl ((fn_m_puts ((100 * y80.1) + y85.1) (am_row (am_row f 88 y85.2) 98 r4_98)).1, (fn_m_puts ((100 * y80.1) + y85.1) (am_row (am_row f 88 y85.2) 98 r4_98)).2))))))) else (am_chk (am_inb ((am_row (am_row f 88 (fn_m_fails ((fn_m_takes 62 (am_row (am_row f 88 y80.2) 98 r4_98)) 12) (am_row (am_row f 88 y85.2) 98 r4_98))) 98 r4_98) 88 15) 81 = true) (am_chk (¬ (am_row (am_row f 88 (fn_m_puts ((100 * y80.1) + y85.1) (am_row (am_row f 88 (fn_m_fails ((fn_m_takes 62 (am_row (am_row f 88 y80.2) 98 r4_98)) 12) (am_row (am_row f 88 y85.2) 98 r4_98))) 98 r4_98)).1) 98 (fn_m_puts ((100 * y80.1) + y85.1) (am_row (am_row f 88 (fn_m_fails ((fn_m_takes 62 (am_row (am_row f 88 y80.2) 98 r4_98)) 12) (am_row (am_row f 88 y85.2) 98 r4_98))) 98 r4_98)).2) 88 11 ≤ (am_row (am_row f 88 (fn_m_puts ((100 * y80.1) + y85.1) (am_row (am_row f 88 (fn_m_fails ((fn_m_takes 62 (am_row (am_row f 88 y80.2) 98 r4_98)) 12) (am_row (am_row f 88 y85.2) 98 r4_98))) 98 r4_98)).1) 98 (fn_m_puts ((100 * y80.1) + y85.1) (am_row (am_row f 88 (fn_m_fails ((fn_m_takes 62 (am_row (am_row f 88 y80.2) 98 r4_98)) 12) (am_row (am_row f 88 y85.2) 98 r4_98))) 98 r4_98)).2) 88 12 → am_inb ((am_row (am_row f 88 (fn_m_puts ((100 * y80.1) + y85.1) (am_row (am_row f 88 (fn_m_fails ((fn_m_takes 62 (am_row (am_row f 88 y80.2) 98 r4_98)) 12) (am_row (am_row f 88 y85.2) 98 r4_98))) 98 r4_98)).1) 98 (fn_m_puts ((100 * y80.1) + y85.1) (am_row (am_row f 88 (fn_m_fails ((fn_m_takes 62 (am_row (am_row f 88 y80.2) 98 r4_98)) 12) (am_row (am_row f 88 y85.2) 98 r4_98))) 98 r4_98)).2) 88 12) 80 = true) (bif (fn_m_sees 44 (am_row (am_row f 88 (fn_m_puts ((100 * y80.1) + y85.1) (am_row (am_row f 88 (fn_m_fails ((fn_m_takes 62 (am_row (am_row f 88 y80.2) 98 r4_98)) 12) (am_row (am_row f 88 y85.2) 98 r4_98))) 98 r4_98)).1) 98 (fn_m_puts ((100 * y80.1) + y85.1) (am_row (am_row f 88 (fn_m_fails ((fn_m_takes 62 (am_row (am_row f 88 y80.2) 98 r4_98)) 12) (am_row (am_row f 88 y85.2) 98 r4_98))) 98 r4_98)).2)) then (some (.inl ((fn_m_puts ((100 * y80.1) + y85.1) (am_row (am_row f 88 (fn_m_fails ((fn_m_takes 62 (am_row (am_row f 88 y80.2) 98 r4_98)) 12) (am_row (am_row f 88 y85.2) 98 r4_98))) 98 r4_98)).1, (fn_m_puts ((100 * y80.1) + y85.1) (am_row (am_row f 88 (fn_m_fails ((fn_m_takes 62 (am_row (am_row f 88 y80.2) 98 r4_98)) 12) (am_row (am_row f 88 y85.2) 98 r4_98))) 98 r4_98)).2))) else (some (.inr (.inl ((fn_m_puts ((100 * y80.1) + y85.1) (am_row (am_row f 88 (fn_m_fails ((fn_m_takes 62 (am_row (am_row f 88 y80.2) 98 r4_98)) 12) (am_row (am_row f 88 y85.2) 98 r4_98))) 98 r4_98)).1, (fn_m_puts ((100 * y80.1) + y85.1) (am_row (am_row f 88 (fn_m_fails ((fn_m_takes 62 (am_row (am_row f 88 y80.2) 98 r4_98)) 12) (am_row (am_row f 88 y85.2) 98 r4_98))) 98 r4_98)).2))))))))))) else (am_chk (¬ (am_row (am_row f 88 (fn_m_fails (r4_88 12) (am_row (am_row f 88 y80.2) 98 r4_98))) 98 r4_98) 88 11 ≤ (am_row (am_row f 88 (fn_m_fails (r4_88 12) (am_row (am_row f 88 y80.2) 98 r4_98))) 98 r4_98) 88 12 → am_inb ((am_row (am_row f 88 (fn_m_fails (r4_88 12) (am_row (am_row f 88 y80.2) 98 r4_98))) 98 r4_98) 88 12) 80 = true) (am_ob (fn_m_figures 2 (am_row (am_row f 88 (fn_m_takes 62 (am_row (am_row f 88 (fn_m_fails (r4_88 12) (am_row (am_row f 88 y80.2) 98 r4_98))) 98 r4_98))) 98 r4_98)) (fun (y102 : Int32 × (Nat → Int32)) => (if y102.1 < 20 then (am_chk (am_inb ((am_row (am_row f 88 y102.2) 98 r4_98) 88 15) 81 = true) (am_chk (¬ (am_row (am_row f 88 (fn_m_puts ((100 * y80.1) + y102.1) (am_row (am_row f 88 y102.2) 98 r4_98)).1) 98 (fn_m_puts ((100 * y80.1) + y102.1) (am_row (am_row f 88 y102.2) 98 r4_98)).2) 88 11 ≤ (am_row (am_row f 88 (fn_m_puts ((100 * y80.1) + y102.1) (am_row (am_row f 88 y102.2) 98 r4_98)).1) 98 (fn_m_puts ((100 * y80.1) + y102.1) (am_row (am_row f 88 y102.2) 98 r4_98)).2) 88 12 → am_inb ((am_row (am_row f 88 (fn_m_puts ((100 * y80.1) + y102.1) (am_row (am_row f 88 y102.2) 98 r4_98)).1) 98 (fn_m_puts ((100 * y80.1) + y102.1) (am_row (am_row f 88 y102.2) 98 r4_98)).2) 88 12) 80 = true) (bif (fn_m_sees 44 (am_row (am_row f 88 (fn_m_puts ((100 * y80.1) + y102.1) (am_row (am_row f 88 y102.2) 98 r4_98)).1) 98 (fn_m_puts ((100 * y80.1) + y102.1) (am_row (am_row f 88 y102.2) 98 r4_98)).2)) then (some (.inl ((fn_m_puts ((100 * y80.1) + y102.1) (am_row (am_row f 88 y102.2) 98 r4_98)).1, (fn_m_puts ((100 * y80.1) + y102.1) (am_row (am_row f 88 y102.2) 98 r4_98)).2))) else (some (.inr (.inl ((fn_m_puts ((100 * y80.1) + y102.1) (am_row (am_row f 88 y102.2) 98 r4_98)).1, (fn_m_puts ((100 * y80.1) + y102.1) (am_row (am_row f 88 y102.2) 98 r4_98)).2))))))) else (am_chk (am_inb ((am_row (am_row f 88 (fn_m_fails ((fn_m_takes 62 (am_row (am_row f 88 (fn_m_fails (r4_88 12) (am_row (am_row f 88 y80.2) 98 r4_98))) 98 r4_98)) 12) (am_row (am_row f 88 y102.2) 98 r4_98))) 98 r4_98) 88 15) 81 = true) (am_chk (¬ (am_row (am_row f 88 (fn_m_puts ((100 * y80.1) + y102.1) (am_row (am_row f 88 (fn_m_fails ((fn_m_takes 62 (am_row (am_row f 88 (fn_m_fails (r4_88 12) (am_row (am_row f 88 y80.2) 98 r4_98))) 98 r4_98)) 12) (am_row (am_row f 88 y102.2) 98 r4_98))) 98 r4_98)).1) 98 (fn_m_puts ((100 * y80.1) + y102.1) (am_row (am_row f 88 (fn_m_fails ((fn_m_takes 62 (am_row (am_row f 88 (fn_m_fails (r4_88 12) (am_row (am_row f 88 y80.2) 98 r4_98))) 98 r4_98)) 12) (am_row (am_row f 88 y102.2) 98 r4_98))) 98 r4_98)).2) 88 11 ≤ (am_row (am_row f 88 (fn_m_puts ((100 * y80.1) + y102.1) (am_row (am_row f 88 (fn_m_fails ((fn_m_takes 62 (am_row (am_row f 88 (fn_m_fails (r4_88 12) (am_row (am_row f 88 y80.2) 98 r4_98))) 98 r4_98)) 12) (am_row (am_row f 88 y102.2) 98 r4_98))) 98 r4_98)).1) 98 (fn_m_puts ((100 * y80.1) + y102.1) (am_row (am_row f 88 (fn_m_fails ((fn_m_takes 62 (am_row (am_row f 88 (fn_m_fails (r4_88 12) (am_row (am_row f 88 y80.2) 98 r4_98))) 98 r4_98)) 12) (am_row (am_row f 88 y102.2) 98 r4_98))) 98 r4_98)).2) 88 12 → am_inb ((am_row (am_row f 88 (fn_m_puts ((100 * y80.1) + y102.1) (am_row (am_row f 88 (fn_m_fails ((fn_m_takes 62 (am_row (am_row f 88 (fn_m_fails (r4_88 12) (am_row (am_row f 88 y80.2) 98 r4_98))) 98 r4_98)) 12) (am_row (am_row f 88 y102.2) 98 r4_98))) 98 r4_98)).1) 98 (fn_m_puts ((100 * y80.1) + y102.1) (am_row (am_row f 88 (fn_m_fails ((fn_m_takes 62 (am_row (am_row f 88 (fn_m_fails (r4_88 12) (am_row (am_row f 88 y80.2) 98 r4_98))) 98 r4_98)) 12) (am_row (am_row f 88 y102.2) 98 r4_98))) 98 r4_98)).2) 88 12) 80 = true) (bif (fn_m_sees 44 (am_row (am_row f 88 (fn_m_puts ((100 * y80.1) + y102.1) (am_row (am_row f 88 (fn_m_fails ((fn_m_takes 62 (am_row (am_row f 88 (fn_m_fails (r4_88 12) (am_row (am_row f 88 y80.2) 98 r4_98))) 98 r4_98)) 12) (am_row (am_row f 88 y102.2) 98 r4_98))) 98 r4_98)).1) 98 (fn_m_puts ((100 * y80.1) + y102.1) (am_row (am_row f 88 (fn_m_fails ((fn_m_takes 62 (am_row (am_row f 88 (fn_m_fails (r4_88 12) (am_row (am_row f 88 y80.2) 98 r4_98))) 98 r4_98)) 12) (am_row (am_row f 88 y102.2) 98 r4_98))) 98 r4_98)).2)) then (some (.inl ((fn_m_puts ((100 * y80.1) + y102.1) (am_row (am_row f 88 (fn_m_fails ((fn_m_takes 62 (am_row (am_row f 88 (fn_m_fails (r4_88 12) (am_row (am_row f 88 y80.2) 98 r4_98))) 98 r4_98)) 12) (am_row (am_row f 88 y102.2) 98 r4_98))) 98 r4_98)).1, (fn_m_puts ((100 * y80.1) + y102.1) (am_row (am_row f 88 (fn_m_fails ((fn_m_takes 62 (am_row (am_row f 88 (fn_m_fails (r4_88 12) (am_row (am_row f 88 y80.2) 98 r4_98))) 98 r4_98)) 12) (am_row (am_row f 88 y102.2) 98 r4_98))) 98 r4_98)).2))) else (some (.inr (.inl ((fn_m_puts ((100 * y80.1) + y102.1) (am_row (am_row f 88 (fn_m_fails ((fn_m_takes 62 (am_row (am_row f 88 (fn_m_fails (r4_88 12) (am_row (am_row f 88 y80.2) 98 r4_98))) 98 r4_98)) 12) (am_row (am_row f 88 y102.2) 98 r4_98))) 98 r4_98)).1, (fn_m_puts ((100 * y80.1) + y102.1) (am_row (am_row f 88 (fn_m_fails ((fn_m_takes 62 (am_row (am_row f 88 (fn_m_fails (r4_88 12) (am_row (am_row f 88 y80.2) 98 r4_98))) 98 r4_98)) 12) (am_row (am_row f 88 y102.2) 98 r4_98))) 98 r4_98)).2)))))))))))))) else (am_chk (¬ (am_row (am_row f 88 r4_88) 98 r4_98) 88 11 ≤ (am_row (am_row f 88 r4_88) 98 r4_98) 88 12 → am_inb ((am_row (am_row f 88 r4_88) 98 r4_98) 88 12) 80 = true) (am_ob (fn_m_figures 2 (am_row (am_row f 88 (fn_m_takes 44 (am_row (am_row f 88 r4_88) 98 r4_98))) 98 r4_98)) (fun (y118 : Int32 × (Nat → Int32)) => (if y118.1 < 20 then (am_chk (¬ (am_row (am_row f 88 y118.2) 98 r4_98) 88 11 ≤ (am_row (am_row f 88 y118.2) 98 r4_98) 88 12 → am_inb ((am_row (am_row f 88 y118.2) 98 r4_98) 88 12) 80 = true) (am_ob (fn_m_figures 2 (am_row (am_row f 88 (fn_m_takes 62 (am_row (am_row f 88 y118.2) 98 r4_98))) 98 r4_98)) (fun (y123 : Int32 × (Nat → Int32)) => (if y123.1 < 20 then (am_chk (am_inb ((am_row (am_row f 88 y123.2) 98 r4_98) 88 15) 81 = true) (am_chk (¬ (am_row (am_row f 88 (fn_m_puts ((100 * y118.1) + y123.1) (am_row (am_row f 88 y123.2) 98 r4_98)).1) 98 (fn_m_puts ((100 * y118.1) + y123.1) (am_row (am_row f 88 y123.2) 98 r4_98)).2) 88 11 ≤ (am_row (am_row f 88 (fn_m_puts ((100 * y118.1) + y123.1) (am_row (am_row f 88 y123.2) 98 r4_98)).1) 98 (fn_m_puts ((100 * y118.1) + y123.1) (am_row (am_row f 88 y123.2) 98 r4_98)).2) 88 12 → am_inb ((am_row (am_row f 88 (fn_m_puts ((100 * y118.1) + y123.1) (am_row (am_row f 88 y123.2) 98 r4_98)).1) 98 (fn_m_puts ((100 * y118.1) + y123.1) (am_row (am_row f 88 y123.2) 98 r4_98)).2) 88 12) 80 = true) (bif (fn_m_sees 44 (am_row (am_row f 88 (fn_m_puts ((100 * y118.1) + y123.1) (am_row (am_row f 88 y123.2) 98 r4_98)).1) 98 (fn_m_puts ((100 * y118.1) + y123.1) (am_row (am_row f 88 y123.2) 98 r4_98)).2)) then (some (.inl ((fn_m_puts ((100 * y118.1) + y123.1) (am_row (am_row f 88 y123.2) 98 r4_98)).1, (fn_m_puts ((100 * y118.1) + y123.1) (am_row (am_row f 88 y123.2) 98 r4_98)).2))) else (some (.inr (.inl ((fn_m_puts ((100 * y118.1) + y123.1) (am_row (am_row f 88 y123.2) 98 r4_98)).1, (fn_m_puts ((100 * y118.1) + y123.1) (am_row (am_row f 88 y123.2) 98 r4_98)).2))))))) else (am_chk (am_inb ((am_row (am_row f 88 (fn_m_fails ((fn_m_takes 62 (am_row (am_row f 88 y118.2) 98 r4_98)) 12) (am_row (am_row f 88 y123.2) 98 r4_98))) 98 r4_98) 88 15) 81 = true) (am_chk (¬ (am_row (am_row f 88 (fn_m_puts ((100 * y118.1) + y123.1) (am_row (am_row f 88 (fn_m_fails ((fn_m_takes 62 (am_row (am_row f 88 y118.2) 98 r4_98)) 12) (am_row (am_row f 88 y123.2) 98 r4_98))) 98 r4_98)).1) 98 (fn_m_puts ((100 * y118.1) + y123.1) (am_row (am_row f 88 (fn_m_fails ((fn_m_takes 62 (am_row (am_row f 88 y118.2) 98 r4_98)) 12) (am_row (am_row f 88 y123.2) 98 r4_98))) 98 r4_98)).2) 88 11 ≤ (am_row (am_row f 88 (fn_m_puts ((100 * y118.1) + y123.1) (am_row (am_row f 88 (fn_m_fails ((fn_m_takes 62 (am_row (am_row f 88 y118.2) 98 r4_98)) 12) (am_row (am_row f 88 y123.2) 98 r4_98))) 98 r4_98)).1) 98 (fn_m_puts ((100 * y118.1) + y123.1) (am_row (am_row f 88 (fn_m_fails ((fn_m_takes 62 (am_row (am_row f 88 y118.2) 98 r4_98)) 12) (am_row (am_row f 88 y123.2) 98 r4_98))) 98 r4_98)).2) 88 12 → am_inb ((am_row (am_row f 88 (fn_m_puts ((100 * y118.1) + y123.1) (am_row (am_row f 88 (fn_m_fails ((fn_m_takes 62 (am_row (am_row f 88 y118.2) 98 r4_98)) 12) (am_row (am_row f 88 y123.2) 98 r4_98))) 98 r4_98)).1) 98 (fn_m_puts ((100 * y118.1) + y123.1) (am_row (am_row f 88 (fn_m_fails ((fn_m_takes 62 (am_row (am_row f 88 y118.2) 98 r4_98)) 12) (am_row (am_row f 88 y123.2) 98 r4_98))) 98 r4_98)).2) 88 12) 80 = true) (bif (fn_m_sees 44 (am_row (am_row f 88 (fn_m_puts ((100 * y118.1) + y123.1) (am_row (am_row f 88 (fn_m_fails ((fn_m_takes 62 (am_row (am_row f 88 y118.2) 98 r4_98)) 12) (am_row (am_row f 88 y123.2) 98 r4_98))) 98 r4_98)).1) 98 (fn_m_puts ((100 * y118.1) + y123.1) (am_row (am_row f 88 (fn_m_fails ((fn_m_takes 62 (am_row (am_row f 88 y118.2) 98 r4_98)) 12) (am_row (am_row f 88 y123.2) 98 r4_98))) 98 r4_98)).2)) then (some (.inl ((fn_m_puts ((100 * y118.1) + y123.1) (am_row (am_row f 88 (fn_m_fails ((fn_m_takes 62 (am_row (am_row f 88 y118.2) 98 r4_98)) 12) (am_row (am_row f 88 y123.2) 98 r4_98))) 98 r4_98)).1, (fn_m_puts ((100 * y118.1) + y123.1) (am_row (am_row f 88 (fn_m_fails ((fn_m_takes 62 (am_row (am_row f 88 y118.2) 98 r4_98)) 12) (am_row (am_row f 88 y123.2) 98 r4_98))) 98 r4_98)).2))) else (some (.inr (.inl ((fn_m_puts ((100 * y118.1) + y123.1) (am_row (am_row f 88 (fn_m_fails ((fn_m_takes 62 (am_row (am_row f 88 y118.2) 98 r4_98)) 12) (am_row (am_row f 88 y123.2) 98 r4_98))) 98 r4_98)).1, (fn_m_puts ((100 * y118.1) + y123.1) (am_row (am_row f 88 (fn_m_fails ((fn_m_takes 62 (am_row (am_row f 88 y118.2) 98 r4_98)) 12) (am_row (am_row f 88 y123.2) 98 r4_98))) 98 r4_98)).2))))))))))) else (am_chk (¬ (am_row (am_row f 88 (fn_m_fails ((fn_m_takes 44 (am_row (am_row f 88 r4_88) 98 r4_98)) 12) (am_row (am_row f 88 y118.2) 98 r4_98))) 98 r4_98) 88 11 ≤ (am_row (am_row f 88 (fn_m_fails ((fn_m_takes 44 (am_row (am_row f 88 r4_88) 98 r4_98)) 12) (am_row (am_row f 88 y118.2) 98 r4_98))) 98 r4_98) 88 12 → am_inb ((am_row (am_row f 88 (fn_m_fails ((fn_m_takes 44 (am_row (am_row f 88 r4_88) 98 r4_98)) 12) (am_row (am_row f 88 y118.2) 98 r4_98))) 98 r4_98) 88 12) 80 = true) (am_ob (fn_m_figures 2 (am_row (am_row f 88 (fn_m_takes 62 (am_row (am_row f 88 (fn_m_fails ((fn_m_takes 44 (am_row (am_row f 88 r4_88) 98 r4_98)) 12) (am_row (am_row f 88 y118.2) 98 r4_98))) 98 r4_98))) 98 r4_98)) (fun (y140 : Int32 × (Nat → Int32)) => (if y140.1 < 20 then (am_chk (am_inb ((am_row (am_row f 88 y140.2) 98 r4_98) 88 15) 81 = true) (am_chk (¬ (am_row (am_row f 88 (fn_m_puts ((100 * y118.1) + y140.1) (am_row (am_row f 88 y140.2) 98 r4_98)).1) 98 (fn_m_puts ((100 * y118.1) + y140.1) (am_row (am_row f 88 y140.2) 98 r4_98)).2) 88 11 ≤ (am_row (am_row f 88 (fn_m_puts ((100 * y118.1) + y140.1) (am_row (am_row f 88 y140.2) 98 r4_98)).1) 98 (fn_m_puts ((100 * y118.1) + y140.1) (am_row (am_row f 88 y140.2) 98 r4_98)).2) 88 12 → am_inb ((am_row (am_row f 88 (fn_m_puts ((100 * y118.1) + y140.1) (am_row (am_row f 88 y140.2) 98 r4_98)).1) 98 (fn_m_puts ((100 * y118.1) + y140.1) (am_row (am_row f 88 y140.2) 98 r4_98)).2) 88 12) 80 = true) (bif (fn_m_sees 44 (am_row (am_row f 88 (fn_m_puts ((100 * y118.1) + y140.1) (am_row (am_row f 88 y140.2) 98 r4_98)).1) 98 (fn_m_puts ((100 * y118.1) + y140.1) (am_row (am_row f 88 y140.2) 98 r4_98)).2)) then (some (.inl ((fn_m_puts ((100 * y118.1) + y140.1) (am_row (am_row f 88 y140.2) 98 r4_98)).1, (fn_m_puts ((100 * y118.1) + y140.1) (am_row (am_row f 88 y140.2) 98 r4_98)).2))) else (some (.inr (.inl ((fn_m_puts ((100 * y118.1) + y140.1) (am_row (am_row f 88 y140.2) 98 r4_98)).1, (fn_m_puts ((100 * y118.1) + y140.1) (am_row (am_row f 88 y140.2) 98 r4_98)).2))))))) else (am_chk (am_inb ((am_row (am_row f 88 (fn_m_fails ((fn_m_takes 62 (am_row (am_row f 88 (fn_m_fails ((fn_m_takes 44 (am_row (am_row f 88 r4_88) 98 r4_98)) 12) (am_row (am_row f 88 y118.2) 98 r4_98))) 98 r4_98)) 12) (am_row (am_row f 88 y140.2) 98 r4_98))) 98 r4_98) 88 15) 81 = true) (am_chk (¬ (am_row (am_row f 88 (fn_m_puts ((100 * y118.1) + y140.1) (am_row (am_row f 88 (fn_m_fails ((fn_m_takes 62 (am_row (am_row f 88 (fn_m_fails ((fn_m_takes 44 (am_row (am_row f 88 r4_88) 98 r4_98)) 12) (am_row (am_row f 88 y118.2) 98 r4_98))) 98 r4_98)) 12) (am_row (am_row f 88 y140.2) 98 r4_98))) 98 r4_98)).1) 98 (fn_m_puts ((100 * y118.1) + y140.1) (am_row (am_row f 88 (fn_m_fails ((fn_m_takes 62 (am_row (am_row f 88 (fn_m_fails ((fn_m_takes 44 (am_row (am_row f 88 r4_88) 98 r4_98)) 12) (am_row (am_row f 88 y118.2) 98 r4_98))) 98 r4_98)) 12) (am_row (am_row f 88 y140.2) 98 r4_98))) 98 r4_98)).2) 88 11 ≤ (am_row (am_row f 88 (fn_m_puts ((100 * y118.1) + y140.1) (am_row (am_row f 88 (fn_m_fails ((fn_m_takes 62 (am_row (am_row f 88 (fn_m_fails ((fn_m_takes 44 (am_row (am_row f 88 r4_88) 98 r4_98)) 12) (am_row (am_row f 88 y118.2) 98 r4_98))) 98 r4_98)) 12) (am_row (am_row f 88 y140.2) 98 r4_98))) 98 r4_98)).1) 98 (fn_m_puts ((100 * y118.1) + y140.1) (am_row (am_row f 88 (fn_m_fails ((fn_m_takes 62 (am_row (am_row f 88 (fn_m_fails ((fn_m_takes 44 (am_row (am_row f 88 r4_88) 98 r4_98)) 12) (am_row (am_row f 88 y118.2) 98 r4_98))) 98 r4_98)) 12) (am_row (am_row f 88 y140.2) 98 r4_98))) 98 r4_98)).2) 88 12 → am_inb ((am_row (am_row f 88 (fn_m_puts ((100 * y118.1) + y140.1) (am_row (am_row f 88 (fn_m_fails ((fn_m_takes 62 (am_row (am_row f 88 (fn_m_fails ((fn_m_takes 44 (am_row (am_row f 88 r4_88) 98 r4_98)) 12) (am_row (am_row f 88 y118.2) 98 r4_98))) 98 r4_98)) 12) (am_row (am_row f 88 y140.2) 98 r4_98))) 98 r4_98)).1) 98 (fn_m_puts ((100 * y118.1) + y140.1) (am_row (am_row f 88 (fn_m_fails ((fn_m_takes 62 (am_row (am_row f 88 (fn_m_fails ((fn_m_takes 44 (am_row (am_row f 88 r4_88) 98 r4_98)) 12) (am_row (am_row f 88 y118.2) 98 r4_98))) 98 r4_98)) 12) (am_row (am_row f 88 y140.2) 98 r4_98))) 98 r4_98)).2) 88 12) 80 = true) (bif (fn_m_sees 44 (am_row (am_row f 88 (fn_m_puts ((100 * y118.1) + y140.1) (am_row (am_row f 88 (fn_m_fails ((fn_m_takes 62 (am_row (am_row f 88 (fn_m_fails ((fn_m_takes 44 (am_row (am_row f 88 r4_88) 98 r4_98)) 12) (am_row (am_row f 88 y118.2) 98 r4_98))) 98 r4_98)) 12) (am_row (am_row f 88 y140.2) 98 r4_98))) 98 r4_98)).1) 98 (fn_m_puts ((100 * y118.1) + y140.1) (am_row (am_row f 88 (fn_m_fails ((fn_m_takes 62 (am_row (am_row f 88 (fn_m_fails ((fn_m_takes 44 (am_row (am_row f 88 r4_88) 98 r4_98)) 12) (am_row (am_row f 88 y118.2) 98 r4_98))) 98 r4_98)) 12) (am_row (am_row f 88 y140.2) 98 r4_98))) 98 r4_98)).2)) then (some (.inl ((fn_m_puts ((100 * y118.1) + y140.1) (am_row (am_row f 88 (fn_m_fails ((fn_m_takes 62 (am_row (am_row f 88 (fn_m_fails ((fn_m_takes 44 (am_row (am_row f 88 r4_88) 98 r4_98)) 12) (am_row (am_row f 88 y118.2) 98 r4_98))) 98 r4_98)) 12) (am_row (am_row f 88 y140.2) 98 r4_98))) 98 r4_98)).1, (fn_m_puts ((100 * y118.1) + y140.1) (am_row (am_row f 88 (fn_m_fails ((fn_m_takes 62 (am_row (am_row f 88 (fn_m_fails ((fn_m_takes 44 (am_row (am_row f 88 r4_88) 98 r4_98)) 12) (am_row (am_row f 88 y118.2) 98 r4_98))) 98 r4_98)) 12) (am_row (am_row f 88 y140.2) 98 r4_98))) 98 r4_98)).2))) else (some (.inr (.inl ((fn_m_puts ((100 * y118.1) + y140.1) (am_row (am_row f 88 (fn_m_fails ((fn_m_takes 62 (am_row (am_row f 88 (fn_m_fails ((fn_m_takes 44 (am_row (am_row f 88 r4_88) 98 r4_98)) 12) (am_row (am_row f 88 y118.2) 98 r4_98))) 98 r4_98)) 12) (am_row (am_row f 88 y140.2) 98 r4_98))) 98 r4_98)).1, (fn_m_puts ((100 * y118.1) + y140.1) (am_row (am_row f 88 (fn_m_fails ((fn_m_takes 62 (am_row (am_row f 88 (fn_m_fails ((fn_m_takes 44 (am_row (am_row f 88 r4_88) 98 r4_98)) 12) (am_row (am_row f 88 y118.2) 98 r4_98))) 98 r4_98)) 12) (am_row (am_row f 88 y140.2) 98 r4_98))) 98 r4_98)).2))))))))))))))))
noncomputable def lf_m_seniors_4 (f : Nat → Nat → Int32) (y1 : (Nat → Int32)) : Option ((Nat → Int32) × (Nat → Int32) ⊕ Empty) := am_while (st_m_seniors_4 f) (y1, f 98)
noncomputable def st_m_seniors_127 (f : Nat → Nat → Int32) (z4 : (Nat → Int32) × (Nat → Int32)) : Int32 × (Nat → Int32) × (Nat → Int32) × (Nat → Int32) × (Nat → Int32) × (Nat → Int32) → Option (Int32 × (Nat → Int32) × (Nat → Int32) × (Nat → Int32) × (Nat → Int32) × (Nat → Int32) ⊕ (Int32 × (Nat → Int32) × (Nat → Int32) × (Nat → Int32) × (Nat → Int32) × (Nat → Int32) ⊕ Empty)) := fun z => match z with
  | (a127_1, r127_89, r127_92, r127_93, r127_94, r127_96) => (if (z4.1 15) ≤ a127_1 then (some (.inr (.inl (a127_1, r127_89, r127_92, r127_93, r127_94, r127_96)))) else (am_chk (am_inb a127_1 81 = true) (am_ob (fn_m_senior ((z4.2 a127_1.toNatClampNeg) / 100) ((z4.2 a127_1.toNatClampNeg) - (z4.2 a127_1.toNatClampNeg) / 100 * 100) 1 (am_row (am_row (am_row (am_row (am_row (am_row (am_row f 88 (upd z4.1 11 0)) 89 r127_89) 92 r127_92) 93 r127_93) 94 r127_94) 96 r127_96) 98 z4.2)) (fun (y163 : Int32 × (Nat → Int32) × (Nat → Int32) × (Nat → Int32) × (Nat → Int32) × (Nat → Int32)) => (if y163.1 < 0 then (some (.inr (.inl (a127_1, y163.2.1, y163.2.2.1, y163.2.2.2.1, y163.2.2.2.2.1, y163.2.2.2.2.2)))) else (some (.inl (a127_1 + 1, y163.2.1, y163.2.2.1, y163.2.2.2.1, y163.2.2.2.2.1, y163.2.2.2.2.2))))))))
noncomputable def lf_m_seniors_127 (f : Nat → Nat → Int32) (z4 : (Nat → Int32) × (Nat → Int32)) : Option (Int32 × (Nat → Int32) × (Nat → Int32) × (Nat → Int32) × (Nat → Int32) × (Nat → Int32) ⊕ Empty) := am_while (st_m_seniors_127 f z4) (0, f 89, f 92, f 93, f 94, f 96)
noncomputable def st_m_seniors_127_175 (f : Nat → Nat → Int32) (z4 : (Nat → Int32) × (Nat → Int32)) (y165 : (Nat → Int32)) : Int32 × (Nat → Int32) × (Nat → Int32) × (Nat → Int32) × (Nat → Int32) × (Nat → Int32) → Option (Int32 × (Nat → Int32) × (Nat → Int32) × (Nat → Int32) × (Nat → Int32) × (Nat → Int32) ⊕ (Int32 × (Nat → Int32) × (Nat → Int32) × (Nat → Int32) × (Nat → Int32) × (Nat → Int32) ⊕ Empty)) := fun z => match z with
  | (a127_1, r127_89, r127_92, r127_93, r127_94, r127_96) => (if (y165 15) ≤ a127_1 then (some (.inr (.inl (a127_1, r127_89, r127_92, r127_93, r127_94, r127_96)))) else (am_chk (am_inb a127_1 81 = true) (am_ob (fn_m_senior ((z4.2 a127_1.toNatClampNeg) / 100) ((z4.2 a127_1.toNatClampNeg) - (z4.2 a127_1.toNatClampNeg) / 100 * 100) 1 (am_row (am_row (am_row (am_row (am_row (am_row (am_row f 88 (upd y165 11 0)) 89 r127_89) 92 r127_92) 93 r127_93) 94 r127_94) 96 r127_96) 98 z4.2)) (fun (y173 : Int32 × (Nat → Int32) × (Nat → Int32) × (Nat → Int32) × (Nat → Int32) × (Nat → Int32)) => (if y173.1 < 0 then (some (.inr (.inl (a127_1, y173.2.1, y173.2.2.1, y173.2.2.2.1, y173.2.2.2.2.1, y173.2.2.2.2.2)))) else (some (.inl (a127_1 + 1, y173.2.1, y173.2.2.1, y173.2.2.2.1, y173.2.2.2.2.1, y173.2.2.2.2.2))))))))
noncomputable def lf_m_seniors_127_176 (f : Nat → Nat → Int32) (z4 : (Nat → Int32) × (Nat → Int32)) (y165 : (Nat → Int32)) : Option (Int32 × (Nat → Int32) × (Nat → Int32) × (Nat → Int32) × (Nat → Int32) × (Nat → Int32) ⊕ Empty) := am_while (st_m_seniors_127_175 f z4 y165) (0, f 89, f 92, f 93, f 94, f 96)
noncomputable def fn_m_seniors (f : Nat → Nat → Int32) : Option (Int32 × (Nat → Int32) × (Nat → Int32) × (Nat → Int32) × (Nat → Int32) × (Nat → Int32) × (Nat → Int32) × (Nat → Int32)) := (am_ob (lf_m_seniors_4 f (fn_m_begins f)) (fun zz => Sum.elim (fun (z4 : (Nat → Int32) × (Nat → Int32)) => (if (z4.1 11) ≤ (z4.1 12) then (if (z4.1 13) < 0 then (am_ob (lf_m_seniors_127 f z4) (fun zz => Sum.elim (fun (z127 : Int32 × (Nat → Int32) × (Nat → Int32) × (Nat → Int32) × (Nat → Int32) × (Nat → Int32)) => (some (z127.1, upd z4.1 11 0, z127.2.1, z127.2.2.1, z127.2.2.2.1, z127.2.2.2.2.1, z127.2.2.2.2.2, z4.2))) (fun (z : Empty) => z.elim) zz)) else (some ((-100) - (z4.1 13), upd z4.1 11 0, f 89, f 92, f 93, f 94, f 96, z4.2))) else (if ((fn_m_fails (z4.1 12) (am_row (am_row f 88 z4.1) 98 z4.2)) 13) < 0 then (am_ob (lf_m_seniors_127_176 f z4 (fn_m_fails (z4.1 12) (am_row (am_row f 88 z4.1) 98 z4.2))) (fun zz => Sum.elim (fun (z127 : Int32 × (Nat → Int32) × (Nat → Int32) × (Nat → Int32) × (Nat → Int32) × (Nat → Int32)) => (some (z127.1, upd (fn_m_fails (z4.1 12) (am_row (am_row f 88 z4.1) 98 z4.2)) 11 0, z127.2.1, z127.2.2.1, z127.2.2.2.1, z127.2.2.2.2.1, z127.2.2.2.2.2, z4.2))) (fun (z : Empty) => z.elim) zz)) else (some ((-100) - ((fn_m_fails (z4.1 12) (am_row (am_row f 88 z4.1) 98 z4.2)) 13), upd (fn_m_fails (z4.1 12) (am_row (am_row f 88 z4.1) 98 z4.2)) 11 0, f 89, f 92, f 93, f 94, f 96, z4.2))))) (fun (z : Empty) => z.elim) zz))
theorem lp_m_seniors_4 (f : Nat → Nat → Int32) (g : Nat → Nat → Int64) (y1 : (Nat → Int32))  (res : Option Value × am_M) : ∀ (n : Nat) (r4_88 : Nat → Int32) (r4_98 : Nat → Int32) (w4_1 : Value) (w4_2 : Value) (w4_3 : Value), am_KO (am_KX (fun (z : (Nat → Int32) × (Nat → Int32)) => ∀ (w4_1 : Value) (w4_2 : Value) (w4_3 : Value), am_F 6 am_k_195 86 [.ref 88, w4_1, w4_2, w4_3] [] (am_S (am_row (am_row f 88 z.1) 98 z.2) g) res) (fun (z : Empty) => True)) (am_wh (st_m_seniors_4 f) n (r4_88, r4_98)) → am_F 6 am_k_195 4 [.ref 88, w4_1, w4_2, w4_3] [] (am_S (am_row (am_row f 88 r4_88) 98 r4_98) g) res := by
  intro n
  induction n with
  | zero =>
    intro r4_88 r4_98 w4_1 w4_2 w4_3 hK
    exact False.elim hK
  | succ n ih =>
    intro r4_88 r4_98 w4_1 w4_2 w4_3 hK
    obtain ⟨K, hKd⟩ : ∃ K : Option ((Nat → Int32) × (Nat → Int32) ⊕ ((Nat → Int32) × (Nat → Int32) ⊕ Empty)) → Prop, K = fun s => am_KO (am_KX (fun (z : (Nat → Int32) × (Nat → Int32)) => ∀ (w4_1 : Value) (w4_2 : Value) (w4_3 : Value), am_F 6 am_k_195 86 [.ref 88, w4_1, w4_2, w4_3] [] (am_S (am_row (am_row f 88 z.1) 98 z.2) g) res) (fun (z : Empty) => True)) (am_whn (am_wh (st_m_seniors_4 f) n) s) := ⟨_, rfl⟩
    have hK : K ((st_m_seniors_4 f) (r4_88, r4_98)) := by rw [am_wh_s] at hK; rw [hKd]; with_reducible exact hK
    have hKn : ¬ K none := by rw [hKd]; exact id
    unfold st_m_seniors_4 at hK
    simp only at hK
    refine am_F.ops (pc' := 8) (L' := [.ref 88, w4_1, w4_2, w4_3]) (S' := [.int (r4_88 15)]) (μ' := (am_S (am_row (am_row f 88 r4_88) 98 r4_98) g)) 2 rfl ?_
    refine am_F.iteK 1 rfl K hK (fun c79 hK => ?_) (fun c79 hK => ?_)
    · show am_F _ _ 17 [.ref 88, w4_1, w4_2, w4_3] [] (am_S (am_row (am_row f 88 r4_88) 98 r4_98) g) _
      refine am_F.ops (pc' := 24) (L' := [.ref 88, .int (r4_88 12), w4_2, w4_3]) (S' := [.int 2, .ref 88]) (μ' := (am_S (am_row (am_row f 88 r4_88) 98 r4_98) g)) 5 rfl ?_
      obtain ⟨y80, hy80, hK⟩ := am_ob_e hKn hK
      refine am_F.call rfl rfl (x_m_figures 2 (am_row (am_row f 88 r4_88) 98 r4_98) g  y80 hy80) (by first | decide | omega) ?_
      refine am_F.mem (F' := (am_row (am_row f 88 y80.2) 98 r4_98)) (G' := g) ?_ (by first | rfl | (funext a; by_cases z0 : a = 88; (subst z0; rfl); by_cases z1 : a = 98; (subst z1; rfl); simp only [am_ui, am_ul, am_row_ne z0, am_row_ne z1])) (by first | rfl | (funext a; by_cases z0 : a = 88; (subst z0; rfl); by_cases z1 : a = 98; (subst z1; rfl); simp only [am_ui, am_ul, am_row_ne z0, am_row_ne z1]))
      show am_F _ _ 27 [.ref 88, .int (r4_88 12), w4_2, w4_3] [.int y80.1] (am_S (am_row (am_row f 88 y80.2) 98 r4_98) g) _
      refine am_F.ops (pc' := 31) (L' := [.ref 88, .int (r4_88 12), .int y80.1, w4_3]) (S' := [.int 20, .int y80.1]) (μ' := (am_S (am_row (am_row f 88 y80.2) 98 r4_98) g)) 3 rfl ?_
      refine am_F.iteK 1 rfl K hK (fun c82 hK => ?_) (fun c82 hK => ?_)
      · show am_F _ _ 39 [.ref 88, .int (r4_88 12), .int y80.1, w4_3] [] (am_S (am_row (am_row f 88 y80.2) 98 r4_98) g) _
        refine am_F.ops (pc' := 42) (L' := [.ref 88, .int (r4_88 12), .int y80.1, w4_3]) (S' := [.int 62, .ref 88]) (μ' := (am_S (am_row (am_row f 88 y80.2) 98 r4_98) g)) 2 rfl ?_
        obtain ⟨q83, hK⟩ := am_chk_e hKn hK
        obtain ⟨y84, hy84⟩ : ∃ z, (fn_m_takes 62 (am_row (am_row f 88 y80.2) 98 r4_98)) = z := ⟨_, rfl⟩
        (try rw [hy84] at hK)
        refine am_F.call rfl rfl (x_m_takes 62 (am_row (am_row f 88 y80.2) 98 r4_98) g q83) (by first | decide | omega) ?_
        (try rw [hy84])
        refine am_F.mem (F' := (am_row (am_row f 88 y84) 98 r4_98)) (G' := g) ?_ (by first | rfl | (funext a; by_cases z0 : a = 88; (subst z0; rfl); by_cases z1 : a = 98; (subst z1; rfl); simp only [am_ui, am_ul, am_row_ne z0, am_row_ne z1])) (by first | rfl | (funext a; by_cases z0 : a = 88; (subst z0; rfl); by_cases z1 : a = 98; (subst z1; rfl); simp only [am_ui, am_ul, am_row_ne z0, am_row_ne z1]))
        show am_F _ _ 45 [.ref 88, .int (r4_88 12), .int y80.1, w4_3] [] (am_S (am_row (am_row f 88 y84) 98 r4_98) g) _
        refine am_F.ops (pc' := 52) (L' := [.ref 88, .int (y84 12), .int y80.1, w4_3]) (S' := [.int 2, .ref 88]) (μ' := (am_S (am_row (am_row f 88 y84) 98 r4_98) g)) 5 rfl ?_
        obtain ⟨y85, hy85, hK⟩ := am_ob_e hKn hK
        refine am_F.call rfl rfl (x_m_figures 2 (am_row (am_row f 88 y84) 98 r4_98) g  y85 hy85) (by first | decide | omega) ?_
        refine am_F.mem (F' := (am_row (am_row f 88 y85.2) 98 r4_98)) (G' := g) ?_ (by first | rfl | (funext a; by_cases z0 : a = 88; (subst z0; rfl); by_cases z1 : a = 98; (subst z1; rfl); simp only [am_ui, am_ul, am_row_ne z0, am_row_ne z1])) (by first | rfl | (funext a; by_cases z0 : a = 88; (subst z0; rfl); by_cases z1 : a = 98; (subst z1; rfl); simp only [am_ui, am_ul, am_row_ne z0, am_row_ne z1]))
        show am_F _ _ 55 [.ref 88, .int (y84 12), .int y80.1, w4_3] [.int y85.1] (am_S (am_row (am_row f 88 y85.2) 98 r4_98) g) _
        refine am_F.ops (pc' := 59) (L' := [.ref 88, .int (y84 12), .int y80.1, .int y85.1]) (S' := [.int 20, .int y85.1]) (μ' := (am_S (am_row (am_row f 88 y85.2) 98 r4_98) g)) 3 rfl ?_
        refine am_F.iteK 1 rfl K hK (fun c87 hK => ?_) (fun c87 hK => ?_)
        · show am_F _ _ 67 [.ref 88, .int (y84 12), .int y80.1, .int y85.1] [] (am_S (am_row (am_row f 88 y85.2) 98 r4_98) g) _
          refine am_F.ops (pc' := 74) (L' := [.ref 88, .int (y84 12), .int y80.1, .int y85.1]) (S' := [.int ((100 * y80.1) + y85.1), .ref 88]) (μ' := (am_S (am_row (am_row f 88 y85.2) 98 r4_98) g)) 6 rfl ?_
          obtain ⟨q88, hK⟩ := am_chk_e hKn hK
          obtain ⟨y89, hy89⟩ : ∃ z, (fn_m_puts ((100 * y80.1) + y85.1) (am_row (am_row f 88 y85.2) 98 r4_98)) = z := ⟨_, rfl⟩
          (try rw [hy89] at hK)
          refine am_F.call rfl rfl (x_m_puts ((100 * y80.1) + y85.1) (am_row (am_row f 88 y85.2) 98 r4_98) g q88) (by first | decide | omega) ?_
          (try rw [hy89])
          refine am_F.mem (F' := (am_row (am_row f 88 y89.1) 98 y89.2)) (G' := g) ?_ (by first | rfl | (funext a; by_cases z0 : a = 88; (subst z0; rfl); by_cases z1 : a = 98; (subst z1; rfl); simp only [am_ui, am_ul, am_row_ne z0, am_row_ne z1])) (by first | rfl | (funext a; by_cases z0 : a = 88; (subst z0; rfl); by_cases z1 : a = 98; (subst z1; rfl); simp only [am_ui, am_ul, am_row_ne z0, am_row_ne z1]))
          show am_F _ _ 77 [.ref 88, .int (y84 12), .int y80.1, .int y85.1] [] (am_S (am_row (am_row f 88 y89.1) 98 y89.2) g) _
          refine am_F.ops (pc' := 80) (L' := [.ref 88, .int (y84 12), .int y80.1, .int y85.1]) (S' := [.int 44, .ref 88]) (μ' := (am_S (am_row (am_row f 88 y89.1) 98 y89.2) g)) 2 rfl ?_
          obtain ⟨q90, hK⟩ := am_chk_e hKn hK
          refine am_F.call rfl rfl (x_m_sees 44 (am_row (am_row f 88 y89.1) 98 y89.2) g q90) (by first | decide | omega) ?_
          show am_F _ _ 83 [.ref 88, .int (y84 12), .int y80.1, .int y85.1] [.int (am_b (fn_m_sees 44 (am_row (am_row f 88 y89.1) 98 y89.2)))] (am_S (am_row (am_row f 88 y89.1) 98 y89.2) g) _
          refine am_F.bifK 1 rfl K hK (fun c92 hK => ?_) (fun c92 hK => ?_)
          · show am_F _ _ 4 [.ref 88, .int (y84 12), .int y80.1, .int y85.1] [] (am_S (am_row (am_row f 88 y89.1) 98 y89.2) g) _
            subst hKd
            exact ih y89.1 y89.2 (.int (y84 12)) (.int y80.1) (.int y85.1) hK
          · show am_F _ _ 86 [.ref 88, .int (y84 12), .int y80.1, .int y85.1] [] (am_S (am_row (am_row f 88 y89.1) 98 y89.2) g) _
            subst hKd
            exact hK (.int (y84 12)) (.int y80.1) (.int y85.1)
        · show am_F _ _ 62 [.ref 88, .int (y84 12), .int y80.1, .int y85.1] [] (am_S (am_row (am_row f 88 y85.2) 98 r4_98) g) _
          refine am_F.ops (pc' := 64) (L' := [.ref 88, .int (y84 12), .int y80.1, .int y85.1]) (S' := [.int (y84 12), .ref 88]) (μ' := (am_S (am_row (am_row f 88 y85.2) 98 r4_98) g)) 2 rfl ?_
          obtain ⟨y93, hy93⟩ : ∃ z, (fn_m_fails (y84 12) (am_row (am_row f 88 y85.2) 98 r4_98)) = z := ⟨_, rfl⟩
          (try rw [hy93] at hK)
          refine am_F.call rfl rfl (x_m_fails (y84 12) (am_row (am_row f 88 y85.2) 98 r4_98) g ) (by first | decide | omega) ?_
          (try rw [hy93])
          refine am_F.mem (F' := (am_row (am_row f 88 y93) 98 r4_98)) (G' := g) ?_ (by first | rfl | (funext a; by_cases z0 : a = 88; (subst z0; rfl); by_cases z1 : a = 98; (subst z1; rfl); simp only [am_ui, am_ul, am_row_ne z0, am_row_ne z1])) (by first | rfl | (funext a; by_cases z0 : a = 88; (subst z0; rfl); by_cases z1 : a = 98; (subst z1; rfl); simp only [am_ui, am_ul, am_row_ne z0, am_row_ne z1]))
          show am_F _ _ 67 [.ref 88, .int (y84 12), .int y80.1, .int y85.1] [] (am_S (am_row (am_row f 88 y93) 98 r4_98) g) _
          refine am_F.ops (pc' := 74) (L' := [.ref 88, .int (y84 12), .int y80.1, .int y85.1]) (S' := [.int ((100 * y80.1) + y85.1), .ref 88]) (μ' := (am_S (am_row (am_row f 88 y93) 98 r4_98) g)) 6 rfl ?_
          obtain ⟨q94, hK⟩ := am_chk_e hKn hK
          obtain ⟨y95, hy95⟩ : ∃ z, (fn_m_puts ((100 * y80.1) + y85.1) (am_row (am_row f 88 y93) 98 r4_98)) = z := ⟨_, rfl⟩
          (try rw [hy95] at hK)
          refine am_F.call rfl rfl (x_m_puts ((100 * y80.1) + y85.1) (am_row (am_row f 88 y93) 98 r4_98) g q94) (by first | decide | omega) ?_
          (try rw [hy95])
          refine am_F.mem (F' := (am_row (am_row f 88 y95.1) 98 y95.2)) (G' := g) ?_ (by first | rfl | (funext a; by_cases z0 : a = 88; (subst z0; rfl); by_cases z1 : a = 98; (subst z1; rfl); simp only [am_ui, am_ul, am_row_ne z0, am_row_ne z1])) (by first | rfl | (funext a; by_cases z0 : a = 88; (subst z0; rfl); by_cases z1 : a = 98; (subst z1; rfl); simp only [am_ui, am_ul, am_row_ne z0, am_row_ne z1]))
          show am_F _ _ 77 [.ref 88, .int (y84 12), .int y80.1, .int y85.1] [] (am_S (am_row (am_row f 88 y95.1) 98 y95.2) g) _
          refine am_F.ops (pc' := 80) (L' := [.ref 88, .int (y84 12), .int y80.1, .int y85.1]) (S' := [.int 44, .ref 88]) (μ' := (am_S (am_row (am_row f 88 y95.1) 98 y95.2) g)) 2 rfl ?_
          obtain ⟨q96, hK⟩ := am_chk_e hKn hK
          refine am_F.call rfl rfl (x_m_sees 44 (am_row (am_row f 88 y95.1) 98 y95.2) g q96) (by first | decide | omega) ?_
          show am_F _ _ 83 [.ref 88, .int (y84 12), .int y80.1, .int y85.1] [.int (am_b (fn_m_sees 44 (am_row (am_row f 88 y95.1) 98 y95.2)))] (am_S (am_row (am_row f 88 y95.1) 98 y95.2) g) _
          refine am_F.bifK 1 rfl K hK (fun c98 hK => ?_) (fun c98 hK => ?_)
          · show am_F _ _ 4 [.ref 88, .int (y84 12), .int y80.1, .int y85.1] [] (am_S (am_row (am_row f 88 y95.1) 98 y95.2) g) _
            subst hKd
            exact ih y95.1 y95.2 (.int (y84 12)) (.int y80.1) (.int y85.1) hK
          · show am_F _ _ 86 [.ref 88, .int (y84 12), .int y80.1, .int y85.1] [] (am_S (am_row (am_row f 88 y95.1) 98 y95.2) g) _
            subst hKd
            exact hK (.int (y84 12)) (.int y80.1) (.int y85.1)
      · show am_F _ _ 34 [.ref 88, .int (r4_88 12), .int y80.1, w4_3] [] (am_S (am_row (am_row f 88 y80.2) 98 r4_98) g) _
        refine am_F.ops (pc' := 36) (L' := [.ref 88, .int (r4_88 12), .int y80.1, w4_3]) (S' := [.int (r4_88 12), .ref 88]) (μ' := (am_S (am_row (am_row f 88 y80.2) 98 r4_98) g)) 2 rfl ?_
        obtain ⟨y99, hy99⟩ : ∃ z, (fn_m_fails (r4_88 12) (am_row (am_row f 88 y80.2) 98 r4_98)) = z := ⟨_, rfl⟩
        (try rw [hy99] at hK)
        refine am_F.call rfl rfl (x_m_fails (r4_88 12) (am_row (am_row f 88 y80.2) 98 r4_98) g ) (by first | decide | omega) ?_
        (try rw [hy99])
        refine am_F.mem (F' := (am_row (am_row f 88 y99) 98 r4_98)) (G' := g) ?_ (by first | rfl | (funext a; by_cases z0 : a = 88; (subst z0; rfl); by_cases z1 : a = 98; (subst z1; rfl); simp only [am_ui, am_ul, am_row_ne z0, am_row_ne z1])) (by first | rfl | (funext a; by_cases z0 : a = 88; (subst z0; rfl); by_cases z1 : a = 98; (subst z1; rfl); simp only [am_ui, am_ul, am_row_ne z0, am_row_ne z1]))
        show am_F _ _ 39 [.ref 88, .int (r4_88 12), .int y80.1, w4_3] [] (am_S (am_row (am_row f 88 y99) 98 r4_98) g) _
        refine am_F.ops (pc' := 42) (L' := [.ref 88, .int (r4_88 12), .int y80.1, w4_3]) (S' := [.int 62, .ref 88]) (μ' := (am_S (am_row (am_row f 88 y99) 98 r4_98) g)) 2 rfl ?_
        obtain ⟨q100, hK⟩ := am_chk_e hKn hK
        obtain ⟨y101, hy101⟩ : ∃ z, (fn_m_takes 62 (am_row (am_row f 88 y99) 98 r4_98)) = z := ⟨_, rfl⟩
        (try rw [hy101] at hK)
        refine am_F.call rfl rfl (x_m_takes 62 (am_row (am_row f 88 y99) 98 r4_98) g q100) (by first | decide | omega) ?_
        (try rw [hy101])
        refine am_F.mem (F' := (am_row (am_row f 88 y101) 98 r4_98)) (G' := g) ?_ (by first | rfl | (funext a; by_cases z0 : a = 88; (subst z0; rfl); by_cases z1 : a = 98; (subst z1; rfl); simp only [am_ui, am_ul, am_row_ne z0, am_row_ne z1])) (by first | rfl | (funext a; by_cases z0 : a = 88; (subst z0; rfl); by_cases z1 : a = 98; (subst z1; rfl); simp only [am_ui, am_ul, am_row_ne z0, am_row_ne z1]))
        show am_F _ _ 45 [.ref 88, .int (r4_88 12), .int y80.1, w4_3] [] (am_S (am_row (am_row f 88 y101) 98 r4_98) g) _
        refine am_F.ops (pc' := 52) (L' := [.ref 88, .int (y101 12), .int y80.1, w4_3]) (S' := [.int 2, .ref 88]) (μ' := (am_S (am_row (am_row f 88 y101) 98 r4_98) g)) 5 rfl ?_
        obtain ⟨y102, hy102, hK⟩ := am_ob_e hKn hK
        refine am_F.call rfl rfl (x_m_figures 2 (am_row (am_row f 88 y101) 98 r4_98) g  y102 hy102) (by first | decide | omega) ?_
        refine am_F.mem (F' := (am_row (am_row f 88 y102.2) 98 r4_98)) (G' := g) ?_ (by first | rfl | (funext a; by_cases z0 : a = 88; (subst z0; rfl); by_cases z1 : a = 98; (subst z1; rfl); simp only [am_ui, am_ul, am_row_ne z0, am_row_ne z1])) (by first | rfl | (funext a; by_cases z0 : a = 88; (subst z0; rfl); by_cases z1 : a = 98; (subst z1; rfl); simp only [am_ui, am_ul, am_row_ne z0, am_row_ne z1]))
        show am_F _ _ 55 [.ref 88, .int (y101 12), .int y80.1, w4_3] [.int y102.1] (am_S (am_row (am_row f 88 y102.2) 98 r4_98) g) _
        refine am_F.ops (pc' := 59) (L' := [.ref 88, .int (y101 12), .int y80.1, .int y102.1]) (S' := [.int 20, .int y102.1]) (μ' := (am_S (am_row (am_row f 88 y102.2) 98 r4_98) g)) 3 rfl ?_
        refine am_F.iteK 1 rfl K hK (fun c104 hK => ?_) (fun c104 hK => ?_)
        · show am_F _ _ 67 [.ref 88, .int (y101 12), .int y80.1, .int y102.1] [] (am_S (am_row (am_row f 88 y102.2) 98 r4_98) g) _
          refine am_F.ops (pc' := 74) (L' := [.ref 88, .int (y101 12), .int y80.1, .int y102.1]) (S' := [.int ((100 * y80.1) + y102.1), .ref 88]) (μ' := (am_S (am_row (am_row f 88 y102.2) 98 r4_98) g)) 6 rfl ?_
          obtain ⟨q105, hK⟩ := am_chk_e hKn hK
          obtain ⟨y106, hy106⟩ : ∃ z, (fn_m_puts ((100 * y80.1) + y102.1) (am_row (am_row f 88 y102.2) 98 r4_98)) = z := ⟨_, rfl⟩
          (try rw [hy106] at hK)
          refine am_F.call rfl rfl (x_m_puts ((100 * y80.1) + y102.1) (am_row (am_row f 88 y102.2) 98 r4_98) g q105) (by first | decide | omega) ?_
          (try rw [hy106])
          refine am_F.mem (F' := (am_row (am_row f 88 y106.1) 98 y106.2)) (G' := g) ?_ (by first | rfl | (funext a; by_cases z0 : a = 88; (subst z0; rfl); by_cases z1 : a = 98; (subst z1; rfl); simp only [am_ui, am_ul, am_row_ne z0, am_row_ne z1])) (by first | rfl | (funext a; by_cases z0 : a = 88; (subst z0; rfl); by_cases z1 : a = 98; (subst z1; rfl); simp only [am_ui, am_ul, am_row_ne z0, am_row_ne z1]))
          show am_F _ _ 77 [.ref 88, .int (y101 12), .int y80.1, .int y102.1] [] (am_S (am_row (am_row f 88 y106.1) 98 y106.2) g) _
          refine am_F.ops (pc' := 80) (L' := [.ref 88, .int (y101 12), .int y80.1, .int y102.1]) (S' := [.int 44, .ref 88]) (μ' := (am_S (am_row (am_row f 88 y106.1) 98 y106.2) g)) 2 rfl ?_
          obtain ⟨q107, hK⟩ := am_chk_e hKn hK
          refine am_F.call rfl rfl (x_m_sees 44 (am_row (am_row f 88 y106.1) 98 y106.2) g q107) (by first | decide | omega) ?_
          show am_F _ _ 83 [.ref 88, .int (y101 12), .int y80.1, .int y102.1] [.int (am_b (fn_m_sees 44 (am_row (am_row f 88 y106.1) 98 y106.2)))] (am_S (am_row (am_row f 88 y106.1) 98 y106.2) g) _
          refine am_F.bifK 1 rfl K hK (fun c109 hK => ?_) (fun c109 hK => ?_)
          · show am_F _ _ 4 [.ref 88, .int (y101 12), .int y80.1, .int y102.1] [] (am_S (am_row (am_row f 88 y106.1) 98 y106.2) g) _
            subst hKd
            exact ih y106.1 y106.2 (.int (y101 12)) (.int y80.1) (.int y102.1) hK
          · show am_F _ _ 86 [.ref 88, .int (y101 12), .int y80.1, .int y102.1] [] (am_S (am_row (am_row f 88 y106.1) 98 y106.2) g) _
            subst hKd
            exact hK (.int (y101 12)) (.int y80.1) (.int y102.1)
        · show am_F _ _ 62 [.ref 88, .int (y101 12), .int y80.1, .int y102.1] [] (am_S (am_row (am_row f 88 y102.2) 98 r4_98) g) _
          refine am_F.ops (pc' := 64) (L' := [.ref 88, .int (y101 12), .int y80.1, .int y102.1]) (S' := [.int (y101 12), .ref 88]) (μ' := (am_S (am_row (am_row f 88 y102.2) 98 r4_98) g)) 2 rfl ?_
          obtain ⟨y110, hy110⟩ : ∃ z, (fn_m_fails (y101 12) (am_row (am_row f 88 y102.2) 98 r4_98)) = z := ⟨_, rfl⟩
          (try rw [hy110] at hK)
          refine am_F.call rfl rfl (x_m_fails (y101 12) (am_row (am_row f 88 y102.2) 98 r4_98) g ) (by first | decide | omega) ?_
          (try rw [hy110])
          refine am_F.mem (F' := (am_row (am_row f 88 y110) 98 r4_98)) (G' := g) ?_ (by first | rfl | (funext a; by_cases z0 : a = 88; (subst z0; rfl); by_cases z1 : a = 98; (subst z1; rfl); simp only [am_ui, am_ul, am_row_ne z0, am_row_ne z1])) (by first | rfl | (funext a; by_cases z0 : a = 88; (subst z0; rfl); by_cases z1 : a = 98; (subst z1; rfl); simp only [am_ui, am_ul, am_row_ne z0, am_row_ne z1]))
          show am_F _ _ 67 [.ref 88, .int (y101 12), .int y80.1, .int y102.1] [] (am_S (am_row (am_row f 88 y110) 98 r4_98) g) _
          refine am_F.ops (pc' := 74) (L' := [.ref 88, .int (y101 12), .int y80.1, .int y102.1]) (S' := [.int ((100 * y80.1) + y102.1), .ref 88]) (μ' := (am_S (am_row (am_row f 88 y110) 98 r4_98) g)) 6 rfl ?_
          obtain ⟨q111, hK⟩ := am_chk_e hKn hK
          obtain ⟨y112, hy112⟩ : ∃ z, (fn_m_puts ((100 * y80.1) + y102.1) (am_row (am_row f 88 y110) 98 r4_98)) = z := ⟨_, rfl⟩
          (try rw [hy112] at hK)
          refine am_F.call rfl rfl (x_m_puts ((100 * y80.1) + y102.1) (am_row (am_row f 88 y110) 98 r4_98) g q111) (by first | decide | omega) ?_
          (try rw [hy112])
          refine am_F.mem (F' := (am_row (am_row f 88 y112.1) 98 y112.2)) (G' := g) ?_ (by first | rfl | (funext a; by_cases z0 : a = 88; (subst z0; rfl); by_cases z1 : a = 98; (subst z1; rfl); simp only [am_ui, am_ul, am_row_ne z0, am_row_ne z1])) (by first | rfl | (funext a; by_cases z0 : a = 88; (subst z0; rfl); by_cases z1 : a = 98; (subst z1; rfl); simp only [am_ui, am_ul, am_row_ne z0, am_row_ne z1]))
          show am_F _ _ 77 [.ref 88, .int (y101 12), .int y80.1, .int y102.1] [] (am_S (am_row (am_row f 88 y112.1) 98 y112.2) g) _
          refine am_F.ops (pc' := 80) (L' := [.ref 88, .int (y101 12), .int y80.1, .int y102.1]) (S' := [.int 44, .ref 88]) (μ' := (am_S (am_row (am_row f 88 y112.1) 98 y112.2) g)) 2 rfl ?_
          obtain ⟨q113, hK⟩ := am_chk_e hKn hK
          refine am_F.call rfl rfl (x_m_sees 44 (am_row (am_row f 88 y112.1) 98 y112.2) g q113) (by first | decide | omega) ?_
          show am_F _ _ 83 [.ref 88, .int (y101 12), .int y80.1, .int y102.1] [.int (am_b (fn_m_sees 44 (am_row (am_row f 88 y112.1) 98 y112.2)))] (am_S (am_row (am_row f 88 y112.1) 98 y112.2) g) _
          refine am_F.bifK 1 rfl K hK (fun c115 hK => ?_) (fun c115 hK => ?_)
          · show am_F _ _ 4 [.ref 88, .int (y101 12), .int y80.1, .int y102.1] [] (am_S (am_row (am_row f 88 y112.1) 98 y112.2) g) _
            subst hKd
            exact ih y112.1 y112.2 (.int (y101 12)) (.int y80.1) (.int y102.1) hK
          · show am_F _ _ 86 [.ref 88, .int (y101 12), .int y80.1, .int y102.1] [] (am_S (am_row (am_row f 88 y112.1) 98 y112.2) g) _
            subst hKd
            exact hK (.int (y101 12)) (.int y80.1) (.int y102.1)
    · show am_F _ _ 11 [.ref 88, w4_1, w4_2, w4_3] [] (am_S (am_row (am_row f 88 r4_88) 98 r4_98) g) _
      refine am_F.ops (pc' := 14) (L' := [.ref 88, w4_1, w4_2, w4_3]) (S' := [.int 44, .ref 88]) (μ' := (am_S (am_row (am_row f 88 r4_88) 98 r4_98) g)) 2 rfl ?_
      obtain ⟨q116, hK⟩ := am_chk_e hKn hK
      obtain ⟨y117, hy117⟩ : ∃ z, (fn_m_takes 44 (am_row (am_row f 88 r4_88) 98 r4_98)) = z := ⟨_, rfl⟩
      (try rw [hy117] at hK)
      refine am_F.call rfl rfl (x_m_takes 44 (am_row (am_row f 88 r4_88) 98 r4_98) g q116) (by first | decide | omega) ?_
      (try rw [hy117])
      refine am_F.mem (F' := (am_row (am_row f 88 y117) 98 r4_98)) (G' := g) ?_ (by first | rfl | (funext a; by_cases z0 : a = 88; (subst z0; rfl); by_cases z1 : a = 98; (subst z1; rfl); simp only [am_ui, am_ul, am_row_ne z0, am_row_ne z1])) (by first | rfl | (funext a; by_cases z0 : a = 88; (subst z0; rfl); by_cases z1 : a = 98; (subst z1; rfl); simp only [am_ui, am_ul, am_row_ne z0, am_row_ne z1]))
      show am_F _ _ 17 [.ref 88, w4_1, w4_2, w4_3] [] (am_S (am_row (am_row f 88 y117) 98 r4_98) g) _
      refine am_F.ops (pc' := 24) (L' := [.ref 88, .int (y117 12), w4_2, w4_3]) (S' := [.int 2, .ref 88]) (μ' := (am_S (am_row (am_row f 88 y117) 98 r4_98) g)) 5 rfl ?_
      obtain ⟨y118, hy118, hK⟩ := am_ob_e hKn hK
      refine am_F.call rfl rfl (x_m_figures 2 (am_row (am_row f 88 y117) 98 r4_98) g  y118 hy118) (by first | decide | omega) ?_
      refine am_F.mem (F' := (am_row (am_row f 88 y118.2) 98 r4_98)) (G' := g) ?_ (by first | rfl | (funext a; by_cases z0 : a = 88; (subst z0; rfl); by_cases z1 : a = 98; (subst z1; rfl); simp only [am_ui, am_ul, am_row_ne z0, am_row_ne z1])) (by first | rfl | (funext a; by_cases z0 : a = 88; (subst z0; rfl); by_cases z1 : a = 98; (subst z1; rfl); simp only [am_ui, am_ul, am_row_ne z0, am_row_ne z1]))
      show am_F _ _ 27 [.ref 88, .int (y117 12), w4_2, w4_3] [.int y118.1] (am_S (am_row (am_row f 88 y118.2) 98 r4_98) g) _
      refine am_F.ops (pc' := 31) (L' := [.ref 88, .int (y117 12), .int y118.1, w4_3]) (S' := [.int 20, .int y118.1]) (μ' := (am_S (am_row (am_row f 88 y118.2) 98 r4_98) g)) 3 rfl ?_
      refine am_F.iteK 1 rfl K hK (fun c120 hK => ?_) (fun c120 hK => ?_)
      · show am_F _ _ 39 [.ref 88, .int (y117 12), .int y118.1, w4_3] [] (am_S (am_row (am_row f 88 y118.2) 98 r4_98) g) _
        refine am_F.ops (pc' := 42) (L' := [.ref 88, .int (y117 12), .int y118.1, w4_3]) (S' := [.int 62, .ref 88]) (μ' := (am_S (am_row (am_row f 88 y118.2) 98 r4_98) g)) 2 rfl ?_
        obtain ⟨q121, hK⟩ := am_chk_e hKn hK
        obtain ⟨y122, hy122⟩ : ∃ z, (fn_m_takes 62 (am_row (am_row f 88 y118.2) 98 r4_98)) = z := ⟨_, rfl⟩
        (try rw [hy122] at hK)
        refine am_F.call rfl rfl (x_m_takes 62 (am_row (am_row f 88 y118.2) 98 r4_98) g q121) (by first | decide | omega) ?_
        (try rw [hy122])
        refine am_F.mem (F' := (am_row (am_row f 88 y122) 98 r4_98)) (G' := g) ?_ (by first | rfl | (funext a; by_cases z0 : a = 88; (subst z0; rfl); by_cases z1 : a = 98; (subst z1; rfl); simp only [am_ui, am_ul, am_row_ne z0, am_row_ne z1])) (by first | rfl | (funext a; by_cases z0 : a = 88; (subst z0; rfl); by_cases z1 : a = 98; (subst z1; rfl); simp only [am_ui, am_ul, am_row_ne z0, am_row_ne z1]))
        show am_F _ _ 45 [.ref 88, .int (y117 12), .int y118.1, w4_3] [] (am_S (am_row (am_row f 88 y122) 98 r4_98) g) _
        refine am_F.ops (pc' := 52) (L' := [.ref 88, .int (y122 12), .int y118.1, w4_3]) (S' := [.int 2, .ref 88]) (μ' := (am_S (am_row (am_row f 88 y122) 98 r4_98) g)) 5 rfl ?_
        obtain ⟨y123, hy123, hK⟩ := am_ob_e hKn hK
        refine am_F.call rfl rfl (x_m_figures 2 (am_row (am_row f 88 y122) 98 r4_98) g  y123 hy123) (by first | decide | omega) ?_
        refine am_F.mem (F' := (am_row (am_row f 88 y123.2) 98 r4_98)) (G' := g) ?_ (by first | rfl | (funext a; by_cases z0 : a = 88; (subst z0; rfl); by_cases z1 : a = 98; (subst z1; rfl); simp only [am_ui, am_ul, am_row_ne z0, am_row_ne z1])) (by first | rfl | (funext a; by_cases z0 : a = 88; (subst z0; rfl); by_cases z1 : a = 98; (subst z1; rfl); simp only [am_ui, am_ul, am_row_ne z0, am_row_ne z1]))
        show am_F _ _ 55 [.ref 88, .int (y122 12), .int y118.1, w4_3] [.int y123.1] (am_S (am_row (am_row f 88 y123.2) 98 r4_98) g) _
        refine am_F.ops (pc' := 59) (L' := [.ref 88, .int (y122 12), .int y118.1, .int y123.1]) (S' := [.int 20, .int y123.1]) (μ' := (am_S (am_row (am_row f 88 y123.2) 98 r4_98) g)) 3 rfl ?_
        refine am_F.iteK 1 rfl K hK (fun c125 hK => ?_) (fun c125 hK => ?_)
        · show am_F _ _ 67 [.ref 88, .int (y122 12), .int y118.1, .int y123.1] [] (am_S (am_row (am_row f 88 y123.2) 98 r4_98) g) _
          refine am_F.ops (pc' := 74) (L' := [.ref 88, .int (y122 12), .int y118.1, .int y123.1]) (S' := [.int ((100 * y118.1) + y123.1), .ref 88]) (μ' := (am_S (am_row (am_row f 88 y123.2) 98 r4_98) g)) 6 rfl ?_
          obtain ⟨q126, hK⟩ := am_chk_e hKn hK
          obtain ⟨y127, hy127⟩ : ∃ z, (fn_m_puts ((100 * y118.1) + y123.1) (am_row (am_row f 88 y123.2) 98 r4_98)) = z := ⟨_, rfl⟩
          (try rw [hy127] at hK)
          refine am_F.call rfl rfl (x_m_puts ((100 * y118.1) + y123.1) (am_row (am_row f 88 y123.2) 98 r4_98) g q126) (by first | decide | omega) ?_
          (try rw [hy127])
          refine am_F.mem (F' := (am_row (am_row f 88 y127.1) 98 y127.2)) (G' := g) ?_ (by first | rfl | (funext a; by_cases z0 : a = 88; (subst z0; rfl); by_cases z1 : a = 98; (subst z1; rfl); simp only [am_ui, am_ul, am_row_ne z0, am_row_ne z1])) (by first | rfl | (funext a; by_cases z0 : a = 88; (subst z0; rfl); by_cases z1 : a = 98; (subst z1; rfl); simp only [am_ui, am_ul, am_row_ne z0, am_row_ne z1]))
          show am_F _ _ 77 [.ref 88, .int (y122 12), .int y118.1, .int y123.1] [] (am_S (am_row (am_row f 88 y127.1) 98 y127.2) g) _
          refine am_F.ops (pc' := 80) (L' := [.ref 88, .int (y122 12), .int y118.1, .int y123.1]) (S' := [.int 44, .ref 88]) (μ' := (am_S (am_row (am_row f 88 y127.1) 98 y127.2) g)) 2 rfl ?_
          obtain ⟨q128, hK⟩ := am_chk_e hKn hK
          refine am_F.call rfl rfl (x_m_sees 44 (am_row (am_row f 88 y127.1) 98 y127.2) g q128) (by first | decide | omega) ?_
          show am_F _ _ 83 [.ref 88, .int (y122 12), .int y118.1, .int y123.1] [.int (am_b (fn_m_sees 44 (am_row (am_row f 88 y127.1) 98 y127.2)))] (am_S (am_row (am_row f 88 y127.1) 98 y127.2) g) _
          refine am_F.bifK 1 rfl K hK (fun c130 hK => ?_) (fun c130 hK => ?_)
          · show am_F _ _ 4 [.ref 88, .int (y122 12), .int y118.1, .int y123.1] [] (am_S (am_row (am_row f 88 y127.1) 98 y127.2) g) _
            subst hKd
            exact ih y127.1 y127.2 (.int (y122 12)) (.int y118.1) (.int y123.1) hK
          · show am_F _ _ 86 [.ref 88, .int (y122 12), .int y118.1, .int y123.1] [] (am_S (am_row (am_row f 88 y127.1) 98 y127.2) g) _
            subst hKd
            exact hK (.int (y122 12)) (.int y118.1) (.int y123.1)
        · show am_F _ _ 62 [.ref 88, .int (y122 12), .int y118.1, .int y123.1] [] (am_S (am_row (am_row f 88 y123.2) 98 r4_98) g) _
          refine am_F.ops (pc' := 64) (L' := [.ref 88, .int (y122 12), .int y118.1, .int y123.1]) (S' := [.int (y122 12), .ref 88]) (μ' := (am_S (am_row (am_row f 88 y123.2) 98 r4_98) g)) 2 rfl ?_
          obtain ⟨y131, hy131⟩ : ∃ z, (fn_m_fails (y122 12) (am_row (am_row f 88 y123.2) 98 r4_98)) = z := ⟨_, rfl⟩
          (try rw [hy131] at hK)
          refine am_F.call rfl rfl (x_m_fails (y122 12) (am_row (am_row f 88 y123.2) 98 r4_98) g ) (by first | decide | omega) ?_
          (try rw [hy131])
          refine am_F.mem (F' := (am_row (am_row f 88 y131) 98 r4_98)) (G' := g) ?_ (by first | rfl | (funext a; by_cases z0 : a = 88; (subst z0; rfl); by_cases z1 : a = 98; (subst z1; rfl); simp only [am_ui, am_ul, am_row_ne z0, am_row_ne z1])) (by first | rfl | (funext a; by_cases z0 : a = 88; (subst z0; rfl); by_cases z1 : a = 98; (subst z1; rfl); simp only [am_ui, am_ul, am_row_ne z0, am_row_ne z1]))
          show am_F _ _ 67 [.ref 88, .int (y122 12), .int y118.1, .int y123.1] [] (am_S (am_row (am_row f 88 y131) 98 r4_98) g) _
          refine am_F.ops (pc' := 74) (L' := [.ref 88, .int (y122 12), .int y118.1, .int y123.1]) (S' := [.int ((100 * y118.1) + y123.1), .ref 88]) (μ' := (am_S (am_row (am_row f 88 y131) 98 r4_98) g)) 6 rfl ?_
          obtain ⟨q132, hK⟩ := am_chk_e hKn hK
          obtain ⟨y133, hy133⟩ : ∃ z, (fn_m_puts ((100 * y118.1) + y123.1) (am_row (am_row f 88 y131) 98 r4_98)) = z := ⟨_, rfl⟩
          (try rw [hy133] at hK)
          refine am_F.call rfl rfl (x_m_puts ((100 * y118.1) + y123.1) (am_row (am_row f 88 y131) 98 r4_98) g q132) (by first | decide | omega) ?_
          (try rw [hy133])
          refine am_F.mem (F' := (am_row (am_row f 88 y133.1) 98 y133.2)) (G' := g) ?_ (by first | rfl | (funext a; by_cases z0 : a = 88; (subst z0; rfl); by_cases z1 : a = 98; (subst z1; rfl); simp only [am_ui, am_ul, am_row_ne z0, am_row_ne z1])) (by first | rfl | (funext a; by_cases z0 : a = 88; (subst z0; rfl); by_cases z1 : a = 98; (subst z1; rfl); simp only [am_ui, am_ul, am_row_ne z0, am_row_ne z1]))
          show am_F _ _ 77 [.ref 88, .int (y122 12), .int y118.1, .int y123.1] [] (am_S (am_row (am_row f 88 y133.1) 98 y133.2) g) _
          refine am_F.ops (pc' := 80) (L' := [.ref 88, .int (y122 12), .int y118.1, .int y123.1]) (S' := [.int 44, .ref 88]) (μ' := (am_S (am_row (am_row f 88 y133.1) 98 y133.2) g)) 2 rfl ?_
          obtain ⟨q134, hK⟩ := am_chk_e hKn hK
          refine am_F.call rfl rfl (x_m_sees 44 (am_row (am_row f 88 y133.1) 98 y133.2) g q134) (by first | decide | omega) ?_
          show am_F _ _ 83 [.ref 88, .int (y122 12), .int y118.1, .int y123.1] [.int (am_b (fn_m_sees 44 (am_row (am_row f 88 y133.1) 98 y133.2)))] (am_S (am_row (am_row f 88 y133.1) 98 y133.2) g) _
          refine am_F.bifK 1 rfl K hK (fun c136 hK => ?_) (fun c136 hK => ?_)
          · show am_F _ _ 4 [.ref 88, .int (y122 12), .int y118.1, .int y123.1] [] (am_S (am_row (am_row f 88 y133.1) 98 y133.2) g) _
            subst hKd
            exact ih y133.1 y133.2 (.int (y122 12)) (.int y118.1) (.int y123.1) hK
          · show am_F _ _ 86 [.ref 88, .int (y122 12), .int y118.1, .int y123.1] [] (am_S (am_row (am_row f 88 y133.1) 98 y133.2) g) _
            subst hKd
            exact hK (.int (y122 12)) (.int y118.1) (.int y123.1)
      · show am_F _ _ 34 [.ref 88, .int (y117 12), .int y118.1, w4_3] [] (am_S (am_row (am_row f 88 y118.2) 98 r4_98) g) _
        refine am_F.ops (pc' := 36) (L' := [.ref 88, .int (y117 12), .int y118.1, w4_3]) (S' := [.int (y117 12), .ref 88]) (μ' := (am_S (am_row (am_row f 88 y118.2) 98 r4_98) g)) 2 rfl ?_
        obtain ⟨y137, hy137⟩ : ∃ z, (fn_m_fails (y117 12) (am_row (am_row f 88 y118.2) 98 r4_98)) = z := ⟨_, rfl⟩
        (try rw [hy137] at hK)
        refine am_F.call rfl rfl (x_m_fails (y117 12) (am_row (am_row f 88 y118.2) 98 r4_98) g ) (by first | decide | omega) ?_
        (try rw [hy137])
        refine am_F.mem (F' := (am_row (am_row f 88 y137) 98 r4_98)) (G' := g) ?_ (by first | rfl | (funext a; by_cases z0 : a = 88; (subst z0; rfl); by_cases z1 : a = 98; (subst z1; rfl); simp only [am_ui, am_ul, am_row_ne z0, am_row_ne z1])) (by first | rfl | (funext a; by_cases z0 : a = 88; (subst z0; rfl); by_cases z1 : a = 98; (subst z1; rfl); simp only [am_ui, am_ul, am_row_ne z0, am_row_ne z1]))
        show am_F _ _ 39 [.ref 88, .int (y117 12), .int y118.1, w4_3] [] (am_S (am_row (am_row f 88 y137) 98 r4_98) g) _
        refine am_F.ops (pc' := 42) (L' := [.ref 88, .int (y117 12), .int y118.1, w4_3]) (S' := [.int 62, .ref 88]) (μ' := (am_S (am_row (am_row f 88 y137) 98 r4_98) g)) 2 rfl ?_
        obtain ⟨q138, hK⟩ := am_chk_e hKn hK
        obtain ⟨y139, hy139⟩ : ∃ z, (fn_m_takes 62 (am_row (am_row f 88 y137) 98 r4_98)) = z := ⟨_, rfl⟩
        (try rw [hy139] at hK)
        refine am_F.call rfl rfl (x_m_takes 62 (am_row (am_row f 88 y137) 98 r4_98) g q138) (by first | decide | omega) ?_
        (try rw [hy139])
        refine am_F.mem (F' := (am_row (am_row f 88 y139) 98 r4_98)) (G' := g) ?_ (by first | rfl | (funext a; by_cases z0 : a = 88; (subst z0; rfl); by_cases z1 : a = 98; (subst z1; rfl); simp only [am_ui, am_ul, am_row_ne z0, am_row_ne z1])) (by first | rfl | (funext a; by_cases z0 : a = 88; (subst z0; rfl); by_cases z1 : a = 98; (subst z1; rfl); simp only [am_ui, am_ul, am_row_ne z0, am_row_ne z1]))
        show am_F _ _ 45 [.ref 88, .int (y117 12), .int y118.1, w4_3] [] (am_S (am_row (am_row f 88 y139) 98 r4_98) g) _
        refine am_F.ops (pc' := 52) (L' := [.ref 88, .int (y139 12), .int y118.1, w4_3]) (S' := [.int 2, .ref 88]) (μ' := (am_S (am_row (am_row f 88 y139) 98 r4_98) g)) 5 rfl ?_
        obtain ⟨y140, hy140, hK⟩ := am_ob_e hKn hK
        refine am_F.call rfl rfl (x_m_figures 2 (am_row (am_row f 88 y139) 98 r4_98) g  y140 hy140) (by first | decide | omega) ?_
        refine am_F.mem (F' := (am_row (am_row f 88 y140.2) 98 r4_98)) (G' := g) ?_ (by first | rfl | (funext a; by_cases z0 : a = 88; (subst z0; rfl); by_cases z1 : a = 98; (subst z1; rfl); simp only [am_ui, am_ul, am_row_ne z0, am_row_ne z1])) (by first | rfl | (funext a; by_cases z0 : a = 88; (subst z0; rfl); by_cases z1 : a = 98; (subst z1; rfl); simp only [am_ui, am_ul, am_row_ne z0, am_row_ne z1]))
        show am_F _ _ 55 [.ref 88, .int (y139 12), .int y118.1, w4_3] [.int y140.1] (am_S (am_row (am_row f 88 y140.2) 98 r4_98) g) _
        refine am_F.ops (pc' := 59) (L' := [.ref 88, .int (y139 12), .int y118.1, .int y140.1]) (S' := [.int 20, .int y140.1]) (μ' := (am_S (am_row (am_row f 88 y140.2) 98 r4_98) g)) 3 rfl ?_
        refine am_F.iteK 1 rfl K hK (fun c142 hK => ?_) (fun c142 hK => ?_)
        · show am_F _ _ 67 [.ref 88, .int (y139 12), .int y118.1, .int y140.1] [] (am_S (am_row (am_row f 88 y140.2) 98 r4_98) g) _
          refine am_F.ops (pc' := 74) (L' := [.ref 88, .int (y139 12), .int y118.1, .int y140.1]) (S' := [.int ((100 * y118.1) + y140.1), .ref 88]) (μ' := (am_S (am_row (am_row f 88 y140.2) 98 r4_98) g)) 6 rfl ?_
          obtain ⟨q143, hK⟩ := am_chk_e hKn hK
          obtain ⟨y144, hy144⟩ : ∃ z, (fn_m_puts ((100 * y118.1) + y140.1) (am_row (am_row f 88 y140.2) 98 r4_98)) = z := ⟨_, rfl⟩
          (try rw [hy144] at hK)
          refine am_F.call rfl rfl (x_m_puts ((100 * y118.1) + y140.1) (am_row (am_row f 88 y140.2) 98 r4_98) g q143) (by first | decide | omega) ?_
          (try rw [hy144])
          refine am_F.mem (F' := (am_row (am_row f 88 y144.1) 98 y144.2)) (G' := g) ?_ (by first | rfl | (funext a; by_cases z0 : a = 88; (subst z0; rfl); by_cases z1 : a = 98; (subst z1; rfl); simp only [am_ui, am_ul, am_row_ne z0, am_row_ne z1])) (by first | rfl | (funext a; by_cases z0 : a = 88; (subst z0; rfl); by_cases z1 : a = 98; (subst z1; rfl); simp only [am_ui, am_ul, am_row_ne z0, am_row_ne z1]))
          show am_F _ _ 77 [.ref 88, .int (y139 12), .int y118.1, .int y140.1] [] (am_S (am_row (am_row f 88 y144.1) 98 y144.2) g) _
          refine am_F.ops (pc' := 80) (L' := [.ref 88, .int (y139 12), .int y118.1, .int y140.1]) (S' := [.int 44, .ref 88]) (μ' := (am_S (am_row (am_row f 88 y144.1) 98 y144.2) g)) 2 rfl ?_
          obtain ⟨q145, hK⟩ := am_chk_e hKn hK
          refine am_F.call rfl rfl (x_m_sees 44 (am_row (am_row f 88 y144.1) 98 y144.2) g q145) (by first | decide | omega) ?_
          show am_F _ _ 83 [.ref 88, .int (y139 12), .int y118.1, .int y140.1] [.int (am_b (fn_m_sees 44 (am_row (am_row f 88 y144.1) 98 y144.2)))] (am_S (am_row (am_row f 88 y144.1) 98 y144.2) g) _
          refine am_F.bifK 1 rfl K hK (fun c147 hK => ?_) (fun c147 hK => ?_)
          · show am_F _ _ 4 [.ref 88, .int (y139 12), .int y118.1, .int y140.1] [] (am_S (am_row (am_row f 88 y144.1) 98 y144.2) g) _
            subst hKd
            exact ih y144.1 y144.2 (.int (y139 12)) (.int y118.1) (.int y140.1) hK
          · show am_F _ _ 86 [.ref 88, .int (y139 12), .int y118.1, .int y140.1] [] (am_S (am_row (am_row f 88 y144.1) 98 y144.2) g) _
            subst hKd
            exact hK (.int (y139 12)) (.int y118.1) (.int y140.1)
        · show am_F _ _ 62 [.ref 88, .int (y139 12), .int y118.1, .int y140.1] [] (am_S (am_row (am_row f 88 y140.2) 98 r4_98) g) _
          refine am_F.ops (pc' := 64) (L' := [.ref 88, .int (y139 12), .int y118.1, .int y140.1]) (S' := [.int (y139 12), .ref 88]) (μ' := (am_S (am_row (am_row f 88 y140.2) 98 r4_98) g)) 2 rfl ?_
          obtain ⟨y148, hy148⟩ : ∃ z, (fn_m_fails (y139 12) (am_row (am_row f 88 y140.2) 98 r4_98)) = z := ⟨_, rfl⟩
          (try rw [hy148] at hK)
          refine am_F.call rfl rfl (x_m_fails (y139 12) (am_row (am_row f 88 y140.2) 98 r4_98) g ) (by first | decide | omega) ?_
          (try rw [hy148])
          refine am_F.mem (F' := (am_row (am_row f 88 y148) 98 r4_98)) (G' := g) ?_ (by first | rfl | (funext a; by_cases z0 : a = 88; (subst z0; rfl); by_cases z1 : a = 98; (subst z1; rfl); simp only [am_ui, am_ul, am_row_ne z0, am_row_ne z1])) (by first | rfl | (funext a; by_cases z0 : a = 88; (subst z0; rfl); by_cases z1 : a = 98; (subst z1; rfl); simp only [am_ui, am_ul, am_row_ne z0, am_row_ne z1]))
          show am_F _ _ 67 [.ref 88, .int (y139 12), .int y118.1, .int y140.1] [] (am_S (am_row (am_row f 88 y148) 98 r4_98) g) _
          refine am_F.ops (pc' := 74) (L' := [.ref 88, .int (y139 12), .int y118.1, .int y140.1]) (S' := [.int ((100 * y118.1) + y140.1), .ref 88]) (μ' := (am_S (am_row (am_row f 88 y148) 98 r4_98) g)) 6 rfl ?_
          obtain ⟨q149, hK⟩ := am_chk_e hKn hK
          obtain ⟨y150, hy150⟩ : ∃ z, (fn_m_puts ((100 * y118.1) + y140.1) (am_row (am_row f 88 y148) 98 r4_98)) = z := ⟨_, rfl⟩
          (try rw [hy150] at hK)
          refine am_F.call rfl rfl (x_m_puts ((100 * y118.1) + y140.1) (am_row (am_row f 88 y148) 98 r4_98) g q149) (by first | decide | omega) ?_
          (try rw [hy150])
          refine am_F.mem (F' := (am_row (am_row f 88 y150.1) 98 y150.2)) (G' := g) ?_ (by first | rfl | (funext a; by_cases z0 : a = 88; (subst z0; rfl); by_cases z1 : a = 98; (subst z1; rfl); simp only [am_ui, am_ul, am_row_ne z0, am_row_ne z1])) (by first | rfl | (funext a; by_cases z0 : a = 88; (subst z0; rfl); by_cases z1 : a = 98; (subst z1; rfl); simp only [am_ui, am_ul, am_row_ne z0, am_row_ne z1]))
          show am_F _ _ 77 [.ref 88, .int (y139 12), .int y118.1, .int y140.1] [] (am_S (am_row (am_row f 88 y150.1) 98 y150.2) g) _
          refine am_F.ops (pc' := 80) (L' := [.ref 88, .int (y139 12), .int y118.1, .int y140.1]) (S' := [.int 44, .ref 88]) (μ' := (am_S (am_row (am_row f 88 y150.1) 98 y150.2) g)) 2 rfl ?_
          obtain ⟨q151, hK⟩ := am_chk_e hKn hK
          refine am_F.call rfl rfl (x_m_sees 44 (am_row (am_row f 88 y150.1) 98 y150.2) g q151) (by first | decide | omega) ?_
          show am_F _ _ 83 [.ref 88, .int (y139 12), .int y118.1, .int y140.1] [.int (am_b (fn_m_sees 44 (am_row (am_row f 88 y150.1) 98 y150.2)))] (am_S (am_row (am_row f 88 y150.1) 98 y150.2) g) _
          refine am_F.bifK 1 rfl K hK (fun c153 hK => ?_) (fun c153 hK => ?_)
          · show am_F _ _ 4 [.ref 88, .int (y139 12), .int y118.1, .int y140.1] [] (am_S (am_row (am_row f 88 y150.1) 98 y150.2) g) _
            subst hKd
            exact ih y150.1 y150.2 (.int (y139 12)) (.int y118.1) (.int y140.1) hK
          · show am_F _ _ 86 [.ref 88, .int (y139 12), .int y118.1, .int y140.1] [] (am_S (am_row (am_row f 88 y150.1) 98 y150.2) g) _
            subst hKd
            exact hK (.int (y139 12)) (.int y118.1) (.int y140.1)
theorem lp_m_seniors_127 (f : Nat → Nat → Int32) (g : Nat → Nat → Int64) (y1 : (Nat → Int32)) (z4 : (Nat → Int32) × (Nat → Int32)) (w4_1 : Value) (w4_2 : Value) (w4_3 : Value)  (res : Option Value × am_M) : ∀ (n : Nat) (a127_1 : Int32) (r127_89 : Nat → Int32) (r127_92 : Nat → Int32) (r127_93 : Nat → Int32) (r127_94 : Nat → Int32) (r127_96 : Nat → Int32), am_KO (am_KX (fun (z : Int32 × (Nat → Int32) × (Nat → Int32) × (Nat → Int32) × (Nat → Int32) × (Nat → Int32)) => am_F 6 am_k_195 167 [.ref 88, .int z.1, w4_2, w4_3] [] (am_S (am_row (am_row (am_row (am_row (am_row (am_row (am_row f 88 (upd z4.1 11 0)) 89 z.2.1) 92 z.2.2.1) 93 z.2.2.2.1) 94 z.2.2.2.2.1) 96 z.2.2.2.2.2) 98 z4.2) g) res) (fun (z : Empty) => True)) (am_wh (st_m_seniors_127 f z4) n (a127_1, r127_89, r127_92, r127_93, r127_94, r127_96)) → am_F 6 am_k_195 127 [.ref 88, .int a127_1, w4_2, w4_3] [] (am_S (am_row (am_row (am_row (am_row (am_row (am_row (am_row f 88 (upd z4.1 11 0)) 89 r127_89) 92 r127_92) 93 r127_93) 94 r127_94) 96 r127_96) 98 z4.2) g) res := by
  intro n
  induction n with
  | zero =>
    intro a127_1 r127_89 r127_92 r127_93 r127_94 r127_96 hK
    exact False.elim hK
  | succ n ih =>
    intro a127_1 r127_89 r127_92 r127_93 r127_94 r127_96 hK
    obtain ⟨K, hKd⟩ : ∃ K : Option (Int32 × (Nat → Int32) × (Nat → Int32) × (Nat → Int32) × (Nat → Int32) × (Nat → Int32) ⊕ (Int32 × (Nat → Int32) × (Nat → Int32) × (Nat → Int32) × (Nat → Int32) × (Nat → Int32) ⊕ Empty)) → Prop, K = fun s => am_KO (am_KX (fun (z : Int32 × (Nat → Int32) × (Nat → Int32) × (Nat → Int32) × (Nat → Int32) × (Nat → Int32)) => am_F 6 am_k_195 167 [.ref 88, .int z.1, w4_2, w4_3] [] (am_S (am_row (am_row (am_row (am_row (am_row (am_row (am_row f 88 (upd z4.1 11 0)) 89 z.2.1) 92 z.2.2.1) 93 z.2.2.2.1) 94 z.2.2.2.2.1) 96 z.2.2.2.2.2) 98 z4.2) g) res) (fun (z : Empty) => True)) (am_whn (am_wh (st_m_seniors_127 f z4) n) s) := ⟨_, rfl⟩
    have hK : K ((st_m_seniors_127 f z4) (a127_1, r127_89, r127_92, r127_93, r127_94, r127_96)) := by rw [am_wh_s] at hK; rw [hKd]; with_reducible exact hK
    have hKn : ¬ K none := by rw [hKd]; exact id
    unfold st_m_seniors_127 at hK
    simp only at hK
    refine am_F.ops (pc' := 132) (L' := [.ref 88, .int a127_1, w4_2, w4_3]) (S' := [.int (z4.1 15), .int a127_1]) (μ' := (am_S (am_row (am_row (am_row (am_row (am_row (am_row (am_row f 88 (upd z4.1 11 0)) 89 r127_89) 92 r127_92) 93 r127_93) 94 r127_94) 96 r127_96) 98 z4.2) g)) 3 rfl ?_
    refine am_F.iteK 1 rfl K hK (fun c161 hK => ?_) (fun c161 hK => ?_)
    · show am_F _ _ 167 [.ref 88, .int a127_1, w4_2, w4_3] [] (am_S (am_row (am_row (am_row (am_row (am_row (am_row (am_row f 88 (upd z4.1 11 0)) 89 r127_89) 92 r127_92) 93 r127_93) 94 r127_94) 96 r127_96) 98 z4.2) g) _
      subst hKd
      exact hK 
    · show am_F _ _ 135 [.ref 88, .int a127_1, w4_2, w4_3] [] (am_S (am_row (am_row (am_row (am_row (am_row (am_row (am_row f 88 (upd z4.1 11 0)) 89 r127_89) 92 r127_92) 93 r127_93) 94 r127_94) 96 r127_96) 98 z4.2) g) _
      refine am_F.ops (pc' := 141) (L' := [.ref 88, .int a127_1, w4_2, w4_3]) (S' := [.int a127_1, .ref 98, .ref 88]) (μ' := (am_S (am_row (am_row (am_row (am_row (am_row (am_row (am_row f 88 (upd z4.1 11 0)) 89 r127_89) 92 r127_92) 93 r127_93) 94 r127_94) 96 r127_96) 98 z4.2) g)) 4 rfl ?_
      obtain ⟨q162, hK⟩ := am_chk_e hKn hK
      refine am_F.ial (N := 81) rfl rfl rfl q162 ?_
      show am_F _ _ 142 [.ref 88, .int a127_1, w4_2, w4_3] [.int (z4.2 a127_1.toNatClampNeg), .ref 88] (am_S (am_row (am_row (am_row (am_row (am_row (am_row (am_row f 88 (upd z4.1 11 0)) 89 r127_89) 92 r127_92) 93 r127_93) 94 r127_94) 96 r127_96) 98 z4.2) g) _
      refine am_F.ops (pc' := 150) (L' := [.ref 88, .int a127_1, w4_2, w4_3]) (S' := [.int a127_1, .ref 98, .int ((z4.2 a127_1.toNatClampNeg) / 100), .ref 88]) (μ' := (am_S (am_row (am_row (am_row (am_row (am_row (am_row (am_row f 88 (upd z4.1 11 0)) 89 r127_89) 92 r127_92) 93 r127_93) 94 r127_94) 96 r127_96) 98 z4.2) g)) 5 rfl ?_
      refine am_F.ial (N := 81) rfl rfl rfl q162 ?_
      show am_F _ _ 151 [.ref 88, .int a127_1, w4_2, w4_3] [.int (z4.2 a127_1.toNatClampNeg), .int ((z4.2 a127_1.toNatClampNeg) / 100), .ref 88] (am_S (am_row (am_row (am_row (am_row (am_row (am_row (am_row f 88 (upd z4.1 11 0)) 89 r127_89) 92 r127_92) 93 r127_93) 94 r127_94) 96 r127_96) 98 z4.2) g) _
      refine am_F.ops (pc' := 155) (L' := [.ref 88, .int a127_1, w4_2, w4_3]) (S' := [.int 1, .int ((z4.2 a127_1.toNatClampNeg) - (z4.2 a127_1.toNatClampNeg) / 100 * 100), .int ((z4.2 a127_1.toNatClampNeg) / 100), .ref 88]) (μ' := (am_S (am_row (am_row (am_row (am_row (am_row (am_row (am_row f 88 (upd z4.1 11 0)) 89 r127_89) 92 r127_92) 93 r127_93) 94 r127_94) 96 r127_96) 98 z4.2) g)) 3 rfl ?_
      obtain ⟨y163, hy163, hK⟩ := am_ob_e hKn hK
      refine am_F.call rfl rfl (x_m_senior ((z4.2 a127_1.toNatClampNeg) / 100) ((z4.2 a127_1.toNatClampNeg) - (z4.2 a127_1.toNatClampNeg) / 100 * 100) 1 (am_row (am_row (am_row (am_row (am_row (am_row (am_row f 88 (upd z4.1 11 0)) 89 r127_89) 92 r127_92) 93 r127_93) 94 r127_94) 96 r127_96) 98 z4.2) g  y163 hy163) (by first | decide | omega) ?_
      refine am_F.mem (F' := (am_row (am_row (am_row (am_row (am_row (am_row (am_row f 88 (upd z4.1 11 0)) 89 y163.2.1) 92 y163.2.2.1) 93 y163.2.2.2.1) 94 y163.2.2.2.2.1) 96 y163.2.2.2.2.2) 98 z4.2)) (G' := g) ?_ (by first | rfl | (funext a; by_cases z0 : a = 88; (subst z0; rfl); by_cases z1 : a = 89; (subst z1; rfl); by_cases z2 : a = 92; (subst z2; rfl); by_cases z3 : a = 93; (subst z3; rfl); by_cases z4 : a = 94; (subst z4; rfl); by_cases z5 : a = 96; (subst z5; rfl); by_cases z6 : a = 98; (subst z6; rfl); simp only [am_ui, am_ul, am_row_ne z0, am_row_ne z1, am_row_ne z2, am_row_ne z3, am_row_ne z4, am_row_ne z5, am_row_ne z6])) (by first | rfl | (funext a; by_cases z0 : a = 88; (subst z0; rfl); by_cases z1 : a = 89; (subst z1; rfl); by_cases z2 : a = 92; (subst z2; rfl); by_cases z3 : a = 93; (subst z3; rfl); by_cases z4 : a = 94; (subst z4; rfl); by_cases z5 : a = 96; (subst z5; rfl); by_cases z6 : a = 98; (subst z6; rfl); simp only [am_ui, am_ul, am_row_ne z0, am_row_ne z1, am_row_ne z2, am_row_ne z3, am_row_ne z4, am_row_ne z5, am_row_ne z6]))
      show am_F _ _ 158 [.ref 88, .int a127_1, w4_2, w4_3] [.int y163.1] (am_S (am_row (am_row (am_row (am_row (am_row (am_row (am_row f 88 (upd z4.1 11 0)) 89 y163.2.1) 92 y163.2.2.1) 93 y163.2.2.2.1) 94 y163.2.2.2.2.1) 96 y163.2.2.2.2.2) 98 z4.2) g) _
      refine am_F.iteK 1 rfl K hK (fun c164 hK => ?_) (fun c164 hK => ?_)
      · show am_F _ _ 167 [.ref 88, .int a127_1, w4_2, w4_3] [] (am_S (am_row (am_row (am_row (am_row (am_row (am_row (am_row f 88 (upd z4.1 11 0)) 89 y163.2.1) 92 y163.2.2.1) 93 y163.2.2.2.1) 94 y163.2.2.2.2.1) 96 y163.2.2.2.2.2) 98 z4.2) g) _
        subst hKd
        exact hK 
      · show am_F _ _ 161 [.ref 88, .int a127_1, w4_2, w4_3] [] (am_S (am_row (am_row (am_row (am_row (am_row (am_row (am_row f 88 (upd z4.1 11 0)) 89 y163.2.1) 92 y163.2.2.1) 93 y163.2.2.2.1) 94 y163.2.2.2.2.1) 96 y163.2.2.2.2.2) 98 z4.2) g) _
        refine am_F.ops (pc' := 127) (L' := [.ref 88, .int (a127_1 + 1), w4_2, w4_3]) (S' := []) (μ' := (am_S (am_row (am_row (am_row (am_row (am_row (am_row (am_row f 88 (upd z4.1 11 0)) 89 y163.2.1) 92 y163.2.2.1) 93 y163.2.2.2.1) 94 y163.2.2.2.2.1) 96 y163.2.2.2.2.2) 98 z4.2) g)) 2 rfl ?_
        subst hKd
        exact ih (a127_1 + 1) y163.2.1 y163.2.2.1 y163.2.2.2.1 y163.2.2.2.2.1 y163.2.2.2.2.2 hK
theorem lp_m_seniors_127_175 (f : Nat → Nat → Int32) (g : Nat → Nat → Int64) (y1 : (Nat → Int32)) (z4 : (Nat → Int32) × (Nat → Int32)) (w4_1 : Value) (w4_2 : Value) (w4_3 : Value) (y165 : (Nat → Int32))  (res : Option Value × am_M) : ∀ (n : Nat) (a127_1 : Int32) (r127_89 : Nat → Int32) (r127_92 : Nat → Int32) (r127_93 : Nat → Int32) (r127_94 : Nat → Int32) (r127_96 : Nat → Int32), am_KO (am_KX (fun (z : Int32 × (Nat → Int32) × (Nat → Int32) × (Nat → Int32) × (Nat → Int32) × (Nat → Int32)) => am_F 6 am_k_195 167 [.ref 88, .int z.1, w4_2, w4_3] [] (am_S (am_row (am_row (am_row (am_row (am_row (am_row (am_row f 88 (upd y165 11 0)) 89 z.2.1) 92 z.2.2.1) 93 z.2.2.2.1) 94 z.2.2.2.2.1) 96 z.2.2.2.2.2) 98 z4.2) g) res) (fun (z : Empty) => True)) (am_wh (st_m_seniors_127_175 f z4 y165) n (a127_1, r127_89, r127_92, r127_93, r127_94, r127_96)) → am_F 6 am_k_195 127 [.ref 88, .int a127_1, w4_2, w4_3] [] (am_S (am_row (am_row (am_row (am_row (am_row (am_row (am_row f 88 (upd y165 11 0)) 89 r127_89) 92 r127_92) 93 r127_93) 94 r127_94) 96 r127_96) 98 z4.2) g) res := by
  intro n
  induction n with
  | zero =>
    intro a127_1 r127_89 r127_92 r127_93 r127_94 r127_96 hK
    exact False.elim hK
  | succ n ih =>
    intro a127_1 r127_89 r127_92 r127_93 r127_94 r127_96 hK
    obtain ⟨K, hKd⟩ : ∃ K : Option (Int32 × (Nat → Int32) × (Nat → Int32) × (Nat → Int32) × (Nat → Int32) × (Nat → Int32) ⊕ (Int32 × (Nat → Int32) × (Nat → Int32) × (Nat → Int32) × (Nat → Int32) × (Nat → Int32) ⊕ Empty)) → Prop, K = fun s => am_KO (am_KX (fun (z : Int32 × (Nat → Int32) × (Nat → Int32) × (Nat → Int32) × (Nat → Int32) × (Nat → Int32)) => am_F 6 am_k_195 167 [.ref 88, .int z.1, w4_2, w4_3] [] (am_S (am_row (am_row (am_row (am_row (am_row (am_row (am_row f 88 (upd y165 11 0)) 89 z.2.1) 92 z.2.2.1) 93 z.2.2.2.1) 94 z.2.2.2.2.1) 96 z.2.2.2.2.2) 98 z4.2) g) res) (fun (z : Empty) => True)) (am_whn (am_wh (st_m_seniors_127_175 f z4 y165) n) s) := ⟨_, rfl⟩
    have hK : K ((st_m_seniors_127_175 f z4 y165) (a127_1, r127_89, r127_92, r127_93, r127_94, r127_96)) := by rw [am_wh_s] at hK; rw [hKd]; with_reducible exact hK
    have hKn : ¬ K none := by rw [hKd]; exact id
    unfold st_m_seniors_127_175 at hK
    simp only at hK
    refine am_F.ops (pc' := 132) (L' := [.ref 88, .int a127_1, w4_2, w4_3]) (S' := [.int (y165 15), .int a127_1]) (μ' := (am_S (am_row (am_row (am_row (am_row (am_row (am_row (am_row f 88 (upd y165 11 0)) 89 r127_89) 92 r127_92) 93 r127_93) 94 r127_94) 96 r127_96) 98 z4.2) g)) 3 rfl ?_
    refine am_F.iteK 1 rfl K hK (fun c171 hK => ?_) (fun c171 hK => ?_)
    · show am_F _ _ 167 [.ref 88, .int a127_1, w4_2, w4_3] [] (am_S (am_row (am_row (am_row (am_row (am_row (am_row (am_row f 88 (upd y165 11 0)) 89 r127_89) 92 r127_92) 93 r127_93) 94 r127_94) 96 r127_96) 98 z4.2) g) _
      subst hKd
      exact hK 
    · show am_F _ _ 135 [.ref 88, .int a127_1, w4_2, w4_3] [] (am_S (am_row (am_row (am_row (am_row (am_row (am_row (am_row f 88 (upd y165 11 0)) 89 r127_89) 92 r127_92) 93 r127_93) 94 r127_94) 96 r127_96) 98 z4.2) g) _
      refine am_F.ops (pc' := 141) (L' := [.ref 88, .int a127_1, w4_2, w4_3]) (S' := [.int a127_1, .ref 98, .ref 88]) (μ' := (am_S (am_row (am_row (am_row (am_row (am_row (am_row (am_row f 88 (upd y165 11 0)) 89 r127_89) 92 r127_92) 93 r127_93) 94 r127_94) 96 r127_96) 98 z4.2) g)) 4 rfl ?_
      obtain ⟨q172, hK⟩ := am_chk_e hKn hK
      refine am_F.ial (N := 81) rfl rfl rfl q172 ?_
      show am_F _ _ 142 [.ref 88, .int a127_1, w4_2, w4_3] [.int (z4.2 a127_1.toNatClampNeg), .ref 88] (am_S (am_row (am_row (am_row (am_row (am_row (am_row (am_row f 88 (upd y165 11 0)) 89 r127_89) 92 r127_92) 93 r127_93) 94 r127_94) 96 r127_96) 98 z4.2) g) _
      refine am_F.ops (pc' := 150) (L' := [.ref 88, .int a127_1, w4_2, w4_3]) (S' := [.int a127_1, .ref 98, .int ((z4.2 a127_1.toNatClampNeg) / 100), .ref 88]) (μ' := (am_S (am_row (am_row (am_row (am_row (am_row (am_row (am_row f 88 (upd y165 11 0)) 89 r127_89) 92 r127_92) 93 r127_93) 94 r127_94) 96 r127_96) 98 z4.2) g)) 5 rfl ?_
      refine am_F.ial (N := 81) rfl rfl rfl q172 ?_
      show am_F _ _ 151 [.ref 88, .int a127_1, w4_2, w4_3] [.int (z4.2 a127_1.toNatClampNeg), .int ((z4.2 a127_1.toNatClampNeg) / 100), .ref 88] (am_S (am_row (am_row (am_row (am_row (am_row (am_row (am_row f 88 (upd y165 11 0)) 89 r127_89) 92 r127_92) 93 r127_93) 94 r127_94) 96 r127_96) 98 z4.2) g) _
      refine am_F.ops (pc' := 155) (L' := [.ref 88, .int a127_1, w4_2, w4_3]) (S' := [.int 1, .int ((z4.2 a127_1.toNatClampNeg) - (z4.2 a127_1.toNatClampNeg) / 100 * 100), .int ((z4.2 a127_1.toNatClampNeg) / 100), .ref 88]) (μ' := (am_S (am_row (am_row (am_row (am_row (am_row (am_row (am_row f 88 (upd y165 11 0)) 89 r127_89) 92 r127_92) 93 r127_93) 94 r127_94) 96 r127_96) 98 z4.2) g)) 3 rfl ?_
      obtain ⟨y173, hy173, hK⟩ := am_ob_e hKn hK
      refine am_F.call rfl rfl (x_m_senior ((z4.2 a127_1.toNatClampNeg) / 100) ((z4.2 a127_1.toNatClampNeg) - (z4.2 a127_1.toNatClampNeg) / 100 * 100) 1 (am_row (am_row (am_row (am_row (am_row (am_row (am_row f 88 (upd y165 11 0)) 89 r127_89) 92 r127_92) 93 r127_93) 94 r127_94) 96 r127_96) 98 z4.2) g  y173 hy173) (by first | decide | omega) ?_
      refine am_F.mem (F' := (am_row (am_row (am_row (am_row (am_row (am_row (am_row f 88 (upd y165 11 0)) 89 y173.2.1) 92 y173.2.2.1) 93 y173.2.2.2.1) 94 y173.2.2.2.2.1) 96 y173.2.2.2.2.2) 98 z4.2)) (G' := g) ?_ (by first | rfl | (funext a; by_cases z0 : a = 88; (subst z0; rfl); by_cases z1 : a = 89; (subst z1; rfl); by_cases z2 : a = 92; (subst z2; rfl); by_cases z3 : a = 93; (subst z3; rfl); by_cases z4 : a = 94; (subst z4; rfl); by_cases z5 : a = 96; (subst z5; rfl); by_cases z6 : a = 98; (subst z6; rfl); simp only [am_ui, am_ul, am_row_ne z0, am_row_ne z1, am_row_ne z2, am_row_ne z3, am_row_ne z4, am_row_ne z5, am_row_ne z6])) (by first | rfl | (funext a; by_cases z0 : a = 88; (subst z0; rfl); by_cases z1 : a = 89; (subst z1; rfl); by_cases z2 : a = 92; (subst z2; rfl); by_cases z3 : a = 93; (subst z3; rfl); by_cases z4 : a = 94; (subst z4; rfl); by_cases z5 : a = 96; (subst z5; rfl); by_cases z6 : a = 98; (subst z6; rfl); simp only [am_ui, am_ul, am_row_ne z0, am_row_ne z1, am_row_ne z2, am_row_ne z3, am_row_ne z4, am_row_ne z5, am_row_ne z6]))
      show am_F _ _ 158 [.ref 88, .int a127_1, w4_2, w4_3] [.int y173.1] (am_S (am_row (am_row (am_row (am_row (am_row (am_row (am_row f 88 (upd y165 11 0)) 89 y173.2.1) 92 y173.2.2.1) 93 y173.2.2.2.1) 94 y173.2.2.2.2.1) 96 y173.2.2.2.2.2) 98 z4.2) g) _
      refine am_F.iteK 1 rfl K hK (fun c174 hK => ?_) (fun c174 hK => ?_)
      · show am_F _ _ 167 [.ref 88, .int a127_1, w4_2, w4_3] [] (am_S (am_row (am_row (am_row (am_row (am_row (am_row (am_row f 88 (upd y165 11 0)) 89 y173.2.1) 92 y173.2.2.1) 93 y173.2.2.2.1) 94 y173.2.2.2.2.1) 96 y173.2.2.2.2.2) 98 z4.2) g) _
        subst hKd
        exact hK 
      · show am_F _ _ 161 [.ref 88, .int a127_1, w4_2, w4_3] [] (am_S (am_row (am_row (am_row (am_row (am_row (am_row (am_row f 88 (upd y165 11 0)) 89 y173.2.1) 92 y173.2.2.1) 93 y173.2.2.2.1) 94 y173.2.2.2.2.1) 96 y173.2.2.2.2.2) 98 z4.2) g) _
        refine am_F.ops (pc' := 127) (L' := [.ref 88, .int (a127_1 + 1), w4_2, w4_3]) (S' := []) (μ' := (am_S (am_row (am_row (am_row (am_row (am_row (am_row (am_row f 88 (upd y165 11 0)) 89 y173.2.1) 92 y173.2.2.1) 93 y173.2.2.2.1) 94 y173.2.2.2.2.1) 96 y173.2.2.2.2.2) 98 z4.2) g)) 2 rfl ?_
        subst hKd
        exact ih (a127_1 + 1) y173.2.1 y173.2.2.1 y173.2.2.2.1 y173.2.2.2.2.1 y173.2.2.2.2.2 hK
theorem x_m_seniors (f : Nat → Nat → Int32) (g : Nat → Nat → Int64)  (z0 : Int32 × (Nat → Int32) × (Nat → Int32) × (Nat → Int32) × (Nat → Int32) × (Nat → Int32) × (Nat → Int32) × (Nat → Int32)) (hz0 : (fn_m_seniors f) = some z0) : am_D 6 195 4 [.ref 88] (am_S f g) (some (Value.int z0.1), am_S (am_row (am_row (am_row (am_row (am_row (am_row (am_row f 88 z0.2.1) 89 z0.2.2.1) 92 z0.2.2.2.1) 93 z0.2.2.2.2.1) 94 z0.2.2.2.2.2.1) 96 z0.2.2.2.2.2.2.1) 98 z0.2.2.2.2.2.2.2) g) := by
  refine am_D.of (code := am_k_195) rfl (L0 := [.ref 88, am_un, am_un, am_un]) rfl ?_
  generalize hres : (some (Value.int z0.1), am_S (am_row (am_row (am_row (am_row (am_row (am_row (am_row f 88 z0.2.1) 89 z0.2.2.1) 92 z0.2.2.2.1) 93 z0.2.2.2.2.1) 94 z0.2.2.2.2.2.1) 96 z0.2.2.2.2.2.2.1) 98 z0.2.2.2.2.2.2.2) g) = res
  obtain ⟨K, hKd⟩ : ∃ K : Option (Int32 × (Nat → Int32) × (Nat → Int32) × (Nat → Int32) × (Nat → Int32) × (Nat → Int32) × (Nat → Int32) × (Nat → Int32)) → Prop, K = am_KO (fun z => (some (Value.int z.1), am_S (am_row (am_row (am_row (am_row (am_row (am_row (am_row f 88 z.2.1) 89 z.2.2.1) 92 z.2.2.2.1) 93 z.2.2.2.2.1) 94 z.2.2.2.2.2.1) 96 z.2.2.2.2.2.2.1) 98 z.2.2.2.2.2.2.2) g) = res) := ⟨_, rfl⟩
  have hK : K (fn_m_seniors f) := by rw [hKd, hz0]; exact hres
  have hKn : ¬ K none := by rw [hKd]; exact id
  clear hres hz0
  unfold fn_m_seniors at hK
  refine am_F.ops (pc' := 1) (L' := [.ref 88, am_un, am_un, am_un]) (S' := [.ref 88]) (μ' := (am_S f g)) 1 rfl ?_
  obtain ⟨y1, hy1⟩ : ∃ z, (fn_m_begins f) = z := ⟨_, rfl⟩
  (try rw [hy1] at hK)
  refine am_F.call rfl rfl (x_m_begins  f g ) (by first | decide | omega) ?_
  (try rw [hy1])
  refine am_F.mem (F' := (am_row f 88 y1)) (G' := g) ?_ (by first | rfl | (funext a; by_cases z0 : a = 88; (subst z0; rfl); simp only [am_ui, am_ul, am_row_ne z0])) (by first | rfl | (funext a; by_cases z0 : a = 88; (subst z0; rfl); simp only [am_ui, am_ul, am_row_ne z0]))
  show am_F _ _ 4 [.ref 88, am_un, am_un, am_un] [] (am_S (am_row f 88 y1) g) _
  obtain ⟨z4, hz4, hK⟩ := am_ob_e hKn hK
  refine am_F.mem (F' := (am_row (am_row f 88 y1) 98 (f 98))) (G' := g) ?_ (by first | rfl | (funext a; by_cases z0 : a = 88; (subst z0; rfl); by_cases z1 : a = 98; (subst z1; rfl); simp only [am_ui, am_ul, am_row_ne z0, am_row_ne z1])) (by first | rfl | (funext a; by_cases z0 : a = 88; (subst z0; rfl); by_cases z1 : a = 98; (subst z1; rfl); simp only [am_ui, am_ul, am_row_ne z0, am_row_ne z1]))
  obtain ⟨nz4, gz4⟩ := am_while_s (show am_while (st_m_seniors_4 f) (y1, f 98) = some z4 from hz4)
  refine lp_m_seniors_4 f g y1  _ nz4 y1 (f 98) am_un am_un am_un ?_
  rw [gz4]
  rcases z4 with z4 | z
  · intro w4_1 w4_2 w4_3
    show am_F _ _ 86 [.ref 88, w4_1, w4_2, w4_3] [] (am_S (am_row (am_row f 88 z4.1) 98 z4.2) g) _
    (try simp only [Sum.elim_inl] at hK)
    refine am_F.ops (pc' := 94) (L' := [.ref 88, w4_1, w4_2, w4_3]) (S' := [.int (z4.1 11), .int (z4.1 12)]) (μ' := (am_S (am_row (am_row f 88 z4.1) 98 z4.2) g)) 4 rfl ?_
    refine am_F.iteK 1 rfl K hK (fun c155 hK => ?_) (fun c155 hK => ?_)
    · show am_F _ _ 105 [.ref 88, w4_1, w4_2, w4_3] [] (am_S (am_row (am_row f 88 z4.1) 98 z4.2) g) _
      refine am_F.ops (pc' := 107) (L' := [.ref 88, w4_1, w4_2, w4_3]) (S' := [.int 0, .ref 88]) (μ' := (am_S (am_row (am_row f 88 z4.1) 98 z4.2) g)) 2 rfl ?_
      refine am_F.pfi (F' := (am_row (am_row f 88 (upd z4.1 11 0)) 98 z4.2)) rfl rfl (by first | rfl | (funext a; by_cases z0 : a = 88; (subst z0; rfl); by_cases z1 : a = 98; (subst z1; rfl); simp only [am_ui, am_ul, am_row_ne z0, am_row_ne z1])) ?_
      refine am_F.ops (pc' := 114) (L' := [.ref 88, w4_1, w4_2, w4_3]) (S' := [.int (z4.1 13)]) (μ' := (am_S (am_row (am_row f 88 (upd z4.1 11 0)) 98 z4.2) g)) 2 rfl ?_
      refine am_F.iteK 1 rfl K hK (fun c156 hK => ?_) (fun c156 hK => ?_)
      · show am_F _ _ 125 [.ref 88, w4_1, w4_2, w4_3] [] (am_S (am_row (am_row f 88 (upd z4.1 11 0)) 98 z4.2) g) _
        refine am_F.ops (pc' := 127) (L' := [.ref 88, .int 0, w4_2, w4_3]) (S' := []) (μ' := (am_S (am_row (am_row f 88 (upd z4.1 11 0)) 98 z4.2) g)) 2 rfl ?_
        obtain ⟨z127, hz127, hK⟩ := am_ob_e hKn hK
        refine am_F.mem (F' := (am_row (am_row (am_row (am_row (am_row (am_row (am_row f 88 (upd z4.1 11 0)) 89 (f 89)) 92 (f 92)) 93 (f 93)) 94 (f 94)) 96 (f 96)) 98 z4.2)) (G' := g) ?_ (by first | rfl | (funext a; by_cases z0 : a = 88; (subst z0; rfl); by_cases z1 : a = 89; (subst z1; rfl); by_cases z2 : a = 92; (subst z2; rfl); by_cases z3 : a = 93; (subst z3; rfl); by_cases z4 : a = 94; (subst z4; rfl); by_cases z5 : a = 96; (subst z5; rfl); by_cases z6 : a = 98; (subst z6; rfl); simp only [am_ui, am_ul, am_row_ne z0, am_row_ne z1, am_row_ne z2, am_row_ne z3, am_row_ne z4, am_row_ne z5, am_row_ne z6])) (by first | rfl | (funext a; by_cases z0 : a = 88; (subst z0; rfl); by_cases z1 : a = 89; (subst z1; rfl); by_cases z2 : a = 92; (subst z2; rfl); by_cases z3 : a = 93; (subst z3; rfl); by_cases z4 : a = 94; (subst z4; rfl); by_cases z5 : a = 96; (subst z5; rfl); by_cases z6 : a = 98; (subst z6; rfl); simp only [am_ui, am_ul, am_row_ne z0, am_row_ne z1, am_row_ne z2, am_row_ne z3, am_row_ne z4, am_row_ne z5, am_row_ne z6]))
        obtain ⟨nz127, gz127⟩ := am_while_s (show am_while (st_m_seniors_127 f z4) (0, f 89, f 92, f 93, f 94, f 96) = some z127 from hz127)
        refine lp_m_seniors_127 f g y1 z4 w4_1 w4_2 w4_3  _ nz127 0 (f 89) (f 92) (f 93) (f 94) (f 96)  ?_
        rw [gz127]
        rcases z127 with z127 | z
        · skip
          show am_F _ _ 167 [.ref 88, .int z127.1, w4_2, w4_3] [] (am_S (am_row (am_row (am_row (am_row (am_row (am_row (am_row f 88 (upd z4.1 11 0)) 89 z127.2.1) 92 z127.2.2.1) 93 z127.2.2.2.1) 94 z127.2.2.2.2.1) 96 z127.2.2.2.2.2) 98 z4.2) g) _
          (try simp only [Sum.elim_inl] at hK)
          refine am_F.ops (pc' := 168) (L' := [.ref 88, .int z127.1, w4_2, w4_3]) (S' := [.int z127.1]) (μ' := (am_S (am_row (am_row (am_row (am_row (am_row (am_row (am_row f 88 (upd z4.1 11 0)) 89 z127.2.1) 92 z127.2.2.1) 93 z127.2.2.2.1) 94 z127.2.2.2.2.1) 96 z127.2.2.2.2.2) 98 z4.2) g)) 1 rfl ?_
          subst hKd
          have hQ := am_KO_s hK
          exact am_F.eq (am_F.ret rfl rfl) hQ
        · exact z.elim
      · show am_F _ _ 117 [.ref 88, w4_1, w4_2, w4_3] [] (am_S (am_row (am_row f 88 (upd z4.1 11 0)) 98 z4.2) g) _
        refine am_F.ops (pc' := 124) (L' := [.ref 88, w4_1, w4_2, w4_3]) (S' := [.int ((-100) - (z4.1 13))]) (μ' := (am_S (am_row (am_row f 88 (upd z4.1 11 0)) 98 z4.2) g)) 4 rfl ?_
        refine am_F.mem (F' := (am_row (am_row (am_row (am_row (am_row (am_row (am_row f 88 (upd z4.1 11 0)) 89 (f 89)) 92 (f 92)) 93 (f 93)) 94 (f 94)) 96 (f 96)) 98 z4.2)) (G' := g) ?_ (by first | rfl | (funext a; by_cases z0 : a = 88; (subst z0; rfl); by_cases z1 : a = 89; (subst z1; rfl); by_cases z2 : a = 92; (subst z2; rfl); by_cases z3 : a = 93; (subst z3; rfl); by_cases z4 : a = 94; (subst z4; rfl); by_cases z5 : a = 96; (subst z5; rfl); by_cases z6 : a = 98; (subst z6; rfl); simp only [am_ui, am_ul, am_row_ne z0, am_row_ne z1, am_row_ne z2, am_row_ne z3, am_row_ne z4, am_row_ne z5, am_row_ne z6])) (by first | rfl | (funext a; by_cases z0 : a = 88; (subst z0; rfl); by_cases z1 : a = 89; (subst z1; rfl); by_cases z2 : a = 92; (subst z2; rfl); by_cases z3 : a = 93; (subst z3; rfl); by_cases z4 : a = 94; (subst z4; rfl); by_cases z5 : a = 96; (subst z5; rfl); by_cases z6 : a = 98; (subst z6; rfl); simp only [am_ui, am_ul, am_row_ne z0, am_row_ne z1, am_row_ne z2, am_row_ne z3, am_row_ne z4, am_row_ne z5, am_row_ne z6]))
        subst hKd
        have hQ := am_KO_s hK
        exact am_F.eq (am_F.ret rfl rfl) hQ
    · show am_F _ _ 97 [.ref 88, w4_1, w4_2, w4_3] [] (am_S (am_row (am_row f 88 z4.1) 98 z4.2) g) _
      refine am_F.ops (pc' := 102) (L' := [.ref 88, w4_1, w4_2, w4_3]) (S' := [.int (z4.1 12), .ref 88]) (μ' := (am_S (am_row (am_row f 88 z4.1) 98 z4.2) g)) 3 rfl ?_
      obtain ⟨y165, hy165⟩ : ∃ z, (fn_m_fails (z4.1 12) (am_row (am_row f 88 z4.1) 98 z4.2)) = z := ⟨_, rfl⟩
      (try rw [hy165] at hK)
      refine am_F.call rfl rfl (x_m_fails (z4.1 12) (am_row (am_row f 88 z4.1) 98 z4.2) g ) (by first | decide | omega) ?_
      (try rw [hy165])
      refine am_F.mem (F' := (am_row (am_row f 88 y165) 98 z4.2)) (G' := g) ?_ (by first | rfl | (funext a; by_cases z0 : a = 88; (subst z0; rfl); by_cases z1 : a = 98; (subst z1; rfl); simp only [am_ui, am_ul, am_row_ne z0, am_row_ne z1])) (by first | rfl | (funext a; by_cases z0 : a = 88; (subst z0; rfl); by_cases z1 : a = 98; (subst z1; rfl); simp only [am_ui, am_ul, am_row_ne z0, am_row_ne z1]))
      show am_F _ _ 105 [.ref 88, w4_1, w4_2, w4_3] [] (am_S (am_row (am_row f 88 y165) 98 z4.2) g) _
      refine am_F.ops (pc' := 107) (L' := [.ref 88, w4_1, w4_2, w4_3]) (S' := [.int 0, .ref 88]) (μ' := (am_S (am_row (am_row f 88 y165) 98 z4.2) g)) 2 rfl ?_
      refine am_F.pfi (F' := (am_row (am_row f 88 (upd y165 11 0)) 98 z4.2)) rfl rfl (by first | rfl | (funext a; by_cases z0 : a = 88; (subst z0; rfl); by_cases z1 : a = 98; (subst z1; rfl); simp only [am_ui, am_ul, am_row_ne z0, am_row_ne z1])) ?_
      refine am_F.ops (pc' := 114) (L' := [.ref 88, w4_1, w4_2, w4_3]) (S' := [.int (y165 13)]) (μ' := (am_S (am_row (am_row f 88 (upd y165 11 0)) 98 z4.2) g)) 2 rfl ?_
      refine am_F.iteK 1 rfl K hK (fun c166 hK => ?_) (fun c166 hK => ?_)
      · show am_F _ _ 125 [.ref 88, w4_1, w4_2, w4_3] [] (am_S (am_row (am_row f 88 (upd y165 11 0)) 98 z4.2) g) _
        refine am_F.ops (pc' := 127) (L' := [.ref 88, .int 0, w4_2, w4_3]) (S' := []) (μ' := (am_S (am_row (am_row f 88 (upd y165 11 0)) 98 z4.2) g)) 2 rfl ?_
        obtain ⟨z127, hz127, hK⟩ := am_ob_e hKn hK
        refine am_F.mem (F' := (am_row (am_row (am_row (am_row (am_row (am_row (am_row f 88 (upd y165 11 0)) 89 (f 89)) 92 (f 92)) 93 (f 93)) 94 (f 94)) 96 (f 96)) 98 z4.2)) (G' := g) ?_ (by first | rfl | (funext a; by_cases z0 : a = 88; (subst z0; rfl); by_cases z1 : a = 89; (subst z1; rfl); by_cases z2 : a = 92; (subst z2; rfl); by_cases z3 : a = 93; (subst z3; rfl); by_cases z4 : a = 94; (subst z4; rfl); by_cases z5 : a = 96; (subst z5; rfl); by_cases z6 : a = 98; (subst z6; rfl); simp only [am_ui, am_ul, am_row_ne z0, am_row_ne z1, am_row_ne z2, am_row_ne z3, am_row_ne z4, am_row_ne z5, am_row_ne z6])) (by first | rfl | (funext a; by_cases z0 : a = 88; (subst z0; rfl); by_cases z1 : a = 89; (subst z1; rfl); by_cases z2 : a = 92; (subst z2; rfl); by_cases z3 : a = 93; (subst z3; rfl); by_cases z4 : a = 94; (subst z4; rfl); by_cases z5 : a = 96; (subst z5; rfl); by_cases z6 : a = 98; (subst z6; rfl); simp only [am_ui, am_ul, am_row_ne z0, am_row_ne z1, am_row_ne z2, am_row_ne z3, am_row_ne z4, am_row_ne z5, am_row_ne z6]))
        obtain ⟨nz127, gz127⟩ := am_while_s (show am_while (st_m_seniors_127_175 f z4 y165) (0, f 89, f 92, f 93, f 94, f 96) = some z127 from hz127)
        refine lp_m_seniors_127_175 f g y1 z4 w4_1 w4_2 w4_3 y165  _ nz127 0 (f 89) (f 92) (f 93) (f 94) (f 96)  ?_
        rw [gz127]
        rcases z127 with z127 | z
        · skip
          show am_F _ _ 167 [.ref 88, .int z127.1, w4_2, w4_3] [] (am_S (am_row (am_row (am_row (am_row (am_row (am_row (am_row f 88 (upd y165 11 0)) 89 z127.2.1) 92 z127.2.2.1) 93 z127.2.2.2.1) 94 z127.2.2.2.2.1) 96 z127.2.2.2.2.2) 98 z4.2) g) _
          (try simp only [Sum.elim_inl] at hK)
          refine am_F.ops (pc' := 168) (L' := [.ref 88, .int z127.1, w4_2, w4_3]) (S' := [.int z127.1]) (μ' := (am_S (am_row (am_row (am_row (am_row (am_row (am_row (am_row f 88 (upd y165 11 0)) 89 z127.2.1) 92 z127.2.2.1) 93 z127.2.2.2.1) 94 z127.2.2.2.2.1) 96 z127.2.2.2.2.2) 98 z4.2) g)) 1 rfl ?_
          subst hKd
          have hQ := am_KO_s hK
          exact am_F.eq (am_F.ret rfl rfl) hQ
        · exact z.elim
      · show am_F _ _ 117 [.ref 88, w4_1, w4_2, w4_3] [] (am_S (am_row (am_row f 88 (upd y165 11 0)) 98 z4.2) g) _
        refine am_F.ops (pc' := 124) (L' := [.ref 88, w4_1, w4_2, w4_3]) (S' := [.int ((-100) - (y165 13))]) (μ' := (am_S (am_row (am_row f 88 (upd y165 11 0)) 98 z4.2) g)) 4 rfl ?_
        refine am_F.mem (F' := (am_row (am_row (am_row (am_row (am_row (am_row (am_row f 88 (upd y165 11 0)) 89 (f 89)) 92 (f 92)) 93 (f 93)) 94 (f 94)) 96 (f 96)) 98 z4.2)) (G' := g) ?_ (by first | rfl | (funext a; by_cases z0 : a = 88; (subst z0; rfl); by_cases z1 : a = 89; (subst z1; rfl); by_cases z2 : a = 92; (subst z2; rfl); by_cases z3 : a = 93; (subst z3; rfl); by_cases z4 : a = 94; (subst z4; rfl); by_cases z5 : a = 96; (subst z5; rfl); by_cases z6 : a = 98; (subst z6; rfl); simp only [am_ui, am_ul, am_row_ne z0, am_row_ne z1, am_row_ne z2, am_row_ne z3, am_row_ne z4, am_row_ne z5, am_row_ne z6])) (by first | rfl | (funext a; by_cases z0 : a = 88; (subst z0; rfl); by_cases z1 : a = 89; (subst z1; rfl); by_cases z2 : a = 92; (subst z2; rfl); by_cases z3 : a = 93; (subst z3; rfl); by_cases z4 : a = 94; (subst z4; rfl); by_cases z5 : a = 96; (subst z5; rfl); by_cases z6 : a = 98; (subst z6; rfl); simp only [am_ui, am_ul, am_row_ne z0, am_row_ne z1, am_row_ne z2, am_row_ne z3, am_row_ne z4, am_row_ne z5, am_row_ne z6]))
        subst hKd
        have hQ := am_KO_s hK
        exact am_F.eq (am_F.ret rfl rfl) hQ
  · exact z.elim
/-- AccessLatticeModel.fits, with checks -/
noncomputable def fn_m_fits (a0 : Int32) (a1 : Int32) (a2 : Int32) (a3 : Int32) (f : Nat → Nat → Int32) : Option (Bool × (Nat → Int32)) := (am_chk (am_inb a0 30 = true) (bif (fn_m_has (fn_m_ruleAt a0.toNatClampNeg 2 f) a2) then (if (fn_m_ruleAt a0.toNatClampNeg 7 f) = 0 then (some (false, f 88)) else (am_ob (fn_m_depth a3 (fn_m_ruleAt a0.toNatClampNeg 3 f) f) (fun (y8 : Int32) => (if (f 89 200) < (fn_m_ruleAt a0.toNatClampNeg 5 f) then (some (false, f 88)) else (if (fn_m_ruleAt a0.toNatClampNeg 6 f) = (-1) then (if y8 < 0 then (some (false, f 88)) else (if y8 ≤ 0 then (if (fn_m_ruleAt a0.toNatClampNeg 8 f) = 0 then (some (true, f 88)) else (am_ob (fn_m_part (am_row f 88 (upd (upd (upd (upd (upd (f 88) 17 a1) 18 a2) 19 a3) 20 y8) 16 (760 + (80 * a0))))) (fun (y19 : Int32 × (Nat → Int32)) => (some ((if y19.1 = 0 then false else true), y19.2))))) else (if (fn_m_ruleAt a0.toNatClampNeg 4 f) = 0 then (some (false, f 88)) else (if (fn_m_ruleAt a0.toNatClampNeg 8 f) = 0 then (some (true, f 88)) else (am_ob (fn_m_part (am_row f 88 (upd (upd (upd (upd (upd (f 88) 17 a1) 18 a2) 19 a3) 20 y8) 16 (760 + (80 * a0))))) (fun (y25 : Int32 × (Nat → Int32)) => (some ((if y25.1 = 0 then false else true), y25.2)))))))) else (bif (if (fn_m_ruleAt a0.toNatClampNeg 6 f) ≤ (f 89 200) then false else true) then (if y8 < 0 then (some (false, f 88)) else (if y8 ≤ 0 then (if (fn_m_ruleAt a0.toNatClampNeg 8 f) = 0 then (some (true, f 88)) else (am_ob (fn_m_part (am_row f 88 (upd (upd (upd (upd (upd (f 88) 17 a1) 18 a2) 19 a3) 20 y8) 16 (760 + (80 * a0))))) (fun (y34 : Int32 × (Nat → Int32)) => (some ((if y34.1 = 0 then false else true), y34.2))))) else (if (fn_m_ruleAt a0.toNatClampNeg 4 f) = 0 then (some (false, f 88)) else (if (fn_m_ruleAt a0.toNatClampNeg 8 f) = 0 then (some (true, f 88)) else (am_ob (fn_m_part (am_row f 88 (upd (upd (upd (upd (upd (f 88) 17 a1) 18 a2) 19 a3) 20 y8) 16 (760 + (80 * a0))))) (fun (y40 : Int32 × (Nat → Int32)) => (some ((if y40.1 = 0 then false else true), y40.2)))))))) else (some (false, f 88)))))))) else (some (false, f 88))))
theorem x_m_fits (a0 : Int32) (a1 : Int32) (a2 : Int32) (a3 : Int32) (f : Nat → Nat → Int32) (g : Nat → Nat → Int64)  (z0 : Bool × (Nat → Int32)) (hz0 : (fn_m_fits a0 a1 a2 a3 f) = some z0) : am_D 82 200 7 [.ref 88, .int a0, .int a1, .int a2, .int a3] (am_S f g) (some (Value.int (am_b z0.1)), am_S (am_row f 88 z0.2) g) := by
  refine am_D.of (code := am_k_200) rfl (L0 := [.ref 88, .int a0, .int a1, .int a2, .int a3, am_un, am_un]) rfl ?_
  generalize hres : (some (Value.int (am_b z0.1)), am_S (am_row f 88 z0.2) g) = res
  obtain ⟨K, hKd⟩ : ∃ K : Option (Bool × (Nat → Int32)) → Prop, K = am_KO (fun z => (some (Value.int (am_b z.1)), am_S (am_row f 88 z.2) g) = res) := ⟨_, rfl⟩
  have hK : K (fn_m_fits a0 a1 a2 a3 f) := by rw [hKd, hz0]; exact hres
  have hKn : ¬ K none := by rw [hKd]; exact id
  clear hres hz0
  unfold fn_m_fits at hK
  refine am_F.ops (pc' := 3) (L' := [.ref 88, .int a0, .int a1, .int a2, .int a3, am_un, am_un]) (S' := [.int 2, .int a0, .ref 88]) (μ' := (am_S f g)) 3 rfl ?_
  obtain ⟨q1, hK⟩ := am_chk_e hKn hK
  refine am_F.call rfl rfl (am_D.args (congrArg (fun (x9 : Int32) => ([.ref 88, .int x9, .int 2] : List Value)) (show (a0 : Int32) = nI a0.toNatClampNeg from (am_inbQ q1).1)) (am_D.args (congrArg (fun (x9 : Int32) => ([.ref 88, .int (nI a0.toNatClampNeg), .int x9] : List Value)) (show (2 : Int32) = nI 2 from rfl)) (x_m_ruleAt a0.toNatClampNeg 2 f g (am_inbQ q1).2 (by omega)))) (by first | decide | omega) ?_
  show am_F _ _ 6 [.ref 88, .int a0, .int a1, .int a2, .int a3, am_un, am_un] [.int (fn_m_ruleAt a0.toNatClampNeg 2 f)] (am_S f g) _
  refine am_F.ops (pc' := 7) (L' := [.ref 88, .int a0, .int a1, .int a2, .int a3, am_un, am_un]) (S' := [.int a2, .int (fn_m_ruleAt a0.toNatClampNeg 2 f)]) (μ' := (am_S f g)) 1 rfl ?_
  refine am_F.call rfl rfl (x_m_has (fn_m_ruleAt a0.toNatClampNeg 2 f) a2 f g ) (by first | decide | omega) ?_
  show am_F _ _ 10 [.ref 88, .int a0, .int a1, .int a2, .int a3, am_un, am_un] [.int (am_b (fn_m_has (fn_m_ruleAt a0.toNatClampNeg 2 f) a2))] (am_S f g) _
  refine am_F.bifK 1 rfl K hK (fun c4 hK => ?_) (fun c4 hK => ?_)
  · show am_F _ _ 13 [.ref 88, .int a0, .int a1, .int a2, .int a3, am_un, am_un] [] (am_S f g) _
    refine am_F.ops (pc' := 17) (L' := [.ref 88, .int a0, .int a1, .int a2, .int a3, am_un, am_un]) (S' := [.int 7, .int a0, .ref 88]) (μ' := (am_S f g)) 3 rfl ?_
    refine am_F.call rfl rfl (am_D.args (congrArg (fun (x9 : Int32) => ([.ref 88, .int x9, .int 7] : List Value)) (show (a0 : Int32) = nI a0.toNatClampNeg from (am_inbQ q1).1)) (am_D.args (congrArg (fun (x9 : Int32) => ([.ref 88, .int (nI a0.toNatClampNeg), .int x9] : List Value)) (show (7 : Int32) = nI 7 from rfl)) (x_m_ruleAt a0.toNatClampNeg 7 f g (am_inbQ q1).2 (by omega)))) (by first | decide | omega) ?_
    show am_F _ _ 20 [.ref 88, .int a0, .int a1, .int a2, .int a3, am_un, am_un] [.int (fn_m_ruleAt a0.toNatClampNeg 7 f)] (am_S f g) _
    refine am_F.iteK 1 rfl K hK (fun c6 hK => ?_) (fun c6 hK => ?_)
    · show am_F _ _ 23 [.ref 88, .int a0, .int a1, .int a2, .int a3, am_un, am_un] [] (am_S f g) _
      refine am_F.ops (pc' := 24) (L' := [.ref 88, .int a0, .int a1, .int a2, .int a3, am_un, am_un]) (S' := [.int 0]) (μ' := (am_S f g)) 1 rfl ?_
      refine am_F.mem (F' := (am_row f 88 (f 88))) (G' := g) ?_ (by first | rfl | (funext a; by_cases z0 : a = 88; (subst z0; rfl); simp only [am_ui, am_ul, am_row_ne z0])) (by first | rfl | (funext a; by_cases z0 : a = 88; (subst z0; rfl); simp only [am_ui, am_ul, am_row_ne z0]))
      subst hKd
      have hQ := am_KO_s hK
      exact am_F.eq (am_F.ret rfl rfl) hQ
    · show am_F _ _ 25 [.ref 88, .int a0, .int a1, .int a2, .int a3, am_un, am_un] [] (am_S f g) _
      refine am_F.ops (pc' := 31) (L' := [.ref 88, .int a0, .int a1, .int a2, .int a3, am_un, am_un]) (S' := [.int 3, .int a0, .ref 88, .int a3, .ref 88]) (μ' := (am_S f g)) 5 rfl ?_
      refine am_F.call rfl rfl (am_D.args (congrArg (fun (x9 : Int32) => ([.ref 88, .int x9, .int 3] : List Value)) (show (a0 : Int32) = nI a0.toNatClampNeg from (am_inbQ q1).1)) (am_D.args (congrArg (fun (x9 : Int32) => ([.ref 88, .int (nI a0.toNatClampNeg), .int x9] : List Value)) (show (3 : Int32) = nI 3 from rfl)) (x_m_ruleAt a0.toNatClampNeg 3 f g (am_inbQ q1).2 (by omega)))) (by first | decide | omega) ?_
      show am_F _ _ 34 [.ref 88, .int a0, .int a1, .int a2, .int a3, am_un, am_un] [.int (fn_m_ruleAt a0.toNatClampNeg 3 f), .int a3, .ref 88] (am_S f g) _
      obtain ⟨y8, hy8, hK⟩ := am_ob_e hKn hK
      refine am_F.call rfl rfl (x_m_depth a3 (fn_m_ruleAt a0.toNatClampNeg 3 f) f g  y8 hy8) (by first | decide | omega) ?_
      show am_F _ _ 37 [.ref 88, .int a0, .int a1, .int a2, .int a3, am_un, am_un] [.int y8] (am_S f g) _
      refine am_F.ops (pc' := 50) (L' := [.ref 88, .int a0, .int a1, .int a2, .int a3, .int y8, am_un]) (S' := [.int 5, .int a0, .ref 88, .int (f 89 200)]) (μ' := (am_S f g)) 8 rfl ?_
      refine am_F.call rfl rfl (am_D.args (congrArg (fun (x9 : Int32) => ([.ref 88, .int x9, .int 5] : List Value)) (show (a0 : Int32) = nI a0.toNatClampNeg from (am_inbQ q1).1)) (am_D.args (congrArg (fun (x9 : Int32) => ([.ref 88, .int (nI a0.toNatClampNeg), .int x9] : List Value)) (show (5 : Int32) = nI 5 from rfl)) (x_m_ruleAt a0.toNatClampNeg 5 f g (am_inbQ q1).2 (by omega)))) (by first | decide | omega) ?_
      show am_F _ _ 53 [.ref 88, .int a0, .int a1, .int a2, .int a3, .int y8, am_un] [.int (fn_m_ruleAt a0.toNatClampNeg 5 f), .int (f 89 200)] (am_S f g) _
      refine am_F.iteK 1 rfl K hK (fun c11 hK => ?_) (fun c11 hK => ?_)
      · show am_F _ _ 89 [.ref 88, .int a0, .int a1, .int a2, .int a3, .int y8, am_un] [] (am_S f g) _
        refine am_F.ops (pc' := 94) (L' := [.ref 88, .int a0, .int a1, .int a2, .int a3, .int y8, .int 0]) (S' := [.int 0]) (μ' := (am_S f g)) 3 rfl ?_
        refine am_F.ops (pc' := 116) (L' := [.ref 88, .int a0, .int a1, .int a2, .int a3, .int y8, .int 0]) (S' := []) (μ' := (am_S f g)) 1 rfl ?_
        refine am_F.ops (pc' := 117) (L' := [.ref 88, .int a0, .int a1, .int a2, .int a3, .int y8, .int 0]) (S' := [.int 0]) (μ' := (am_S f g)) 1 rfl ?_
        refine am_F.mem (F' := (am_row f 88 (f 88))) (G' := g) ?_ (by first | rfl | (funext a; by_cases z0 : a = 88; (subst z0; rfl); simp only [am_ui, am_ul, am_row_ne z0])) (by first | rfl | (funext a; by_cases z0 : a = 88; (subst z0; rfl); simp only [am_ui, am_ul, am_row_ne z0]))
        subst hKd
        have hQ := am_KO_s hK
        exact am_F.eq (am_F.ret rfl rfl) hQ
      · show am_F _ _ 56 [.ref 88, .int a0, .int a1, .int a2, .int a3, .int y8, am_un] [] (am_S f g) _
        refine am_F.ops (pc' := 60) (L' := [.ref 88, .int a0, .int a1, .int a2, .int a3, .int y8, am_un]) (S' := [.int 6, .int a0, .ref 88]) (μ' := (am_S f g)) 3 rfl ?_
        refine am_F.call rfl rfl (am_D.args (congrArg (fun (x9 : Int32) => ([.ref 88, .int x9, .int 6] : List Value)) (show (a0 : Int32) = nI a0.toNatClampNeg from (am_inbQ q1).1)) (am_D.args (congrArg (fun (x9 : Int32) => ([.ref 88, .int (nI a0.toNatClampNeg), .int x9] : List Value)) (show (6 : Int32) = nI 6 from rfl)) (x_m_ruleAt a0.toNatClampNeg 6 f g (am_inbQ q1).2 (by omega)))) (by first | decide | omega) ?_
        show am_F _ _ 63 [.ref 88, .int a0, .int a1, .int a2, .int a3, .int y8, am_un] [.int (fn_m_ruleAt a0.toNatClampNeg 6 f)] (am_S f g) _
        refine am_F.ops (pc' := 64) (L' := [.ref 88, .int a0, .int a1, .int a2, .int a3, .int y8, am_un]) (S' := [.int (-1), .int (fn_m_ruleAt a0.toNatClampNeg 6 f)]) (μ' := (am_S f g)) 1 rfl ?_
        refine am_F.iteK 1 rfl K hK (fun c14 hK => ?_) (fun c14 hK => ?_)
        · show am_F _ _ 85 [.ref 88, .int a0, .int a1, .int a2, .int a3, .int y8, am_un] [] (am_S f g) _
          refine am_F.ops (pc' := 94) (L' := [.ref 88, .int a0, .int a1, .int a2, .int a3, .int y8, .int 1]) (S' := [.int 1]) (μ' := (am_S f g)) 4 rfl ?_
          refine am_F.ops (pc' := 97) (L' := [.ref 88, .int a0, .int a1, .int a2, .int a3, .int y8, .int 1]) (S' := []) (μ' := (am_S f g)) 1 rfl ?_
          refine am_F.ops (pc' := 99) (L' := [.ref 88, .int a0, .int a1, .int a2, .int a3, .int y8, .int 1]) (S' := [.int y8]) (μ' := (am_S f g)) 1 rfl ?_
          refine am_F.iteK 1 rfl K hK (fun c15 hK => ?_) (fun c15 hK => ?_)
          · show am_F _ _ 116 [.ref 88, .int a0, .int a1, .int a2, .int a3, .int y8, .int 1] [] (am_S f g) _
            refine am_F.ops (pc' := 117) (L' := [.ref 88, .int a0, .int a1, .int a2, .int a3, .int y8, .int 1]) (S' := [.int 0]) (μ' := (am_S f g)) 1 rfl ?_
            refine am_F.mem (F' := (am_row f 88 (f 88))) (G' := g) ?_ (by first | rfl | (funext a; by_cases z0 : a = 88; (subst z0; rfl); simp only [am_ui, am_ul, am_row_ne z0])) (by first | rfl | (funext a; by_cases z0 : a = 88; (subst z0; rfl); simp only [am_ui, am_ul, am_row_ne z0]))
            subst hKd
            have hQ := am_KO_s hK
            exact am_F.eq (am_F.ret rfl rfl) hQ
          · show am_F _ _ 102 [.ref 88, .int a0, .int a1, .int a2, .int a3, .int y8, .int 1] [] (am_S f g) _
            refine am_F.ops (pc' := 104) (L' := [.ref 88, .int a0, .int a1, .int a2, .int a3, .int y8, .int 1]) (S' := [.int y8]) (μ' := (am_S f g)) 1 rfl ?_
            refine am_F.iteK 1 rfl K hK (fun c16 hK => ?_) (fun c16 hK => ?_)
            · show am_F _ _ 118 [.ref 88, .int a0, .int a1, .int a2, .int a3, .int y8, .int 1] [] (am_S f g) _
              refine am_F.ops (pc' := 122) (L' := [.ref 88, .int a0, .int a1, .int a2, .int a3, .int y8, .int 1]) (S' := [.int 8, .int a0, .ref 88]) (μ' := (am_S f g)) 3 rfl ?_
              refine am_F.call rfl rfl (am_D.args (congrArg (fun (x9 : Int32) => ([.ref 88, .int x9, .int 8] : List Value)) (show (a0 : Int32) = nI a0.toNatClampNeg from (am_inbQ q1).1)) (am_D.args (congrArg (fun (x9 : Int32) => ([.ref 88, .int (nI a0.toNatClampNeg), .int x9] : List Value)) (show (8 : Int32) = nI 8 from rfl)) (x_m_ruleAt a0.toNatClampNeg 8 f g (am_inbQ q1).2 (by omega)))) (by first | decide | omega) ?_
              show am_F _ _ 125 [.ref 88, .int a0, .int a1, .int a2, .int a3, .int y8, .int 1] [.int (fn_m_ruleAt a0.toNatClampNeg 8 f)] (am_S f g) _
              refine am_F.iteK 1 rfl K hK (fun c18 hK => ?_) (fun c18 hK => ?_)
              · show am_F _ _ 128 [.ref 88, .int a0, .int a1, .int a2, .int a3, .int y8, .int 1] [] (am_S f g) _
                refine am_F.ops (pc' := 129) (L' := [.ref 88, .int a0, .int a1, .int a2, .int a3, .int y8, .int 1]) (S' := [.int 1]) (μ' := (am_S f g)) 1 rfl ?_
                refine am_F.mem (F' := (am_row f 88 (f 88))) (G' := g) ?_ (by first | rfl | (funext a; by_cases z0 : a = 88; (subst z0; rfl); simp only [am_ui, am_ul, am_row_ne z0])) (by first | rfl | (funext a; by_cases z0 : a = 88; (subst z0; rfl); simp only [am_ui, am_ul, am_row_ne z0]))
                subst hKd
                have hQ := am_KO_s hK
                exact am_F.eq (am_F.ret rfl rfl) hQ
              · show am_F _ _ 130 [.ref 88, .int a0, .int a1, .int a2, .int a3, .int y8, .int 1] [] (am_S f g) _
                refine am_F.ops (pc' := 132) (L' := [.ref 88, .int a0, .int a1, .int a2, .int a3, .int y8, .int 1]) (S' := [.int a1, .ref 88]) (μ' := (am_S f g)) 2 rfl ?_
                refine am_F.pfi (F' := (am_row f 88 (upd (f 88) 17 a1))) rfl rfl (by first | rfl | (funext a; by_cases z0 : a = 88; (subst z0; rfl); simp only [am_ui, am_ul, am_row_ne z0])) ?_
                refine am_F.ops (pc' := 137) (L' := [.ref 88, .int a0, .int a1, .int a2, .int a3, .int y8, .int 1]) (S' := [.int a2, .ref 88]) (μ' := (am_S (am_row f 88 (upd (f 88) 17 a1)) g)) 2 rfl ?_
                refine am_F.pfi (F' := (am_row f 88 (upd (upd (f 88) 17 a1) 18 a2))) rfl rfl (by first | rfl | (funext a; by_cases z0 : a = 88; (subst z0; rfl); simp only [am_ui, am_ul, am_row_ne z0])) ?_
                refine am_F.ops (pc' := 143) (L' := [.ref 88, .int a0, .int a1, .int a2, .int a3, .int y8, .int 1]) (S' := [.int a3, .ref 88]) (μ' := (am_S (am_row f 88 (upd (upd (f 88) 17 a1) 18 a2)) g)) 2 rfl ?_
                refine am_F.pfi (F' := (am_row f 88 (upd (upd (upd (f 88) 17 a1) 18 a2) 19 a3))) rfl rfl (by first | rfl | (funext a; by_cases z0 : a = 88; (subst z0; rfl); simp only [am_ui, am_ul, am_row_ne z0])) ?_
                refine am_F.ops (pc' := 149) (L' := [.ref 88, .int a0, .int a1, .int a2, .int a3, .int y8, .int 1]) (S' := [.int y8, .ref 88]) (μ' := (am_S (am_row f 88 (upd (upd (upd (f 88) 17 a1) 18 a2) 19 a3)) g)) 2 rfl ?_
                refine am_F.pfi (F' := (am_row f 88 (upd (upd (upd (upd (f 88) 17 a1) 18 a2) 19 a3) 20 y8))) rfl rfl (by first | rfl | (funext a; by_cases z0 : a = 88; (subst z0; rfl); simp only [am_ui, am_ul, am_row_ne z0])) ?_
                refine am_F.ops (pc' := 161) (L' := [.ref 88, .int a0, .int a1, .int a2, .int a3, .int y8, .int 1]) (S' := [.int (760 + (80 * a0)), .ref 88]) (μ' := (am_S (am_row f 88 (upd (upd (upd (upd (f 88) 17 a1) 18 a2) 19 a3) 20 y8)) g)) 6 rfl ?_
                refine am_F.pfi (F' := (am_row f 88 (upd (upd (upd (upd (upd (f 88) 17 a1) 18 a2) 19 a3) 20 y8) 16 (760 + (80 * a0))))) rfl rfl (by first | rfl | (funext a; by_cases z0 : a = 88; (subst z0; rfl); simp only [am_ui, am_ul, am_row_ne z0])) ?_
                refine am_F.ops (pc' := 165) (L' := [.ref 88, .int a0, .int a1, .int a2, .int a3, .int y8, .int 1]) (S' := [.ref 88]) (μ' := (am_S (am_row f 88 (upd (upd (upd (upd (upd (f 88) 17 a1) 18 a2) 19 a3) 20 y8) 16 (760 + (80 * a0)))) g)) 1 rfl ?_
                obtain ⟨y19, hy19, hK⟩ := am_ob_e hKn hK
                refine am_F.call rfl rfl (x_m_part  (am_row f 88 (upd (upd (upd (upd (upd (f 88) 17 a1) 18 a2) 19 a3) 20 y8) 16 (760 + (80 * a0)))) g  y19 hy19) (by first | decide | omega) ?_
                refine am_F.mem (F' := (am_row f 88 y19.2)) (G' := g) ?_ (by first | rfl | (funext a; by_cases z0 : a = 88; (subst z0; rfl); simp only [am_ui, am_ul, am_row_ne z0])) (by first | rfl | (funext a; by_cases z0 : a = 88; (subst z0; rfl); simp only [am_ui, am_ul, am_row_ne z0]))
                show am_F _ _ 168 [.ref 88, .int a0, .int a1, .int a2, .int a3, .int y8, .int 1] [.int y19.1] (am_S (am_row f 88 y19.2) g) _
                refine am_F.to (am_To.iteB (pc' := 176) (L2 := [.ref 88, .int a0, .int a1, .int a2, .int a3, .int y8, .int 1]) (S2 := []) (μ2 := (am_S (am_row f 88 y19.2) g)) (a := false) (b := true) 1 rfl (fun c20 => ?_) (fun c20 => ?_)) ?_
                · intro res9 g9
                  show am_F _ _ 175 [.ref 88, .int a0, .int a1, .int a2, .int a3, .int y8, .int 1] [] (am_S (am_row f 88 y19.2) g) _
                  refine am_F.ops (pc' := 176) (L' := [.ref 88, .int a0, .int a1, .int a2, .int a3, .int y8, .int 1]) (S' := [.int 0]) (μ' := (am_S (am_row f 88 y19.2) g)) 1 rfl ?_
                  exact g9
                · intro res9 g9
                  show am_F _ _ 171 [.ref 88, .int a0, .int a1, .int a2, .int a3, .int y8, .int 1] [] (am_S (am_row f 88 y19.2) g) _
                  refine am_F.ops (pc' := 176) (L' := [.ref 88, .int a0, .int a1, .int a2, .int a3, .int y8, .int 1]) (S' := [.int 1]) (μ' := (am_S (am_row f 88 y19.2) g)) 2 rfl ?_
                  exact g9
                show am_F _ _ 176 [.ref 88, .int a0, .int a1, .int a2, .int a3, .int y8, .int 1] [.int (am_b (if y19.1 = 0 then false else true))] (am_S (am_row f 88 y19.2) g) _
                subst hKd
                have hQ := am_KO_s hK
                exact am_F.eq (am_F.ret rfl (am_retB _ _)) hQ
            · show am_F _ _ 107 [.ref 88, .int a0, .int a1, .int a2, .int a3, .int y8, .int 1] [] (am_S f g) _
              refine am_F.ops (pc' := 110) (L' := [.ref 88, .int a0, .int a1, .int a2, .int a3, .int y8, .int 1]) (S' := [.int 4, .int a0, .ref 88]) (μ' := (am_S f g)) 3 rfl ?_
              refine am_F.call rfl rfl (am_D.args (congrArg (fun (x9 : Int32) => ([.ref 88, .int x9, .int 4] : List Value)) (show (a0 : Int32) = nI a0.toNatClampNeg from (am_inbQ q1).1)) (am_D.args (congrArg (fun (x9 : Int32) => ([.ref 88, .int (nI a0.toNatClampNeg), .int x9] : List Value)) (show (4 : Int32) = nI 4 from rfl)) (x_m_ruleAt a0.toNatClampNeg 4 f g (am_inbQ q1).2 (by omega)))) (by first | decide | omega) ?_
              show am_F _ _ 113 [.ref 88, .int a0, .int a1, .int a2, .int a3, .int y8, .int 1] [.int (fn_m_ruleAt a0.toNatClampNeg 4 f)] (am_S f g) _
              refine am_F.iteK 1 rfl K hK (fun c22 hK => ?_) (fun c22 hK => ?_)
              · show am_F _ _ 116 [.ref 88, .int a0, .int a1, .int a2, .int a3, .int y8, .int 1] [] (am_S f g) _
                refine am_F.ops (pc' := 117) (L' := [.ref 88, .int a0, .int a1, .int a2, .int a3, .int y8, .int 1]) (S' := [.int 0]) (μ' := (am_S f g)) 1 rfl ?_
                refine am_F.mem (F' := (am_row f 88 (f 88))) (G' := g) ?_ (by first | rfl | (funext a; by_cases z0 : a = 88; (subst z0; rfl); simp only [am_ui, am_ul, am_row_ne z0])) (by first | rfl | (funext a; by_cases z0 : a = 88; (subst z0; rfl); simp only [am_ui, am_ul, am_row_ne z0]))
                subst hKd
                have hQ := am_KO_s hK
                exact am_F.eq (am_F.ret rfl rfl) hQ
              · show am_F _ _ 118 [.ref 88, .int a0, .int a1, .int a2, .int a3, .int y8, .int 1] [] (am_S f g) _
                refine am_F.ops (pc' := 122) (L' := [.ref 88, .int a0, .int a1, .int a2, .int a3, .int y8, .int 1]) (S' := [.int 8, .int a0, .ref 88]) (μ' := (am_S f g)) 3 rfl ?_
                refine am_F.call rfl rfl (am_D.args (congrArg (fun (x9 : Int32) => ([.ref 88, .int x9, .int 8] : List Value)) (show (a0 : Int32) = nI a0.toNatClampNeg from (am_inbQ q1).1)) (am_D.args (congrArg (fun (x9 : Int32) => ([.ref 88, .int (nI a0.toNatClampNeg), .int x9] : List Value)) (show (8 : Int32) = nI 8 from rfl)) (x_m_ruleAt a0.toNatClampNeg 8 f g (am_inbQ q1).2 (by omega)))) (by first | decide | omega) ?_
                show am_F _ _ 125 [.ref 88, .int a0, .int a1, .int a2, .int a3, .int y8, .int 1] [.int (fn_m_ruleAt a0.toNatClampNeg 8 f)] (am_S f g) _
                refine am_F.iteK 1 rfl K hK (fun c24 hK => ?_) (fun c24 hK => ?_)
                · show am_F _ _ 128 [.ref 88, .int a0, .int a1, .int a2, .int a3, .int y8, .int 1] [] (am_S f g) _
                  refine am_F.ops (pc' := 129) (L' := [.ref 88, .int a0, .int a1, .int a2, .int a3, .int y8, .int 1]) (S' := [.int 1]) (μ' := (am_S f g)) 1 rfl ?_
                  refine am_F.mem (F' := (am_row f 88 (f 88))) (G' := g) ?_ (by first | rfl | (funext a; by_cases z0 : a = 88; (subst z0; rfl); simp only [am_ui, am_ul, am_row_ne z0])) (by first | rfl | (funext a; by_cases z0 : a = 88; (subst z0; rfl); simp only [am_ui, am_ul, am_row_ne z0]))
                  subst hKd
                  have hQ := am_KO_s hK
                  exact am_F.eq (am_F.ret rfl rfl) hQ
                · show am_F _ _ 130 [.ref 88, .int a0, .int a1, .int a2, .int a3, .int y8, .int 1] [] (am_S f g) _
                  refine am_F.ops (pc' := 132) (L' := [.ref 88, .int a0, .int a1, .int a2, .int a3, .int y8, .int 1]) (S' := [.int a1, .ref 88]) (μ' := (am_S f g)) 2 rfl ?_
                  refine am_F.pfi (F' := (am_row f 88 (upd (f 88) 17 a1))) rfl rfl (by first | rfl | (funext a; by_cases z0 : a = 88; (subst z0; rfl); simp only [am_ui, am_ul, am_row_ne z0])) ?_
                  refine am_F.ops (pc' := 137) (L' := [.ref 88, .int a0, .int a1, .int a2, .int a3, .int y8, .int 1]) (S' := [.int a2, .ref 88]) (μ' := (am_S (am_row f 88 (upd (f 88) 17 a1)) g)) 2 rfl ?_
                  refine am_F.pfi (F' := (am_row f 88 (upd (upd (f 88) 17 a1) 18 a2))) rfl rfl (by first | rfl | (funext a; by_cases z0 : a = 88; (subst z0; rfl); simp only [am_ui, am_ul, am_row_ne z0])) ?_
                  refine am_F.ops (pc' := 143) (L' := [.ref 88, .int a0, .int a1, .int a2, .int a3, .int y8, .int 1]) (S' := [.int a3, .ref 88]) (μ' := (am_S (am_row f 88 (upd (upd (f 88) 17 a1) 18 a2)) g)) 2 rfl ?_
                  refine am_F.pfi (F' := (am_row f 88 (upd (upd (upd (f 88) 17 a1) 18 a2) 19 a3))) rfl rfl (by first | rfl | (funext a; by_cases z0 : a = 88; (subst z0; rfl); simp only [am_ui, am_ul, am_row_ne z0])) ?_
                  refine am_F.ops (pc' := 149) (L' := [.ref 88, .int a0, .int a1, .int a2, .int a3, .int y8, .int 1]) (S' := [.int y8, .ref 88]) (μ' := (am_S (am_row f 88 (upd (upd (upd (f 88) 17 a1) 18 a2) 19 a3)) g)) 2 rfl ?_
                  refine am_F.pfi (F' := (am_row f 88 (upd (upd (upd (upd (f 88) 17 a1) 18 a2) 19 a3) 20 y8))) rfl rfl (by first | rfl | (funext a; by_cases z0 : a = 88; (subst z0; rfl); simp only [am_ui, am_ul, am_row_ne z0])) ?_
                  refine am_F.ops (pc' := 161) (L' := [.ref 88, .int a0, .int a1, .int a2, .int a3, .int y8, .int 1]) (S' := [.int (760 + (80 * a0)), .ref 88]) (μ' := (am_S (am_row f 88 (upd (upd (upd (upd (f 88) 17 a1) 18 a2) 19 a3) 20 y8)) g)) 6 rfl ?_
                  refine am_F.pfi (F' := (am_row f 88 (upd (upd (upd (upd (upd (f 88) 17 a1) 18 a2) 19 a3) 20 y8) 16 (760 + (80 * a0))))) rfl rfl (by first | rfl | (funext a; by_cases z0 : a = 88; (subst z0; rfl); simp only [am_ui, am_ul, am_row_ne z0])) ?_
                  refine am_F.ops (pc' := 165) (L' := [.ref 88, .int a0, .int a1, .int a2, .int a3, .int y8, .int 1]) (S' := [.ref 88]) (μ' := (am_S (am_row f 88 (upd (upd (upd (upd (upd (f 88) 17 a1) 18 a2) 19 a3) 20 y8) 16 (760 + (80 * a0)))) g)) 1 rfl ?_
                  obtain ⟨y25, hy25, hK⟩ := am_ob_e hKn hK
                  refine am_F.call rfl rfl (x_m_part  (am_row f 88 (upd (upd (upd (upd (upd (f 88) 17 a1) 18 a2) 19 a3) 20 y8) 16 (760 + (80 * a0)))) g  y25 hy25) (by first | decide | omega) ?_
                  refine am_F.mem (F' := (am_row f 88 y25.2)) (G' := g) ?_ (by first | rfl | (funext a; by_cases z0 : a = 88; (subst z0; rfl); simp only [am_ui, am_ul, am_row_ne z0])) (by first | rfl | (funext a; by_cases z0 : a = 88; (subst z0; rfl); simp only [am_ui, am_ul, am_row_ne z0]))
                  show am_F _ _ 168 [.ref 88, .int a0, .int a1, .int a2, .int a3, .int y8, .int 1] [.int y25.1] (am_S (am_row f 88 y25.2) g) _
                  refine am_F.to (am_To.iteB (pc' := 176) (L2 := [.ref 88, .int a0, .int a1, .int a2, .int a3, .int y8, .int 1]) (S2 := []) (μ2 := (am_S (am_row f 88 y25.2) g)) (a := false) (b := true) 1 rfl (fun c26 => ?_) (fun c26 => ?_)) ?_
                  · intro res9 g9
                    show am_F _ _ 175 [.ref 88, .int a0, .int a1, .int a2, .int a3, .int y8, .int 1] [] (am_S (am_row f 88 y25.2) g) _
                    refine am_F.ops (pc' := 176) (L' := [.ref 88, .int a0, .int a1, .int a2, .int a3, .int y8, .int 1]) (S' := [.int 0]) (μ' := (am_S (am_row f 88 y25.2) g)) 1 rfl ?_
                    exact g9
                  · intro res9 g9
                    show am_F _ _ 171 [.ref 88, .int a0, .int a1, .int a2, .int a3, .int y8, .int 1] [] (am_S (am_row f 88 y25.2) g) _
                    refine am_F.ops (pc' := 176) (L' := [.ref 88, .int a0, .int a1, .int a2, .int a3, .int y8, .int 1]) (S' := [.int 1]) (μ' := (am_S (am_row f 88 y25.2) g)) 2 rfl ?_
                    exact g9
                  show am_F _ _ 176 [.ref 88, .int a0, .int a1, .int a2, .int a3, .int y8, .int 1] [.int (am_b (if y25.1 = 0 then false else true))] (am_S (am_row f 88 y25.2) g) _
                  subst hKd
                  have hQ := am_KO_s hK
                  exact am_F.eq (am_F.ret rfl (am_retB _ _)) hQ
        · show am_F _ _ 67 [.ref 88, .int a0, .int a1, .int a2, .int a3, .int y8, am_un] [] (am_S f g) _
          refine am_F.ops (pc' := 79) (L' := [.ref 88, .int a0, .int a1, .int a2, .int a3, .int y8, am_un]) (S' := [.int 6, .int a0, .ref 88, .int (f 89 200)]) (μ' := (am_S f g)) 7 rfl ?_
          refine am_F.call rfl rfl (am_D.args (congrArg (fun (x9 : Int32) => ([.ref 88, .int x9, .int 6] : List Value)) (show (a0 : Int32) = nI a0.toNatClampNeg from (am_inbQ q1).1)) (am_D.args (congrArg (fun (x9 : Int32) => ([.ref 88, .int (nI a0.toNatClampNeg), .int x9] : List Value)) (show (6 : Int32) = nI 6 from rfl)) (x_m_ruleAt a0.toNatClampNeg 6 f g (am_inbQ q1).2 (by omega)))) (by first | decide | omega) ?_
          show am_F _ _ 82 [.ref 88, .int a0, .int a1, .int a2, .int a3, .int y8, am_un] [.int (fn_m_ruleAt a0.toNatClampNeg 6 f), .int (f 89 200)] (am_S f g) _
          refine am_F.to (am_To.iteB (pc' := 90) (L2 := [.ref 88, .int a0, .int a1, .int a2, .int a3, .int y8, am_un]) (S2 := []) (μ2 := (am_S f g)) (a := false) (b := true) 1 rfl (fun c28 => ?_) (fun c28 => ?_)) ?_
          · intro res9 g9
            show am_F _ _ 89 [.ref 88, .int a0, .int a1, .int a2, .int a3, .int y8, am_un] [] (am_S f g) _
            refine am_F.ops (pc' := 90) (L' := [.ref 88, .int a0, .int a1, .int a2, .int a3, .int y8, am_un]) (S' := [.int 0]) (μ' := (am_S f g)) 1 rfl ?_
            exact g9
          · intro res9 g9
            show am_F _ _ 85 [.ref 88, .int a0, .int a1, .int a2, .int a3, .int y8, am_un] [] (am_S f g) _
            refine am_F.ops (pc' := 90) (L' := [.ref 88, .int a0, .int a1, .int a2, .int a3, .int y8, am_un]) (S' := [.int 1]) (μ' := (am_S f g)) 2 rfl ?_
            exact g9
          show am_F _ _ 90 [.ref 88, .int a0, .int a1, .int a2, .int a3, .int y8, am_un] [.int (am_b (if (fn_m_ruleAt a0.toNatClampNeg 6 f) ≤ (f 89 200) then false else true))] (am_S f g) _
          refine am_F.ops (pc' := 94) (L' := [.ref 88, .int a0, .int a1, .int a2, .int a3, .int y8, .int (am_b (if (fn_m_ruleAt a0.toNatClampNeg 6 f) ≤ (f 89 200) then false else true))]) (S' := [.int (am_b (if (fn_m_ruleAt a0.toNatClampNeg 6 f) ≤ (f 89 200) then false else true))]) (μ' := (am_S f g)) 2 rfl ?_
          refine am_F.bifK 1 rfl K hK (fun c29 hK => ?_) (fun c29 hK => ?_)
          · show am_F _ _ 97 [.ref 88, .int a0, .int a1, .int a2, .int a3, .int y8, .int (am_b (if (fn_m_ruleAt a0.toNatClampNeg 6 f) ≤ (f 89 200) then false else true))] [] (am_S f g) _
            refine am_F.ops (pc' := 99) (L' := [.ref 88, .int a0, .int a1, .int a2, .int a3, .int y8, .int (am_b (if (fn_m_ruleAt a0.toNatClampNeg 6 f) ≤ (f 89 200) then false else true))]) (S' := [.int y8]) (μ' := (am_S f g)) 1 rfl ?_
            refine am_F.iteK 1 rfl K hK (fun c30 hK => ?_) (fun c30 hK => ?_)
            · show am_F _ _ 116 [.ref 88, .int a0, .int a1, .int a2, .int a3, .int y8, .int (am_b (if (fn_m_ruleAt a0.toNatClampNeg 6 f) ≤ (f 89 200) then false else true))] [] (am_S f g) _
              refine am_F.ops (pc' := 117) (L' := [.ref 88, .int a0, .int a1, .int a2, .int a3, .int y8, .int (am_b (if (fn_m_ruleAt a0.toNatClampNeg 6 f) ≤ (f 89 200) then false else true))]) (S' := [.int 0]) (μ' := (am_S f g)) 1 rfl ?_
              refine am_F.mem (F' := (am_row f 88 (f 88))) (G' := g) ?_ (by first | rfl | (funext a; by_cases z0 : a = 88; (subst z0; rfl); simp only [am_ui, am_ul, am_row_ne z0])) (by first | rfl | (funext a; by_cases z0 : a = 88; (subst z0; rfl); simp only [am_ui, am_ul, am_row_ne z0]))
              subst hKd
              have hQ := am_KO_s hK
              exact am_F.eq (am_F.ret rfl rfl) hQ
            · show am_F _ _ 102 [.ref 88, .int a0, .int a1, .int a2, .int a3, .int y8, .int (am_b (if (fn_m_ruleAt a0.toNatClampNeg 6 f) ≤ (f 89 200) then false else true))] [] (am_S f g) _
              refine am_F.ops (pc' := 104) (L' := [.ref 88, .int a0, .int a1, .int a2, .int a3, .int y8, .int (am_b (if (fn_m_ruleAt a0.toNatClampNeg 6 f) ≤ (f 89 200) then false else true))]) (S' := [.int y8]) (μ' := (am_S f g)) 1 rfl ?_
              refine am_F.iteK 1 rfl K hK (fun c31 hK => ?_) (fun c31 hK => ?_)
              · show am_F _ _ 118 [.ref 88, .int a0, .int a1, .int a2, .int a3, .int y8, .int (am_b (if (fn_m_ruleAt a0.toNatClampNeg 6 f) ≤ (f 89 200) then false else true))] [] (am_S f g) _
                refine am_F.ops (pc' := 122) (L' := [.ref 88, .int a0, .int a1, .int a2, .int a3, .int y8, .int (am_b (if (fn_m_ruleAt a0.toNatClampNeg 6 f) ≤ (f 89 200) then false else true))]) (S' := [.int 8, .int a0, .ref 88]) (μ' := (am_S f g)) 3 rfl ?_
                refine am_F.call rfl rfl (am_D.args (congrArg (fun (x9 : Int32) => ([.ref 88, .int x9, .int 8] : List Value)) (show (a0 : Int32) = nI a0.toNatClampNeg from (am_inbQ q1).1)) (am_D.args (congrArg (fun (x9 : Int32) => ([.ref 88, .int (nI a0.toNatClampNeg), .int x9] : List Value)) (show (8 : Int32) = nI 8 from rfl)) (x_m_ruleAt a0.toNatClampNeg 8 f g (am_inbQ q1).2 (by omega)))) (by first | decide | omega) ?_
                show am_F _ _ 125 [.ref 88, .int a0, .int a1, .int a2, .int a3, .int y8, .int (am_b (if (fn_m_ruleAt a0.toNatClampNeg 6 f) ≤ (f 89 200) then false else true))] [.int (fn_m_ruleAt a0.toNatClampNeg 8 f)] (am_S f g) _
                refine am_F.iteK 1 rfl K hK (fun c33 hK => ?_) (fun c33 hK => ?_)
                · show am_F _ _ 128 [.ref 88, .int a0, .int a1, .int a2, .int a3, .int y8, .int (am_b (if (fn_m_ruleAt a0.toNatClampNeg 6 f) ≤ (f 89 200) then false else true))] [] (am_S f g) _
                  refine am_F.ops (pc' := 129) (L' := [.ref 88, .int a0, .int a1, .int a2, .int a3, .int y8, .int (am_b (if (fn_m_ruleAt a0.toNatClampNeg 6 f) ≤ (f 89 200) then false else true))]) (S' := [.int 1]) (μ' := (am_S f g)) 1 rfl ?_
                  refine am_F.mem (F' := (am_row f 88 (f 88))) (G' := g) ?_ (by first | rfl | (funext a; by_cases z0 : a = 88; (subst z0; rfl); simp only [am_ui, am_ul, am_row_ne z0])) (by first | rfl | (funext a; by_cases z0 : a = 88; (subst z0; rfl); simp only [am_ui, am_ul, am_row_ne z0]))
                  subst hKd
                  have hQ := am_KO_s hK
                  exact am_F.eq (am_F.ret rfl rfl) hQ
                · show am_F _ _ 130 [.ref 88, .int a0, .int a1, .int a2, .int a3, .int y8, .int (am_b (if (fn_m_ruleAt a0.toNatClampNeg 6 f) ≤ (f 89 200) then false else true))] [] (am_S f g) _
                  refine am_F.ops (pc' := 132) (L' := [.ref 88, .int a0, .int a1, .int a2, .int a3, .int y8, .int (am_b (if (fn_m_ruleAt a0.toNatClampNeg 6 f) ≤ (f 89 200) then false else true))]) (S' := [.int a1, .ref 88]) (μ' := (am_S f g)) 2 rfl ?_
                  refine am_F.pfi (F' := (am_row f 88 (upd (f 88) 17 a1))) rfl rfl (by first | rfl | (funext a; by_cases z0 : a = 88; (subst z0; rfl); simp only [am_ui, am_ul, am_row_ne z0])) ?_
                  refine am_F.ops (pc' := 137) (L' := [.ref 88, .int a0, .int a1, .int a2, .int a3, .int y8, .int (am_b (if (fn_m_ruleAt a0.toNatClampNeg 6 f) ≤ (f 89 200) then false else true))]) (S' := [.int a2, .ref 88]) (μ' := (am_S (am_row f 88 (upd (f 88) 17 a1)) g)) 2 rfl ?_
                  refine am_F.pfi (F' := (am_row f 88 (upd (upd (f 88) 17 a1) 18 a2))) rfl rfl (by first | rfl | (funext a; by_cases z0 : a = 88; (subst z0; rfl); simp only [am_ui, am_ul, am_row_ne z0])) ?_
                  refine am_F.ops (pc' := 143) (L' := [.ref 88, .int a0, .int a1, .int a2, .int a3, .int y8, .int (am_b (if (fn_m_ruleAt a0.toNatClampNeg 6 f) ≤ (f 89 200) then false else true))]) (S' := [.int a3, .ref 88]) (μ' := (am_S (am_row f 88 (upd (upd (f 88) 17 a1) 18 a2)) g)) 2 rfl ?_
                  refine am_F.pfi (F' := (am_row f 88 (upd (upd (upd (f 88) 17 a1) 18 a2) 19 a3))) rfl rfl (by first | rfl | (funext a; by_cases z0 : a = 88; (subst z0; rfl); simp only [am_ui, am_ul, am_row_ne z0])) ?_
                  refine am_F.ops (pc' := 149) (L' := [.ref 88, .int a0, .int a1, .int a2, .int a3, .int y8, .int (am_b (if (fn_m_ruleAt a0.toNatClampNeg 6 f) ≤ (f 89 200) then false else true))]) (S' := [.int y8, .ref 88]) (μ' := (am_S (am_row f 88 (upd (upd (upd (f 88) 17 a1) 18 a2) 19 a3)) g)) 2 rfl ?_
                  refine am_F.pfi (F' := (am_row f 88 (upd (upd (upd (upd (f 88) 17 a1) 18 a2) 19 a3) 20 y8))) rfl rfl (by first | rfl | (funext a; by_cases z0 : a = 88; (subst z0; rfl); simp only [am_ui, am_ul, am_row_ne z0])) ?_
                  refine am_F.ops (pc' := 161) (L' := [.ref 88, .int a0, .int a1, .int a2, .int a3, .int y8, .int (am_b (if (fn_m_ruleAt a0.toNatClampNeg 6 f) ≤ (f 89 200) then false else true))]) (S' := [.int (760 + (80 * a0)), .ref 88]) (μ' := (am_S (am_row f 88 (upd (upd (upd (upd (f 88) 17 a1) 18 a2) 19 a3) 20 y8)) g)) 6 rfl ?_
                  refine am_F.pfi (F' := (am_row f 88 (upd (upd (upd (upd (upd (f 88) 17 a1) 18 a2) 19 a3) 20 y8) 16 (760 + (80 * a0))))) rfl rfl (by first | rfl | (funext a; by_cases z0 : a = 88; (subst z0; rfl); simp only [am_ui, am_ul, am_row_ne z0])) ?_
                  refine am_F.ops (pc' := 165) (L' := [.ref 88, .int a0, .int a1, .int a2, .int a3, .int y8, .int (am_b (if (fn_m_ruleAt a0.toNatClampNeg 6 f) ≤ (f 89 200) then false else true))]) (S' := [.ref 88]) (μ' := (am_S (am_row f 88 (upd (upd (upd (upd (upd (f 88) 17 a1) 18 a2) 19 a3) 20 y8) 16 (760 + (80 * a0)))) g)) 1 rfl ?_
                  obtain ⟨y34, hy34, hK⟩ := am_ob_e hKn hK
                  refine am_F.call rfl rfl (x_m_part  (am_row f 88 (upd (upd (upd (upd (upd (f 88) 17 a1) 18 a2) 19 a3) 20 y8) 16 (760 + (80 * a0)))) g  y34 hy34) (by first | decide | omega) ?_
                  refine am_F.mem (F' := (am_row f 88 y34.2)) (G' := g) ?_ (by first | rfl | (funext a; by_cases z0 : a = 88; (subst z0; rfl); simp only [am_ui, am_ul, am_row_ne z0])) (by first | rfl | (funext a; by_cases z0 : a = 88; (subst z0; rfl); simp only [am_ui, am_ul, am_row_ne z0]))
                  show am_F _ _ 168 [.ref 88, .int a0, .int a1, .int a2, .int a3, .int y8, .int (am_b (if (fn_m_ruleAt a0.toNatClampNeg 6 f) ≤ (f 89 200) then false else true))] [.int y34.1] (am_S (am_row f 88 y34.2) g) _
                  refine am_F.to (am_To.iteB (pc' := 176) (L2 := [.ref 88, .int a0, .int a1, .int a2, .int a3, .int y8, .int (am_b (if (fn_m_ruleAt a0.toNatClampNeg 6 f) ≤ (f 89 200) then false else true))]) (S2 := []) (μ2 := (am_S (am_row f 88 y34.2) g)) (a := false) (b := true) 1 rfl (fun c35 => ?_) (fun c35 => ?_)) ?_
                  · intro res9 g9
                    show am_F _ _ 175 [.ref 88, .int a0, .int a1, .int a2, .int a3, .int y8, .int (am_b (if (fn_m_ruleAt a0.toNatClampNeg 6 f) ≤ (f 89 200) then false else true))] [] (am_S (am_row f 88 y34.2) g) _
                    refine am_F.ops (pc' := 176) (L' := [.ref 88, .int a0, .int a1, .int a2, .int a3, .int y8, .int (am_b (if (fn_m_ruleAt a0.toNatClampNeg 6 f) ≤ (f 89 200) then false else true))]) (S' := [.int 0]) (μ' := (am_S (am_row f 88 y34.2) g)) 1 rfl ?_
                    exact g9
                  · intro res9 g9
                    show am_F _ _ 171 [.ref 88, .int a0, .int a1, .int a2, .int a3, .int y8, .int (am_b (if (fn_m_ruleAt a0.toNatClampNeg 6 f) ≤ (f 89 200) then false else true))] [] (am_S (am_row f 88 y34.2) g) _
                    refine am_F.ops (pc' := 176) (L' := [.ref 88, .int a0, .int a1, .int a2, .int a3, .int y8, .int (am_b (if (fn_m_ruleAt a0.toNatClampNeg 6 f) ≤ (f 89 200) then false else true))]) (S' := [.int 1]) (μ' := (am_S (am_row f 88 y34.2) g)) 2 rfl ?_
                    exact g9
                  show am_F _ _ 176 [.ref 88, .int a0, .int a1, .int a2, .int a3, .int y8, .int (am_b (if (fn_m_ruleAt a0.toNatClampNeg 6 f) ≤ (f 89 200) then false else true))] [.int (am_b (if y34.1 = 0 then false else true))] (am_S (am_row f 88 y34.2) g) _
                  subst hKd
                  have hQ := am_KO_s hK
                  exact am_F.eq (am_F.ret rfl (am_retB _ _)) hQ
              · show am_F _ _ 107 [.ref 88, .int a0, .int a1, .int a2, .int a3, .int y8, .int (am_b (if (fn_m_ruleAt a0.toNatClampNeg 6 f) ≤ (f 89 200) then false else true))] [] (am_S f g) _
                refine am_F.ops (pc' := 110) (L' := [.ref 88, .int a0, .int a1, .int a2, .int a3, .int y8, .int (am_b (if (fn_m_ruleAt a0.toNatClampNeg 6 f) ≤ (f 89 200) then false else true))]) (S' := [.int 4, .int a0, .ref 88]) (μ' := (am_S f g)) 3 rfl ?_
                refine am_F.call rfl rfl (am_D.args (congrArg (fun (x9 : Int32) => ([.ref 88, .int x9, .int 4] : List Value)) (show (a0 : Int32) = nI a0.toNatClampNeg from (am_inbQ q1).1)) (am_D.args (congrArg (fun (x9 : Int32) => ([.ref 88, .int (nI a0.toNatClampNeg), .int x9] : List Value)) (show (4 : Int32) = nI 4 from rfl)) (x_m_ruleAt a0.toNatClampNeg 4 f g (am_inbQ q1).2 (by omega)))) (by first | decide | omega) ?_
                show am_F _ _ 113 [.ref 88, .int a0, .int a1, .int a2, .int a3, .int y8, .int (am_b (if (fn_m_ruleAt a0.toNatClampNeg 6 f) ≤ (f 89 200) then false else true))] [.int (fn_m_ruleAt a0.toNatClampNeg 4 f)] (am_S f g) _
                refine am_F.iteK 1 rfl K hK (fun c37 hK => ?_) (fun c37 hK => ?_)
                · show am_F _ _ 116 [.ref 88, .int a0, .int a1, .int a2, .int a3, .int y8, .int (am_b (if (fn_m_ruleAt a0.toNatClampNeg 6 f) ≤ (f 89 200) then false else true))] [] (am_S f g) _
                  refine am_F.ops (pc' := 117) (L' := [.ref 88, .int a0, .int a1, .int a2, .int a3, .int y8, .int (am_b (if (fn_m_ruleAt a0.toNatClampNeg 6 f) ≤ (f 89 200) then false else true))]) (S' := [.int 0]) (μ' := (am_S f g)) 1 rfl ?_
                  refine am_F.mem (F' := (am_row f 88 (f 88))) (G' := g) ?_ (by first | rfl | (funext a; by_cases z0 : a = 88; (subst z0; rfl); simp only [am_ui, am_ul, am_row_ne z0])) (by first | rfl | (funext a; by_cases z0 : a = 88; (subst z0; rfl); simp only [am_ui, am_ul, am_row_ne z0]))
                  subst hKd
                  have hQ := am_KO_s hK
                  exact am_F.eq (am_F.ret rfl rfl) hQ
                · show am_F _ _ 118 [.ref 88, .int a0, .int a1, .int a2, .int a3, .int y8, .int (am_b (if (fn_m_ruleAt a0.toNatClampNeg 6 f) ≤ (f 89 200) then false else true))] [] (am_S f g) _
                  refine am_F.ops (pc' := 122) (L' := [.ref 88, .int a0, .int a1, .int a2, .int a3, .int y8, .int (am_b (if (fn_m_ruleAt a0.toNatClampNeg 6 f) ≤ (f 89 200) then false else true))]) (S' := [.int 8, .int a0, .ref 88]) (μ' := (am_S f g)) 3 rfl ?_
                  refine am_F.call rfl rfl (am_D.args (congrArg (fun (x9 : Int32) => ([.ref 88, .int x9, .int 8] : List Value)) (show (a0 : Int32) = nI a0.toNatClampNeg from (am_inbQ q1).1)) (am_D.args (congrArg (fun (x9 : Int32) => ([.ref 88, .int (nI a0.toNatClampNeg), .int x9] : List Value)) (show (8 : Int32) = nI 8 from rfl)) (x_m_ruleAt a0.toNatClampNeg 8 f g (am_inbQ q1).2 (by omega)))) (by first | decide | omega) ?_
                  show am_F _ _ 125 [.ref 88, .int a0, .int a1, .int a2, .int a3, .int y8, .int (am_b (if (fn_m_ruleAt a0.toNatClampNeg 6 f) ≤ (f 89 200) then false else true))] [.int (fn_m_ruleAt a0.toNatClampNeg 8 f)] (am_S f g) _
                  refine am_F.iteK 1 rfl K hK (fun c39 hK => ?_) (fun c39 hK => ?_)
                  · show am_F _ _ 128 [.ref 88, .int a0, .int a1, .int a2, .int a3, .int y8, .int (am_b (if (fn_m_ruleAt a0.toNatClampNeg 6 f) ≤ (f 89 200) then false else true))] [] (am_S f g) _
                    refine am_F.ops (pc' := 129) (L' := [.ref 88, .int a0, .int a1, .int a2, .int a3, .int y8, .int (am_b (if (fn_m_ruleAt a0.toNatClampNeg 6 f) ≤ (f 89 200) then false else true))]) (S' := [.int 1]) (μ' := (am_S f g)) 1 rfl ?_
                    refine am_F.mem (F' := (am_row f 88 (f 88))) (G' := g) ?_ (by first | rfl | (funext a; by_cases z0 : a = 88; (subst z0; rfl); simp only [am_ui, am_ul, am_row_ne z0])) (by first | rfl | (funext a; by_cases z0 : a = 88; (subst z0; rfl); simp only [am_ui, am_ul, am_row_ne z0]))
                    subst hKd
                    have hQ := am_KO_s hK
                    exact am_F.eq (am_F.ret rfl rfl) hQ
                  · show am_F _ _ 130 [.ref 88, .int a0, .int a1, .int a2, .int a3, .int y8, .int (am_b (if (fn_m_ruleAt a0.toNatClampNeg 6 f) ≤ (f 89 200) then false else true))] [] (am_S f g) _
                    refine am_F.ops (pc' := 132) (L' := [.ref 88, .int a0, .int a1, .int a2, .int a3, .int y8, .int (am_b (if (fn_m_ruleAt a0.toNatClampNeg 6 f) ≤ (f 89 200) then false else true))]) (S' := [.int a1, .ref 88]) (μ' := (am_S f g)) 2 rfl ?_
                    refine am_F.pfi (F' := (am_row f 88 (upd (f 88) 17 a1))) rfl rfl (by first | rfl | (funext a; by_cases z0 : a = 88; (subst z0; rfl); simp only [am_ui, am_ul, am_row_ne z0])) ?_
                    refine am_F.ops (pc' := 137) (L' := [.ref 88, .int a0, .int a1, .int a2, .int a3, .int y8, .int (am_b (if (fn_m_ruleAt a0.toNatClampNeg 6 f) ≤ (f 89 200) then false else true))]) (S' := [.int a2, .ref 88]) (μ' := (am_S (am_row f 88 (upd (f 88) 17 a1)) g)) 2 rfl ?_
                    refine am_F.pfi (F' := (am_row f 88 (upd (upd (f 88) 17 a1) 18 a2))) rfl rfl (by first | rfl | (funext a; by_cases z0 : a = 88; (subst z0; rfl); simp only [am_ui, am_ul, am_row_ne z0])) ?_
                    refine am_F.ops (pc' := 143) (L' := [.ref 88, .int a0, .int a1, .int a2, .int a3, .int y8, .int (am_b (if (fn_m_ruleAt a0.toNatClampNeg 6 f) ≤ (f 89 200) then false else true))]) (S' := [.int a3, .ref 88]) (μ' := (am_S (am_row f 88 (upd (upd (f 88) 17 a1) 18 a2)) g)) 2 rfl ?_
                    refine am_F.pfi (F' := (am_row f 88 (upd (upd (upd (f 88) 17 a1) 18 a2) 19 a3))) rfl rfl (by first | rfl | (funext a; by_cases z0 : a = 88; (subst z0; rfl); simp only [am_ui, am_ul, am_row_ne z0])) ?_
                    refine am_F.ops (pc' := 149) (L' := [.ref 88, .int a0, .int a1, .int a2, .int a3, .int y8, .int (am_b (if (fn_m_ruleAt a0.toNatClampNeg 6 f) ≤ (f 89 200) then false else true))]) (S' := [.int y8, .ref 88]) (μ' := (am_S (am_row f 88 (upd (upd (upd (f 88) 17 a1) 18 a2) 19 a3)) g)) 2 rfl ?_
                    refine am_F.pfi (F' := (am_row f 88 (upd (upd (upd (upd (f 88) 17 a1) 18 a2) 19 a3) 20 y8))) rfl rfl (by first | rfl | (funext a; by_cases z0 : a = 88; (subst z0; rfl); simp only [am_ui, am_ul, am_row_ne z0])) ?_
                    refine am_F.ops (pc' := 161) (L' := [.ref 88, .int a0, .int a1, .int a2, .int a3, .int y8, .int (am_b (if (fn_m_ruleAt a0.toNatClampNeg 6 f) ≤ (f 89 200) then false else true))]) (S' := [.int (760 + (80 * a0)), .ref 88]) (μ' := (am_S (am_row f 88 (upd (upd (upd (upd (f 88) 17 a1) 18 a2) 19 a3) 20 y8)) g)) 6 rfl ?_
                    refine am_F.pfi (F' := (am_row f 88 (upd (upd (upd (upd (upd (f 88) 17 a1) 18 a2) 19 a3) 20 y8) 16 (760 + (80 * a0))))) rfl rfl (by first | rfl | (funext a; by_cases z0 : a = 88; (subst z0; rfl); simp only [am_ui, am_ul, am_row_ne z0])) ?_
                    refine am_F.ops (pc' := 165) (L' := [.ref 88, .int a0, .int a1, .int a2, .int a3, .int y8, .int (am_b (if (fn_m_ruleAt a0.toNatClampNeg 6 f) ≤ (f 89 200) then false else true))]) (S' := [.ref 88]) (μ' := (am_S (am_row f 88 (upd (upd (upd (upd (upd (f 88) 17 a1) 18 a2) 19 a3) 20 y8) 16 (760 + (80 * a0)))) g)) 1 rfl ?_
                    obtain ⟨y40, hy40, hK⟩ := am_ob_e hKn hK
                    refine am_F.call rfl rfl (x_m_part  (am_row f 88 (upd (upd (upd (upd (upd (f 88) 17 a1) 18 a2) 19 a3) 20 y8) 16 (760 + (80 * a0)))) g  y40 hy40) (by first | decide | omega) ?_
                    refine am_F.mem (F' := (am_row f 88 y40.2)) (G' := g) ?_ (by first | rfl | (funext a; by_cases z0 : a = 88; (subst z0; rfl); simp only [am_ui, am_ul, am_row_ne z0])) (by first | rfl | (funext a; by_cases z0 : a = 88; (subst z0; rfl); simp only [am_ui, am_ul, am_row_ne z0]))
                    show am_F _ _ 168 [.ref 88, .int a0, .int a1, .int a2, .int a3, .int y8, .int (am_b (if (fn_m_ruleAt a0.toNatClampNeg 6 f) ≤ (f 89 200) then false else true))] [.int y40.1] (am_S (am_row f 88 y40.2) g) _
                    refine am_F.to (am_To.iteB (pc' := 176) (L2 := [.ref 88, .int a0, .int a1, .int a2, .int a3, .int y8, .int (am_b (if (fn_m_ruleAt a0.toNatClampNeg 6 f) ≤ (f 89 200) then false else true))]) (S2 := []) (μ2 := (am_S (am_row f 88 y40.2) g)) (a := false) (b := true) 1 rfl (fun c41 => ?_) (fun c41 => ?_)) ?_
                    · intro res9 g9
                      show am_F _ _ 175 [.ref 88, .int a0, .int a1, .int a2, .int a3, .int y8, .int (am_b (if (fn_m_ruleAt a0.toNatClampNeg 6 f) ≤ (f 89 200) then false else true))] [] (am_S (am_row f 88 y40.2) g) _
                      refine am_F.ops (pc' := 176) (L' := [.ref 88, .int a0, .int a1, .int a2, .int a3, .int y8, .int (am_b (if (fn_m_ruleAt a0.toNatClampNeg 6 f) ≤ (f 89 200) then false else true))]) (S' := [.int 0]) (μ' := (am_S (am_row f 88 y40.2) g)) 1 rfl ?_
                      exact g9
                    · intro res9 g9
                      show am_F _ _ 171 [.ref 88, .int a0, .int a1, .int a2, .int a3, .int y8, .int (am_b (if (fn_m_ruleAt a0.toNatClampNeg 6 f) ≤ (f 89 200) then false else true))] [] (am_S (am_row f 88 y40.2) g) _
                      refine am_F.ops (pc' := 176) (L' := [.ref 88, .int a0, .int a1, .int a2, .int a3, .int y8, .int (am_b (if (fn_m_ruleAt a0.toNatClampNeg 6 f) ≤ (f 89 200) then false else true))]) (S' := [.int 1]) (μ' := (am_S (am_row f 88 y40.2) g)) 2 rfl ?_
                      exact g9
                    show am_F _ _ 176 [.ref 88, .int a0, .int a1, .int a2, .int a3, .int y8, .int (am_b (if (fn_m_ruleAt a0.toNatClampNeg 6 f) ≤ (f 89 200) then false else true))] [.int (am_b (if y40.1 = 0 then false else true))] (am_S (am_row f 88 y40.2) g) _
                    subst hKd
                    have hQ := am_KO_s hK
                    exact am_F.eq (am_F.ret rfl (am_retB _ _)) hQ
          · show am_F _ _ 116 [.ref 88, .int a0, .int a1, .int a2, .int a3, .int y8, .int (am_b (if (fn_m_ruleAt a0.toNatClampNeg 6 f) ≤ (f 89 200) then false else true))] [] (am_S f g) _
            refine am_F.ops (pc' := 117) (L' := [.ref 88, .int a0, .int a1, .int a2, .int a3, .int y8, .int (am_b (if (fn_m_ruleAt a0.toNatClampNeg 6 f) ≤ (f 89 200) then false else true))]) (S' := [.int 0]) (μ' := (am_S f g)) 1 rfl ?_
            refine am_F.mem (F' := (am_row f 88 (f 88))) (G' := g) ?_ (by first | rfl | (funext a; by_cases z0 : a = 88; (subst z0; rfl); simp only [am_ui, am_ul, am_row_ne z0])) (by first | rfl | (funext a; by_cases z0 : a = 88; (subst z0; rfl); simp only [am_ui, am_ul, am_row_ne z0]))
            subst hKd
            have hQ := am_KO_s hK
            exact am_F.eq (am_F.ret rfl rfl) hQ
  · show am_F _ _ 23 [.ref 88, .int a0, .int a1, .int a2, .int a3, am_un, am_un] [] (am_S f g) _
    refine am_F.ops (pc' := 24) (L' := [.ref 88, .int a0, .int a1, .int a2, .int a3, am_un, am_un]) (S' := [.int 0]) (μ' := (am_S f g)) 1 rfl ?_
    refine am_F.mem (F' := (am_row f 88 (f 88))) (G' := g) ?_ (by first | rfl | (funext a; by_cases z0 : a = 88; (subst z0; rfl); simp only [am_ui, am_ul, am_row_ne z0])) (by first | rfl | (funext a; by_cases z0 : a = 88; (subst z0; rfl); simp only [am_ui, am_ul, am_row_ne z0]))
    subst hKd
    have hQ := am_KO_s hK
    exact am_F.eq (am_F.ret rfl rfl) hQ
/-- AccessLatticeModel.books, with checks -/
def st_m_books_16  : Nat → (Nat → Int32) → (Nat → Int32) := fun i16 r16_89 => (upd r16_89 (3160 + i16) (r16_89 ((3160 + i16) + 6)))
def lf_m_books_16 (f : Nat → Nat → Int32) : (Nat → Int32) := am_for st_m_books_16 174 0 (f 89)
noncomputable def fn_m_books (a0 : Int32) (a1 : Int32) (a2 : Int32) (a3 : Int32) (f : Nat → Nat → Int32) : Option ((Nat → Int32)) := (if (f 89 208) = 30 then (am_chk (am_inb (3160 + (6 * (((lf_m_books_16 f) 208) - 1))) 3340 = true) (am_chk (am_inb ((3160 + (6 * (((lf_m_books_16 f) 208) - 1))) + 1) 3340 = true) (am_chk (am_inb ((3160 + (6 * (((lf_m_books_16 f) 208) - 1))) + 2) 3340 = true) (am_chk (am_inb ((3160 + (6 * (((lf_m_books_16 f) 208) - 1))) + 3) 3340 = true) (am_chk (am_inb ((3160 + (6 * (((lf_m_books_16 f) 208) - 1))) + 4) 3340 = true) (am_chk (am_inb ((3160 + (6 * (((lf_m_books_16 f) 208) - 1))) + 5) 3340 = true) (am_chk (am_inb (205 + a3) 3340 = true) (some (upd (upd (upd (upd (upd (upd (upd (upd (upd (lf_m_books_16 f) 208 (((lf_m_books_16 f) 208) - 1)) ((3160 + (6 * (((lf_m_books_16 f) 208) - 1))).toNatClampNeg) ((lf_m_books_16 f) 200)) (((3160 + (6 * (((lf_m_books_16 f) 208) - 1))) + 1).toNatClampNeg) a0) (((3160 + (6 * (((lf_m_books_16 f) 208) - 1))) + 2).toNatClampNeg) a1) (((3160 + (6 * (((lf_m_books_16 f) 208) - 1))) + 3).toNatClampNeg) a2) (((3160 + (6 * (((lf_m_books_16 f) 208) - 1))) + 4).toNatClampNeg) a3) (((3160 + (6 * (((lf_m_books_16 f) 208) - 1))) + 5).toNatClampNeg) (f 88 24)) 208 (((upd (upd (upd (upd (upd (upd (upd (lf_m_books_16 f) 208 (((lf_m_books_16 f) 208) - 1)) ((3160 + (6 * (((lf_m_books_16 f) 208) - 1))).toNatClampNeg) ((lf_m_books_16 f) 200)) (((3160 + (6 * (((lf_m_books_16 f) 208) - 1))) + 1).toNatClampNeg) a0) (((3160 + (6 * (((lf_m_books_16 f) 208) - 1))) + 2).toNatClampNeg) a1) (((3160 + (6 * (((lf_m_books_16 f) 208) - 1))) + 3).toNatClampNeg) a2) (((3160 + (6 * (((lf_m_books_16 f) 208) - 1))) + 4).toNatClampNeg) a3) (((3160 + (6 * (((lf_m_books_16 f) 208) - 1))) + 5).toNatClampNeg) (f 88 24)) 208) + 1)) ((205 + a3).toNatClampNeg) (((upd (upd (upd (upd (upd (upd (upd (upd (lf_m_books_16 f) 208 (((lf_m_books_16 f) 208) - 1)) ((3160 + (6 * (((lf_m_books_16 f) 208) - 1))).toNatClampNeg) ((lf_m_books_16 f) 200)) (((3160 + (6 * (((lf_m_books_16 f) 208) - 1))) + 1).toNatClampNeg) a0) (((3160 + (6 * (((lf_m_books_16 f) 208) - 1))) + 2).toNatClampNeg) a1) (((3160 + (6 * (((lf_m_books_16 f) 208) - 1))) + 3).toNatClampNeg) a2) (((3160 + (6 * (((lf_m_books_16 f) 208) - 1))) + 4).toNatClampNeg) a3) (((3160 + (6 * (((lf_m_books_16 f) 208) - 1))) + 5).toNatClampNeg) (f 88 24)) 208 (((upd (upd (upd (upd (upd (upd (upd (lf_m_books_16 f) 208 (((lf_m_books_16 f) 208) - 1)) ((3160 + (6 * (((lf_m_books_16 f) 208) - 1))).toNatClampNeg) ((lf_m_books_16 f) 200)) (((3160 + (6 * (((lf_m_books_16 f) 208) - 1))) + 1).toNatClampNeg) a0) (((3160 + (6 * (((lf_m_books_16 f) 208) - 1))) + 2).toNatClampNeg) a1) (((3160 + (6 * (((lf_m_books_16 f) 208) - 1))) + 3).toNatClampNeg) a2) (((3160 + (6 * (((lf_m_books_16 f) 208) - 1))) + 4).toNatClampNeg) a3) (((3160 + (6 * (((lf_m_books_16 f) 208) - 1))) + 5).toNatClampNeg) (f 88 24)) 208) + 1)) ((205 + a3).toNatClampNeg)) + 1)))))))))) else (am_chk (am_inb (3160 + (6 * (f 89 208))) 3340 = true) (am_chk (am_inb ((3160 + (6 * (f 89 208))) + 1) 3340 = true) (am_chk (am_inb ((3160 + (6 * (f 89 208))) + 2) 3340 = true) (am_chk (am_inb ((3160 + (6 * (f 89 208))) + 3) 3340 = true) (am_chk (am_inb ((3160 + (6 * (f 89 208))) + 4) 3340 = true) (am_chk (am_inb ((3160 + (6 * (f 89 208))) + 5) 3340 = true) (am_chk (am_inb (205 + a3) 3340 = true) (some (upd (upd (upd (upd (upd (upd (upd (upd (f 89) ((3160 + (6 * (f 89 208))).toNatClampNeg) (f 89 200)) (((3160 + (6 * (f 89 208))) + 1).toNatClampNeg) a0) (((3160 + (6 * (f 89 208))) + 2).toNatClampNeg) a1) (((3160 + (6 * (f 89 208))) + 3).toNatClampNeg) a2) (((3160 + (6 * (f 89 208))) + 4).toNatClampNeg) a3) (((3160 + (6 * (f 89 208))) + 5).toNatClampNeg) (f 88 24)) 208 (((upd (upd (upd (upd (upd (upd (f 89) ((3160 + (6 * (f 89 208))).toNatClampNeg) (f 89 200)) (((3160 + (6 * (f 89 208))) + 1).toNatClampNeg) a0) (((3160 + (6 * (f 89 208))) + 2).toNatClampNeg) a1) (((3160 + (6 * (f 89 208))) + 3).toNatClampNeg) a2) (((3160 + (6 * (f 89 208))) + 4).toNatClampNeg) a3) (((3160 + (6 * (f 89 208))) + 5).toNatClampNeg) (f 88 24)) 208) + 1)) ((205 + a3).toNatClampNeg) (((upd (upd (upd (upd (upd (upd (upd (f 89) ((3160 + (6 * (f 89 208))).toNatClampNeg) (f 89 200)) (((3160 + (6 * (f 89 208))) + 1).toNatClampNeg) a0) (((3160 + (6 * (f 89 208))) + 2).toNatClampNeg) a1) (((3160 + (6 * (f 89 208))) + 3).toNatClampNeg) a2) (((3160 + (6 * (f 89 208))) + 4).toNatClampNeg) a3) (((3160 + (6 * (f 89 208))) + 5).toNatClampNeg) (f 88 24)) 208 (((upd (upd (upd (upd (upd (upd (f 89) ((3160 + (6 * (f 89 208))).toNatClampNeg) (f 89 200)) (((3160 + (6 * (f 89 208))) + 1).toNatClampNeg) a0) (((3160 + (6 * (f 89 208))) + 2).toNatClampNeg) a1) (((3160 + (6 * (f 89 208))) + 3).toNatClampNeg) a2) (((3160 + (6 * (f 89 208))) + 4).toNatClampNeg) a3) (((3160 + (6 * (f 89 208))) + 5).toNatClampNeg) (f 88 24)) 208) + 1)) ((205 + a3).toNatClampNeg)) + 1)))))))))))
theorem lp_m_books_16 (a0 : Int32) (a1 : Int32) (a2 : Int32) (a3 : Int32) (f : Nat → Nat → Int32) (g : Nat → Nat → Int64)  (res : Option Value × am_M) : ∀ (n i16 : Nat) (r16_89 : Nat → Int32) , i16 + n = 174 → (fun (z : (Nat → Int32)) => ∀ (wc16 : Value), am_F 0 am_k_203 55 [.ref 88, .int a0, .int a1, .int a2, .int a3, wc16] [] (am_S (am_row f 89 z) g) res) (am_for st_m_books_16 n i16 r16_89) → am_F 0 am_k_203 16 [.ref 88, .int a0, .int a1, .int a2, .int a3, .int (nI i16)] [] (am_S (am_row f 89 r16_89) g) res := by
  intro n
  induction n with
  | zero =>
    intro i16 r16_89 hi hK
    refine am_F.pos 3 rfl (by show 174 ≤ nI i16; rw [show (174 : Int32) = nI 174 from rfl]; exact nI_le (by omega) (by omega)) ?_
    exact hK _
  | succ n ih =>
    intro i16 r16_89 hi hK
    refine am_F.neg 3 rfl (by show ¬ 174 ≤ nI i16; rw [show (174 : Int32) = nI 174 from rfl]; exact nI_ge (by omega) (by omega)) ?_
    have hb16 : i16 < 174 := by omega
    show am_F _ _ 24 [.ref 88, .int a0, .int a1, .int a2, .int a3, .int (nI i16)] [] (am_S (am_row f 89 r16_89) g) _
    obtain ⟨K, hKd⟩ : ∃ K : ((Nat → Int32)) → Prop, K = fun s => (fun (z : (Nat → Int32)) => ∀ (wc16 : Value), am_F 0 am_k_203 55 [.ref 88, .int a0, .int a1, .int a2, .int a3, wc16] [] (am_S (am_row f 89 z) g) res) (am_for st_m_books_16 n (i16 + 1) s) := ⟨_, rfl⟩
    have hK : K (st_m_books_16 i16 r16_89) := by rw [hKd]; exact hK
    unfold st_m_books_16 at hK
    refine am_F.ops (pc' := 47) (L' := [.ref 88, .int a0, .int a1, .int a2, .int a3, .int (nI i16)]) (S' := [.int ((3160 + (nI i16)) + 6), .ref 89, .int (3160 + (nI i16)), .ref 89]) (μ' := (am_S (am_row f 89 r16_89) g)) 12 rfl ?_
    refine am_F.ialE (m := ((3160 + i16) + 6)) (N := 3340) rfl rfl rfl (am_addE (am_addE rfl rfl) rfl) (by omega) (by decide) ?_
    show am_F _ _ 48 [.ref 88, .int a0, .int a1, .int a2, .int a3, .int (nI i16)] [.int (r16_89 ((3160 + i16) + 6)), .int (3160 + (nI i16)), .ref 89] (am_S (am_row f 89 r16_89) g) _
    refine am_F.iasE (F' := (am_row f 89 (upd r16_89 (3160 + i16) (r16_89 ((3160 + i16) + 6))))) (m := (3160 + i16)) (N := 3340) rfl rfl rfl (am_addE rfl rfl) (by omega) (by decide) (by first | rfl | (funext a; by_cases z0 : a = 89; (subst z0; rfl); simp only [am_ui, am_ul, am_row_ne z0])) ?_
    refine am_F.ops (pc' := 16) (L' := [.ref 88, .int a0, .int a1, .int a2, .int a3, .int ((nI i16) + 1)]) (S' := []) (μ' := (am_S (am_row f 89 (upd r16_89 (3160 + i16) (r16_89 ((3160 + i16) + 6)))) g)) 2 rfl ?_
    rw [nI_1 i16]
    subst hKd
    exact ih (i16 + 1) (upd r16_89 (3160 + i16) (r16_89 ((3160 + i16) + 6))) (by omega)  hK
theorem x_m_books (a0 : Int32) (a1 : Int32) (a2 : Int32) (a3 : Int32) (f : Nat → Nat → Int32) (g : Nat → Nat → Int64)  (z0 : (Nat → Int32)) (hz0 : (fn_m_books a0 a1 a2 a3 f) = some z0) : am_D 0 203 6 [.ref 88, .int a0, .int a1, .int a2, .int a3] (am_S f g) ((none : Option Value), am_S (am_row f 89 z0) g) := by
  refine am_D.of (code := am_k_203) rfl (L0 := [.ref 88, .int a0, .int a1, .int a2, .int a3, am_un]) rfl ?_
  generalize hres : ((none : Option Value), am_S (am_row f 89 z0) g) = res
  obtain ⟨K, hKd⟩ : ∃ K : Option ((Nat → Int32)) → Prop, K = am_KO (fun z => ((none : Option Value), am_S (am_row f 89 z) g) = res) := ⟨_, rfl⟩
  have hK : K (fn_m_books a0 a1 a2 a3 f) := by rw [hKd, hz0]; exact hres
  have hKn : ¬ K none := by rw [hKd]; exact id
  clear hres hz0
  unfold fn_m_books at hK
  refine am_F.ops (pc' := 10) (L' := [.ref 88, .int a0, .int a1, .int a2, .int a3, am_un]) (S' := [.int 30, .int (f 89 208)]) (μ' := (am_S f g)) 5 rfl ?_
  refine am_F.iteK 1 rfl K hK (fun c2 hK => ?_) (fun c2 hK => ?_)
  · show am_F _ _ 13 [.ref 88, .int a0, .int a1, .int a2, .int a3, am_un] [] (am_S f g) _
    refine am_F.ops (pc' := 16) (L' := [.ref 88, .int a0, .int a1, .int a2, .int a3, .int 0]) (S' := []) (μ' := (am_S f g)) 2 rfl ?_
    refine am_F.mem (F' := (am_row f 89 (f 89))) (G' := g) ?_ (by first | rfl | (funext a; by_cases z0 : a = 89; (subst z0; rfl); simp only [am_ui, am_ul, am_row_ne z0])) (by first | rfl | (funext a; by_cases z0 : a = 89; (subst z0; rfl); simp only [am_ui, am_ul, am_row_ne z0]))
    show am_F _ _ 16 [.ref 88, .int a0, .int a1, .int a2, .int a3, .int (nI 0)] [] (am_S (am_row f 89 (f 89)) g) _
    refine lp_m_books_16 a0 a1 a2 a3 f g  _ 174 0 (f 89)  (by omega)  ?_
    rw [show am_for st_m_books_16 174 0 (f 89) = (lf_m_books_16 f) from rfl]
    generalize (lf_m_books_16 f) = z16_3 at hK ⊢
    intro wc16
    show am_F _ _ 55 [.ref 88, .int a0, .int a1, .int a2, .int a3, wc16] [] (am_S (am_row f 89 z16_3) g) _
    refine am_F.ops (pc' := 66) (L' := [.ref 88, .int a0, .int a1, .int a2, .int a3, wc16]) (S' := [.int ((z16_3 208) - 1), .int 208, .ref 89]) (μ' := (am_S (am_row f 89 z16_3) g)) 7 rfl ?_
    refine am_F.iasE (F' := (am_row f 89 (upd z16_3 208 ((z16_3 208) - 1)))) (m := 208) (N := 3340) rfl rfl rfl rfl (by omega) (by decide) (by first | rfl | (funext a; by_cases z0 : a = 89; (subst z0; rfl); simp only [am_ui, am_ul, am_row_ne z0])) ?_
    refine am_F.ops (pc' := 98) (L' := [.ref 88, .int a0, .int a1, .int a2, .int a3, .int (3160 + (6 * ((z16_3 208) - 1)))]) (S' := [.int (z16_3 200), .int (3160 + (6 * ((z16_3 208) - 1))), .ref 89]) (μ' := (am_S (am_row f 89 (upd z16_3 208 ((z16_3 208) - 1))) g)) 16 rfl ?_
    obtain ⟨q4, hK⟩ := am_chk_e hKn hK
    refine am_F.ias (F' := (am_row f 89 (upd (upd z16_3 208 ((z16_3 208) - 1)) ((3160 + (6 * ((z16_3 208) - 1))).toNatClampNeg) (z16_3 200)))) (N := 3340) rfl rfl rfl q4 (by first | rfl | (funext a; by_cases z0 : a = 89; (subst z0; rfl); simp only [am_ui, am_ul, am_row_ne z0])) ?_
    refine am_F.ops (pc' := 108) (L' := [.ref 88, .int a0, .int a1, .int a2, .int a3, .int (3160 + (6 * ((z16_3 208) - 1)))]) (S' := [.int a0, .int ((3160 + (6 * ((z16_3 208) - 1))) + 1), .ref 89]) (μ' := (am_S (am_row f 89 (upd (upd z16_3 208 ((z16_3 208) - 1)) ((3160 + (6 * ((z16_3 208) - 1))).toNatClampNeg) (z16_3 200))) g)) 6 rfl ?_
    obtain ⟨q5, hK⟩ := am_chk_e hKn hK
    refine am_F.ias (F' := (am_row f 89 (upd (upd (upd z16_3 208 ((z16_3 208) - 1)) ((3160 + (6 * ((z16_3 208) - 1))).toNatClampNeg) (z16_3 200)) (((3160 + (6 * ((z16_3 208) - 1))) + 1).toNatClampNeg) a0))) (N := 3340) rfl rfl rfl q5 (by first | rfl | (funext a; by_cases z0 : a = 89; (subst z0; rfl); simp only [am_ui, am_ul, am_row_ne z0])) ?_
    refine am_F.ops (pc' := 118) (L' := [.ref 88, .int a0, .int a1, .int a2, .int a3, .int (3160 + (6 * ((z16_3 208) - 1)))]) (S' := [.int a1, .int ((3160 + (6 * ((z16_3 208) - 1))) + 2), .ref 89]) (μ' := (am_S (am_row f 89 (upd (upd (upd z16_3 208 ((z16_3 208) - 1)) ((3160 + (6 * ((z16_3 208) - 1))).toNatClampNeg) (z16_3 200)) (((3160 + (6 * ((z16_3 208) - 1))) + 1).toNatClampNeg) a0)) g)) 6 rfl ?_
    obtain ⟨q6, hK⟩ := am_chk_e hKn hK
    refine am_F.ias (F' := (am_row f 89 (upd (upd (upd (upd z16_3 208 ((z16_3 208) - 1)) ((3160 + (6 * ((z16_3 208) - 1))).toNatClampNeg) (z16_3 200)) (((3160 + (6 * ((z16_3 208) - 1))) + 1).toNatClampNeg) a0) (((3160 + (6 * ((z16_3 208) - 1))) + 2).toNatClampNeg) a1))) (N := 3340) rfl rfl rfl q6 (by first | rfl | (funext a; by_cases z0 : a = 89; (subst z0; rfl); simp only [am_ui, am_ul, am_row_ne z0])) ?_
    refine am_F.ops (pc' := 128) (L' := [.ref 88, .int a0, .int a1, .int a2, .int a3, .int (3160 + (6 * ((z16_3 208) - 1)))]) (S' := [.int a2, .int ((3160 + (6 * ((z16_3 208) - 1))) + 3), .ref 89]) (μ' := (am_S (am_row f 89 (upd (upd (upd (upd z16_3 208 ((z16_3 208) - 1)) ((3160 + (6 * ((z16_3 208) - 1))).toNatClampNeg) (z16_3 200)) (((3160 + (6 * ((z16_3 208) - 1))) + 1).toNatClampNeg) a0) (((3160 + (6 * ((z16_3 208) - 1))) + 2).toNatClampNeg) a1)) g)) 6 rfl ?_
    obtain ⟨q7, hK⟩ := am_chk_e hKn hK
    refine am_F.ias (F' := (am_row f 89 (upd (upd (upd (upd (upd z16_3 208 ((z16_3 208) - 1)) ((3160 + (6 * ((z16_3 208) - 1))).toNatClampNeg) (z16_3 200)) (((3160 + (6 * ((z16_3 208) - 1))) + 1).toNatClampNeg) a0) (((3160 + (6 * ((z16_3 208) - 1))) + 2).toNatClampNeg) a1) (((3160 + (6 * ((z16_3 208) - 1))) + 3).toNatClampNeg) a2))) (N := 3340) rfl rfl rfl q7 (by first | rfl | (funext a; by_cases z0 : a = 89; (subst z0; rfl); simp only [am_ui, am_ul, am_row_ne z0])) ?_
    refine am_F.ops (pc' := 139) (L' := [.ref 88, .int a0, .int a1, .int a2, .int a3, .int (3160 + (6 * ((z16_3 208) - 1)))]) (S' := [.int a3, .int ((3160 + (6 * ((z16_3 208) - 1))) + 4), .ref 89]) (μ' := (am_S (am_row f 89 (upd (upd (upd (upd (upd z16_3 208 ((z16_3 208) - 1)) ((3160 + (6 * ((z16_3 208) - 1))).toNatClampNeg) (z16_3 200)) (((3160 + (6 * ((z16_3 208) - 1))) + 1).toNatClampNeg) a0) (((3160 + (6 * ((z16_3 208) - 1))) + 2).toNatClampNeg) a1) (((3160 + (6 * ((z16_3 208) - 1))) + 3).toNatClampNeg) a2)) g)) 6 rfl ?_
    obtain ⟨q8, hK⟩ := am_chk_e hKn hK
    refine am_F.ias (F' := (am_row f 89 (upd (upd (upd (upd (upd (upd z16_3 208 ((z16_3 208) - 1)) ((3160 + (6 * ((z16_3 208) - 1))).toNatClampNeg) (z16_3 200)) (((3160 + (6 * ((z16_3 208) - 1))) + 1).toNatClampNeg) a0) (((3160 + (6 * ((z16_3 208) - 1))) + 2).toNatClampNeg) a1) (((3160 + (6 * ((z16_3 208) - 1))) + 3).toNatClampNeg) a2) (((3160 + (6 * ((z16_3 208) - 1))) + 4).toNatClampNeg) a3))) (N := 3340) rfl rfl rfl q8 (by first | rfl | (funext a; by_cases z0 : a = 89; (subst z0; rfl); simp only [am_ui, am_ul, am_row_ne z0])) ?_
    refine am_F.ops (pc' := 152) (L' := [.ref 88, .int a0, .int a1, .int a2, .int a3, .int (3160 + (6 * ((z16_3 208) - 1)))]) (S' := [.int (f 88 24), .int ((3160 + (6 * ((z16_3 208) - 1))) + 5), .ref 89]) (μ' := (am_S (am_row f 89 (upd (upd (upd (upd (upd (upd z16_3 208 ((z16_3 208) - 1)) ((3160 + (6 * ((z16_3 208) - 1))).toNatClampNeg) (z16_3 200)) (((3160 + (6 * ((z16_3 208) - 1))) + 1).toNatClampNeg) a0) (((3160 + (6 * ((z16_3 208) - 1))) + 2).toNatClampNeg) a1) (((3160 + (6 * ((z16_3 208) - 1))) + 3).toNatClampNeg) a2) (((3160 + (6 * ((z16_3 208) - 1))) + 4).toNatClampNeg) a3)) g)) 7 rfl ?_
    obtain ⟨q9, hK⟩ := am_chk_e hKn hK
    refine am_F.ias (F' := (am_row f 89 (upd (upd (upd (upd (upd (upd (upd z16_3 208 ((z16_3 208) - 1)) ((3160 + (6 * ((z16_3 208) - 1))).toNatClampNeg) (z16_3 200)) (((3160 + (6 * ((z16_3 208) - 1))) + 1).toNatClampNeg) a0) (((3160 + (6 * ((z16_3 208) - 1))) + 2).toNatClampNeg) a1) (((3160 + (6 * ((z16_3 208) - 1))) + 3).toNatClampNeg) a2) (((3160 + (6 * ((z16_3 208) - 1))) + 4).toNatClampNeg) a3) (((3160 + (6 * ((z16_3 208) - 1))) + 5).toNatClampNeg) (f 88 24)))) (N := 3340) rfl rfl rfl q9 (by first | rfl | (funext a; by_cases z0 : a = 89; (subst z0; rfl); simp only [am_ui, am_ul, am_row_ne z0])) ?_
    refine am_F.ops (pc' := 164) (L' := [.ref 88, .int a0, .int a1, .int a2, .int a3, .int (3160 + (6 * ((z16_3 208) - 1)))]) (S' := [.int (((upd (upd (upd (upd (upd (upd (upd z16_3 208 ((z16_3 208) - 1)) ((3160 + (6 * ((z16_3 208) - 1))).toNatClampNeg) (z16_3 200)) (((3160 + (6 * ((z16_3 208) - 1))) + 1).toNatClampNeg) a0) (((3160 + (6 * ((z16_3 208) - 1))) + 2).toNatClampNeg) a1) (((3160 + (6 * ((z16_3 208) - 1))) + 3).toNatClampNeg) a2) (((3160 + (6 * ((z16_3 208) - 1))) + 4).toNatClampNeg) a3) (((3160 + (6 * ((z16_3 208) - 1))) + 5).toNatClampNeg) (f 88 24)) 208) + 1), .int 208, .ref 89]) (μ' := (am_S (am_row f 89 (upd (upd (upd (upd (upd (upd (upd z16_3 208 ((z16_3 208) - 1)) ((3160 + (6 * ((z16_3 208) - 1))).toNatClampNeg) (z16_3 200)) (((3160 + (6 * ((z16_3 208) - 1))) + 1).toNatClampNeg) a0) (((3160 + (6 * ((z16_3 208) - 1))) + 2).toNatClampNeg) a1) (((3160 + (6 * ((z16_3 208) - 1))) + 3).toNatClampNeg) a2) (((3160 + (6 * ((z16_3 208) - 1))) + 4).toNatClampNeg) a3) (((3160 + (6 * ((z16_3 208) - 1))) + 5).toNatClampNeg) (f 88 24))) g)) 7 rfl ?_
    refine am_F.iasE (F' := (am_row f 89 (upd (upd (upd (upd (upd (upd (upd (upd z16_3 208 ((z16_3 208) - 1)) ((3160 + (6 * ((z16_3 208) - 1))).toNatClampNeg) (z16_3 200)) (((3160 + (6 * ((z16_3 208) - 1))) + 1).toNatClampNeg) a0) (((3160 + (6 * ((z16_3 208) - 1))) + 2).toNatClampNeg) a1) (((3160 + (6 * ((z16_3 208) - 1))) + 3).toNatClampNeg) a2) (((3160 + (6 * ((z16_3 208) - 1))) + 4).toNatClampNeg) a3) (((3160 + (6 * ((z16_3 208) - 1))) + 5).toNatClampNeg) (f 88 24)) 208 (((upd (upd (upd (upd (upd (upd (upd z16_3 208 ((z16_3 208) - 1)) ((3160 + (6 * ((z16_3 208) - 1))).toNatClampNeg) (z16_3 200)) (((3160 + (6 * ((z16_3 208) - 1))) + 1).toNatClampNeg) a0) (((3160 + (6 * ((z16_3 208) - 1))) + 2).toNatClampNeg) a1) (((3160 + (6 * ((z16_3 208) - 1))) + 3).toNatClampNeg) a2) (((3160 + (6 * ((z16_3 208) - 1))) + 4).toNatClampNeg) a3) (((3160 + (6 * ((z16_3 208) - 1))) + 5).toNatClampNeg) (f 88 24)) 208) + 1)))) (m := 208) (N := 3340) rfl rfl rfl rfl (by omega) (by decide) (by first | rfl | (funext a; by_cases z0 : a = 89; (subst z0; rfl); simp only [am_ui, am_ul, am_row_ne z0])) ?_
    refine am_F.ops (pc' := 176) (L' := [.ref 88, .int a0, .int a1, .int a2, .int a3, .int (3160 + (6 * ((z16_3 208) - 1)))]) (S' := [.int (205 + a3), .ref 89, .int (205 + a3), .ref 89]) (μ' := (am_S (am_row f 89 (upd (upd (upd (upd (upd (upd (upd (upd z16_3 208 ((z16_3 208) - 1)) ((3160 + (6 * ((z16_3 208) - 1))).toNatClampNeg) (z16_3 200)) (((3160 + (6 * ((z16_3 208) - 1))) + 1).toNatClampNeg) a0) (((3160 + (6 * ((z16_3 208) - 1))) + 2).toNatClampNeg) a1) (((3160 + (6 * ((z16_3 208) - 1))) + 3).toNatClampNeg) a2) (((3160 + (6 * ((z16_3 208) - 1))) + 4).toNatClampNeg) a3) (((3160 + (6 * ((z16_3 208) - 1))) + 5).toNatClampNeg) (f 88 24)) 208 (((upd (upd (upd (upd (upd (upd (upd z16_3 208 ((z16_3 208) - 1)) ((3160 + (6 * ((z16_3 208) - 1))).toNatClampNeg) (z16_3 200)) (((3160 + (6 * ((z16_3 208) - 1))) + 1).toNatClampNeg) a0) (((3160 + (6 * ((z16_3 208) - 1))) + 2).toNatClampNeg) a1) (((3160 + (6 * ((z16_3 208) - 1))) + 3).toNatClampNeg) a2) (((3160 + (6 * ((z16_3 208) - 1))) + 4).toNatClampNeg) a3) (((3160 + (6 * ((z16_3 208) - 1))) + 5).toNatClampNeg) (f 88 24)) 208) + 1))) g)) 6 rfl ?_
    obtain ⟨q10, hK⟩ := am_chk_e hKn hK
    refine am_F.ial (N := 3340) rfl rfl rfl q10 ?_
    show am_F _ _ 177 [.ref 88, .int a0, .int a1, .int a2, .int a3, .int (3160 + (6 * ((z16_3 208) - 1)))] [.int ((upd (upd (upd (upd (upd (upd (upd (upd z16_3 208 ((z16_3 208) - 1)) ((3160 + (6 * ((z16_3 208) - 1))).toNatClampNeg) (z16_3 200)) (((3160 + (6 * ((z16_3 208) - 1))) + 1).toNatClampNeg) a0) (((3160 + (6 * ((z16_3 208) - 1))) + 2).toNatClampNeg) a1) (((3160 + (6 * ((z16_3 208) - 1))) + 3).toNatClampNeg) a2) (((3160 + (6 * ((z16_3 208) - 1))) + 4).toNatClampNeg) a3) (((3160 + (6 * ((z16_3 208) - 1))) + 5).toNatClampNeg) (f 88 24)) 208 (((upd (upd (upd (upd (upd (upd (upd z16_3 208 ((z16_3 208) - 1)) ((3160 + (6 * ((z16_3 208) - 1))).toNatClampNeg) (z16_3 200)) (((3160 + (6 * ((z16_3 208) - 1))) + 1).toNatClampNeg) a0) (((3160 + (6 * ((z16_3 208) - 1))) + 2).toNatClampNeg) a1) (((3160 + (6 * ((z16_3 208) - 1))) + 3).toNatClampNeg) a2) (((3160 + (6 * ((z16_3 208) - 1))) + 4).toNatClampNeg) a3) (((3160 + (6 * ((z16_3 208) - 1))) + 5).toNatClampNeg) (f 88 24)) 208) + 1)) ((205 + a3).toNatClampNeg)), .int (205 + a3), .ref 89] (am_S (am_row f 89 (upd (upd (upd (upd (upd (upd (upd (upd z16_3 208 ((z16_3 208) - 1)) ((3160 + (6 * ((z16_3 208) - 1))).toNatClampNeg) (z16_3 200)) (((3160 + (6 * ((z16_3 208) - 1))) + 1).toNatClampNeg) a0) (((3160 + (6 * ((z16_3 208) - 1))) + 2).toNatClampNeg) a1) (((3160 + (6 * ((z16_3 208) - 1))) + 3).toNatClampNeg) a2) (((3160 + (6 * ((z16_3 208) - 1))) + 4).toNatClampNeg) a3) (((3160 + (6 * ((z16_3 208) - 1))) + 5).toNatClampNeg) (f 88 24)) 208 (((upd (upd (upd (upd (upd (upd (upd z16_3 208 ((z16_3 208) - 1)) ((3160 + (6 * ((z16_3 208) - 1))).toNatClampNeg) (z16_3 200)) (((3160 + (6 * ((z16_3 208) - 1))) + 1).toNatClampNeg) a0) (((3160 + (6 * ((z16_3 208) - 1))) + 2).toNatClampNeg) a1) (((3160 + (6 * ((z16_3 208) - 1))) + 3).toNatClampNeg) a2) (((3160 + (6 * ((z16_3 208) - 1))) + 4).toNatClampNeg) a3) (((3160 + (6 * ((z16_3 208) - 1))) + 5).toNatClampNeg) (f 88 24)) 208) + 1))) g) _
    refine am_F.ops (pc' := 179) (L' := [.ref 88, .int a0, .int a1, .int a2, .int a3, .int (3160 + (6 * ((z16_3 208) - 1)))]) (S' := [.int (((upd (upd (upd (upd (upd (upd (upd (upd z16_3 208 ((z16_3 208) - 1)) ((3160 + (6 * ((z16_3 208) - 1))).toNatClampNeg) (z16_3 200)) (((3160 + (6 * ((z16_3 208) - 1))) + 1).toNatClampNeg) a0) (((3160 + (6 * ((z16_3 208) - 1))) + 2).toNatClampNeg) a1) (((3160 + (6 * ((z16_3 208) - 1))) + 3).toNatClampNeg) a2) (((3160 + (6 * ((z16_3 208) - 1))) + 4).toNatClampNeg) a3) (((3160 + (6 * ((z16_3 208) - 1))) + 5).toNatClampNeg) (f 88 24)) 208 (((upd (upd (upd (upd (upd (upd (upd z16_3 208 ((z16_3 208) - 1)) ((3160 + (6 * ((z16_3 208) - 1))).toNatClampNeg) (z16_3 200)) (((3160 + (6 * ((z16_3 208) - 1))) + 1).toNatClampNeg) a0) (((3160 + (6 * ((z16_3 208) - 1))) + 2).toNatClampNeg) a1) (((3160 + (6 * ((z16_3 208) - 1))) + 3).toNatClampNeg) a2) (((3160 + (6 * ((z16_3 208) - 1))) + 4).toNatClampNeg) a3) (((3160 + (6 * ((z16_3 208) - 1))) + 5).toNatClampNeg) (f 88 24)) 208) + 1)) ((205 + a3).toNatClampNeg)) + 1), .int (205 + a3), .ref 89]) (μ' := (am_S (am_row f 89 (upd (upd (upd (upd (upd (upd (upd (upd z16_3 208 ((z16_3 208) - 1)) ((3160 + (6 * ((z16_3 208) - 1))).toNatClampNeg) (z16_3 200)) (((3160 + (6 * ((z16_3 208) - 1))) + 1).toNatClampNeg) a0) (((3160 + (6 * ((z16_3 208) - 1))) + 2).toNatClampNeg) a1) (((3160 + (6 * ((z16_3 208) - 1))) + 3).toNatClampNeg) a2) (((3160 + (6 * ((z16_3 208) - 1))) + 4).toNatClampNeg) a3) (((3160 + (6 * ((z16_3 208) - 1))) + 5).toNatClampNeg) (f 88 24)) 208 (((upd (upd (upd (upd (upd (upd (upd z16_3 208 ((z16_3 208) - 1)) ((3160 + (6 * ((z16_3 208) - 1))).toNatClampNeg) (z16_3 200)) (((3160 + (6 * ((z16_3 208) - 1))) + 1).toNatClampNeg) a0) (((3160 + (6 * ((z16_3 208) - 1))) + 2).toNatClampNeg) a1) (((3160 + (6 * ((z16_3 208) - 1))) + 3).toNatClampNeg) a2) (((3160 + (6 * ((z16_3 208) - 1))) + 4).toNatClampNeg) a3) (((3160 + (6 * ((z16_3 208) - 1))) + 5).toNatClampNeg) (f 88 24)) 208) + 1))) g)) 2 rfl ?_
    refine am_F.ias (F' := (am_row f 89 (upd (upd (upd (upd (upd (upd (upd (upd (upd z16_3 208 ((z16_3 208) - 1)) ((3160 + (6 * ((z16_3 208) - 1))).toNatClampNeg) (z16_3 200)) (((3160 + (6 * ((z16_3 208) - 1))) + 1).toNatClampNeg) a0) (((3160 + (6 * ((z16_3 208) - 1))) + 2).toNatClampNeg) a1) (((3160 + (6 * ((z16_3 208) - 1))) + 3).toNatClampNeg) a2) (((3160 + (6 * ((z16_3 208) - 1))) + 4).toNatClampNeg) a3) (((3160 + (6 * ((z16_3 208) - 1))) + 5).toNatClampNeg) (f 88 24)) 208 (((upd (upd (upd (upd (upd (upd (upd z16_3 208 ((z16_3 208) - 1)) ((3160 + (6 * ((z16_3 208) - 1))).toNatClampNeg) (z16_3 200)) (((3160 + (6 * ((z16_3 208) - 1))) + 1).toNatClampNeg) a0) (((3160 + (6 * ((z16_3 208) - 1))) + 2).toNatClampNeg) a1) (((3160 + (6 * ((z16_3 208) - 1))) + 3).toNatClampNeg) a2) (((3160 + (6 * ((z16_3 208) - 1))) + 4).toNatClampNeg) a3) (((3160 + (6 * ((z16_3 208) - 1))) + 5).toNatClampNeg) (f 88 24)) 208) + 1)) ((205 + a3).toNatClampNeg) (((upd (upd (upd (upd (upd (upd (upd (upd z16_3 208 ((z16_3 208) - 1)) ((3160 + (6 * ((z16_3 208) - 1))).toNatClampNeg) (z16_3 200)) (((3160 + (6 * ((z16_3 208) - 1))) + 1).toNatClampNeg) a0) (((3160 + (6 * ((z16_3 208) - 1))) + 2).toNatClampNeg) a1) (((3160 + (6 * ((z16_3 208) - 1))) + 3).toNatClampNeg) a2) (((3160 + (6 * ((z16_3 208) - 1))) + 4).toNatClampNeg) a3) (((3160 + (6 * ((z16_3 208) - 1))) + 5).toNatClampNeg) (f 88 24)) 208 (((upd (upd (upd (upd (upd (upd (upd z16_3 208 ((z16_3 208) - 1)) ((3160 + (6 * ((z16_3 208) - 1))).toNatClampNeg) (z16_3 200)) (((3160 + (6 * ((z16_3 208) - 1))) + 1).toNatClampNeg) a0) (((3160 + (6 * ((z16_3 208) - 1))) + 2).toNatClampNeg) a1) (((3160 + (6 * ((z16_3 208) - 1))) + 3).toNatClampNeg) a2) (((3160 + (6 * ((z16_3 208) - 1))) + 4).toNatClampNeg) a3) (((3160 + (6 * ((z16_3 208) - 1))) + 5).toNatClampNeg) (f 88 24)) 208) + 1)) ((205 + a3).toNatClampNeg)) + 1)))) (N := 3340) rfl rfl rfl q10 (by first | rfl | (funext a; by_cases z0 : a = 89; (subst z0; rfl); simp only [am_ui, am_ul, am_row_ne z0])) ?_
    subst hKd
    have hQ := am_KO_s hK
    exact am_F.eq (am_F.ret rfl rfl) hQ
  · show am_F _ _ 67 [.ref 88, .int a0, .int a1, .int a2, .int a3, am_un] [] (am_S f g) _
    refine am_F.ops (pc' := 98) (L' := [.ref 88, .int a0, .int a1, .int a2, .int a3, .int (3160 + (6 * (f 89 208)))]) (S' := [.int (f 89 200), .int (3160 + (6 * (f 89 208))), .ref 89]) (μ' := (am_S f g)) 16 rfl ?_
    obtain ⟨q11, hK⟩ := am_chk_e hKn hK
    refine am_F.ias (F' := (am_row f 89 (upd (f 89) ((3160 + (6 * (f 89 208))).toNatClampNeg) (f 89 200)))) (N := 3340) rfl rfl rfl q11 (by first | rfl | (funext a; by_cases z0 : a = 89; (subst z0; rfl); simp only [am_ui, am_ul, am_row_ne z0])) ?_
    refine am_F.ops (pc' := 108) (L' := [.ref 88, .int a0, .int a1, .int a2, .int a3, .int (3160 + (6 * (f 89 208)))]) (S' := [.int a0, .int ((3160 + (6 * (f 89 208))) + 1), .ref 89]) (μ' := (am_S (am_row f 89 (upd (f 89) ((3160 + (6 * (f 89 208))).toNatClampNeg) (f 89 200))) g)) 6 rfl ?_
    obtain ⟨q12, hK⟩ := am_chk_e hKn hK
    refine am_F.ias (F' := (am_row f 89 (upd (upd (f 89) ((3160 + (6 * (f 89 208))).toNatClampNeg) (f 89 200)) (((3160 + (6 * (f 89 208))) + 1).toNatClampNeg) a0))) (N := 3340) rfl rfl rfl q12 (by first | rfl | (funext a; by_cases z0 : a = 89; (subst z0; rfl); simp only [am_ui, am_ul, am_row_ne z0])) ?_
    refine am_F.ops (pc' := 118) (L' := [.ref 88, .int a0, .int a1, .int a2, .int a3, .int (3160 + (6 * (f 89 208)))]) (S' := [.int a1, .int ((3160 + (6 * (f 89 208))) + 2), .ref 89]) (μ' := (am_S (am_row f 89 (upd (upd (f 89) ((3160 + (6 * (f 89 208))).toNatClampNeg) (f 89 200)) (((3160 + (6 * (f 89 208))) + 1).toNatClampNeg) a0)) g)) 6 rfl ?_
    obtain ⟨q13, hK⟩ := am_chk_e hKn hK
    refine am_F.ias (F' := (am_row f 89 (upd (upd (upd (f 89) ((3160 + (6 * (f 89 208))).toNatClampNeg) (f 89 200)) (((3160 + (6 * (f 89 208))) + 1).toNatClampNeg) a0) (((3160 + (6 * (f 89 208))) + 2).toNatClampNeg) a1))) (N := 3340) rfl rfl rfl q13 (by first | rfl | (funext a; by_cases z0 : a = 89; (subst z0; rfl); simp only [am_ui, am_ul, am_row_ne z0])) ?_
    refine am_F.ops (pc' := 128) (L' := [.ref 88, .int a0, .int a1, .int a2, .int a3, .int (3160 + (6 * (f 89 208)))]) (S' := [.int a2, .int ((3160 + (6 * (f 89 208))) + 3), .ref 89]) (μ' := (am_S (am_row f 89 (upd (upd (upd (f 89) ((3160 + (6 * (f 89 208))).toNatClampNeg) (f 89 200)) (((3160 + (6 * (f 89 208))) + 1).toNatClampNeg) a0) (((3160 + (6 * (f 89 208))) + 2).toNatClampNeg) a1)) g)) 6 rfl ?_
    obtain ⟨q14, hK⟩ := am_chk_e hKn hK
    refine am_F.ias (F' := (am_row f 89 (upd (upd (upd (upd (f 89) ((3160 + (6 * (f 89 208))).toNatClampNeg) (f 89 200)) (((3160 + (6 * (f 89 208))) + 1).toNatClampNeg) a0) (((3160 + (6 * (f 89 208))) + 2).toNatClampNeg) a1) (((3160 + (6 * (f 89 208))) + 3).toNatClampNeg) a2))) (N := 3340) rfl rfl rfl q14 (by first | rfl | (funext a; by_cases z0 : a = 89; (subst z0; rfl); simp only [am_ui, am_ul, am_row_ne z0])) ?_
    refine am_F.ops (pc' := 139) (L' := [.ref 88, .int a0, .int a1, .int a2, .int a3, .int (3160 + (6 * (f 89 208)))]) (S' := [.int a3, .int ((3160 + (6 * (f 89 208))) + 4), .ref 89]) (μ' := (am_S (am_row f 89 (upd (upd (upd (upd (f 89) ((3160 + (6 * (f 89 208))).toNatClampNeg) (f 89 200)) (((3160 + (6 * (f 89 208))) + 1).toNatClampNeg) a0) (((3160 + (6 * (f 89 208))) + 2).toNatClampNeg) a1) (((3160 + (6 * (f 89 208))) + 3).toNatClampNeg) a2)) g)) 6 rfl ?_
    obtain ⟨q15, hK⟩ := am_chk_e hKn hK
    refine am_F.ias (F' := (am_row f 89 (upd (upd (upd (upd (upd (f 89) ((3160 + (6 * (f 89 208))).toNatClampNeg) (f 89 200)) (((3160 + (6 * (f 89 208))) + 1).toNatClampNeg) a0) (((3160 + (6 * (f 89 208))) + 2).toNatClampNeg) a1) (((3160 + (6 * (f 89 208))) + 3).toNatClampNeg) a2) (((3160 + (6 * (f 89 208))) + 4).toNatClampNeg) a3))) (N := 3340) rfl rfl rfl q15 (by first | rfl | (funext a; by_cases z0 : a = 89; (subst z0; rfl); simp only [am_ui, am_ul, am_row_ne z0])) ?_
    refine am_F.ops (pc' := 152) (L' := [.ref 88, .int a0, .int a1, .int a2, .int a3, .int (3160 + (6 * (f 89 208)))]) (S' := [.int (f 88 24), .int ((3160 + (6 * (f 89 208))) + 5), .ref 89]) (μ' := (am_S (am_row f 89 (upd (upd (upd (upd (upd (f 89) ((3160 + (6 * (f 89 208))).toNatClampNeg) (f 89 200)) (((3160 + (6 * (f 89 208))) + 1).toNatClampNeg) a0) (((3160 + (6 * (f 89 208))) + 2).toNatClampNeg) a1) (((3160 + (6 * (f 89 208))) + 3).toNatClampNeg) a2) (((3160 + (6 * (f 89 208))) + 4).toNatClampNeg) a3)) g)) 7 rfl ?_
    obtain ⟨q16, hK⟩ := am_chk_e hKn hK
    refine am_F.ias (F' := (am_row f 89 (upd (upd (upd (upd (upd (upd (f 89) ((3160 + (6 * (f 89 208))).toNatClampNeg) (f 89 200)) (((3160 + (6 * (f 89 208))) + 1).toNatClampNeg) a0) (((3160 + (6 * (f 89 208))) + 2).toNatClampNeg) a1) (((3160 + (6 * (f 89 208))) + 3).toNatClampNeg) a2) (((3160 + (6 * (f 89 208))) + 4).toNatClampNeg) a3) (((3160 + (6 * (f 89 208))) + 5).toNatClampNeg) (f 88 24)))) (N := 3340) rfl rfl rfl q16 (by first | rfl | (funext a; by_cases z0 : a = 89; (subst z0; rfl); simp only [am_ui, am_ul, am_row_ne z0])) ?_
    refine am_F.ops (pc' := 164) (L' := [.ref 88, .int a0, .int a1, .int a2, .int a3, .int (3160 + (6 * (f 89 208)))]) (S' := [.int (((upd (upd (upd (upd (upd (upd (f 89) ((3160 + (6 * (f 89 208))).toNatClampNeg) (f 89 200)) (((3160 + (6 * (f 89 208))) + 1).toNatClampNeg) a0) (((3160 + (6 * (f 89 208))) + 2).toNatClampNeg) a1) (((3160 + (6 * (f 89 208))) + 3).toNatClampNeg) a2) (((3160 + (6 * (f 89 208))) + 4).toNatClampNeg) a3) (((3160 + (6 * (f 89 208))) + 5).toNatClampNeg) (f 88 24)) 208) + 1), .int 208, .ref 89]) (μ' := (am_S (am_row f 89 (upd (upd (upd (upd (upd (upd (f 89) ((3160 + (6 * (f 89 208))).toNatClampNeg) (f 89 200)) (((3160 + (6 * (f 89 208))) + 1).toNatClampNeg) a0) (((3160 + (6 * (f 89 208))) + 2).toNatClampNeg) a1) (((3160 + (6 * (f 89 208))) + 3).toNatClampNeg) a2) (((3160 + (6 * (f 89 208))) + 4).toNatClampNeg) a3) (((3160 + (6 * (f 89 208))) + 5).toNatClampNeg) (f 88 24))) g)) 7 rfl ?_
    refine am_F.iasE (F' := (am_row f 89 (upd (upd (upd (upd (upd (upd (upd (f 89) ((3160 + (6 * (f 89 208))).toNatClampNeg) (f 89 200)) (((3160 + (6 * (f 89 208))) + 1).toNatClampNeg) a0) (((3160 + (6 * (f 89 208))) + 2).toNatClampNeg) a1) (((3160 + (6 * (f 89 208))) + 3).toNatClampNeg) a2) (((3160 + (6 * (f 89 208))) + 4).toNatClampNeg) a3) (((3160 + (6 * (f 89 208))) + 5).toNatClampNeg) (f 88 24)) 208 (((upd (upd (upd (upd (upd (upd (f 89) ((3160 + (6 * (f 89 208))).toNatClampNeg) (f 89 200)) (((3160 + (6 * (f 89 208))) + 1).toNatClampNeg) a0) (((3160 + (6 * (f 89 208))) + 2).toNatClampNeg) a1) (((3160 + (6 * (f 89 208))) + 3).toNatClampNeg) a2) (((3160 + (6 * (f 89 208))) + 4).toNatClampNeg) a3) (((3160 + (6 * (f 89 208))) + 5).toNatClampNeg) (f 88 24)) 208) + 1)))) (m := 208) (N := 3340) rfl rfl rfl rfl (by omega) (by decide) (by first | rfl | (funext a; by_cases z0 : a = 89; (subst z0; rfl); simp only [am_ui, am_ul, am_row_ne z0])) ?_
    refine am_F.ops (pc' := 176) (L' := [.ref 88, .int a0, .int a1, .int a2, .int a3, .int (3160 + (6 * (f 89 208)))]) (S' := [.int (205 + a3), .ref 89, .int (205 + a3), .ref 89]) (μ' := (am_S (am_row f 89 (upd (upd (upd (upd (upd (upd (upd (f 89) ((3160 + (6 * (f 89 208))).toNatClampNeg) (f 89 200)) (((3160 + (6 * (f 89 208))) + 1).toNatClampNeg) a0) (((3160 + (6 * (f 89 208))) + 2).toNatClampNeg) a1) (((3160 + (6 * (f 89 208))) + 3).toNatClampNeg) a2) (((3160 + (6 * (f 89 208))) + 4).toNatClampNeg) a3) (((3160 + (6 * (f 89 208))) + 5).toNatClampNeg) (f 88 24)) 208 (((upd (upd (upd (upd (upd (upd (f 89) ((3160 + (6 * (f 89 208))).toNatClampNeg) (f 89 200)) (((3160 + (6 * (f 89 208))) + 1).toNatClampNeg) a0) (((3160 + (6 * (f 89 208))) + 2).toNatClampNeg) a1) (((3160 + (6 * (f 89 208))) + 3).toNatClampNeg) a2) (((3160 + (6 * (f 89 208))) + 4).toNatClampNeg) a3) (((3160 + (6 * (f 89 208))) + 5).toNatClampNeg) (f 88 24)) 208) + 1))) g)) 6 rfl ?_
    obtain ⟨q17, hK⟩ := am_chk_e hKn hK
    refine am_F.ial (N := 3340) rfl rfl rfl q17 ?_
    show am_F _ _ 177 [.ref 88, .int a0, .int a1, .int a2, .int a3, .int (3160 + (6 * (f 89 208)))] [.int ((upd (upd (upd (upd (upd (upd (upd (f 89) ((3160 + (6 * (f 89 208))).toNatClampNeg) (f 89 200)) (((3160 + (6 * (f 89 208))) + 1).toNatClampNeg) a0) (((3160 + (6 * (f 89 208))) + 2).toNatClampNeg) a1) (((3160 + (6 * (f 89 208))) + 3).toNatClampNeg) a2) (((3160 + (6 * (f 89 208))) + 4).toNatClampNeg) a3) (((3160 + (6 * (f 89 208))) + 5).toNatClampNeg) (f 88 24)) 208 (((upd (upd (upd (upd (upd (upd (f 89) ((3160 + (6 * (f 89 208))).toNatClampNeg) (f 89 200)) (((3160 + (6 * (f 89 208))) + 1).toNatClampNeg) a0) (((3160 + (6 * (f 89 208))) + 2).toNatClampNeg) a1) (((3160 + (6 * (f 89 208))) + 3).toNatClampNeg) a2) (((3160 + (6 * (f 89 208))) + 4).toNatClampNeg) a3) (((3160 + (6 * (f 89 208))) + 5).toNatClampNeg) (f 88 24)) 208) + 1)) ((205 + a3).toNatClampNeg)), .int (205 + a3), .ref 89] (am_S (am_row f 89 (upd (upd (upd (upd (upd (upd (upd (f 89) ((3160 + (6 * (f 89 208))).toNatClampNeg) (f 89 200)) (((3160 + (6 * (f 89 208))) + 1).toNatClampNeg) a0) (((3160 + (6 * (f 89 208))) + 2).toNatClampNeg) a1) (((3160 + (6 * (f 89 208))) + 3).toNatClampNeg) a2) (((3160 + (6 * (f 89 208))) + 4).toNatClampNeg) a3) (((3160 + (6 * (f 89 208))) + 5).toNatClampNeg) (f 88 24)) 208 (((upd (upd (upd (upd (upd (upd (f 89) ((3160 + (6 * (f 89 208))).toNatClampNeg) (f 89 200)) (((3160 + (6 * (f 89 208))) + 1).toNatClampNeg) a0) (((3160 + (6 * (f 89 208))) + 2).toNatClampNeg) a1) (((3160 + (6 * (f 89 208))) + 3).toNatClampNeg) a2) (((3160 + (6 * (f 89 208))) + 4).toNatClampNeg) a3) (((3160 + (6 * (f 89 208))) + 5).toNatClampNeg) (f 88 24)) 208) + 1))) g) _
    refine am_F.ops (pc' := 179) (L' := [.ref 88, .int a0, .int a1, .int a2, .int a3, .int (3160 + (6 * (f 89 208)))]) (S' := [.int (((upd (upd (upd (upd (upd (upd (upd (f 89) ((3160 + (6 * (f 89 208))).toNatClampNeg) (f 89 200)) (((3160 + (6 * (f 89 208))) + 1).toNatClampNeg) a0) (((3160 + (6 * (f 89 208))) + 2).toNatClampNeg) a1) (((3160 + (6 * (f 89 208))) + 3).toNatClampNeg) a2) (((3160 + (6 * (f 89 208))) + 4).toNatClampNeg) a3) (((3160 + (6 * (f 89 208))) + 5).toNatClampNeg) (f 88 24)) 208 (((upd (upd (upd (upd (upd (upd (f 89) ((3160 + (6 * (f 89 208))).toNatClampNeg) (f 89 200)) (((3160 + (6 * (f 89 208))) + 1).toNatClampNeg) a0) (((3160 + (6 * (f 89 208))) + 2).toNatClampNeg) a1) (((3160 + (6 * (f 89 208))) + 3).toNatClampNeg) a2) (((3160 + (6 * (f 89 208))) + 4).toNatClampNeg) a3) (((3160 + (6 * (f 89 208))) + 5).toNatClampNeg) (f 88 24)) 208) + 1)) ((205 + a3).toNatClampNeg)) + 1), .int (205 + a3), .ref 89]) (μ' := (am_S (am_row f 89 (upd (upd (upd (upd (upd (upd (upd (f 89) ((3160 + (6 * (f 89 208))).toNatClampNeg) (f 89 200)) (((3160 + (6 * (f 89 208))) + 1).toNatClampNeg) a0) (((3160 + (6 * (f 89 208))) + 2).toNatClampNeg) a1) (((3160 + (6 * (f 89 208))) + 3).toNatClampNeg) a2) (((3160 + (6 * (f 89 208))) + 4).toNatClampNeg) a3) (((3160 + (6 * (f 89 208))) + 5).toNatClampNeg) (f 88 24)) 208 (((upd (upd (upd (upd (upd (upd (f 89) ((3160 + (6 * (f 89 208))).toNatClampNeg) (f 89 200)) (((3160 + (6 * (f 89 208))) + 1).toNatClampNeg) a0) (((3160 + (6 * (f 89 208))) + 2).toNatClampNeg) a1) (((3160 + (6 * (f 89 208))) + 3).toNatClampNeg) a2) (((3160 + (6 * (f 89 208))) + 4).toNatClampNeg) a3) (((3160 + (6 * (f 89 208))) + 5).toNatClampNeg) (f 88 24)) 208) + 1))) g)) 2 rfl ?_
    refine am_F.ias (F' := (am_row f 89 (upd (upd (upd (upd (upd (upd (upd (upd (f 89) ((3160 + (6 * (f 89 208))).toNatClampNeg) (f 89 200)) (((3160 + (6 * (f 89 208))) + 1).toNatClampNeg) a0) (((3160 + (6 * (f 89 208))) + 2).toNatClampNeg) a1) (((3160 + (6 * (f 89 208))) + 3).toNatClampNeg) a2) (((3160 + (6 * (f 89 208))) + 4).toNatClampNeg) a3) (((3160 + (6 * (f 89 208))) + 5).toNatClampNeg) (f 88 24)) 208 (((upd (upd (upd (upd (upd (upd (f 89) ((3160 + (6 * (f 89 208))).toNatClampNeg) (f 89 200)) (((3160 + (6 * (f 89 208))) + 1).toNatClampNeg) a0) (((3160 + (6 * (f 89 208))) + 2).toNatClampNeg) a1) (((3160 + (6 * (f 89 208))) + 3).toNatClampNeg) a2) (((3160 + (6 * (f 89 208))) + 4).toNatClampNeg) a3) (((3160 + (6 * (f 89 208))) + 5).toNatClampNeg) (f 88 24)) 208) + 1)) ((205 + a3).toNatClampNeg) (((upd (upd (upd (upd (upd (upd (upd (f 89) ((3160 + (6 * (f 89 208))).toNatClampNeg) (f 89 200)) (((3160 + (6 * (f 89 208))) + 1).toNatClampNeg) a0) (((3160 + (6 * (f 89 208))) + 2).toNatClampNeg) a1) (((3160 + (6 * (f 89 208))) + 3).toNatClampNeg) a2) (((3160 + (6 * (f 89 208))) + 4).toNatClampNeg) a3) (((3160 + (6 * (f 89 208))) + 5).toNatClampNeg) (f 88 24)) 208 (((upd (upd (upd (upd (upd (upd (f 89) ((3160 + (6 * (f 89 208))).toNatClampNeg) (f 89 200)) (((3160 + (6 * (f 89 208))) + 1).toNatClampNeg) a0) (((3160 + (6 * (f 89 208))) + 2).toNatClampNeg) a1) (((3160 + (6 * (f 89 208))) + 3).toNatClampNeg) a2) (((3160 + (6 * (f 89 208))) + 4).toNatClampNeg) a3) (((3160 + (6 * (f 89 208))) + 5).toNatClampNeg) (f 88 24)) 208) + 1)) ((205 + a3).toNatClampNeg)) + 1)))) (N := 3340) rfl rfl rfl q17 (by first | rfl | (funext a; by_cases z0 : a = 89; (subst z0; rfl); simp only [am_ui, am_ul, am_row_ne z0])) ?_
    subst hKd
    have hQ := am_KO_s hK
    exact am_F.eq (am_F.ret rfl rfl) hQ
/-- AccessLatticeModel.grounds, with checks -/
def st_m_groundsOf_50 (a0 : Int32) (f : Nat → Nat → Int32) (y4 : (Nat → Int32) × (Nat → Int32) × (Nat → Int32)) : Nat → Int32 → Int32 ⊕ (Int32 ⊕ Empty) := fun i50 a50_3 => (bif (if ((f 89 ((184 + a0).toNatClampNeg)) &&& (fn_m_allAbove (fn_m_ruleAt (f 88 24).toNatClampNeg 1 f) (am_row (am_row (am_row f 88 y4.1) 99 y4.2.1) 100 y4.2.2))) = 0 then false else true) then .inr (.inl a50_3) else .inl (a50_3 ||| (if (f 96 i50) = 0 then 0 else (if (fn_m_loanAt i50 1 (am_row (am_row (am_row f 88 y4.1) 99 y4.2.1) 100 y4.2.2)) = a0 then (1 : Int32) <<< ((fn_m_loanAt i50 2 (am_row (am_row (am_row f 88 y4.1) 99 y4.2.1) 100 y4.2.2)) &&& 31) else 0))))
def lf_m_groundsOf_50 (a0 : Int32) (f : Nat → Nat → Int32) (y4 : (Nat → Int32) × (Nat → Int32) × (Nat → Int32)) : Int32 ⊕ Empty := am_forX (st_m_groundsOf_50 a0 f y4) ((f 89 201).toNatClampNeg) 0 ((f 89 ((184 + a0).toNatClampNeg)) &&& (fn_m_allAbove (fn_m_ruleAt (f 88 24).toNatClampNeg 1 f) (am_row (am_row (am_row f 88 y4.1) 99 y4.2.1) 100 y4.2.2)))
noncomputable def st_m_groundsOf_127 (f : Nat → Nat → Int32) (y13 : (Nat → Int32)) : Int32 × (Nat → Int32) × (Nat → Int32) × (Nat → Int32) → Option (Int32 × (Nat → Int32) × (Nat → Int32) × (Nat → Int32) ⊕ (Int32 × (Nat → Int32) × (Nat → Int32) × (Nat → Int32) ⊕ Empty)) := fun z => match z with
  | (a127_5, r127_88, r127_99, r127_100) => (am_chk (am_inb a127_5 20 = true) (if (y13 a127_5.toNatClampNeg) ≤ 0 then (some (.inr (.inl (a127_5, r127_88, r127_99, r127_100)))) else (am_ob (fn_m_nearer a127_5 true (am_row (am_row (am_row (am_row f 88 r127_88) 95 y13) 99 r127_99) 100 r127_100)) (fun (y23 : Int32) => (am_chk (am_inb ((am_row (am_row (am_row (am_row f 88 r127_88) 95 y13) 99 r127_99) 100 r127_100) 88 23) 64 = true) (some (.inl (y23, (fn_m_groundsAdd 2 y23 (am_row (am_row (am_row (am_row f 88 r127_88) 95 y13) 99 r127_99) 100 r127_100)).1, (fn_m_groundsAdd 2 y23 (am_row (am_row (am_row (am_row f 88 r127_88) 95 y13) 99 r127_99) 100 r127_100)).2.1, (fn_m_groundsAdd 2 y23 (am_row (am_row (am_row (am_row f 88 r127_88) 95 y13) 99 r127_99) 100 r127_100)).2.2))))))))
noncomputable def lf_m_groundsOf_127 (f : Nat → Nat → Int32) (y13 : (Nat → Int32)) (y15 : (Nat → Int32) × (Nat → Int32) × (Nat → Int32)) : Option (Int32 × (Nat → Int32) × (Nat → Int32) × (Nat → Int32) ⊕ Empty) := am_while (st_m_groundsOf_127 f y13) ((fn_m_ruleAt (f 88 24).toNatClampNeg 1 f), y15.1, y15.2.1, y15.2.2)
noncomputable def st_m_groundsOf_171 (a0 : Int32) (f : Nat → Nat → Int32) (y13 : (Nat → Int32)) (z127 : Int32 × (Nat → Int32) × (Nat → Int32) × (Nat → Int32)) : Int32 → Option (Int32 ⊕ (Int32 ⊕ Empty)) := fun a171_6 => (am_chk (am_inb a171_6 40 = true) (if (f 96 a171_6.toNatClampNeg) = 0 then (some (.inl (a171_6 + 1))) else (if (fn_m_loanAt a171_6.toNatClampNeg 1 (am_row (am_row (am_row (am_row f 88 z127.2.1) 95 y13) 99 z127.2.2.1) 100 z127.2.2.2)) = a0 then (if (fn_m_loanAt a171_6.toNatClampNeg 2 (am_row (am_row (am_row (am_row f 88 z127.2.1) 95 y13) 99 z127.2.2.1) 100 z127.2.2.2)) = z127.1 then (some (.inr (.inl a171_6))) else (some (.inl (a171_6 + 1)))) else (some (.inl (a171_6 + 1))))))
noncomputable def lf_m_groundsOf_171 (a0 : Int32) (f : Nat → Nat → Int32) (y13 : (Nat → Int32)) (z127 : Int32 × (Nat → Int32) × (Nat → Int32) × (Nat → Int32)) : Option (Int32 ⊕ Empty) := am_while (st_m_groundsOf_171 a0 f y13 z127) 0
noncomputable def st_m_groundsOf_217 (f : Nat → Nat → Int32) (y13 : (Nat → Int32)) : Int32 × (Nat → Int32) × (Nat → Int32) × (Nat → Int32) → Option (Int32 × (Nat → Int32) × (Nat → Int32) × (Nat → Int32) ⊕ (Int32 × (Nat → Int32) × (Nat → Int32) × (Nat → Int32) ⊕ Empty)) := fun z => match z with
  | (a217_6, r217_88, r217_99, r217_100) => (am_chk (am_inb a217_6 40 = true) (if (fn_m_loanAt a217_6.toNatClampNeg 5 (am_row (am_row (am_row (am_row f 88 r217_88) 95 y13) 99 r217_99) 100 r217_100)) < 0 then (some (.inr (.inl (a217_6, r217_88, r217_99, r217_100)))) else (am_chk (am_inb ((am_row (am_row (am_row (am_row f 88 r217_88) 95 y13) 99 r217_99) 100 r217_100) 88 23) 64 = true) (some (.inl ((fn_m_loanAt a217_6.toNatClampNeg 5 (am_row (am_row (am_row (am_row f 88 r217_88) 95 y13) 99 r217_99) 100 r217_100)), (fn_m_groundsAdd 3 (fn_m_loanAt a217_6.toNatClampNeg 5 (am_row (am_row (am_row (am_row f 88 r217_88) 95 y13) 99 r217_99) 100 r217_100)) (am_row (am_row (am_row (am_row f 88 r217_88) 95 y13) 99 r217_99) 100 r217_100)).1, (fn_m_groundsAdd 3 (fn_m_loanAt a217_6.toNatClampNeg 5 (am_row (am_row (am_row (am_row f 88 r217_88) 95 y13) 99 r217_99) 100 r217_100)) (am_row (am_row (am_row (am_row f 88 r217_88) 95 y13) 99 r217_99) 100 r217_100)).2.1, (fn_m_groundsAdd 3 (fn_m_loanAt a217_6.toNatClampNeg 5 (am_row (am_row (am_row (am_row f 88 r217_88) 95 y13) 99 r217_99) 100 r217_100)) (am_row (am_row (am_row (am_row f 88 r217_88) 95 y13) 99 r217_99) 100 r217_100)).2.2))))))
noncomputable def lf_m_groundsOf_217 (f : Nat → Nat → Int32) (y13 : (Nat → Int32)) (z171 : Int32) (y38 : (Nat → Int32) × (Nat → Int32) × (Nat → Int32)) : Option (Int32 × (Nat → Int32) × (Nat → Int32) × (Nat → Int32) ⊕ Empty) := am_while (st_m_groundsOf_217 f y13) (z171, y38.1, y38.2.1, y38.2.2)
noncomputable def fn_m_groundsOf (a0 : Int32) (f : Nat → Nat → Int32) : Option ((Nat → Int32) × (Nat → Int32) × (Nat → Int32) × (Nat → Int32)) := (am_chk (am_inb (f 88 24) 30 = true) (am_chk (am_inb (f 88 23) 64 = true) (am_chk (am_inb (184 + a0) 3340 = true) (Sum.elim (fun (z50 : Int32) => (am_chk (am_inb ((am_row (am_row (am_row (am_row f 88 (fn_m_groundsAdd 1 (f 88 24) f).1) 95 (fn_m_distances z50 true (am_row (am_row (am_row f 88 (fn_m_groundsAdd 1 (f 88 24) f).1) 99 (fn_m_groundsAdd 1 (f 88 24) f).2.1) 100 (fn_m_groundsAdd 1 (f 88 24) f).2.2))) 99 (fn_m_groundsAdd 1 (f 88 24) f).2.1) 100 (fn_m_groundsAdd 1 (f 88 24) f).2.2) 88 23) 64 = true) (am_ob (lf_m_groundsOf_127 f (fn_m_distances z50 true (am_row (am_row (am_row f 88 (fn_m_groundsAdd 1 (f 88 24) f).1) 99 (fn_m_groundsAdd 1 (f 88 24) f).2.1) 100 (fn_m_groundsAdd 1 (f 88 24) f).2.2)) (fn_m_groundsAdd 2 (fn_m_ruleAt (f 88 24).toNatClampNeg 1 f) (am_row (am_row (am_row (am_row f 88 (fn_m_groundsAdd 1 (f 88 24) f).1) 95 (fn_m_distances z50 true (am_row (am_row (am_row f 88 (fn_m_groundsAdd 1 (f 88 24) f).1) 99 (fn_m_groundsAdd 1 (f 88 24) f).2.1) 100 (fn_m_groundsAdd 1 (f 88 24) f).2.2))) 99 (fn_m_groundsAdd 1 (f 88 24) f).2.1) 100 (fn_m_groundsAdd 1 (f 88 24) f).2.2))) (fun zz => Sum.elim (fun (z127 : Int32 × (Nat → Int32) × (Nat → Int32) × (Nat → Int32)) => (bif (if ((f 89 ((184 + a0).toNatClampNeg)) &&& (fn_m_allAbove (fn_m_ruleAt (f 88 24).toNatClampNeg 1 f) (am_row (am_row (am_row f 88 (fn_m_groundsAdd 1 (f 88 24) f).1) 99 (fn_m_groundsAdd 1 (f 88 24) f).2.1) 100 (fn_m_groundsAdd 1 (f 88 24) f).2.2))) = 0 then false else true) then (am_chk (am_inb ((am_row (am_row (am_row (am_row f 88 z127.2.1) 95 (fn_m_distances z50 true (am_row (am_row (am_row f 88 (fn_m_groundsAdd 1 (f 88 24) f).1) 99 (fn_m_groundsAdd 1 (f 88 24) f).2.1) 100 (fn_m_groundsAdd 1 (f 88 24) f).2.2))) 99 z127.2.2.1) 100 z127.2.2.2) 88 23) 64 = true) (some ((fn_m_groundsAdd 4 a0 (am_row (am_row (am_row (am_row f 88 z127.2.1) 95 (fn_m_distances z50 true (am_row (am_row (am_row f 88 (fn_m_groundsAdd 1 (f 88 24) f).1) 99 (fn_m_groundsAdd 1 (f 88 24) f).2.1) 100 (fn_m_groundsAdd 1 (f 88 24) f).2.2))) 99 z127.2.2.1) 100 z127.2.2.2)).1, (fn_m_distances z50 true (am_row (am_row (am_row f 88 (fn_m_groundsAdd 1 (f 88 24) f).1) 99 (fn_m_groundsAdd 1 (f 88 24) f).2.1) 100 (fn_m_groundsAdd 1 (f 88 24) f).2.2)), (fn_m_groundsAdd 4 a0 (am_row (am_row (am_row (am_row f 88 z127.2.1) 95 (fn_m_distances z50 true (am_row (am_row (am_row f 88 (fn_m_groundsAdd 1 (f 88 24) f).1) 99 (fn_m_groundsAdd 1 (f 88 24) f).2.1) 100 (fn_m_groundsAdd 1 (f 88 24) f).2.2))) 99 z127.2.2.1) 100 z127.2.2.2)).2.1, (fn_m_groundsAdd 4 a0 (am_row (am_row (am_row (am_row f 88 z127.2.1) 95 (fn_m_distances z50 true (am_row (am_row (am_row f 88 (fn_m_groundsAdd 1 (f 88 24) f).1) 99 (fn_m_groundsAdd 1 (f 88 24) f).2.1) 100 (fn_m_groundsAdd 1 (f 88 24) f).2.2))) 99 z127.2.2.1) 100 z127.2.2.2)).2.2))) else (am_ob (lf_m_groundsOf_171 a0 f (fn_m_distances z50 true (am_row (am_row (am_row f 88 (fn_m_groundsAdd 1 (f 88 24) f).1) 99 (fn_m_groundsAdd 1 (f 88 24) f).2.1) 100 (fn_m_groundsAdd 1 (f 88 24) f).2.2)) z127) (fun zz => Sum.elim (fun (z171 : Int32) => (am_chk (am_inb ((am_row (am_row (am_row (am_row f 88 z127.2.1) 95 (fn_m_distances z50 true (am_row (am_row (am_row f 88 (fn_m_groundsAdd 1 (f 88 24) f).1) 99 (fn_m_groundsAdd 1 (f 88 24) f).2.1) 100 (fn_m_groundsAdd 1 (f 88 24) f).2.2))) 99 z127.2.2.1) 100 z127.2.2.2) 88 23) 64 = true) (am_ob (lf_m_groundsOf_217 f (fn_m_distances z50 true (am_row (am_row (am_row f 88 (fn_m_groundsAdd 1 (f 88 24) f).1) 99 (fn_m_groundsAdd 1 (f 88 24) f).2.1) 100 (fn_m_groundsAdd 1 (f 88 24) f).2.2)) z171 (fn_m_groundsAdd 3 z171 (am_row (am_row (am_row (am_row f 88 z127.2.1) 95 (fn_m_distances z50 true (am_row (am_row (am_row f 88 (fn_m_groundsAdd 1 (f 88 24) f).1) 99 (fn_m_groundsAdd 1 (f 88 24) f).2.1) 100 (fn_m_groundsAdd 1 (f 88 24) f).2.2))) 99 z127.2.2.1) 100 z127.2.2.2))) (fun zz => Sum.elim (fun (z217 : Int32 × (Nat → Int32) × (Nat → Int32) × (Nat → Int32)) => (am_chk (am_inb z217.1 40 = true) (am_chk (am_inb ((am_row (am_row (am_row (am_row f 88 z217.2.1) 95 (fn_m_distances z50 true (am_row (am_row (am_row f 88 (fn_m_groundsAdd 1 (f 88 24) f).1) 99 (fn_m_groundsAdd 1 (f 88 24) f).2.1) 100 (fn_m_groundsAdd 1 (f 88 24) f).2.2))) 99 z217.2.2.1) 100 z217.2.2.2) 88 23) 64 = true) (some ((fn_m_groundsAdd 4 (fn_m_loanAt z217.1.toNatClampNeg 0 (am_row (am_row (am_row (am_row f 88 z217.2.1) 95 (fn_m_distances z50 true (am_row (am_row (am_row f 88 (fn_m_groundsAdd 1 (f 88 24) f).1) 99 (fn_m_groundsAdd 1 (f 88 24) f).2.1) 100 (fn_m_groundsAdd 1 (f 88 24) f).2.2))) 99 z217.2.2.1) 100 z217.2.2.2)) (am_row (am_row (am_row (am_row f 88 z217.2.1) 95 (fn_m_distances z50 true (am_row (am_row (am_row f 88 (fn_m_groundsAdd 1 (f 88 24) f).1) 99 (fn_m_groundsAdd 1 (f 88 24) f).2.1) 100 (fn_m_groundsAdd 1 (f 88 24) f).2.2))) 99 z217.2.2.1) 100 z217.2.2.2)).1, (fn_m_distances z50 true (am_row (am_row (am_row f 88 (fn_m_groundsAdd 1 (f 88 24) f).1) 99 (fn_m_groundsAdd 1 (f 88 24) f).2.1) 100 (fn_m_groundsAdd 1 (f 88 24) f).2.2)), (fn_m_groundsAdd 4 (fn_m_loanAt z217.1.toNatClampNeg 0 (am_row (am_row (am_row (am_row f 88 z217.2.1) 95 (fn_m_distances z50 true (am_row (am_row (am_row f 88 (fn_m_groundsAdd 1 (f 88 24) f).1) 99 (fn_m_groundsAdd 1 (f 88 24) f).2.1) 100 (fn_m_groundsAdd 1 (f 88 24) f).2.2))) 99 z217.2.2.1) 100 z217.2.2.2)) (am_row (am_row (am_row (am_row f 88 z217.2.1) 95 (fn_m_distances z50 true (am_row (am_row (am_row f 88 (fn_m_groundsAdd 1 (f 88 24) f).1) 99 (fn_m_groundsAdd 1 (f 88 24) f).2.1) 100 (fn_m_groundsAdd 1 (f 88 24) f).2.2))) 99 z217.2.2.1) 100 z217.2.2.2)).2.1, (fn_m_groundsAdd 4 (fn_m_loanAt z217.1.toNatClampNeg 0 (am_row (am_row (am_row (am_row f 88 z217.2.1) 95 (fn_m_distances z50 true (am_row (am_row (am_row f 88 (fn_m_groundsAdd 1 (f 88 24) f).1) 99 (fn_m_groundsAdd 1 (f 88 24) f).2.1) 100 (fn_m_groundsAdd 1 (f 88 24) f).2.2))) 99 z217.2.2.1) 100 z217.2.2.2)) (am_row (am_row (am_row (am_row f 88 z217.2.1) 95 (fn_m_distances z50 true (am_row (am_row (am_row f 88 (fn_m_groundsAdd 1 (f 88 24) f).1) 99 (fn_m_groundsAdd 1 (f 88 24) f).2.1) 100 (fn_m_groundsAdd 1 (f 88 24) f).2.2))) 99 z217.2.2.1) 100 z217.2.2.2)).2.2))))) (fun (z : Empty) => z.elim) zz)))) (fun (z : Empty) => z.elim) zz)))) (fun (z : Empty) => z.elim) zz)))) (fun (z : Empty) => z.elim) (lf_m_groundsOf_50 a0 f (fn_m_groundsAdd 1 (f 88 24) f))))))
set_option maxRecDepth 20000 in
theorem lp_m_groundsOf_50 (a0 : Int32) (f : Nat → Nat → Int32) (g : Nat → Nat → Int64) (y4 : (Nat → Int32) × (Nat → Int32) × (Nat → Int32)) (hmk : am_mOK (f 89)) (hlC : f 89 201 = nI (f 89 201).toNatClampNeg) (hlN : (f 89 201).toNatClampNeg ≤ 40) (hrC : f 89 202 = nI (f 89 202).toNatClampNeg) (hrN : (f 89 202).toNatClampNeg ≤ 30) (hl0 : ∀ i, i < (f 89 201).toNatClampNeg → am_inb (fn_m_loanAt i 0 f) 16 = true) (hl5 : ∀ i, i < (f 89 201).toNatClampNeg → ¬ fn_m_loanAt i 5 f < 0 → am_inb (fn_m_loanAt i 5 f) 40 = true) (hl2 : ∀ i, i < (f 89 201).toNatClampNeg → am_inb (fn_m_loanAt i 2 f) 20 = true) (res : Option Value × am_M) : ∀ (n i50 : Nat) (a50_3 : Int32) , i50 + n = (f 89 201).toNatClampNeg → am_KX (fun (z : Int32) => ∀ (wc50 : Value), am_F 2 am_k_204 111 [.ref 88, .int a0, .int (fn_m_ruleAt (f 88 24).toNatClampNeg 1 f), .int z, .int (am_b (if ((f 89 ((184 + a0).toNatClampNeg)) &&& (fn_m_allAbove (fn_m_ruleAt (f 88 24).toNatClampNeg 1 f) (am_row (am_row (am_row f 88 y4.1) 99 y4.2.1) 100 y4.2.2))) = 0 then false else true)), wc50, am_un] [] (am_S (am_row (am_row (am_row f 88 y4.1) 99 y4.2.1) 100 y4.2.2) g) res) (fun (z : Empty) => True) (am_forX (st_m_groundsOf_50 a0 f y4) n i50 a50_3) → am_F 2 am_k_204 50 [.ref 88, .int a0, .int (fn_m_ruleAt (f 88 24).toNatClampNeg 1 f), .int a50_3, .int (am_b (if ((f 89 ((184 + a0).toNatClampNeg)) &&& (fn_m_allAbove (fn_m_ruleAt (f 88 24).toNatClampNeg 1 f) (am_row (am_row (am_row f 88 y4.1) 99 y4.2.1) 100 y4.2.2))) = 0 then false else true)), .int (nI i50), am_un] [] (am_S (am_row (am_row (am_row f 88 y4.1) 99 y4.2.1) 100 y4.2.2) g) res := by
  intro n
  induction n with
  | zero =>
    intro i50 a50_3 hi hK
    refine am_F.pos 6 rfl (by show (f 89 201) ≤ nI i50; rw [show (f 89 201 : Int32) = nI ((f 89 201).toNatClampNeg) from hlC]; exact nI_le (by omega) (by omega)) ?_
    exact hK _
  | succ n ih =>
    intro i50 a50_3 hi hK
    refine am_F.neg 6 rfl (by show ¬ (f 89 201) ≤ nI i50; rw [show (f 89 201 : Int32) = nI ((f 89 201).toNatClampNeg) from hlC]; exact nI_ge (by omega) (by omega)) ?_
    have hb50 : i50 < (f 89 201).toNatClampNeg := by omega
    show am_F _ _ 63 [.ref 88, .int a0, .int (fn_m_ruleAt (f 88 24).toNatClampNeg 1 f), .int a50_3, .int (am_b (if ((f 89 ((184 + a0).toNatClampNeg)) &&& (fn_m_allAbove (fn_m_ruleAt (f 88 24).toNatClampNeg 1 f) (am_row (am_row (am_row f 88 y4.1) 99 y4.2.1) 100 y4.2.2))) = 0 then false else true)), .int (nI i50), am_un] [] (am_S (am_row (am_row (am_row f 88 y4.1) 99 y4.2.1) 100 y4.2.2) g) _
    obtain ⟨K, hKd⟩ : ∃ K : (Int32 ⊕ (Int32 ⊕ Empty)) → Prop, K = fun s => am_KX (fun (z : Int32) => ∀ (wc50 : Value), am_F 2 am_k_204 111 [.ref 88, .int a0, .int (fn_m_ruleAt (f 88 24).toNatClampNeg 1 f), .int z, .int (am_b (if ((f 89 ((184 + a0).toNatClampNeg)) &&& (fn_m_allAbove (fn_m_ruleAt (f 88 24).toNatClampNeg 1 f) (am_row (am_row (am_row f 88 y4.1) 99 y4.2.1) 100 y4.2.2))) = 0 then false else true)), wc50, am_un] [] (am_S (am_row (am_row (am_row f 88 y4.1) 99 y4.2.1) 100 y4.2.2) g) res) (fun (z : Empty) => True) (am_nxt (fun z => am_forX (st_m_groundsOf_50 a0 f y4) n (i50 + 1) z) s) := ⟨_, rfl⟩
    have hK : K ((st_m_groundsOf_50 a0 f y4) i50 a50_3) := by rw [am_forX_s] at hK; rw [hKd]; with_reducible exact hK
    unfold st_m_groundsOf_50 at hK
    refine am_F.ops (pc' := 65) (L' := [.ref 88, .int a0, .int (fn_m_ruleAt (f 88 24).toNatClampNeg 1 f), .int a50_3, .int (am_b (if ((f 89 ((184 + a0).toNatClampNeg)) &&& (fn_m_allAbove (fn_m_ruleAt (f 88 24).toNatClampNeg 1 f) (am_row (am_row (am_row f 88 y4.1) 99 y4.2.1) 100 y4.2.2))) = 0 then false else true)), .int (nI i50), am_un]) (S' := [.int (am_b (if ((f 89 ((184 + a0).toNatClampNeg)) &&& (fn_m_allAbove (fn_m_ruleAt (f 88 24).toNatClampNeg 1 f) (am_row (am_row (am_row f 88 y4.1) 99 y4.2.1) 100 y4.2.2))) = 0 then false else true))]) (μ' := (am_S (am_row (am_row (am_row f 88 y4.1) 99 y4.2.1) 100 y4.2.2) g)) 1 rfl ?_
    refine am_F.bifK 1 rfl K hK (fun c8 hK => ?_) (fun c8 hK => ?_)
    · show am_F _ _ 111 [.ref 88, .int a0, .int (fn_m_ruleAt (f 88 24).toNatClampNeg 1 f), .int a50_3, .int (am_b (if ((f 89 ((184 + a0).toNatClampNeg)) &&& (fn_m_allAbove (fn_m_ruleAt (f 88 24).toNatClampNeg 1 f) (am_row (am_row (am_row f 88 y4.1) 99 y4.2.1) 100 y4.2.2))) = 0 then false else true)), .int (nI i50), am_un] [] (am_S (am_row (am_row (am_row f 88 y4.1) 99 y4.2.1) 100 y4.2.2) g) _
      subst hKd
      exact hK (.int (nI i50))
    · show am_F _ _ 68 [.ref 88, .int a0, .int (fn_m_ruleAt (f 88 24).toNatClampNeg 1 f), .int a50_3, .int (am_b (if ((f 89 ((184 + a0).toNatClampNeg)) &&& (fn_m_allAbove (fn_m_ruleAt (f 88 24).toNatClampNeg 1 f) (am_row (am_row (am_row f 88 y4.1) 99 y4.2.1) 100 y4.2.2))) = 0 then false else true)), .int (nI i50), am_un] [] (am_S (am_row (am_row (am_row f 88 y4.1) 99 y4.2.1) 100 y4.2.2) g) _
      refine am_F.ops (pc' := 75) (L' := [.ref 88, .int a0, .int (fn_m_ruleAt (f 88 24).toNatClampNeg 1 f), .int a50_3, .int (am_b (if ((f 89 ((184 + a0).toNatClampNeg)) &&& (fn_m_allAbove (fn_m_ruleAt (f 88 24).toNatClampNeg 1 f) (am_row (am_row (am_row f 88 y4.1) 99 y4.2.1) 100 y4.2.2))) = 0 then false else true)), .int (nI i50), am_un]) (S' := [.int (nI i50), .ref 96, .int a50_3]) (μ' := (am_S (am_row (am_row (am_row f 88 y4.1) 99 y4.2.1) 100 y4.2.2) g)) 4 rfl ?_
      refine am_F.ialE (m := i50) (N := 40) rfl rfl rfl rfl (by omega) (by decide) ?_
      show am_F _ _ 76 [.ref 88, .int a0, .int (fn_m_ruleAt (f 88 24).toNatClampNeg 1 f), .int a50_3, .int (am_b (if ((f 89 ((184 + a0).toNatClampNeg)) &&& (fn_m_allAbove (fn_m_ruleAt (f 88 24).toNatClampNeg 1 f) (am_row (am_row (am_row f 88 y4.1) 99 y4.2.1) 100 y4.2.2))) = 0 then false else true)), .int (nI i50), am_un] [.int (f 96 i50), .int a50_3] (am_S (am_row (am_row (am_row f 88 y4.1) 99 y4.2.1) 100 y4.2.2) g) _
      refine am_F.to (am_To.ite (pc' := 103) (L2 := [.ref 88, .int a0, .int (fn_m_ruleAt (f 88 24).toNatClampNeg 1 f), .int a50_3, .int (am_b (if ((f 89 ((184 + a0).toNatClampNeg)) &&& (fn_m_allAbove (fn_m_ruleAt (f 88 24).toNatClampNeg 1 f) (am_row (am_row (am_row f 88 y4.1) 99 y4.2.1) 100 y4.2.2))) = 0 then false else true)), .int (nI i50), am_un]) (S2 := [.int a50_3]) (μ2 := (am_S (am_row (am_row (am_row f 88 y4.1) 99 y4.2.1) 100 y4.2.2) g)) (a := 0) (b := (if (fn_m_loanAt i50 1 (am_row (am_row (am_row f 88 y4.1) 99 y4.2.1) 100 y4.2.2)) = a0 then (1 : Int32) <<< ((fn_m_loanAt i50 2 (am_row (am_row (am_row f 88 y4.1) 99 y4.2.1) 100 y4.2.2)) &&& 31) else 0)) 1 rfl (fun c9 => ?_) (fun c9 => ?_)) ?_
      · intro res9 g9
        show am_F _ _ 102 [.ref 88, .int a0, .int (fn_m_ruleAt (f 88 24).toNatClampNeg 1 f), .int a50_3, .int (am_b (if ((f 89 ((184 + a0).toNatClampNeg)) &&& (fn_m_allAbove (fn_m_ruleAt (f 88 24).toNatClampNeg 1 f) (am_row (am_row (am_row f 88 y4.1) 99 y4.2.1) 100 y4.2.2))) = 0 then false else true)), .int (nI i50), am_un] [.int a50_3] (am_S (am_row (am_row (am_row f 88 y4.1) 99 y4.2.1) 100 y4.2.2) g) _
        refine am_F.ops (pc' := 103) (L' := [.ref 88, .int a0, .int (fn_m_ruleAt (f 88 24).toNatClampNeg 1 f), .int a50_3, .int (am_b (if ((f 89 ((184 + a0).toNatClampNeg)) &&& (fn_m_allAbove (fn_m_ruleAt (f 88 24).toNatClampNeg 1 f) (am_row (am_row (am_row f 88 y4.1) 99 y4.2.1) 100 y4.2.2))) = 0 then false else true)), .int (nI i50), am_un]) (S' := [.int 0, .int a50_3]) (μ' := (am_S (am_row (am_row (am_row f 88 y4.1) 99 y4.2.1) 100 y4.2.2) g)) 1 rfl ?_
        exact g9
      · intro res9 g9
        show am_F _ _ 79 [.ref 88, .int a0, .int (fn_m_ruleAt (f 88 24).toNatClampNeg 1 f), .int a50_3, .int (am_b (if ((f 89 ((184 + a0).toNatClampNeg)) &&& (fn_m_allAbove (fn_m_ruleAt (f 88 24).toNatClampNeg 1 f) (am_row (am_row (am_row f 88 y4.1) 99 y4.2.1) 100 y4.2.2))) = 0 then false else true)), .int (nI i50), am_un] [.int a50_3] (am_S (am_row (am_row (am_row f 88 y4.1) 99 y4.2.1) 100 y4.2.2) g) _
        refine am_F.ops (pc' := 83) (L' := [.ref 88, .int a0, .int (fn_m_ruleAt (f 88 24).toNatClampNeg 1 f), .int a50_3, .int (am_b (if ((f 89 ((184 + a0).toNatClampNeg)) &&& (fn_m_allAbove (fn_m_ruleAt (f 88 24).toNatClampNeg 1 f) (am_row (am_row (am_row f 88 y4.1) 99 y4.2.1) 100 y4.2.2))) = 0 then false else true)), .int (nI i50), am_un]) (S' := [.int 1, .int (nI i50), .ref 88, .int a50_3]) (μ' := (am_S (am_row (am_row (am_row f 88 y4.1) 99 y4.2.1) 100 y4.2.2) g)) 3 rfl ?_
        refine am_F.call rfl rfl (am_D.args (congrArg (fun (x9 : Int32) => ([.ref 88, .int (nI i50), .int x9] : List Value)) (show (1 : Int32) = nI 1 from rfl)) (x_m_loanAt i50 1 (am_row (am_row (am_row f 88 y4.1) 99 y4.2.1) 100 y4.2.2) g (by omega) (by omega))) (by first | decide | omega) ?_
        show am_F _ _ 86 [.ref 88, .int a0, .int (fn_m_ruleAt (f 88 24).toNatClampNeg 1 f), .int a50_3, .int (am_b (if ((f 89 ((184 + a0).toNatClampNeg)) &&& (fn_m_allAbove (fn_m_ruleAt (f 88 24).toNatClampNeg 1 f) (am_row (am_row (am_row f 88 y4.1) 99 y4.2.1) 100 y4.2.2))) = 0 then false else true)), .int (nI i50), am_un] [.int (fn_m_loanAt i50 1 (am_row (am_row (am_row f 88 y4.1) 99 y4.2.1) 100 y4.2.2)), .int a50_3] (am_S (am_row (am_row (am_row f 88 y4.1) 99 y4.2.1) 100 y4.2.2) g) _
        refine am_F.ops (pc' := 87) (L' := [.ref 88, .int a0, .int (fn_m_ruleAt (f 88 24).toNatClampNeg 1 f), .int a50_3, .int (am_b (if ((f 89 ((184 + a0).toNatClampNeg)) &&& (fn_m_allAbove (fn_m_ruleAt (f 88 24).toNatClampNeg 1 f) (am_row (am_row (am_row f 88 y4.1) 99 y4.2.1) 100 y4.2.2))) = 0 then false else true)), .int (nI i50), am_un]) (S' := [.int a0, .int (fn_m_loanAt i50 1 (am_row (am_row (am_row f 88 y4.1) 99 y4.2.1) 100 y4.2.2)), .int a50_3]) (μ' := (am_S (am_row (am_row (am_row f 88 y4.1) 99 y4.2.1) 100 y4.2.2) g)) 1 rfl ?_
        refine am_F.to (am_To.ite (pc' := 103) (L2 := [.ref 88, .int a0, .int (fn_m_ruleAt (f 88 24).toNatClampNeg 1 f), .int a50_3, .int (am_b (if ((f 89 ((184 + a0).toNatClampNeg)) &&& (fn_m_allAbove (fn_m_ruleAt (f 88 24).toNatClampNeg 1 f) (am_row (am_row (am_row f 88 y4.1) 99 y4.2.1) 100 y4.2.2))) = 0 then false else true)), .int (nI i50), am_un]) (S2 := [.int a50_3]) (μ2 := (am_S (am_row (am_row (am_row f 88 y4.1) 99 y4.2.1) 100 y4.2.2) g)) (a := (1 : Int32) <<< ((fn_m_loanAt i50 2 (am_row (am_row (am_row f 88 y4.1) 99 y4.2.1) 100 y4.2.2)) &&& 31)) (b := 0) 1 rfl (fun c11 => ?_) (fun c11 => ?_)) g9
        · intro res9 g9
          show am_F _ _ 90 [.ref 88, .int a0, .int (fn_m_ruleAt (f 88 24).toNatClampNeg 1 f), .int a50_3, .int (am_b (if ((f 89 ((184 + a0).toNatClampNeg)) &&& (fn_m_allAbove (fn_m_ruleAt (f 88 24).toNatClampNeg 1 f) (am_row (am_row (am_row f 88 y4.1) 99 y4.2.1) 100 y4.2.2))) = 0 then false else true)), .int (nI i50), am_un] [.int a50_3] (am_S (am_row (am_row (am_row f 88 y4.1) 99 y4.2.1) 100 y4.2.2) g) _
          refine am_F.ops (pc' := 95) (L' := [.ref 88, .int a0, .int (fn_m_ruleAt (f 88 24).toNatClampNeg 1 f), .int a50_3, .int (am_b (if ((f 89 ((184 + a0).toNatClampNeg)) &&& (fn_m_allAbove (fn_m_ruleAt (f 88 24).toNatClampNeg 1 f) (am_row (am_row (am_row f 88 y4.1) 99 y4.2.1) 100 y4.2.2))) = 0 then false else true)), .int (nI i50), am_un]) (S' := [.int 2, .int (nI i50), .ref 88, .int 1, .int a50_3]) (μ' := (am_S (am_row (am_row (am_row f 88 y4.1) 99 y4.2.1) 100 y4.2.2) g)) 4 rfl ?_
          refine am_F.call rfl rfl (am_D.args (congrArg (fun (x9 : Int32) => ([.ref 88, .int (nI i50), .int x9] : List Value)) (show (2 : Int32) = nI 2 from rfl)) (x_m_loanAt i50 2 (am_row (am_row (am_row f 88 y4.1) 99 y4.2.1) 100 y4.2.2) g (by omega) (by omega))) (by first | decide | omega) ?_
          show am_F _ _ 98 [.ref 88, .int a0, .int (fn_m_ruleAt (f 88 24).toNatClampNeg 1 f), .int a50_3, .int (am_b (if ((f 89 ((184 + a0).toNatClampNeg)) &&& (fn_m_allAbove (fn_m_ruleAt (f 88 24).toNatClampNeg 1 f) (am_row (am_row (am_row f 88 y4.1) 99 y4.2.1) 100 y4.2.2))) = 0 then false else true)), .int (nI i50), am_un] [.int (fn_m_loanAt i50 2 (am_row (am_row (am_row f 88 y4.1) 99 y4.2.1) 100 y4.2.2)), .int 1, .int a50_3] (am_S (am_row (am_row (am_row f 88 y4.1) 99 y4.2.1) 100 y4.2.2) g) _
          refine am_F.ops (pc' := 103) (L' := [.ref 88, .int a0, .int (fn_m_ruleAt (f 88 24).toNatClampNeg 1 f), .int a50_3, .int (am_b (if ((f 89 ((184 + a0).toNatClampNeg)) &&& (fn_m_allAbove (fn_m_ruleAt (f 88 24).toNatClampNeg 1 f) (am_row (am_row (am_row f 88 y4.1) 99 y4.2.1) 100 y4.2.2))) = 0 then false else true)), .int (nI i50), am_un]) (S' := [.int ((1 : Int32) <<< ((fn_m_loanAt i50 2 (am_row (am_row (am_row f 88 y4.1) 99 y4.2.1) 100 y4.2.2)) &&& 31)), .int a50_3]) (μ' := (am_S (am_row (am_row (am_row f 88 y4.1) 99 y4.2.1) 100 y4.2.2) g)) 2 rfl ?_
          exact g9
        · intro res9 g9
          show am_F _ _ 102 [.ref 88, .int a0, .int (fn_m_ruleAt (f 88 24).toNatClampNeg 1 f), .int a50_3, .int (am_b (if ((f 89 ((184 + a0).toNatClampNeg)) &&& (fn_m_allAbove (fn_m_ruleAt (f 88 24).toNatClampNeg 1 f) (am_row (am_row (am_row f 88 y4.1) 99 y4.2.1) 100 y4.2.2))) = 0 then false else true)), .int (nI i50), am_un] [.int a50_3] (am_S (am_row (am_row (am_row f 88 y4.1) 99 y4.2.1) 100 y4.2.2) g) _
          refine am_F.ops (pc' := 103) (L' := [.ref 88, .int a0, .int (fn_m_ruleAt (f 88 24).toNatClampNeg 1 f), .int a50_3, .int (am_b (if ((f 89 ((184 + a0).toNatClampNeg)) &&& (fn_m_allAbove (fn_m_ruleAt (f 88 24).toNatClampNeg 1 f) (am_row (am_row (am_row f 88 y4.1) 99 y4.2.1) 100 y4.2.2))) = 0 then false else true)), .int (nI i50), am_un]) (S' := [.int 0, .int a50_3]) (μ' := (am_S (am_row (am_row (am_row f 88 y4.1) 99 y4.2.1) 100 y4.2.2) g)) 1 rfl ?_
          exact g9
      show am_F _ _ 103 [.ref 88, .int a0, .int (fn_m_ruleAt (f 88 24).toNatClampNeg 1 f), .int a50_3, .int (am_b (if ((f 89 ((184 + a0).toNatClampNeg)) &&& (fn_m_allAbove (fn_m_ruleAt (f 88 24).toNatClampNeg 1 f) (am_row (am_row (am_row f 88 y4.1) 99 y4.2.1) 100 y4.2.2))) = 0 then false else true)), .int (nI i50), am_un] [.int (if (f 96 i50) = 0 then 0 else (if (fn_m_loanAt i50 1 (am_row (am_row (am_row f 88 y4.1) 99 y4.2.1) 100 y4.2.2)) = a0 then (1 : Int32) <<< ((fn_m_loanAt i50 2 (am_row (am_row (am_row f 88 y4.1) 99 y4.2.1) 100 y4.2.2)) &&& 31) else 0)), .int a50_3] (am_S (am_row (am_row (am_row f 88 y4.1) 99 y4.2.1) 100 y4.2.2) g) _
      refine am_F.ops (pc' := 50) (L' := [.ref 88, .int a0, .int (fn_m_ruleAt (f 88 24).toNatClampNeg 1 f), .int (a50_3 ||| (if (f 96 i50) = 0 then 0 else (if (fn_m_loanAt i50 1 (am_row (am_row (am_row f 88 y4.1) 99 y4.2.1) 100 y4.2.2)) = a0 then (1 : Int32) <<< ((fn_m_loanAt i50 2 (am_row (am_row (am_row f 88 y4.1) 99 y4.2.1) 100 y4.2.2)) &&& 31) else 0))), .int (am_b (if ((f 89 ((184 + a0).toNatClampNeg)) &&& (fn_m_allAbove (fn_m_ruleAt (f 88 24).toNatClampNeg 1 f) (am_row (am_row (am_row f 88 y4.1) 99 y4.2.1) 100 y4.2.2))) = 0 then false else true)), .int ((nI i50) + 1), am_un]) (S' := []) (μ' := (am_S (am_row (am_row (am_row f 88 y4.1) 99 y4.2.1) 100 y4.2.2) g)) 4 rfl ?_
      rw [nI_1 i50]
      subst hKd
      exact ih (i50 + 1) (a50_3 ||| (if (f 96 i50) = 0 then 0 else (if (fn_m_loanAt i50 1 (am_row (am_row (am_row f 88 y4.1) 99 y4.2.1) 100 y4.2.2)) = a0 then (1 : Int32) <<< ((fn_m_loanAt i50 2 (am_row (am_row (am_row f 88 y4.1) 99 y4.2.1) 100 y4.2.2)) &&& 31) else 0))) (by omega)  hK
set_option maxRecDepth 20000 in
theorem lp_m_groundsOf_127 (a0 : Int32) (f : Nat → Nat → Int32) (g : Nat → Nat → Int64) (y4 : (Nat → Int32) × (Nat → Int32) × (Nat → Int32)) (z50 : Int32) (wc50 : Value) (y13 : (Nat → Int32)) (y15 : (Nat → Int32) × (Nat → Int32) × (Nat → Int32)) (hmk : am_mOK (f 89)) (hlC : f 89 201 = nI (f 89 201).toNatClampNeg) (hlN : (f 89 201).toNatClampNeg ≤ 40) (hrC : f 89 202 = nI (f 89 202).toNatClampNeg) (hrN : (f 89 202).toNatClampNeg ≤ 30) (hl0 : ∀ i, i < (f 89 201).toNatClampNeg → am_inb (fn_m_loanAt i 0 f) 16 = true) (hl5 : ∀ i, i < (f 89 201).toNatClampNeg → ¬ fn_m_loanAt i 5 f < 0 → am_inb (fn_m_loanAt i 5 f) 40 = true) (hl2 : ∀ i, i < (f 89 201).toNatClampNeg → am_inb (fn_m_loanAt i 2 f) 20 = true) (res : Option Value × am_M) : ∀ (n : Nat) (a127_5 : Int32) (r127_88 : Nat → Int32) (r127_99 : Nat → Int32) (r127_100 : Nat → Int32), am_KO (am_KX (fun (z : Int32 × (Nat → Int32) × (Nat → Int32) × (Nat → Int32)) => am_F 2 am_k_204 156 [.ref 88, .int a0, .int (fn_m_ruleAt (f 88 24).toNatClampNeg 1 f), .int z50, .int (am_b (if ((f 89 ((184 + a0).toNatClampNeg)) &&& (fn_m_allAbove (fn_m_ruleAt (f 88 24).toNatClampNeg 1 f) (am_row (am_row (am_row f 88 y4.1) 99 y4.2.1) 100 y4.2.2))) = 0 then false else true)), .int z.1, am_un] [] (am_S (am_row (am_row (am_row (am_row f 88 z.2.1) 95 y13) 99 z.2.2.1) 100 z.2.2.2) g) res) (fun (z : Empty) => True)) (am_wh (st_m_groundsOf_127 f y13) n (a127_5, r127_88, r127_99, r127_100)) → am_F 2 am_k_204 127 [.ref 88, .int a0, .int (fn_m_ruleAt (f 88 24).toNatClampNeg 1 f), .int z50, .int (am_b (if ((f 89 ((184 + a0).toNatClampNeg)) &&& (fn_m_allAbove (fn_m_ruleAt (f 88 24).toNatClampNeg 1 f) (am_row (am_row (am_row f 88 y4.1) 99 y4.2.1) 100 y4.2.2))) = 0 then false else true)), .int a127_5, am_un] [] (am_S (am_row (am_row (am_row (am_row f 88 r127_88) 95 y13) 99 r127_99) 100 r127_100) g) res := by
  intro n
  induction n with
  | zero =>
    intro a127_5 r127_88 r127_99 r127_100 hK
    exact False.elim hK
  | succ n ih =>
    intro a127_5 r127_88 r127_99 r127_100 hK
    obtain ⟨K, hKd⟩ : ∃ K : Option (Int32 × (Nat → Int32) × (Nat → Int32) × (Nat → Int32) ⊕ (Int32 × (Nat → Int32) × (Nat → Int32) × (Nat → Int32) ⊕ Empty)) → Prop, K = fun s => am_KO (am_KX (fun (z : Int32 × (Nat → Int32) × (Nat → Int32) × (Nat → Int32)) => am_F 2 am_k_204 156 [.ref 88, .int a0, .int (fn_m_ruleAt (f 88 24).toNatClampNeg 1 f), .int z50, .int (am_b (if ((f 89 ((184 + a0).toNatClampNeg)) &&& (fn_m_allAbove (fn_m_ruleAt (f 88 24).toNatClampNeg 1 f) (am_row (am_row (am_row f 88 y4.1) 99 y4.2.1) 100 y4.2.2))) = 0 then false else true)), .int z.1, am_un] [] (am_S (am_row (am_row (am_row (am_row f 88 z.2.1) 95 y13) 99 z.2.2.1) 100 z.2.2.2) g) res) (fun (z : Empty) => True)) (am_whn (am_wh (st_m_groundsOf_127 f y13) n) s) := ⟨_, rfl⟩
    have hK : K ((st_m_groundsOf_127 f y13) (a127_5, r127_88, r127_99, r127_100)) := by rw [am_wh_s] at hK; rw [hKd]; with_reducible exact hK
    have hKn : ¬ K none := by rw [hKd]; exact id
    unfold st_m_groundsOf_127 at hK
    simp only at hK
    refine am_F.ops (pc' := 133) (L' := [.ref 88, .int a0, .int (fn_m_ruleAt (f 88 24).toNatClampNeg 1 f), .int z50, .int (am_b (if ((f 89 ((184 + a0).toNatClampNeg)) &&& (fn_m_allAbove (fn_m_ruleAt (f 88 24).toNatClampNeg 1 f) (am_row (am_row (am_row f 88 y4.1) 99 y4.2.1) 100 y4.2.2))) = 0 then false else true)), .int a127_5, am_un]) (S' := [.int a127_5, .ref 95]) (μ' := (am_S (am_row (am_row (am_row (am_row f 88 r127_88) 95 y13) 99 r127_99) 100 r127_100) g)) 3 rfl ?_
    obtain ⟨q21, hK⟩ := am_chk_e hKn hK
    refine am_F.ial (N := 20) rfl rfl rfl q21 ?_
    show am_F _ _ 134 [.ref 88, .int a0, .int (fn_m_ruleAt (f 88 24).toNatClampNeg 1 f), .int z50, .int (am_b (if ((f 89 ((184 + a0).toNatClampNeg)) &&& (fn_m_allAbove (fn_m_ruleAt (f 88 24).toNatClampNeg 1 f) (am_row (am_row (am_row f 88 y4.1) 99 y4.2.1) 100 y4.2.2))) = 0 then false else true)), .int a127_5, am_un] [.int (y13 a127_5.toNatClampNeg)] (am_S (am_row (am_row (am_row (am_row f 88 r127_88) 95 y13) 99 r127_99) 100 r127_100) g) _
    refine am_F.iteK 1 rfl K hK (fun c22 hK => ?_) (fun c22 hK => ?_)
    · show am_F _ _ 156 [.ref 88, .int a0, .int (fn_m_ruleAt (f 88 24).toNatClampNeg 1 f), .int z50, .int (am_b (if ((f 89 ((184 + a0).toNatClampNeg)) &&& (fn_m_allAbove (fn_m_ruleAt (f 88 24).toNatClampNeg 1 f) (am_row (am_row (am_row f 88 y4.1) 99 y4.2.1) 100 y4.2.2))) = 0 then false else true)), .int a127_5, am_un] [] (am_S (am_row (am_row (am_row (am_row f 88 r127_88) 95 y13) 99 r127_99) 100 r127_100) g) _
      subst hKd
      exact hK 
    · show am_F _ _ 137 [.ref 88, .int a0, .int (fn_m_ruleAt (f 88 24).toNatClampNeg 1 f), .int z50, .int (am_b (if ((f 89 ((184 + a0).toNatClampNeg)) &&& (fn_m_allAbove (fn_m_ruleAt (f 88 24).toNatClampNeg 1 f) (am_row (am_row (am_row f 88 y4.1) 99 y4.2.1) 100 y4.2.2))) = 0 then false else true)), .int a127_5, am_un] [] (am_S (am_row (am_row (am_row (am_row f 88 r127_88) 95 y13) 99 r127_99) 100 r127_100) g) _
      refine am_F.ops (pc' := 141) (L' := [.ref 88, .int a0, .int (fn_m_ruleAt (f 88 24).toNatClampNeg 1 f), .int z50, .int (am_b (if ((f 89 ((184 + a0).toNatClampNeg)) &&& (fn_m_allAbove (fn_m_ruleAt (f 88 24).toNatClampNeg 1 f) (am_row (am_row (am_row f 88 y4.1) 99 y4.2.1) 100 y4.2.2))) = 0 then false else true)), .int a127_5, am_un]) (S' := [.int 1, .int a127_5, .ref 88]) (μ' := (am_S (am_row (am_row (am_row (am_row f 88 r127_88) 95 y13) 99 r127_99) 100 r127_100) g)) 3 rfl ?_
      obtain ⟨y23, hy23, hK⟩ := am_ob_e hKn hK
      refine am_F.call rfl rfl (x_m_nearer a127_5 true (am_row (am_row (am_row (am_row f 88 r127_88) 95 y13) 99 r127_99) 100 r127_100) g  y23 hy23) (by first | decide | omega) ?_
      refine am_F.mem (F' := (am_row (am_row (am_row (am_row f 88 r127_88) 95 y13) 99 r127_99) 100 r127_100)) (G' := g) ?_ (by first | rfl | (funext a; by_cases z0 : a = 88; (subst z0; rfl); by_cases z1 : a = 95; (subst z1; rfl); by_cases z2 : a = 99; (subst z2; rfl); by_cases z3 : a = 100; (subst z3; rfl); simp only [am_ui, am_ul, am_row_ne z0, am_row_ne z1, am_row_ne z2, am_row_ne z3])) (by first | rfl | (funext a; by_cases z0 : a = 88; (subst z0; rfl); by_cases z1 : a = 95; (subst z1; rfl); by_cases z2 : a = 99; (subst z2; rfl); by_cases z3 : a = 100; (subst z3; rfl); simp only [am_ui, am_ul, am_row_ne z0, am_row_ne z1, am_row_ne z2, am_row_ne z3]))
      show am_F _ _ 144 [.ref 88, .int a0, .int (fn_m_ruleAt (f 88 24).toNatClampNeg 1 f), .int z50, .int (am_b (if ((f 89 ((184 + a0).toNatClampNeg)) &&& (fn_m_allAbove (fn_m_ruleAt (f 88 24).toNatClampNeg 1 f) (am_row (am_row (am_row f 88 y4.1) 99 y4.2.1) 100 y4.2.2))) = 0 then false else true)), .int a127_5, am_un] [.int y23] (am_S (am_row (am_row (am_row (am_row f 88 r127_88) 95 y13) 99 r127_99) 100 r127_100) g) _
      refine am_F.ops (pc' := 150) (L' := [.ref 88, .int a0, .int (fn_m_ruleAt (f 88 24).toNatClampNeg 1 f), .int z50, .int (am_b (if ((f 89 ((184 + a0).toNatClampNeg)) &&& (fn_m_allAbove (fn_m_ruleAt (f 88 24).toNatClampNeg 1 f) (am_row (am_row (am_row f 88 y4.1) 99 y4.2.1) 100 y4.2.2))) = 0 then false else true)), .int y23, am_un]) (S' := [.int y23, .int 2, .ref 88]) (μ' := (am_S (am_row (am_row (am_row (am_row f 88 r127_88) 95 y13) 99 r127_99) 100 r127_100) g)) 4 rfl ?_
      obtain ⟨q24, hK⟩ := am_chk_e hKn hK
      obtain ⟨y25, hy25⟩ : ∃ z, (fn_m_groundsAdd 2 y23 (am_row (am_row (am_row (am_row f 88 r127_88) 95 y13) 99 r127_99) 100 r127_100)) = z := ⟨_, rfl⟩
      (try rw [hy25] at hK)
      refine am_F.call rfl rfl (x_m_groundsAdd 2 y23 (am_row (am_row (am_row (am_row f 88 r127_88) 95 y13) 99 r127_99) 100 r127_100) g q24) (by first | decide | omega) ?_
      (try rw [hy25])
      refine am_F.mem (F' := (am_row (am_row (am_row (am_row f 88 y25.1) 95 y13) 99 y25.2.1) 100 y25.2.2)) (G' := g) ?_ (by first | rfl | (funext a; by_cases z0 : a = 88; (subst z0; rfl); by_cases z1 : a = 95; (subst z1; rfl); by_cases z2 : a = 99; (subst z2; rfl); by_cases z3 : a = 100; (subst z3; rfl); simp only [am_ui, am_ul, am_row_ne z0, am_row_ne z1, am_row_ne z2, am_row_ne z3])) (by first | rfl | (funext a; by_cases z0 : a = 88; (subst z0; rfl); by_cases z1 : a = 95; (subst z1; rfl); by_cases z2 : a = 99; (subst z2; rfl); by_cases z3 : a = 100; (subst z3; rfl); simp only [am_ui, am_ul, am_row_ne z0, am_row_ne z1, am_row_ne z2, am_row_ne z3]))
      show am_F _ _ 153 [.ref 88, .int a0, .int (fn_m_ruleAt (f 88 24).toNatClampNeg 1 f), .int z50, .int (am_b (if ((f 89 ((184 + a0).toNatClampNeg)) &&& (fn_m_allAbove (fn_m_ruleAt (f 88 24).toNatClampNeg 1 f) (am_row (am_row (am_row f 88 y4.1) 99 y4.2.1) 100 y4.2.2))) = 0 then false else true)), .int y23, am_un] [] (am_S (am_row (am_row (am_row (am_row f 88 y25.1) 95 y13) 99 y25.2.1) 100 y25.2.2) g) _
      refine am_F.ops (pc' := 127) (L' := [.ref 88, .int a0, .int (fn_m_ruleAt (f 88 24).toNatClampNeg 1 f), .int z50, .int (am_b (if ((f 89 ((184 + a0).toNatClampNeg)) &&& (fn_m_allAbove (fn_m_ruleAt (f 88 24).toNatClampNeg 1 f) (am_row (am_row (am_row f 88 y4.1) 99 y4.2.1) 100 y4.2.2))) = 0 then false else true)), .int y23, am_un]) (S' := []) (μ' := (am_S (am_row (am_row (am_row (am_row f 88 y25.1) 95 y13) 99 y25.2.1) 100 y25.2.2) g)) 1 rfl ?_
      subst hKd
      exact ih y23 y25.1 y25.2.1 y25.2.2 hK
set_option maxRecDepth 20000 in
theorem lp_m_groundsOf_171 (a0 : Int32) (f : Nat → Nat → Int32) (g : Nat → Nat → Int64) (y4 : (Nat → Int32) × (Nat → Int32) × (Nat → Int32)) (z50 : Int32) (wc50 : Value) (y13 : (Nat → Int32)) (y15 : (Nat → Int32) × (Nat → Int32) × (Nat → Int32)) (z127 : Int32 × (Nat → Int32) × (Nat → Int32) × (Nat → Int32)) (hmk : am_mOK (f 89)) (hlC : f 89 201 = nI (f 89 201).toNatClampNeg) (hlN : (f 89 201).toNatClampNeg ≤ 40) (hrC : f 89 202 = nI (f 89 202).toNatClampNeg) (hrN : (f 89 202).toNatClampNeg ≤ 30) (hl0 : ∀ i, i < (f 89 201).toNatClampNeg → am_inb (fn_m_loanAt i 0 f) 16 = true) (hl5 : ∀ i, i < (f 89 201).toNatClampNeg → ¬ fn_m_loanAt i 5 f < 0 → am_inb (fn_m_loanAt i 5 f) 40 = true) (hl2 : ∀ i, i < (f 89 201).toNatClampNeg → am_inb (fn_m_loanAt i 2 f) 20 = true) (res : Option Value × am_M) : ∀ (n : Nat) (a171_6 : Int32), am_KO (am_KX (fun (z : Int32) => am_F 2 am_k_204 210 [.ref 88, .int a0, .int (fn_m_ruleAt (f 88 24).toNatClampNeg 1 f), .int z50, .int (am_b (if ((f 89 ((184 + a0).toNatClampNeg)) &&& (fn_m_allAbove (fn_m_ruleAt (f 88 24).toNatClampNeg 1 f) (am_row (am_row (am_row f 88 y4.1) 99 y4.2.1) 100 y4.2.2))) = 0 then false else true)), .int z127.1, .int z] [] (am_S (am_row (am_row (am_row (am_row f 88 z127.2.1) 95 y13) 99 z127.2.2.1) 100 z127.2.2.2) g) res) (fun (z : Empty) => True)) (am_wh (st_m_groundsOf_171 a0 f y13 z127) n a171_6) → am_F 2 am_k_204 171 [.ref 88, .int a0, .int (fn_m_ruleAt (f 88 24).toNatClampNeg 1 f), .int z50, .int (am_b (if ((f 89 ((184 + a0).toNatClampNeg)) &&& (fn_m_allAbove (fn_m_ruleAt (f 88 24).toNatClampNeg 1 f) (am_row (am_row (am_row f 88 y4.1) 99 y4.2.1) 100 y4.2.2))) = 0 then false else true)), .int z127.1, .int a171_6] [] (am_S (am_row (am_row (am_row (am_row f 88 z127.2.1) 95 y13) 99 z127.2.2.1) 100 z127.2.2.2) g) res := by
  intro n
  induction n with
  | zero =>
    intro a171_6 hK
    exact False.elim hK
  | succ n ih =>
    intro a171_6 hK
    obtain ⟨K, hKd⟩ : ∃ K : Option (Int32 ⊕ (Int32 ⊕ Empty)) → Prop, K = fun s => am_KO (am_KX (fun (z : Int32) => am_F 2 am_k_204 210 [.ref 88, .int a0, .int (fn_m_ruleAt (f 88 24).toNatClampNeg 1 f), .int z50, .int (am_b (if ((f 89 ((184 + a0).toNatClampNeg)) &&& (fn_m_allAbove (fn_m_ruleAt (f 88 24).toNatClampNeg 1 f) (am_row (am_row (am_row f 88 y4.1) 99 y4.2.1) 100 y4.2.2))) = 0 then false else true)), .int z127.1, .int z] [] (am_S (am_row (am_row (am_row (am_row f 88 z127.2.1) 95 y13) 99 z127.2.2.1) 100 z127.2.2.2) g) res) (fun (z : Empty) => True)) (am_whn (am_wh (st_m_groundsOf_171 a0 f y13 z127) n) s) := ⟨_, rfl⟩
    have hK : K ((st_m_groundsOf_171 a0 f y13 z127) a171_6) := by rw [am_wh_s] at hK; rw [hKd]; with_reducible exact hK
    have hKn : ¬ K none := by rw [hKd]; exact id
    unfold st_m_groundsOf_171 at hK
    refine am_F.ops (pc' := 177) (L' := [.ref 88, .int a0, .int (fn_m_ruleAt (f 88 24).toNatClampNeg 1 f), .int z50, .int (am_b (if ((f 89 ((184 + a0).toNatClampNeg)) &&& (fn_m_allAbove (fn_m_ruleAt (f 88 24).toNatClampNeg 1 f) (am_row (am_row (am_row f 88 y4.1) 99 y4.2.1) 100 y4.2.2))) = 0 then false else true)), .int z127.1, .int a171_6]) (S' := [.int a171_6, .ref 96]) (μ' := (am_S (am_row (am_row (am_row (am_row f 88 z127.2.1) 95 y13) 99 z127.2.2.1) 100 z127.2.2.2) g)) 3 rfl ?_
    obtain ⟨q29, hK⟩ := am_chk_e hKn hK
    refine am_F.ial (N := 40) rfl rfl rfl q29 ?_
    show am_F _ _ 178 [.ref 88, .int a0, .int (fn_m_ruleAt (f 88 24).toNatClampNeg 1 f), .int z50, .int (am_b (if ((f 89 ((184 + a0).toNatClampNeg)) &&& (fn_m_allAbove (fn_m_ruleAt (f 88 24).toNatClampNeg 1 f) (am_row (am_row (am_row f 88 y4.1) 99 y4.2.1) 100 y4.2.2))) = 0 then false else true)), .int z127.1, .int a171_6] [.int (f 96 a171_6.toNatClampNeg)] (am_S (am_row (am_row (am_row (am_row f 88 z127.2.1) 95 y13) 99 z127.2.2.1) 100 z127.2.2.2) g) _
    refine am_F.iteK 1 rfl K hK (fun c31 hK => ?_) (fun c31 hK => ?_)
    · show am_F _ _ 204 [.ref 88, .int a0, .int (fn_m_ruleAt (f 88 24).toNatClampNeg 1 f), .int z50, .int (am_b (if ((f 89 ((184 + a0).toNatClampNeg)) &&& (fn_m_allAbove (fn_m_ruleAt (f 88 24).toNatClampNeg 1 f) (am_row (am_row (am_row f 88 y4.1) 99 y4.2.1) 100 y4.2.2))) = 0 then false else true)), .int z127.1, .int a171_6] [] (am_S (am_row (am_row (am_row (am_row f 88 z127.2.1) 95 y13) 99 z127.2.2.1) 100 z127.2.2.2) g) _
      refine am_F.ops (pc' := 171) (L' := [.ref 88, .int a0, .int (fn_m_ruleAt (f 88 24).toNatClampNeg 1 f), .int z50, .int (am_b (if ((f 89 ((184 + a0).toNatClampNeg)) &&& (fn_m_allAbove (fn_m_ruleAt (f 88 24).toNatClampNeg 1 f) (am_row (am_row (am_row f 88 y4.1) 99 y4.2.1) 100 y4.2.2))) = 0 then false else true)), .int z127.1, .int (a171_6 + 1)]) (S' := []) (μ' := (am_S (am_row (am_row (am_row (am_row f 88 z127.2.1) 95 y13) 99 z127.2.2.1) 100 z127.2.2.2) g)) 2 rfl ?_
      subst hKd
      exact ih (a171_6 + 1) hK
    · show am_F _ _ 181 [.ref 88, .int a0, .int (fn_m_ruleAt (f 88 24).toNatClampNeg 1 f), .int z50, .int (am_b (if ((f 89 ((184 + a0).toNatClampNeg)) &&& (fn_m_allAbove (fn_m_ruleAt (f 88 24).toNatClampNeg 1 f) (am_row (am_row (am_row f 88 y4.1) 99 y4.2.1) 100 y4.2.2))) = 0 then false else true)), .int z127.1, .int a171_6] [] (am_S (am_row (am_row (am_row (am_row f 88 z127.2.1) 95 y13) 99 z127.2.2.1) 100 z127.2.2.2) g) _
      refine am_F.ops (pc' := 185) (L' := [.ref 88, .int a0, .int (fn_m_ruleAt (f 88 24).toNatClampNeg 1 f), .int z50, .int (am_b (if ((f 89 ((184 + a0).toNatClampNeg)) &&& (fn_m_allAbove (fn_m_ruleAt (f 88 24).toNatClampNeg 1 f) (am_row (am_row (am_row f 88 y4.1) 99 y4.2.1) 100 y4.2.2))) = 0 then false else true)), .int z127.1, .int a171_6]) (S' := [.int 1, .int a171_6, .ref 88]) (μ' := (am_S (am_row (am_row (am_row (am_row f 88 z127.2.1) 95 y13) 99 z127.2.2.1) 100 z127.2.2.2) g)) 3 rfl ?_
      refine am_F.call rfl rfl (am_D.args (congrArg (fun (x9 : Int32) => ([.ref 88, .int x9, .int 1] : List Value)) (show (a171_6 : Int32) = nI a171_6.toNatClampNeg from (am_inbQ q29).1)) (am_D.args (congrArg (fun (x9 : Int32) => ([.ref 88, .int (nI a171_6.toNatClampNeg), .int x9] : List Value)) (show (1 : Int32) = nI 1 from rfl)) (x_m_loanAt a171_6.toNatClampNeg 1 (am_row (am_row (am_row (am_row f 88 z127.2.1) 95 y13) 99 z127.2.2.1) 100 z127.2.2.2) g (am_inbQ q29).2 (by omega)))) (by first | decide | omega) ?_
      show am_F _ _ 188 [.ref 88, .int a0, .int (fn_m_ruleAt (f 88 24).toNatClampNeg 1 f), .int z50, .int (am_b (if ((f 89 ((184 + a0).toNatClampNeg)) &&& (fn_m_allAbove (fn_m_ruleAt (f 88 24).toNatClampNeg 1 f) (am_row (am_row (am_row f 88 y4.1) 99 y4.2.1) 100 y4.2.2))) = 0 then false else true)), .int z127.1, .int a171_6] [.int (fn_m_loanAt a171_6.toNatClampNeg 1 (am_row (am_row (am_row (am_row f 88 z127.2.1) 95 y13) 99 z127.2.2.1) 100 z127.2.2.2))] (am_S (am_row (am_row (am_row (am_row f 88 z127.2.1) 95 y13) 99 z127.2.2.1) 100 z127.2.2.2) g) _
      refine am_F.ops (pc' := 189) (L' := [.ref 88, .int a0, .int (fn_m_ruleAt (f 88 24).toNatClampNeg 1 f), .int z50, .int (am_b (if ((f 89 ((184 + a0).toNatClampNeg)) &&& (fn_m_allAbove (fn_m_ruleAt (f 88 24).toNatClampNeg 1 f) (am_row (am_row (am_row f 88 y4.1) 99 y4.2.1) 100 y4.2.2))) = 0 then false else true)), .int z127.1, .int a171_6]) (S' := [.int a0, .int (fn_m_loanAt a171_6.toNatClampNeg 1 (am_row (am_row (am_row (am_row f 88 z127.2.1) 95 y13) 99 z127.2.2.1) 100 z127.2.2.2))]) (μ' := (am_S (am_row (am_row (am_row (am_row f 88 z127.2.1) 95 y13) 99 z127.2.2.1) 100 z127.2.2.2) g)) 1 rfl ?_
      refine am_F.iteK 1 rfl K hK (fun c34 hK => ?_) (fun c34 hK => ?_)
      · show am_F _ _ 192 [.ref 88, .int a0, .int (fn_m_ruleAt (f 88 24).toNatClampNeg 1 f), .int z50, .int (am_b (if ((f 89 ((184 + a0).toNatClampNeg)) &&& (fn_m_allAbove (fn_m_ruleAt (f 88 24).toNatClampNeg 1 f) (am_row (am_row (am_row f 88 y4.1) 99 y4.2.1) 100 y4.2.2))) = 0 then false else true)), .int z127.1, .int a171_6] [] (am_S (am_row (am_row (am_row (am_row f 88 z127.2.1) 95 y13) 99 z127.2.2.1) 100 z127.2.2.2) g) _
        refine am_F.ops (pc' := 196) (L' := [.ref 88, .int a0, .int (fn_m_ruleAt (f 88 24).toNatClampNeg 1 f), .int z50, .int (am_b (if ((f 89 ((184 + a0).toNatClampNeg)) &&& (fn_m_allAbove (fn_m_ruleAt (f 88 24).toNatClampNeg 1 f) (am_row (am_row (am_row f 88 y4.1) 99 y4.2.1) 100 y4.2.2))) = 0 then false else true)), .int z127.1, .int a171_6]) (S' := [.int 2, .int a171_6, .ref 88]) (μ' := (am_S (am_row (am_row (am_row (am_row f 88 z127.2.1) 95 y13) 99 z127.2.2.1) 100 z127.2.2.2) g)) 3 rfl ?_
        refine am_F.call rfl rfl (am_D.args (congrArg (fun (x9 : Int32) => ([.ref 88, .int x9, .int 2] : List Value)) (show (a171_6 : Int32) = nI a171_6.toNatClampNeg from (am_inbQ q29).1)) (am_D.args (congrArg (fun (x9 : Int32) => ([.ref 88, .int (nI a171_6.toNatClampNeg), .int x9] : List Value)) (show (2 : Int32) = nI 2 from rfl)) (x_m_loanAt a171_6.toNatClampNeg 2 (am_row (am_row (am_row (am_row f 88 z127.2.1) 95 y13) 99 z127.2.2.1) 100 z127.2.2.2) g (am_inbQ q29).2 (by omega)))) (by first | decide | omega) ?_
        show am_F _ _ 199 [.ref 88, .int a0, .int (fn_m_ruleAt (f 88 24).toNatClampNeg 1 f), .int z50, .int (am_b (if ((f 89 ((184 + a0).toNatClampNeg)) &&& (fn_m_allAbove (fn_m_ruleAt (f 88 24).toNatClampNeg 1 f) (am_row (am_row (am_row f 88 y4.1) 99 y4.2.1) 100 y4.2.2))) = 0 then false else true)), .int z127.1, .int a171_6] [.int (fn_m_loanAt a171_6.toNatClampNeg 2 (am_row (am_row (am_row (am_row f 88 z127.2.1) 95 y13) 99 z127.2.2.1) 100 z127.2.2.2))] (am_S (am_row (am_row (am_row (am_row f 88 z127.2.1) 95 y13) 99 z127.2.2.1) 100 z127.2.2.2) g) _
        refine am_F.ops (pc' := 201) (L' := [.ref 88, .int a0, .int (fn_m_ruleAt (f 88 24).toNatClampNeg 1 f), .int z50, .int (am_b (if ((f 89 ((184 + a0).toNatClampNeg)) &&& (fn_m_allAbove (fn_m_ruleAt (f 88 24).toNatClampNeg 1 f) (am_row (am_row (am_row f 88 y4.1) 99 y4.2.1) 100 y4.2.2))) = 0 then false else true)), .int z127.1, .int a171_6]) (S' := [.int z127.1, .int (fn_m_loanAt a171_6.toNatClampNeg 2 (am_row (am_row (am_row (am_row f 88 z127.2.1) 95 y13) 99 z127.2.2.1) 100 z127.2.2.2))]) (μ' := (am_S (am_row (am_row (am_row (am_row f 88 z127.2.1) 95 y13) 99 z127.2.2.1) 100 z127.2.2.2) g)) 1 rfl ?_
        refine am_F.iteK 1 rfl K hK (fun c36 hK => ?_) (fun c36 hK => ?_)
        · show am_F _ _ 210 [.ref 88, .int a0, .int (fn_m_ruleAt (f 88 24).toNatClampNeg 1 f), .int z50, .int (am_b (if ((f 89 ((184 + a0).toNatClampNeg)) &&& (fn_m_allAbove (fn_m_ruleAt (f 88 24).toNatClampNeg 1 f) (am_row (am_row (am_row f 88 y4.1) 99 y4.2.1) 100 y4.2.2))) = 0 then false else true)), .int z127.1, .int a171_6] [] (am_S (am_row (am_row (am_row (am_row f 88 z127.2.1) 95 y13) 99 z127.2.2.1) 100 z127.2.2.2) g) _
          subst hKd
          exact hK 
        · show am_F _ _ 204 [.ref 88, .int a0, .int (fn_m_ruleAt (f 88 24).toNatClampNeg 1 f), .int z50, .int (am_b (if ((f 89 ((184 + a0).toNatClampNeg)) &&& (fn_m_allAbove (fn_m_ruleAt (f 88 24).toNatClampNeg 1 f) (am_row (am_row (am_row f 88 y4.1) 99 y4.2.1) 100 y4.2.2))) = 0 then false else true)), .int z127.1, .int a171_6] [] (am_S (am_row (am_row (am_row (am_row f 88 z127.2.1) 95 y13) 99 z127.2.2.1) 100 z127.2.2.2) g) _
          refine am_F.ops (pc' := 171) (L' := [.ref 88, .int a0, .int (fn_m_ruleAt (f 88 24).toNatClampNeg 1 f), .int z50, .int (am_b (if ((f 89 ((184 + a0).toNatClampNeg)) &&& (fn_m_allAbove (fn_m_ruleAt (f 88 24).toNatClampNeg 1 f) (am_row (am_row (am_row f 88 y4.1) 99 y4.2.1) 100 y4.2.2))) = 0 then false else true)), .int z127.1, .int (a171_6 + 1)]) (S' := []) (μ' := (am_S (am_row (am_row (am_row (am_row f 88 z127.2.1) 95 y13) 99 z127.2.2.1) 100 z127.2.2.2) g)) 2 rfl ?_
          subst hKd
          exact ih (a171_6 + 1) hK
      · show am_F _ _ 204 [.ref 88, .int a0, .int (fn_m_ruleAt (f 88 24).toNatClampNeg 1 f), .int z50, .int (am_b (if ((f 89 ((184 + a0).toNatClampNeg)) &&& (fn_m_allAbove (fn_m_ruleAt (f 88 24).toNatClampNeg 1 f) (am_row (am_row (am_row f 88 y4.1) 99 y4.2.1) 100 y4.2.2))) = 0 then false else true)), .int z127.1, .int a171_6] [] (am_S (am_row (am_row (am_row (am_row f 88 z127.2.1) 95 y13) 99 z127.2.2.1) 100 z127.2.2.2) g) _
        refine am_F.ops (pc' := 171) (L' := [.ref 88, .int a0, .int (fn_m_ruleAt (f 88 24).toNatClampNeg 1 f), .int z50, .int (am_b (if ((f 89 ((184 + a0).toNatClampNeg)) &&& (fn_m_allAbove (fn_m_ruleAt (f 88 24).toNatClampNeg 1 f) (am_row (am_row (am_row f 88 y4.1) 99 y4.2.1) 100 y4.2.2))) = 0 then false else true)), .int z127.1, .int (a171_6 + 1)]) (S' := []) (μ' := (am_S (am_row (am_row (am_row (am_row f 88 z127.2.1) 95 y13) 99 z127.2.2.1) 100 z127.2.2.2) g)) 2 rfl ?_
        subst hKd
        exact ih (a171_6 + 1) hK
set_option maxRecDepth 20000 in
theorem lp_m_groundsOf_217 (a0 : Int32) (f : Nat → Nat → Int32) (g : Nat → Nat → Int64) (y4 : (Nat → Int32) × (Nat → Int32) × (Nat → Int32)) (z50 : Int32) (wc50 : Value) (y13 : (Nat → Int32)) (y15 : (Nat → Int32) × (Nat → Int32) × (Nat → Int32)) (z127 : Int32 × (Nat → Int32) × (Nat → Int32) × (Nat → Int32)) (z171 : Int32) (y38 : (Nat → Int32) × (Nat → Int32) × (Nat → Int32)) (hmk : am_mOK (f 89)) (hlC : f 89 201 = nI (f 89 201).toNatClampNeg) (hlN : (f 89 201).toNatClampNeg ≤ 40) (hrC : f 89 202 = nI (f 89 202).toNatClampNeg) (hrN : (f 89 202).toNatClampNeg ≤ 30) (hl0 : ∀ i, i < (f 89 201).toNatClampNeg → am_inb (fn_m_loanAt i 0 f) 16 = true) (hl5 : ∀ i, i < (f 89 201).toNatClampNeg → ¬ fn_m_loanAt i 5 f < 0 → am_inb (fn_m_loanAt i 5 f) 40 = true) (hl2 : ∀ i, i < (f 89 201).toNatClampNeg → am_inb (fn_m_loanAt i 2 f) 20 = true) (res : Option Value × am_M) : ∀ (n : Nat) (a217_6 : Int32) (r217_88 : Nat → Int32) (r217_99 : Nat → Int32) (r217_100 : Nat → Int32), am_KO (am_KX (fun (z : Int32 × (Nat → Int32) × (Nat → Int32) × (Nat → Int32)) => am_F 2 am_k_204 246 [.ref 88, .int a0, .int (fn_m_ruleAt (f 88 24).toNatClampNeg 1 f), .int z50, .int (am_b (if ((f 89 ((184 + a0).toNatClampNeg)) &&& (fn_m_allAbove (fn_m_ruleAt (f 88 24).toNatClampNeg 1 f) (am_row (am_row (am_row f 88 y4.1) 99 y4.2.1) 100 y4.2.2))) = 0 then false else true)), .int z127.1, .int z.1] [] (am_S (am_row (am_row (am_row (am_row f 88 z.2.1) 95 y13) 99 z.2.2.1) 100 z.2.2.2) g) res) (fun (z : Empty) => True)) (am_wh (st_m_groundsOf_217 f y13) n (a217_6, r217_88, r217_99, r217_100)) → am_F 2 am_k_204 217 [.ref 88, .int a0, .int (fn_m_ruleAt (f 88 24).toNatClampNeg 1 f), .int z50, .int (am_b (if ((f 89 ((184 + a0).toNatClampNeg)) &&& (fn_m_allAbove (fn_m_ruleAt (f 88 24).toNatClampNeg 1 f) (am_row (am_row (am_row f 88 y4.1) 99 y4.2.1) 100 y4.2.2))) = 0 then false else true)), .int z127.1, .int a217_6] [] (am_S (am_row (am_row (am_row (am_row f 88 r217_88) 95 y13) 99 r217_99) 100 r217_100) g) res := by
  intro n
  induction n with
  | zero =>
    intro a217_6 r217_88 r217_99 r217_100 hK
    exact False.elim hK
  | succ n ih =>
    intro a217_6 r217_88 r217_99 r217_100 hK
    obtain ⟨K, hKd⟩ : ∃ K : Option (Int32 × (Nat → Int32) × (Nat → Int32) × (Nat → Int32) ⊕ (Int32 × (Nat → Int32) × (Nat → Int32) × (Nat → Int32) ⊕ Empty)) → Prop, K = fun s => am_KO (am_KX (fun (z : Int32 × (Nat → Int32) × (Nat → Int32) × (Nat → Int32)) => am_F 2 am_k_204 246 [.ref 88, .int a0, .int (fn_m_ruleAt (f 88 24).toNatClampNeg 1 f), .int z50, .int (am_b (if ((f 89 ((184 + a0).toNatClampNeg)) &&& (fn_m_allAbove (fn_m_ruleAt (f 88 24).toNatClampNeg 1 f) (am_row (am_row (am_row f 88 y4.1) 99 y4.2.1) 100 y4.2.2))) = 0 then false else true)), .int z127.1, .int z.1] [] (am_S (am_row (am_row (am_row (am_row f 88 z.2.1) 95 y13) 99 z.2.2.1) 100 z.2.2.2) g) res) (fun (z : Empty) => True)) (am_whn (am_wh (st_m_groundsOf_217 f y13) n) s) := ⟨_, rfl⟩
    have hK : K ((st_m_groundsOf_217 f y13) (a217_6, r217_88, r217_99, r217_100)) := by rw [am_wh_s] at hK; rw [hKd]; with_reducible exact hK
    have hKn : ¬ K none := by rw [hKd]; exact id
    unfold st_m_groundsOf_217 at hK
    simp only at hK
    refine am_F.ops (pc' := 221) (L' := [.ref 88, .int a0, .int (fn_m_ruleAt (f 88 24).toNatClampNeg 1 f), .int z50, .int (am_b (if ((f 89 ((184 + a0).toNatClampNeg)) &&& (fn_m_allAbove (fn_m_ruleAt (f 88 24).toNatClampNeg 1 f) (am_row (am_row (am_row f 88 y4.1) 99 y4.2.1) 100 y4.2.2))) = 0 then false else true)), .int z127.1, .int a217_6]) (S' := [.int 5, .int a217_6, .ref 88]) (μ' := (am_S (am_row (am_row (am_row (am_row f 88 r217_88) 95 y13) 99 r217_99) 100 r217_100) g)) 3 rfl ?_
    obtain ⟨q45, hK⟩ := am_chk_e hKn hK
    refine am_F.call rfl rfl (am_D.args (congrArg (fun (x9 : Int32) => ([.ref 88, .int x9, .int 5] : List Value)) (show (a217_6 : Int32) = nI a217_6.toNatClampNeg from (am_inbQ q45).1)) (am_D.args (congrArg (fun (x9 : Int32) => ([.ref 88, .int (nI a217_6.toNatClampNeg), .int x9] : List Value)) (show (5 : Int32) = nI 5 from rfl)) (x_m_loanAt a217_6.toNatClampNeg 5 (am_row (am_row (am_row (am_row f 88 r217_88) 95 y13) 99 r217_99) 100 r217_100) g (am_inbQ q45).2 (by omega)))) (by first | decide | omega) ?_
    show am_F _ _ 224 [.ref 88, .int a0, .int (fn_m_ruleAt (f 88 24).toNatClampNeg 1 f), .int z50, .int (am_b (if ((f 89 ((184 + a0).toNatClampNeg)) &&& (fn_m_allAbove (fn_m_ruleAt (f 88 24).toNatClampNeg 1 f) (am_row (am_row (am_row f 88 y4.1) 99 y4.2.1) 100 y4.2.2))) = 0 then false else true)), .int z127.1, .int a217_6] [.int (fn_m_loanAt a217_6.toNatClampNeg 5 (am_row (am_row (am_row (am_row f 88 r217_88) 95 y13) 99 r217_99) 100 r217_100))] (am_S (am_row (am_row (am_row (am_row f 88 r217_88) 95 y13) 99 r217_99) 100 r217_100) g) _
    refine am_F.iteK 1 rfl K hK (fun c47 hK => ?_) (fun c47 hK => ?_)
    · show am_F _ _ 246 [.ref 88, .int a0, .int (fn_m_ruleAt (f 88 24).toNatClampNeg 1 f), .int z50, .int (am_b (if ((f 89 ((184 + a0).toNatClampNeg)) &&& (fn_m_allAbove (fn_m_ruleAt (f 88 24).toNatClampNeg 1 f) (am_row (am_row (am_row f 88 y4.1) 99 y4.2.1) 100 y4.2.2))) = 0 then false else true)), .int z127.1, .int a217_6] [] (am_S (am_row (am_row (am_row (am_row f 88 r217_88) 95 y13) 99 r217_99) 100 r217_100) g) _
      subst hKd
      exact hK 
    · show am_F _ _ 227 [.ref 88, .int a0, .int (fn_m_ruleAt (f 88 24).toNatClampNeg 1 f), .int z50, .int (am_b (if ((f 89 ((184 + a0).toNatClampNeg)) &&& (fn_m_allAbove (fn_m_ruleAt (f 88 24).toNatClampNeg 1 f) (am_row (am_row (am_row f 88 y4.1) 99 y4.2.1) 100 y4.2.2))) = 0 then false else true)), .int z127.1, .int a217_6] [] (am_S (am_row (am_row (am_row (am_row f 88 r217_88) 95 y13) 99 r217_99) 100 r217_100) g) _
      refine am_F.ops (pc' := 231) (L' := [.ref 88, .int a0, .int (fn_m_ruleAt (f 88 24).toNatClampNeg 1 f), .int z50, .int (am_b (if ((f 89 ((184 + a0).toNatClampNeg)) &&& (fn_m_allAbove (fn_m_ruleAt (f 88 24).toNatClampNeg 1 f) (am_row (am_row (am_row f 88 y4.1) 99 y4.2.1) 100 y4.2.2))) = 0 then false else true)), .int z127.1, .int a217_6]) (S' := [.int 5, .int a217_6, .ref 88]) (μ' := (am_S (am_row (am_row (am_row (am_row f 88 r217_88) 95 y13) 99 r217_99) 100 r217_100) g)) 3 rfl ?_
      refine am_F.call rfl rfl (am_D.args (congrArg (fun (x9 : Int32) => ([.ref 88, .int x9, .int 5] : List Value)) (show (a217_6 : Int32) = nI a217_6.toNatClampNeg from (am_inbQ q45).1)) (am_D.args (congrArg (fun (x9 : Int32) => ([.ref 88, .int (nI a217_6.toNatClampNeg), .int x9] : List Value)) (show (5 : Int32) = nI 5 from rfl)) (x_m_loanAt a217_6.toNatClampNeg 5 (am_row (am_row (am_row (am_row f 88 r217_88) 95 y13) 99 r217_99) 100 r217_100) g (am_inbQ q45).2 (by omega)))) (by first | decide | omega) ?_
      show am_F _ _ 234 [.ref 88, .int a0, .int (fn_m_ruleAt (f 88 24).toNatClampNeg 1 f), .int z50, .int (am_b (if ((f 89 ((184 + a0).toNatClampNeg)) &&& (fn_m_allAbove (fn_m_ruleAt (f 88 24).toNatClampNeg 1 f) (am_row (am_row (am_row f 88 y4.1) 99 y4.2.1) 100 y4.2.2))) = 0 then false else true)), .int z127.1, .int a217_6] [.int (fn_m_loanAt a217_6.toNatClampNeg 5 (am_row (am_row (am_row (am_row f 88 r217_88) 95 y13) 99 r217_99) 100 r217_100))] (am_S (am_row (am_row (am_row (am_row f 88 r217_88) 95 y13) 99 r217_99) 100 r217_100) g) _
      refine am_F.ops (pc' := 240) (L' := [.ref 88, .int a0, .int (fn_m_ruleAt (f 88 24).toNatClampNeg 1 f), .int z50, .int (am_b (if ((f 89 ((184 + a0).toNatClampNeg)) &&& (fn_m_allAbove (fn_m_ruleAt (f 88 24).toNatClampNeg 1 f) (am_row (am_row (am_row f 88 y4.1) 99 y4.2.1) 100 y4.2.2))) = 0 then false else true)), .int z127.1, .int (fn_m_loanAt a217_6.toNatClampNeg 5 (am_row (am_row (am_row (am_row f 88 r217_88) 95 y13) 99 r217_99) 100 r217_100))]) (S' := [.int (fn_m_loanAt a217_6.toNatClampNeg 5 (am_row (am_row (am_row (am_row f 88 r217_88) 95 y13) 99 r217_99) 100 r217_100)), .int 3, .ref 88]) (μ' := (am_S (am_row (am_row (am_row (am_row f 88 r217_88) 95 y13) 99 r217_99) 100 r217_100) g)) 4 rfl ?_
      obtain ⟨q49, hK⟩ := am_chk_e hKn hK
      obtain ⟨y50, hy50⟩ : ∃ z, (fn_m_groundsAdd 3 (fn_m_loanAt a217_6.toNatClampNeg 5 (am_row (am_row (am_row (am_row f 88 r217_88) 95 y13) 99 r217_99) 100 r217_100)) (am_row (am_row (am_row (am_row f 88 r217_88) 95 y13) 99 r217_99) 100 r217_100)) = z := ⟨_, rfl⟩
      (try rw [hy50] at hK)
      refine am_F.call rfl rfl (x_m_groundsAdd 3 (fn_m_loanAt a217_6.toNatClampNeg 5 (am_row (am_row (am_row (am_row f 88 r217_88) 95 y13) 99 r217_99) 100 r217_100)) (am_row (am_row (am_row (am_row f 88 r217_88) 95 y13) 99 r217_99) 100 r217_100) g q49) (by first | decide | omega) ?_
      (try rw [hy50])
      refine am_F.mem (F' := (am_row (am_row (am_row (am_row f 88 y50.1) 95 y13) 99 y50.2.1) 100 y50.2.2)) (G' := g) ?_ (by first | rfl | (funext a; by_cases z0 : a = 88; (subst z0; rfl); by_cases z1 : a = 95; (subst z1; rfl); by_cases z2 : a = 99; (subst z2; rfl); by_cases z3 : a = 100; (subst z3; rfl); simp only [am_ui, am_ul, am_row_ne z0, am_row_ne z1, am_row_ne z2, am_row_ne z3])) (by first | rfl | (funext a; by_cases z0 : a = 88; (subst z0; rfl); by_cases z1 : a = 95; (subst z1; rfl); by_cases z2 : a = 99; (subst z2; rfl); by_cases z3 : a = 100; (subst z3; rfl); simp only [am_ui, am_ul, am_row_ne z0, am_row_ne z1, am_row_ne z2, am_row_ne z3]))
      show am_F _ _ 243 [.ref 88, .int a0, .int (fn_m_ruleAt (f 88 24).toNatClampNeg 1 f), .int z50, .int (am_b (if ((f 89 ((184 + a0).toNatClampNeg)) &&& (fn_m_allAbove (fn_m_ruleAt (f 88 24).toNatClampNeg 1 f) (am_row (am_row (am_row f 88 y4.1) 99 y4.2.1) 100 y4.2.2))) = 0 then false else true)), .int z127.1, .int (fn_m_loanAt a217_6.toNatClampNeg 5 (am_row (am_row (am_row (am_row f 88 r217_88) 95 y13) 99 r217_99) 100 r217_100))] [] (am_S (am_row (am_row (am_row (am_row f 88 y50.1) 95 y13) 99 y50.2.1) 100 y50.2.2) g) _
      refine am_F.ops (pc' := 217) (L' := [.ref 88, .int a0, .int (fn_m_ruleAt (f 88 24).toNatClampNeg 1 f), .int z50, .int (am_b (if ((f 89 ((184 + a0).toNatClampNeg)) &&& (fn_m_allAbove (fn_m_ruleAt (f 88 24).toNatClampNeg 1 f) (am_row (am_row (am_row f 88 y4.1) 99 y4.2.1) 100 y4.2.2))) = 0 then false else true)), .int z127.1, .int (fn_m_loanAt a217_6.toNatClampNeg 5 (am_row (am_row (am_row (am_row f 88 r217_88) 95 y13) 99 r217_99) 100 r217_100))]) (S' := []) (μ' := (am_S (am_row (am_row (am_row (am_row f 88 y50.1) 95 y13) 99 y50.2.1) 100 y50.2.2) g)) 1 rfl ?_
      subst hKd
      exact ih (fn_m_loanAt a217_6.toNatClampNeg 5 (am_row (am_row (am_row (am_row f 88 r217_88) 95 y13) 99 r217_99) 100 r217_100)) y50.1 y50.2.1 y50.2.2 hK
set_option maxRecDepth 20000 in
theorem x_m_groundsOf (a0 : Int32) (f : Nat → Nat → Int32) (g : Nat → Nat → Int64) (hmk : am_mOK (f 89)) (z0 : (Nat → Int32) × (Nat → Int32) × (Nat → Int32) × (Nat → Int32)) (hz0 : (fn_m_groundsOf a0 f) = some z0) : am_D 2 204 7 [.ref 88, .int a0] (am_S f g) ((none : Option Value), am_S (am_row (am_row (am_row (am_row f 88 z0.1) 95 z0.2.1) 99 z0.2.2.1) 100 z0.2.2.2) g) := by
  obtain ⟨hlC, hlN, hrC, hrN, hl0, hl5, hl2⟩ := am_mOK_e hmk
  refine am_D.of (code := am_k_204) rfl (L0 := [.ref 88, .int a0, am_un, am_un, am_un, am_un, am_un]) rfl ?_
  generalize hres : ((none : Option Value), am_S (am_row (am_row (am_row (am_row f 88 z0.1) 95 z0.2.1) 99 z0.2.2.1) 100 z0.2.2.2) g) = res
  obtain ⟨K, hKd⟩ : ∃ K : Option ((Nat → Int32) × (Nat → Int32) × (Nat → Int32) × (Nat → Int32)) → Prop, K = am_KO (fun z => ((none : Option Value), am_S (am_row (am_row (am_row (am_row f 88 z.1) 95 z.2.1) 99 z.2.2.1) 100 z.2.2.2) g) = res) := ⟨_, rfl⟩
  have hK : K (fn_m_groundsOf a0 f) := by rw [hKd, hz0]; exact hres
  have hKn : ¬ K none := by rw [hKd]; exact id
  clear hres hz0
  unfold fn_m_groundsOf at hK
  refine am_F.ops (pc' := 6) (L' := [.ref 88, .int a0, am_un, am_un, am_un, am_un, am_un]) (S' := [.int 1, .int (f 88 24), .ref 88]) (μ' := (am_S f g)) 4 rfl ?_
  obtain ⟨q1, hK⟩ := am_chk_e hKn hK
  refine am_F.call rfl rfl (am_D.args (congrArg (fun (x9 : Int32) => ([.ref 88, .int x9, .int 1] : List Value)) (show (f 88 24 : Int32) = nI (f 88 24).toNatClampNeg from (am_inbQ q1).1)) (am_D.args (congrArg (fun (x9 : Int32) => ([.ref 88, .int (nI (f 88 24).toNatClampNeg), .int x9] : List Value)) (show (1 : Int32) = nI 1 from rfl)) (x_m_ruleAt (f 88 24).toNatClampNeg 1 f g (am_inbQ q1).2 (by omega)))) (by first | decide | omega) ?_
  show am_F _ _ 9 [.ref 88, .int a0, am_un, am_un, am_un, am_un, am_un] [.int (fn_m_ruleAt (f 88 24).toNatClampNeg 1 f)] (am_S f g) _
  refine am_F.ops (pc' := 16) (L' := [.ref 88, .int a0, .int (fn_m_ruleAt (f 88 24).toNatClampNeg 1 f), am_un, am_un, am_un, am_un]) (S' := [.int (f 88 24), .int 1, .ref 88]) (μ' := (am_S f g)) 5 rfl ?_
  obtain ⟨q3, hK⟩ := am_chk_e hKn hK
  obtain ⟨y4, hy4⟩ : ∃ z, (fn_m_groundsAdd 1 (f 88 24) f) = z := ⟨_, rfl⟩
  (try rw [hy4] at hK)
  refine am_F.call rfl rfl (x_m_groundsAdd 1 (f 88 24) f g q3) (by first | decide | omega) ?_
  (try rw [hy4])
  refine am_F.mem (F' := (am_row (am_row (am_row f 88 y4.1) 99 y4.2.1) 100 y4.2.2)) (G' := g) ?_ (by first | rfl | (funext a; by_cases z0 : a = 88; (subst z0; rfl); by_cases z1 : a = 99; (subst z1; rfl); by_cases z2 : a = 100; (subst z2; rfl); simp only [am_ui, am_ul, am_row_ne z0, am_row_ne z1, am_row_ne z2])) (by first | rfl | (funext a; by_cases z0 : a = 88; (subst z0; rfl); by_cases z1 : a = 99; (subst z1; rfl); by_cases z2 : a = 100; (subst z2; rfl); simp only [am_ui, am_ul, am_row_ne z0, am_row_ne z1, am_row_ne z2]))
  show am_F _ _ 19 [.ref 88, .int a0, .int (fn_m_ruleAt (f 88 24).toNatClampNeg 1 f), am_un, am_un, am_un, am_un] [] (am_S (am_row (am_row (am_row f 88 y4.1) 99 y4.2.1) 100 y4.2.2) g) _
  refine am_F.ops (pc' := 28) (L' := [.ref 88, .int a0, .int (fn_m_ruleAt (f 88 24).toNatClampNeg 1 f), am_un, am_un, am_un, am_un]) (S' := [.int (184 + a0), .ref 89]) (μ' := (am_S (am_row (am_row (am_row f 88 y4.1) 99 y4.2.1) 100 y4.2.2) g)) 5 rfl ?_
  obtain ⟨q5, hK⟩ := am_chk_e hKn hK
  refine am_F.ial (N := 3340) rfl rfl rfl q5 ?_
  show am_F _ _ 29 [.ref 88, .int a0, .int (fn_m_ruleAt (f 88 24).toNatClampNeg 1 f), am_un, am_un, am_un, am_un] [.int (f 89 ((184 + a0).toNatClampNeg))] (am_S (am_row (am_row (am_row f 88 y4.1) 99 y4.2.1) 100 y4.2.2) g) _
  refine am_F.ops (pc' := 31) (L' := [.ref 88, .int a0, .int (fn_m_ruleAt (f 88 24).toNatClampNeg 1 f), am_un, am_un, am_un, am_un]) (S' := [.int (fn_m_ruleAt (f 88 24).toNatClampNeg 1 f), .ref 88, .int (f 89 ((184 + a0).toNatClampNeg))]) (μ' := (am_S (am_row (am_row (am_row f 88 y4.1) 99 y4.2.1) 100 y4.2.2) g)) 2 rfl ?_
  refine am_F.call rfl rfl (x_m_allAbove (fn_m_ruleAt (f 88 24).toNatClampNeg 1 f) (am_row (am_row (am_row f 88 y4.1) 99 y4.2.1) 100 y4.2.2) g ) (by first | decide | omega) ?_
  show am_F _ _ 34 [.ref 88, .int a0, .int (fn_m_ruleAt (f 88 24).toNatClampNeg 1 f), am_un, am_un, am_un, am_un] [.int (fn_m_allAbove (fn_m_ruleAt (f 88 24).toNatClampNeg 1 f) (am_row (am_row (am_row f 88 y4.1) 99 y4.2.1) 100 y4.2.2)), .int (f 89 ((184 + a0).toNatClampNeg))] (am_S (am_row (am_row (am_row f 88 y4.1) 99 y4.2.1) 100 y4.2.2) g) _
  refine am_F.ops (pc' := 37) (L' := [.ref 88, .int a0, .int (fn_m_ruleAt (f 88 24).toNatClampNeg 1 f), .int ((f 89 ((184 + a0).toNatClampNeg)) &&& (fn_m_allAbove (fn_m_ruleAt (f 88 24).toNatClampNeg 1 f) (am_row (am_row (am_row f 88 y4.1) 99 y4.2.1) 100 y4.2.2))), am_un, am_un, am_un]) (S' := [.int ((f 89 ((184 + a0).toNatClampNeg)) &&& (fn_m_allAbove (fn_m_ruleAt (f 88 24).toNatClampNeg 1 f) (am_row (am_row (am_row f 88 y4.1) 99 y4.2.1) 100 y4.2.2)))]) (μ' := (am_S (am_row (am_row (am_row f 88 y4.1) 99 y4.2.1) 100 y4.2.2) g)) 3 rfl ?_
  refine am_F.to (am_To.iteB (pc' := 45) (L2 := [.ref 88, .int a0, .int (fn_m_ruleAt (f 88 24).toNatClampNeg 1 f), .int ((f 89 ((184 + a0).toNatClampNeg)) &&& (fn_m_allAbove (fn_m_ruleAt (f 88 24).toNatClampNeg 1 f) (am_row (am_row (am_row f 88 y4.1) 99 y4.2.1) 100 y4.2.2))), am_un, am_un, am_un]) (S2 := []) (μ2 := (am_S (am_row (am_row (am_row f 88 y4.1) 99 y4.2.1) 100 y4.2.2) g)) (a := false) (b := true) 1 rfl (fun c7 => ?_) (fun c7 => ?_)) ?_
  · intro res9 g9
    show am_F _ _ 44 [.ref 88, .int a0, .int (fn_m_ruleAt (f 88 24).toNatClampNeg 1 f), .int ((f 89 ((184 + a0).toNatClampNeg)) &&& (fn_m_allAbove (fn_m_ruleAt (f 88 24).toNatClampNeg 1 f) (am_row (am_row (am_row f 88 y4.1) 99 y4.2.1) 100 y4.2.2))), am_un, am_un, am_un] [] (am_S (am_row (am_row (am_row f 88 y4.1) 99 y4.2.1) 100 y4.2.2) g) _
    refine am_F.ops (pc' := 45) (L' := [.ref 88, .int a0, .int (fn_m_ruleAt (f 88 24).toNatClampNeg 1 f), .int ((f 89 ((184 + a0).toNatClampNeg)) &&& (fn_m_allAbove (fn_m_ruleAt (f 88 24).toNatClampNeg 1 f) (am_row (am_row (am_row f 88 y4.1) 99 y4.2.1) 100 y4.2.2))), am_un, am_un, am_un]) (S' := [.int 0]) (μ' := (am_S (am_row (am_row (am_row f 88 y4.1) 99 y4.2.1) 100 y4.2.2) g)) 1 rfl ?_
    exact g9
  · intro res9 g9
    show am_F _ _ 40 [.ref 88, .int a0, .int (fn_m_ruleAt (f 88 24).toNatClampNeg 1 f), .int ((f 89 ((184 + a0).toNatClampNeg)) &&& (fn_m_allAbove (fn_m_ruleAt (f 88 24).toNatClampNeg 1 f) (am_row (am_row (am_row f 88 y4.1) 99 y4.2.1) 100 y4.2.2))), am_un, am_un, am_un] [] (am_S (am_row (am_row (am_row f 88 y4.1) 99 y4.2.1) 100 y4.2.2) g) _
    refine am_F.ops (pc' := 45) (L' := [.ref 88, .int a0, .int (fn_m_ruleAt (f 88 24).toNatClampNeg 1 f), .int ((f 89 ((184 + a0).toNatClampNeg)) &&& (fn_m_allAbove (fn_m_ruleAt (f 88 24).toNatClampNeg 1 f) (am_row (am_row (am_row f 88 y4.1) 99 y4.2.1) 100 y4.2.2))), am_un, am_un, am_un]) (S' := [.int 1]) (μ' := (am_S (am_row (am_row (am_row f 88 y4.1) 99 y4.2.1) 100 y4.2.2) g)) 2 rfl ?_
    exact g9
  show am_F _ _ 45 [.ref 88, .int a0, .int (fn_m_ruleAt (f 88 24).toNatClampNeg 1 f), .int ((f 89 ((184 + a0).toNatClampNeg)) &&& (fn_m_allAbove (fn_m_ruleAt (f 88 24).toNatClampNeg 1 f) (am_row (am_row (am_row f 88 y4.1) 99 y4.2.1) 100 y4.2.2))), am_un, am_un, am_un] [.int (am_b (if ((f 89 ((184 + a0).toNatClampNeg)) &&& (fn_m_allAbove (fn_m_ruleAt (f 88 24).toNatClampNeg 1 f) (am_row (am_row (am_row f 88 y4.1) 99 y4.2.1) 100 y4.2.2))) = 0 then false else true))] (am_S (am_row (am_row (am_row f 88 y4.1) 99 y4.2.1) 100 y4.2.2) g) _
  refine am_F.ops (pc' := 50) (L' := [.ref 88, .int a0, .int (fn_m_ruleAt (f 88 24).toNatClampNeg 1 f), .int ((f 89 ((184 + a0).toNatClampNeg)) &&& (fn_m_allAbove (fn_m_ruleAt (f 88 24).toNatClampNeg 1 f) (am_row (am_row (am_row f 88 y4.1) 99 y4.2.1) 100 y4.2.2))), .int (am_b (if ((f 89 ((184 + a0).toNatClampNeg)) &&& (fn_m_allAbove (fn_m_ruleAt (f 88 24).toNatClampNeg 1 f) (am_row (am_row (am_row f 88 y4.1) 99 y4.2.1) 100 y4.2.2))) = 0 then false else true)), .int 0, am_un]) (S' := []) (μ' := (am_S (am_row (am_row (am_row f 88 y4.1) 99 y4.2.1) 100 y4.2.2) g)) 3 rfl ?_
  show am_F _ _ 50 [.ref 88, .int a0, .int (fn_m_ruleAt (f 88 24).toNatClampNeg 1 f), .int ((f 89 ((184 + a0).toNatClampNeg)) &&& (fn_m_allAbove (fn_m_ruleAt (f 88 24).toNatClampNeg 1 f) (am_row (am_row (am_row f 88 y4.1) 99 y4.2.1) 100 y4.2.2))), .int (am_b (if ((f 89 ((184 + a0).toNatClampNeg)) &&& (fn_m_allAbove (fn_m_ruleAt (f 88 24).toNatClampNeg 1 f) (am_row (am_row (am_row f 88 y4.1) 99 y4.2.1) 100 y4.2.2))) = 0 then false else true)), .int (nI 0), am_un] [] (am_S (am_row (am_row (am_row f 88 y4.1) 99 y4.2.1) 100 y4.2.2) g) _
  refine lp_m_groundsOf_50 a0 f g y4 hmk hlC hlN hrC hrN hl0 hl5 hl2 _ ((f 89 201).toNatClampNeg) 0 ((f 89 ((184 + a0).toNatClampNeg)) &&& (fn_m_allAbove (fn_m_ruleAt (f 88 24).toNatClampNeg 1 f) (am_row (am_row (am_row f 88 y4.1) 99 y4.2.1) 100 y4.2.2)))  (by omega)  ?_
  rw [show am_forX (st_m_groundsOf_50 a0 f y4) ((f 89 201).toNatClampNeg) 0 ((f 89 ((184 + a0).toNatClampNeg)) &&& (fn_m_allAbove (fn_m_ruleAt (f 88 24).toNatClampNeg 1 f) (am_row (am_row (am_row f 88 y4.1) 99 y4.2.1) 100 y4.2.2))) = (lf_m_groundsOf_50 a0 f y4) from rfl]
  revert hK
  cases (lf_m_groundsOf_50 a0 f y4) with
  | inr z =>
    intro hK
    exact z.elim
  | inl z50 =>
    intro hK wc50
    (try simp only [Sum.elim_inl] at hK)
    refine am_F.ops (pc' := 114) (L' := [.ref 88, .int a0, .int (fn_m_ruleAt (f 88 24).toNatClampNeg 1 f), .int z50, .int (am_b (if ((f 89 ((184 + a0).toNatClampNeg)) &&& (fn_m_allAbove (fn_m_ruleAt (f 88 24).toNatClampNeg 1 f) (am_row (am_row (am_row f 88 y4.1) 99 y4.2.1) 100 y4.2.2))) = 0 then false else true)), wc50, am_un]) (S' := [.int 1, .int z50, .ref 88]) (μ' := (am_S (am_row (am_row (am_row f 88 y4.1) 99 y4.2.1) 100 y4.2.2) g)) 3 rfl ?_
    obtain ⟨y13, hy13⟩ : ∃ z, (fn_m_distances z50 true (am_row (am_row (am_row f 88 y4.1) 99 y4.2.1) 100 y4.2.2)) = z := ⟨_, rfl⟩
    (try rw [hy13] at hK)
    refine am_F.call rfl rfl (x_m_distances z50 true (am_row (am_row (am_row f 88 y4.1) 99 y4.2.1) 100 y4.2.2) g ) (by first | decide | omega) ?_
    (try rw [hy13])
    refine am_F.mem (F' := (am_row (am_row (am_row (am_row f 88 y4.1) 95 y13) 99 y4.2.1) 100 y4.2.2)) (G' := g) ?_ (by first | rfl | (funext a; by_cases z0 : a = 88; (subst z0; rfl); by_cases z1 : a = 95; (subst z1; rfl); by_cases z2 : a = 99; (subst z2; rfl); by_cases z3 : a = 100; (subst z3; rfl); simp only [am_ui, am_ul, am_row_ne z0, am_row_ne z1, am_row_ne z2, am_row_ne z3])) (by first | rfl | (funext a; by_cases z0 : a = 88; (subst z0; rfl); by_cases z1 : a = 95; (subst z1; rfl); by_cases z2 : a = 99; (subst z2; rfl); by_cases z3 : a = 100; (subst z3; rfl); simp only [am_ui, am_ul, am_row_ne z0, am_row_ne z1, am_row_ne z2, am_row_ne z3]))
    show am_F _ _ 117 [.ref 88, .int a0, .int (fn_m_ruleAt (f 88 24).toNatClampNeg 1 f), .int z50, .int (am_b (if ((f 89 ((184 + a0).toNatClampNeg)) &&& (fn_m_allAbove (fn_m_ruleAt (f 88 24).toNatClampNeg 1 f) (am_row (am_row (am_row f 88 y4.1) 99 y4.2.1) 100 y4.2.2))) = 0 then false else true)), wc50, am_un] [] (am_S (am_row (am_row (am_row (am_row f 88 y4.1) 95 y13) 99 y4.2.1) 100 y4.2.2) g) _
    refine am_F.ops (pc' := 124) (L' := [.ref 88, .int a0, .int (fn_m_ruleAt (f 88 24).toNatClampNeg 1 f), .int z50, .int (am_b (if ((f 89 ((184 + a0).toNatClampNeg)) &&& (fn_m_allAbove (fn_m_ruleAt (f 88 24).toNatClampNeg 1 f) (am_row (am_row (am_row f 88 y4.1) 99 y4.2.1) 100 y4.2.2))) = 0 then false else true)), .int (fn_m_ruleAt (f 88 24).toNatClampNeg 1 f), am_un]) (S' := [.int (fn_m_ruleAt (f 88 24).toNatClampNeg 1 f), .int 2, .ref 88]) (μ' := (am_S (am_row (am_row (am_row (am_row f 88 y4.1) 95 y13) 99 y4.2.1) 100 y4.2.2) g)) 5 rfl ?_
    obtain ⟨q14, hK⟩ := am_chk_e hKn hK
    obtain ⟨y15, hy15⟩ : ∃ z, (fn_m_groundsAdd 2 (fn_m_ruleAt (f 88 24).toNatClampNeg 1 f) (am_row (am_row (am_row (am_row f 88 y4.1) 95 y13) 99 y4.2.1) 100 y4.2.2)) = z := ⟨_, rfl⟩
    (try rw [hy15] at hK)
    refine am_F.call rfl rfl (x_m_groundsAdd 2 (fn_m_ruleAt (f 88 24).toNatClampNeg 1 f) (am_row (am_row (am_row (am_row f 88 y4.1) 95 y13) 99 y4.2.1) 100 y4.2.2) g q14) (by first | decide | omega) ?_
    (try rw [hy15])
    refine am_F.mem (F' := (am_row (am_row (am_row (am_row f 88 y15.1) 95 y13) 99 y15.2.1) 100 y15.2.2)) (G' := g) ?_ (by first | rfl | (funext a; by_cases z0 : a = 88; (subst z0; rfl); by_cases z1 : a = 95; (subst z1; rfl); by_cases z2 : a = 99; (subst z2; rfl); by_cases z3 : a = 100; (subst z3; rfl); simp only [am_ui, am_ul, am_row_ne z0, am_row_ne z1, am_row_ne z2, am_row_ne z3])) (by first | rfl | (funext a; by_cases z0 : a = 88; (subst z0; rfl); by_cases z1 : a = 95; (subst z1; rfl); by_cases z2 : a = 99; (subst z2; rfl); by_cases z3 : a = 100; (subst z3; rfl); simp only [am_ui, am_ul, am_row_ne z0, am_row_ne z1, am_row_ne z2, am_row_ne z3]))
    show am_F _ _ 127 [.ref 88, .int a0, .int (fn_m_ruleAt (f 88 24).toNatClampNeg 1 f), .int z50, .int (am_b (if ((f 89 ((184 + a0).toNatClampNeg)) &&& (fn_m_allAbove (fn_m_ruleAt (f 88 24).toNatClampNeg 1 f) (am_row (am_row (am_row f 88 y4.1) 99 y4.2.1) 100 y4.2.2))) = 0 then false else true)), .int (fn_m_ruleAt (f 88 24).toNatClampNeg 1 f), am_un] [] (am_S (am_row (am_row (am_row (am_row f 88 y15.1) 95 y13) 99 y15.2.1) 100 y15.2.2) g) _
    obtain ⟨z127, hz127, hK⟩ := am_ob_e hKn hK
    obtain ⟨nz127, gz127⟩ := am_while_s (show am_while (st_m_groundsOf_127 f y13) ((fn_m_ruleAt (f 88 24).toNatClampNeg 1 f), y15.1, y15.2.1, y15.2.2) = some z127 from hz127)
    refine lp_m_groundsOf_127 a0 f g y4 z50 wc50 y13 y15 hmk hlC hlN hrC hrN hl0 hl5 hl2 _ nz127 (fn_m_ruleAt (f 88 24).toNatClampNeg 1 f) y15.1 y15.2.1 y15.2.2  ?_
    rw [gz127]
    rcases z127 with z127 | z
    · skip
      show am_F _ _ 156 [.ref 88, .int a0, .int (fn_m_ruleAt (f 88 24).toNatClampNeg 1 f), .int z50, .int (am_b (if ((f 89 ((184 + a0).toNatClampNeg)) &&& (fn_m_allAbove (fn_m_ruleAt (f 88 24).toNatClampNeg 1 f) (am_row (am_row (am_row f 88 y4.1) 99 y4.2.1) 100 y4.2.2))) = 0 then false else true)), .int z127.1, am_un] [] (am_S (am_row (am_row (am_row (am_row f 88 z127.2.1) 95 y13) 99 z127.2.2.1) 100 z127.2.2.2) g) _
      (try simp only [Sum.elim_inl] at hK)
      refine am_F.ops (pc' := 158) (L' := [.ref 88, .int a0, .int (fn_m_ruleAt (f 88 24).toNatClampNeg 1 f), .int z50, .int (am_b (if ((f 89 ((184 + a0).toNatClampNeg)) &&& (fn_m_allAbove (fn_m_ruleAt (f 88 24).toNatClampNeg 1 f) (am_row (am_row (am_row f 88 y4.1) 99 y4.2.1) 100 y4.2.2))) = 0 then false else true)), .int z127.1, am_un]) (S' := [.int (am_b (if ((f 89 ((184 + a0).toNatClampNeg)) &&& (fn_m_allAbove (fn_m_ruleAt (f 88 24).toNatClampNeg 1 f) (am_row (am_row (am_row f 88 y4.1) 99 y4.2.1) 100 y4.2.2))) = 0 then false else true))]) (μ' := (am_S (am_row (am_row (am_row (am_row f 88 z127.2.1) 95 y13) 99 z127.2.2.1) 100 z127.2.2.2) g)) 1 rfl ?_
      refine am_F.bifK 1 rfl K hK (fun c26 hK => ?_) (fun c26 hK => ?_)
      · show am_F _ _ 161 [.ref 88, .int a0, .int (fn_m_ruleAt (f 88 24).toNatClampNeg 1 f), .int z50, .int (am_b (if ((f 89 ((184 + a0).toNatClampNeg)) &&& (fn_m_allAbove (fn_m_ruleAt (f 88 24).toNatClampNeg 1 f) (am_row (am_row (am_row f 88 y4.1) 99 y4.2.1) 100 y4.2.2))) = 0 then false else true)), .int z127.1, am_un] [] (am_S (am_row (am_row (am_row (am_row f 88 z127.2.1) 95 y13) 99 z127.2.2.1) 100 z127.2.2.2) g) _
        refine am_F.ops (pc' := 164) (L' := [.ref 88, .int a0, .int (fn_m_ruleAt (f 88 24).toNatClampNeg 1 f), .int z50, .int (am_b (if ((f 89 ((184 + a0).toNatClampNeg)) &&& (fn_m_allAbove (fn_m_ruleAt (f 88 24).toNatClampNeg 1 f) (am_row (am_row (am_row f 88 y4.1) 99 y4.2.1) 100 y4.2.2))) = 0 then false else true)), .int z127.1, am_un]) (S' := [.int a0, .int 4, .ref 88]) (μ' := (am_S (am_row (am_row (am_row (am_row f 88 z127.2.1) 95 y13) 99 z127.2.2.1) 100 z127.2.2.2) g)) 3 rfl ?_
        obtain ⟨q27, hK⟩ := am_chk_e hKn hK
        obtain ⟨y28, hy28⟩ : ∃ z, (fn_m_groundsAdd 4 a0 (am_row (am_row (am_row (am_row f 88 z127.2.1) 95 y13) 99 z127.2.2.1) 100 z127.2.2.2)) = z := ⟨_, rfl⟩
        (try rw [hy28] at hK)
        refine am_F.call rfl rfl (x_m_groundsAdd 4 a0 (am_row (am_row (am_row (am_row f 88 z127.2.1) 95 y13) 99 z127.2.2.1) 100 z127.2.2.2) g q27) (by first | decide | omega) ?_
        (try rw [hy28])
        refine am_F.mem (F' := (am_row (am_row (am_row (am_row f 88 y28.1) 95 y13) 99 y28.2.1) 100 y28.2.2)) (G' := g) ?_ (by first | rfl | (funext a; by_cases z0 : a = 88; (subst z0; rfl); by_cases z1 : a = 95; (subst z1; rfl); by_cases z2 : a = 99; (subst z2; rfl); by_cases z3 : a = 100; (subst z3; rfl); simp only [am_ui, am_ul, am_row_ne z0, am_row_ne z1, am_row_ne z2, am_row_ne z3])) (by first | rfl | (funext a; by_cases z0 : a = 88; (subst z0; rfl); by_cases z1 : a = 95; (subst z1; rfl); by_cases z2 : a = 99; (subst z2; rfl); by_cases z3 : a = 100; (subst z3; rfl); simp only [am_ui, am_ul, am_row_ne z0, am_row_ne z1, am_row_ne z2, am_row_ne z3]))
        show am_F _ _ 167 [.ref 88, .int a0, .int (fn_m_ruleAt (f 88 24).toNatClampNeg 1 f), .int z50, .int (am_b (if ((f 89 ((184 + a0).toNatClampNeg)) &&& (fn_m_allAbove (fn_m_ruleAt (f 88 24).toNatClampNeg 1 f) (am_row (am_row (am_row f 88 y4.1) 99 y4.2.1) 100 y4.2.2))) = 0 then false else true)), .int z127.1, am_un] [] (am_S (am_row (am_row (am_row (am_row f 88 y28.1) 95 y13) 99 y28.2.1) 100 y28.2.2) g) _
        subst hKd
        have hQ := am_KO_s hK
        exact am_F.eq (am_F.ret rfl rfl) hQ
      · show am_F _ _ 168 [.ref 88, .int a0, .int (fn_m_ruleAt (f 88 24).toNatClampNeg 1 f), .int z50, .int (am_b (if ((f 89 ((184 + a0).toNatClampNeg)) &&& (fn_m_allAbove (fn_m_ruleAt (f 88 24).toNatClampNeg 1 f) (am_row (am_row (am_row f 88 y4.1) 99 y4.2.1) 100 y4.2.2))) = 0 then false else true)), .int z127.1, am_un] [] (am_S (am_row (am_row (am_row (am_row f 88 z127.2.1) 95 y13) 99 z127.2.2.1) 100 z127.2.2.2) g) _
        refine am_F.ops (pc' := 171) (L' := [.ref 88, .int a0, .int (fn_m_ruleAt (f 88 24).toNatClampNeg 1 f), .int z50, .int (am_b (if ((f 89 ((184 + a0).toNatClampNeg)) &&& (fn_m_allAbove (fn_m_ruleAt (f 88 24).toNatClampNeg 1 f) (am_row (am_row (am_row f 88 y4.1) 99 y4.2.1) 100 y4.2.2))) = 0 then false else true)), .int z127.1, .int 0]) (S' := []) (μ' := (am_S (am_row (am_row (am_row (am_row f 88 z127.2.1) 95 y13) 99 z127.2.2.1) 100 z127.2.2.2) g)) 2 rfl ?_
        obtain ⟨z171, hz171, hK⟩ := am_ob_e hKn hK
        obtain ⟨nz171, gz171⟩ := am_while_s (show am_while (st_m_groundsOf_171 a0 f y13 z127) 0 = some z171 from hz171)
        refine lp_m_groundsOf_171 a0 f g y4 z50 wc50 y13 y15 z127 hmk hlC hlN hrC hrN hl0 hl5 hl2 _ nz171 0  ?_
        rw [gz171]
        rcases z171 with z171 | z
        · skip
          show am_F _ _ 210 [.ref 88, .int a0, .int (fn_m_ruleAt (f 88 24).toNatClampNeg 1 f), .int z50, .int (am_b (if ((f 89 ((184 + a0).toNatClampNeg)) &&& (fn_m_allAbove (fn_m_ruleAt (f 88 24).toNatClampNeg 1 f) (am_row (am_row (am_row f 88 y4.1) 99 y4.2.1) 100 y4.2.2))) = 0 then false else true)), .int z127.1, .int z171] [] (am_S (am_row (am_row (am_row (am_row f 88 z127.2.1) 95 y13) 99 z127.2.2.1) 100 z127.2.2.2) g) _
          (try simp only [Sum.elim_inl] at hK)
          refine am_F.ops (pc' := 214) (L' := [.ref 88, .int a0, .int (fn_m_ruleAt (f 88 24).toNatClampNeg 1 f), .int z50, .int (am_b (if ((f 89 ((184 + a0).toNatClampNeg)) &&& (fn_m_allAbove (fn_m_ruleAt (f 88 24).toNatClampNeg 1 f) (am_row (am_row (am_row f 88 y4.1) 99 y4.2.1) 100 y4.2.2))) = 0 then false else true)), .int z127.1, .int z171]) (S' := [.int z171, .int 3, .ref 88]) (μ' := (am_S (am_row (am_row (am_row (am_row f 88 z127.2.1) 95 y13) 99 z127.2.2.1) 100 z127.2.2.2) g)) 3 rfl ?_
          obtain ⟨q37, hK⟩ := am_chk_e hKn hK
          obtain ⟨y38, hy38⟩ : ∃ z, (fn_m_groundsAdd 3 z171 (am_row (am_row (am_row (am_row f 88 z127.2.1) 95 y13) 99 z127.2.2.1) 100 z127.2.2.2)) = z := ⟨_, rfl⟩
          (try rw [hy38] at hK)
          refine am_F.call rfl rfl (x_m_groundsAdd 3 z171 (am_row (am_row (am_row (am_row f 88 z127.2.1) 95 y13) 99 z127.2.2.1) 100 z127.2.2.2) g q37) (by first | decide | omega) ?_
          (try rw [hy38])
          refine am_F.mem (F' := (am_row (am_row (am_row (am_row f 88 y38.1) 95 y13) 99 y38.2.1) 100 y38.2.2)) (G' := g) ?_ (by first | rfl | (funext a; by_cases z0 : a = 88; (subst z0; rfl); by_cases z1 : a = 95; (subst z1; rfl); by_cases z2 : a = 99; (subst z2; rfl); by_cases z3 : a = 100; (subst z3; rfl); simp only [am_ui, am_ul, am_row_ne z0, am_row_ne z1, am_row_ne z2, am_row_ne z3])) (by first | rfl | (funext a; by_cases z0 : a = 88; (subst z0; rfl); by_cases z1 : a = 95; (subst z1; rfl); by_cases z2 : a = 99; (subst z2; rfl); by_cases z3 : a = 100; (subst z3; rfl); simp only [am_ui, am_ul, am_row_ne z0, am_row_ne z1, am_row_ne z2, am_row_ne z3]))
          show am_F _ _ 217 [.ref 88, .int a0, .int (fn_m_ruleAt (f 88 24).toNatClampNeg 1 f), .int z50, .int (am_b (if ((f 89 ((184 + a0).toNatClampNeg)) &&& (fn_m_allAbove (fn_m_ruleAt (f 88 24).toNatClampNeg 1 f) (am_row (am_row (am_row f 88 y4.1) 99 y4.2.1) 100 y4.2.2))) = 0 then false else true)), .int z127.1, .int z171] [] (am_S (am_row (am_row (am_row (am_row f 88 y38.1) 95 y13) 99 y38.2.1) 100 y38.2.2) g) _
          obtain ⟨z217, hz217, hK⟩ := am_ob_e hKn hK
          obtain ⟨nz217, gz217⟩ := am_while_s (show am_while (st_m_groundsOf_217 f y13) (z171, y38.1, y38.2.1, y38.2.2) = some z217 from hz217)
          refine lp_m_groundsOf_217 a0 f g y4 z50 wc50 y13 y15 z127 z171 y38 hmk hlC hlN hrC hrN hl0 hl5 hl2 _ nz217 z171 y38.1 y38.2.1 y38.2.2  ?_
          rw [gz217]
          rcases z217 with z217 | z
          · skip
            show am_F _ _ 246 [.ref 88, .int a0, .int (fn_m_ruleAt (f 88 24).toNatClampNeg 1 f), .int z50, .int (am_b (if ((f 89 ((184 + a0).toNatClampNeg)) &&& (fn_m_allAbove (fn_m_ruleAt (f 88 24).toNatClampNeg 1 f) (am_row (am_row (am_row f 88 y4.1) 99 y4.2.1) 100 y4.2.2))) = 0 then false else true)), .int z127.1, .int z217.1] [] (am_S (am_row (am_row (am_row (am_row f 88 z217.2.1) 95 y13) 99 z217.2.2.1) 100 z217.2.2.2) g) _
            (try simp only [Sum.elim_inl] at hK)
            refine am_F.ops (pc' := 252) (L' := [.ref 88, .int a0, .int (fn_m_ruleAt (f 88 24).toNatClampNeg 1 f), .int z50, .int (am_b (if ((f 89 ((184 + a0).toNatClampNeg)) &&& (fn_m_allAbove (fn_m_ruleAt (f 88 24).toNatClampNeg 1 f) (am_row (am_row (am_row f 88 y4.1) 99 y4.2.1) 100 y4.2.2))) = 0 then false else true)), .int z127.1, .int z217.1]) (S' := [.int 0, .int z217.1, .ref 88, .int 4, .ref 88]) (μ' := (am_S (am_row (am_row (am_row (am_row f 88 z217.2.1) 95 y13) 99 z217.2.2.1) 100 z217.2.2.2) g)) 5 rfl ?_
            obtain ⟨q51, hK⟩ := am_chk_e hKn hK
            refine am_F.call rfl rfl (am_D.args (congrArg (fun (x9 : Int32) => ([.ref 88, .int x9, .int 0] : List Value)) (show (z217.1 : Int32) = nI z217.1.toNatClampNeg from (am_inbQ q51).1)) (am_D.args (congrArg (fun (x9 : Int32) => ([.ref 88, .int (nI z217.1.toNatClampNeg), .int x9] : List Value)) (show (0 : Int32) = nI 0 from rfl)) (x_m_loanAt z217.1.toNatClampNeg 0 (am_row (am_row (am_row (am_row f 88 z217.2.1) 95 y13) 99 z217.2.2.1) 100 z217.2.2.2) g (am_inbQ q51).2 (by omega)))) (by first | decide | omega) ?_
            show am_F _ _ 255 [.ref 88, .int a0, .int (fn_m_ruleAt (f 88 24).toNatClampNeg 1 f), .int z50, .int (am_b (if ((f 89 ((184 + a0).toNatClampNeg)) &&& (fn_m_allAbove (fn_m_ruleAt (f 88 24).toNatClampNeg 1 f) (am_row (am_row (am_row f 88 y4.1) 99 y4.2.1) 100 y4.2.2))) = 0 then false else true)), .int z127.1, .int z217.1] [.int (fn_m_loanAt z217.1.toNatClampNeg 0 (am_row (am_row (am_row (am_row f 88 z217.2.1) 95 y13) 99 z217.2.2.1) 100 z217.2.2.2)), .int 4, .ref 88] (am_S (am_row (am_row (am_row (am_row f 88 z217.2.1) 95 y13) 99 z217.2.2.1) 100 z217.2.2.2) g) _
            obtain ⟨q53, hK⟩ := am_chk_e hKn hK
            obtain ⟨y54, hy54⟩ : ∃ z, (fn_m_groundsAdd 4 (fn_m_loanAt z217.1.toNatClampNeg 0 (am_row (am_row (am_row (am_row f 88 z217.2.1) 95 y13) 99 z217.2.2.1) 100 z217.2.2.2)) (am_row (am_row (am_row (am_row f 88 z217.2.1) 95 y13) 99 z217.2.2.1) 100 z217.2.2.2)) = z := ⟨_, rfl⟩
            (try rw [hy54] at hK)
            refine am_F.call rfl rfl (x_m_groundsAdd 4 (fn_m_loanAt z217.1.toNatClampNeg 0 (am_row (am_row (am_row (am_row f 88 z217.2.1) 95 y13) 99 z217.2.2.1) 100 z217.2.2.2)) (am_row (am_row (am_row (am_row f 88 z217.2.1) 95 y13) 99 z217.2.2.1) 100 z217.2.2.2) g q53) (by first | decide | omega) ?_
            (try rw [hy54])
            refine am_F.mem (F' := (am_row (am_row (am_row (am_row f 88 y54.1) 95 y13) 99 y54.2.1) 100 y54.2.2)) (G' := g) ?_ (by first | rfl | (funext a; by_cases z0 : a = 88; (subst z0; rfl); by_cases z1 : a = 95; (subst z1; rfl); by_cases z2 : a = 99; (subst z2; rfl); by_cases z3 : a = 100; (subst z3; rfl); simp only [am_ui, am_ul, am_row_ne z0, am_row_ne z1, am_row_ne z2, am_row_ne z3])) (by first | rfl | (funext a; by_cases z0 : a = 88; (subst z0; rfl); by_cases z1 : a = 95; (subst z1; rfl); by_cases z2 : a = 99; (subst z2; rfl); by_cases z3 : a = 100; (subst z3; rfl); simp only [am_ui, am_ul, am_row_ne z0, am_row_ne z1, am_row_ne z2, am_row_ne z3]))
            show am_F _ _ 258 [.ref 88, .int a0, .int (fn_m_ruleAt (f 88 24).toNatClampNeg 1 f), .int z50, .int (am_b (if ((f 89 ((184 + a0).toNatClampNeg)) &&& (fn_m_allAbove (fn_m_ruleAt (f 88 24).toNatClampNeg 1 f) (am_row (am_row (am_row f 88 y4.1) 99 y4.2.1) 100 y4.2.2))) = 0 then false else true)), .int z127.1, .int z217.1] [] (am_S (am_row (am_row (am_row (am_row f 88 y54.1) 95 y13) 99 y54.2.1) 100 y54.2.2) g) _
            subst hKd
            have hQ := am_KO_s hK
            exact am_F.eq (am_F.ret rfl rfl) hQ
          · exact z.elim
        · exact z.elim
    · exact z.elim
/-- AccessLatticeModel.fitting, with checks -/
noncomputable def st_m_fitting_13 (a0 : Int32) (a1 : Int32) (a2 : Int32) (f : Nat → Nat → Int32) : Nat → (Nat → Int32) → Option ((Nat → Int32) ⊕ ((Nat → Int32) ⊕ Empty)) := fun i13 r13_88 => (bif (fn_m_isRule (nI i13) (am_row f 88 r13_88)) then (am_ob (fn_m_fits (nI i13) a0 a1 a2 (am_row f 88 r13_88)) (fun (y12 : Bool × (Nat → Int32)) => (some (.inl (upd y12.2 28 ((r13_88 28) ||| (bif (y12.1) then (1 : Int32) <<< ((nI i13) &&& 31) else 0))))))) else (some (.inl (upd r13_88 28 ((r13_88 28) ||| 0)))))
noncomputable def lf_m_fitting_13 (a0 : Int32) (a1 : Int32) (a2 : Int32) (f : Nat → Nat → Int32) : Option ((Nat → Int32) ⊕ Empty) := am_forO (st_m_fitting_13 a0 a1 a2 f) ((f 89 202).toNatClampNeg) 0 (upd (upd (f 88) 28 0) 29 0)
noncomputable def fn_m_fitting (a0 : Int32) (a1 : Int32) (a2 : Int32) (f : Nat → Nat → Int32) : Option ((Nat → Int32)) := (am_ob (lf_m_fitting_13 a0 a1 a2 f) (fun zz => Sum.elim (fun (z13 : (Nat → Int32)) => (some z13)) (fun (z : Empty) => z.elim) zz))
theorem lp_m_fitting_13 (a0 : Int32) (a1 : Int32) (a2 : Int32) (f : Nat → Nat → Int32) (g : Nat → Nat → Int64) (hmk : am_mOK (f 89)) (hlC : f 89 201 = nI (f 89 201).toNatClampNeg) (hlN : (f 89 201).toNatClampNeg ≤ 40) (hrC : f 89 202 = nI (f 89 202).toNatClampNeg) (hrN : (f 89 202).toNatClampNeg ≤ 30) (hl0 : ∀ i, i < (f 89 201).toNatClampNeg → am_inb (fn_m_loanAt i 0 f) 16 = true) (hl5 : ∀ i, i < (f 89 201).toNatClampNeg → ¬ fn_m_loanAt i 5 f < 0 → am_inb (fn_m_loanAt i 5 f) 40 = true) (hl2 : ∀ i, i < (f 89 201).toNatClampNeg → am_inb (fn_m_loanAt i 2 f) 20 = true) (res : Option Value × am_M) : ∀ (n i13 : Nat) (r13_88 : Nat → Int32) , i13 + n = (f 89 202).toNatClampNeg → am_KO (am_KX (fun (z : (Nat → Int32)) => ∀ (wc13 : Value), am_F 83 am_k_216 70 [.ref 88, .int a0, .int a1, .int a2, wc13] [] (am_S (am_row f 88 z) g) res) (fun (z : Empty) => True)) (am_forO (st_m_fitting_13 a0 a1 a2 f) n i13 r13_88) → am_F 83 am_k_216 13 [.ref 88, .int a0, .int a1, .int a2, .int (nI i13)] [] (am_S (am_row f 88 r13_88) g) res := by
  intro n
  induction n with
  | zero =>
    intro i13 r13_88 hi hK
    refine am_F.pos 6 rfl (by show (f 89 202) ≤ nI i13; rw [show (f 89 202 : Int32) = nI ((f 89 202).toNatClampNeg) from hrC]; exact nI_le (by omega) (by omega)) ?_
    exact hK _
  | succ n ih =>
    intro i13 r13_88 hi hK
    refine am_F.neg 6 rfl (by show ¬ (f 89 202) ≤ nI i13; rw [show (f 89 202 : Int32) = nI ((f 89 202).toNatClampNeg) from hrC]; exact nI_ge (by omega) (by omega)) ?_
    have hb13 : i13 < (f 89 202).toNatClampNeg := by omega
    show am_F _ _ 26 [.ref 88, .int a0, .int a1, .int a2, .int (nI i13)] [] (am_S (am_row f 88 r13_88) g) _
    obtain ⟨K, hKd⟩ : ∃ K : Option ((Nat → Int32) ⊕ ((Nat → Int32) ⊕ Empty)) → Prop, K = fun s => am_KO (am_KX (fun (z : (Nat → Int32)) => ∀ (wc13 : Value), am_F 83 am_k_216 70 [.ref 88, .int a0, .int a1, .int a2, wc13] [] (am_S (am_row f 88 z) g) res) (fun (z : Empty) => True)) (am_whn (fun z => am_forO (st_m_fitting_13 a0 a1 a2 f) n (i13 + 1) z) s) := ⟨_, rfl⟩
    have hK : K ((st_m_fitting_13 a0 a1 a2 f) i13 r13_88) := by rw [am_forO_s] at hK; rw [hKd]; with_reducible exact hK
    have hKn : ¬ K none := by rw [hKd]; exact id
    unfold st_m_fitting_13 at hK
    refine am_F.ops (pc' := 34) (L' := [.ref 88, .int a0, .int a1, .int a2, .int (nI i13)]) (S' := [.int (nI i13), .ref 88, .int (r13_88 28), .ref 88]) (μ' := (am_S (am_row f 88 r13_88) g)) 5 rfl ?_
    refine am_F.call rfl rfl (x_m_isRule (nI i13) (am_row f 88 r13_88) g hrC hrN) (by first | decide | omega) ?_
    show am_F _ _ 37 [.ref 88, .int a0, .int a1, .int a2, .int (nI i13)] [.int (am_b (fn_m_isRule (nI i13) (am_row f 88 r13_88))), .int (r13_88 28), .ref 88] (am_S (am_row f 88 r13_88) g) _
    refine am_F.bifK 1 rfl K hK (fun c11 hK => ?_) (fun c11 hK => ?_)
    · show am_F _ _ 40 [.ref 88, .int a0, .int a1, .int a2, .int (nI i13)] [.int (r13_88 28), .ref 88] (am_S (am_row f 88 r13_88) g) _
      refine am_F.ops (pc' := 46) (L' := [.ref 88, .int a0, .int a1, .int a2, .int (nI i13)]) (S' := [.int a2, .int a1, .int a0, .int (nI i13), .ref 88, .int (r13_88 28), .ref 88]) (μ' := (am_S (am_row f 88 r13_88) g)) 5 rfl ?_
      obtain ⟨y12, hy12, hK⟩ := am_ob_e hKn hK
      refine am_F.call rfl rfl (x_m_fits (nI i13) a0 a1 a2 (am_row f 88 r13_88) g  y12 hy12) (by first | decide | omega) ?_
      refine am_F.mem (F' := (am_row f 88 y12.2)) (G' := g) ?_ (by first | rfl | (funext a; by_cases z0 : a = 88; (subst z0; rfl); simp only [am_ui, am_ul, am_row_ne z0])) (by first | rfl | (funext a; by_cases z0 : a = 88; (subst z0; rfl); simp only [am_ui, am_ul, am_row_ne z0]))
      show am_F _ _ 49 [.ref 88, .int a0, .int a1, .int a2, .int (nI i13)] [.int (am_b (y12.1)), .int (r13_88 28), .ref 88] (am_S (am_row f 88 y12.2) g) _
      refine am_F.to (am_To.bif (pc' := 60) (L2 := [.ref 88, .int a0, .int a1, .int a2, .int (nI i13)]) (S2 := [.int (r13_88 28), .ref 88]) (μ2 := (am_S (am_row f 88 y12.2) g)) (a := (1 : Int32) <<< ((nI i13) &&& 31)) (b := 0) 1 rfl (fun c13 => ?_) (fun c13 => ?_)) ?_
      · intro res9 g9
        show am_F _ _ 52 [.ref 88, .int a0, .int a1, .int a2, .int (nI i13)] [.int (r13_88 28), .ref 88] (am_S (am_row f 88 y12.2) g) _
        refine am_F.ops (pc' := 60) (L' := [.ref 88, .int a0, .int a1, .int a2, .int (nI i13)]) (S' := [.int ((1 : Int32) <<< ((nI i13) &&& 31)), .int (r13_88 28), .ref 88]) (μ' := (am_S (am_row f 88 y12.2) g)) 4 rfl ?_
        exact g9
      · intro res9 g9
        show am_F _ _ 59 [.ref 88, .int a0, .int a1, .int a2, .int (nI i13)] [.int (r13_88 28), .ref 88] (am_S (am_row f 88 y12.2) g) _
        refine am_F.ops (pc' := 60) (L' := [.ref 88, .int a0, .int a1, .int a2, .int (nI i13)]) (S' := [.int 0, .int (r13_88 28), .ref 88]) (μ' := (am_S (am_row f 88 y12.2) g)) 1 rfl ?_
        exact g9
      show am_F _ _ 60 [.ref 88, .int a0, .int a1, .int a2, .int (nI i13)] [.int (bif (y12.1) then (1 : Int32) <<< ((nI i13) &&& 31) else 0), .int (r13_88 28), .ref 88] (am_S (am_row f 88 y12.2) g) _
      refine am_F.ops (pc' := 61) (L' := [.ref 88, .int a0, .int a1, .int a2, .int (nI i13)]) (S' := [.int ((r13_88 28) ||| (bif (y12.1) then (1 : Int32) <<< ((nI i13) &&& 31) else 0)), .ref 88]) (μ' := (am_S (am_row f 88 y12.2) g)) 1 rfl ?_
      refine am_F.pfi (F' := (am_row f 88 (upd y12.2 28 ((r13_88 28) ||| (bif (y12.1) then (1 : Int32) <<< ((nI i13) &&& 31) else 0))))) rfl rfl (by first | rfl | (funext a; by_cases z0 : a = 88; (subst z0; rfl); simp only [am_ui, am_ul, am_row_ne z0])) ?_
      refine am_F.ops (pc' := 13) (L' := [.ref 88, .int a0, .int a1, .int a2, .int ((nI i13) + 1)]) (S' := []) (μ' := (am_S (am_row f 88 (upd y12.2 28 ((r13_88 28) ||| (bif (y12.1) then (1 : Int32) <<< ((nI i13) &&& 31) else 0)))) g)) 2 rfl ?_
      rw [nI_1 i13]
      subst hKd
      exact ih (i13 + 1) (upd y12.2 28 ((r13_88 28) ||| (bif (y12.1) then (1 : Int32) <<< ((nI i13) &&& 31) else 0))) (by omega) hK
    · show am_F _ _ 59 [.ref 88, .int a0, .int a1, .int a2, .int (nI i13)] [.int (r13_88 28), .ref 88] (am_S (am_row f 88 r13_88) g) _
      refine am_F.ops (pc' := 61) (L' := [.ref 88, .int a0, .int a1, .int a2, .int (nI i13)]) (S' := [.int ((r13_88 28) ||| 0), .ref 88]) (μ' := (am_S (am_row f 88 r13_88) g)) 2 rfl ?_
      refine am_F.pfi (F' := (am_row f 88 (upd r13_88 28 ((r13_88 28) ||| 0)))) rfl rfl (by first | rfl | (funext a; by_cases z0 : a = 88; (subst z0; rfl); simp only [am_ui, am_ul, am_row_ne z0])) ?_
      refine am_F.ops (pc' := 13) (L' := [.ref 88, .int a0, .int a1, .int a2, .int ((nI i13) + 1)]) (S' := []) (μ' := (am_S (am_row f 88 (upd r13_88 28 ((r13_88 28) ||| 0))) g)) 2 rfl ?_
      rw [nI_1 i13]
      subst hKd
      exact ih (i13 + 1) (upd r13_88 28 ((r13_88 28) ||| 0)) (by omega) hK
theorem x_m_fitting (a0 : Int32) (a1 : Int32) (a2 : Int32) (f : Nat → Nat → Int32) (g : Nat → Nat → Int64) (hmk : am_mOK (f 89)) (z0 : (Nat → Int32)) (hz0 : (fn_m_fitting a0 a1 a2 f) = some z0) : am_D 83 216 5 [.ref 88, .int a0, .int a1, .int a2] (am_S f g) ((none : Option Value), am_S (am_row f 88 z0) g) := by
  obtain ⟨hlC, hlN, hrC, hrN, hl0, hl5, hl2⟩ := am_mOK_e hmk
  refine am_D.of (code := am_k_216) rfl (L0 := [.ref 88, .int a0, .int a1, .int a2, am_un]) rfl ?_
  generalize hres : ((none : Option Value), am_S (am_row f 88 z0) g) = res
  obtain ⟨K, hKd⟩ : ∃ K : Option ((Nat → Int32)) → Prop, K = am_KO (fun z => ((none : Option Value), am_S (am_row f 88 z) g) = res) := ⟨_, rfl⟩
  have hK : K (fn_m_fitting a0 a1 a2 f) := by rw [hKd, hz0]; exact hres
  have hKn : ¬ K none := by rw [hKd]; exact id
  clear hres hz0
  unfold fn_m_fitting at hK
  refine am_F.ops (pc' := 2) (L' := [.ref 88, .int a0, .int a1, .int a2, am_un]) (S' := [.int 0, .ref 88]) (μ' := (am_S f g)) 2 rfl ?_
  refine am_F.pfi (F' := (am_row f 88 (upd (f 88) 28 0))) rfl rfl (by first | rfl | (funext a; by_cases z0 : a = 88; (subst z0; rfl); simp only [am_ui, am_ul, am_row_ne z0])) ?_
  refine am_F.ops (pc' := 7) (L' := [.ref 88, .int a0, .int a1, .int a2, am_un]) (S' := [.int 0, .ref 88]) (μ' := (am_S (am_row f 88 (upd (f 88) 28 0)) g)) 2 rfl ?_
  refine am_F.pfi (F' := (am_row f 88 (upd (upd (f 88) 28 0) 29 0))) rfl rfl (by first | rfl | (funext a; by_cases z0 : a = 88; (subst z0; rfl); simp only [am_ui, am_ul, am_row_ne z0])) ?_
  refine am_F.ops (pc' := 13) (L' := [.ref 88, .int a0, .int a1, .int a2, .int 0]) (S' := []) (μ' := (am_S (am_row f 88 (upd (upd (f 88) 28 0) 29 0)) g)) 2 rfl ?_
  obtain ⟨z13, hz13, hK⟩ := am_ob_e hKn hK
  show am_F _ _ 13 [.ref 88, .int a0, .int a1, .int a2, .int (nI 0)] [] (am_S (am_row f 88 (upd (upd (f 88) 28 0) 29 0)) g) _
  refine lp_m_fitting_13 a0 a1 a2 f g hmk hlC hlN hrC hrN hl0 hl5 hl2 _ ((f 89 202).toNatClampNeg) 0 (upd (upd (f 88) 28 0) 29 0)  (by omega) ?_
  rw [show am_forO (st_m_fitting_13 a0 a1 a2 f) ((f 89 202).toNatClampNeg) 0 (upd (upd (f 88) 28 0) 29 0) = (lf_m_fitting_13 a0 a1 a2 f) from rfl, hz13]
  rcases z13 with z13 | z
  · intro wc13
    show am_F _ _ 70 [.ref 88, .int a0, .int a1, .int a2, wc13] [] (am_S (am_row f 88 z13) g) _
    (try simp only [Sum.elim_inl] at hK)
    subst hKd
    have hQ := am_KO_s hK
    exact am_F.eq (am_F.ret rfl rfl) hQ
  · exact z.elim
/-- AccessLatticeModel.does, with checks -/
noncomputable def fn_m_does (a0 : Int32) (a1 : Bool) (f : Nat → Nat → Int32) : Option (Bool × (Nat → Int32) × (Nat → Int32)) := (am_chk (am_inb a0 16 = true) (bif a1 then (some ((if (fn_m_answerBy_217 (fn_m_heldBy_159 a0.toNatClampNeg (am_row f 96 (fn_m_standAgain_157 f))) (am_row f 96 (fn_m_standAgain_157 f))).1 = 1 then false else true), (fn_m_answerBy_217 (fn_m_heldBy_159 a0.toNatClampNeg (am_row f 96 (fn_m_standAgain_157 f))) (am_row f 96 (fn_m_standAgain_157 f))).2, (fn_m_standAgain_157 f))) else (bif (fn_m_isUnlike (fn_m_heldBy_159 a0.toNatClampNeg (am_row f 96 (fn_m_standAgain_157 f))) (am_row f 96 (fn_m_standAgain_157 f))) then (some (false, f 88, (fn_m_standAgain_157 f))) else (some ((if (fn_m_answerBy_217 (fn_m_heldBy_159 a0.toNatClampNeg (am_row f 96 (fn_m_standAgain_157 f))) (am_row f 96 (fn_m_standAgain_157 f))).1 = 1 then true else false), (fn_m_answerBy_217 (fn_m_heldBy_159 a0.toNatClampNeg (am_row f 96 (fn_m_standAgain_157 f))) (am_row f 96 (fn_m_standAgain_157 f))).2, (fn_m_standAgain_157 f))))))
theorem x_m_does (a0 : Int32) (a1 : Bool) (f : Nat → Nat → Int32) (g : Nat → Nat → Int64) (hmk : am_mOK (f 89)) (z0 : Bool × (Nat → Int32) × (Nat → Int32)) (hz0 : (fn_m_does a0 a1 f) = some z0) : am_D 3 220 4 [.ref 88, .int a0, .int (am_b a1)] (am_S f g) (some (Value.int (am_b z0.1)), am_S (am_row (am_row f 88 z0.2.1) 96 z0.2.2) g) := by
  obtain ⟨hlC, hlN, hrC, hrN, hl0, hl5, hl2⟩ := am_mOK_e hmk
  refine am_D.of (code := am_k_220) rfl (L0 := [.ref 88, .int a0, .int (am_b a1), am_un]) rfl ?_
  generalize hres : (some (Value.int (am_b z0.1)), am_S (am_row (am_row f 88 z0.2.1) 96 z0.2.2) g) = res
  obtain ⟨K, hKd⟩ : ∃ K : Option (Bool × (Nat → Int32) × (Nat → Int32)) → Prop, K = am_KO (fun z => (some (Value.int (am_b z.1)), am_S (am_row (am_row f 88 z.2.1) 96 z.2.2) g) = res) := ⟨_, rfl⟩
  have hK : K (fn_m_does a0 a1 f) := by rw [hKd, hz0]; exact hres
  have hKn : ¬ K none := by rw [hKd]; exact id
  clear hres hz0
  unfold fn_m_does at hK
  refine am_F.ops (pc' := 1) (L' := [.ref 88, .int a0, .int (am_b a1), am_un]) (S' := [.ref 88]) (μ' := (am_S f g)) 1 rfl ?_
  obtain ⟨y1, hy1⟩ : ∃ z, (fn_m_standAgain_157 f) = z := ⟨_, rfl⟩
  (try rw [hy1] at hK)
  refine am_F.call rfl rfl (x_m_standAgain_157  f g hlC hlN hrC hrN hl0 hl5 hl2) (by first | decide | omega) ?_
  (try rw [hy1])
  refine am_F.mem (F' := (am_row f 96 y1)) (G' := g) ?_ (by first | rfl | (funext a; by_cases z0 : a = 96; (subst z0; rfl); simp only [am_ui, am_ul, am_row_ne z0])) (by first | rfl | (funext a; by_cases z0 : a = 96; (subst z0; rfl); simp only [am_ui, am_ul, am_row_ne z0]))
  show am_F _ _ 4 [.ref 88, .int a0, .int (am_b a1), am_un] [] (am_S (am_row f 96 y1) g) _
  refine am_F.ops (pc' := 6) (L' := [.ref 88, .int a0, .int (am_b a1), am_un]) (S' := [.int a0, .ref 88]) (μ' := (am_S (am_row f 96 y1) g)) 2 rfl ?_
  obtain ⟨q2, hK⟩ := am_chk_e hKn hK
  refine am_F.call rfl rfl (am_D.args (congrArg (fun (x9 : Int32) => ([.ref 88, .int x9] : List Value)) (show (a0 : Int32) = nI a0.toNatClampNeg from (am_inbQ q2).1)) (x_m_heldBy_159 a0.toNatClampNeg (am_row f 96 y1) g hlC hlN hrC hrN hl0 hl5 hl2 (am_inbQ q2).2)) (by first | decide | omega) ?_
  show am_F _ _ 9 [.ref 88, .int a0, .int (am_b a1), am_un] [.int (fn_m_heldBy_159 a0.toNatClampNeg (am_row f 96 y1))] (am_S (am_row f 96 y1) g) _
  refine am_F.ops (pc' := 11) (L' := [.ref 88, .int a0, .int (am_b a1), .int (fn_m_heldBy_159 a0.toNatClampNeg (am_row f 96 y1))]) (S' := [.int (am_b a1)]) (μ' := (am_S (am_row f 96 y1) g)) 2 rfl ?_
  refine am_F.bifK 1 rfl K hK (fun c5 hK => ?_) (fun c5 hK => ?_)
  · show am_F _ _ 14 [.ref 88, .int a0, .int (am_b a1), .int (fn_m_heldBy_159 a0.toNatClampNeg (am_row f 96 y1))] [] (am_S (am_row f 96 y1) g) _
    refine am_F.ops (pc' := 16) (L' := [.ref 88, .int a0, .int (am_b a1), .int (fn_m_heldBy_159 a0.toNatClampNeg (am_row f 96 y1))]) (S' := [.int (fn_m_heldBy_159 a0.toNatClampNeg (am_row f 96 y1)), .ref 88]) (μ' := (am_S (am_row f 96 y1) g)) 2 rfl ?_
    obtain ⟨y6, hy6⟩ : ∃ z, (fn_m_answerBy_217 (fn_m_heldBy_159 a0.toNatClampNeg (am_row f 96 y1)) (am_row f 96 y1)) = z := ⟨_, rfl⟩
    (try rw [hy6] at hK)
    refine am_F.call rfl rfl (x_m_answerBy_217 (fn_m_heldBy_159 a0.toNatClampNeg (am_row f 96 y1)) (am_row f 96 y1) g hlC hlN hrC hrN) (by first | decide | omega) ?_
    (try rw [hy6])
    refine am_F.mem (F' := (am_row (am_row f 88 y6.2) 96 y1)) (G' := g) ?_ (by first | rfl | (funext a; by_cases z0 : a = 88; (subst z0; rfl); by_cases z1 : a = 96; (subst z1; rfl); simp only [am_ui, am_ul, am_row_ne z0, am_row_ne z1])) (by first | rfl | (funext a; by_cases z0 : a = 88; (subst z0; rfl); by_cases z1 : a = 96; (subst z1; rfl); simp only [am_ui, am_ul, am_row_ne z0, am_row_ne z1]))
    show am_F _ _ 19 [.ref 88, .int a0, .int (am_b a1), .int (fn_m_heldBy_159 a0.toNatClampNeg (am_row f 96 y1))] [.int y6.1] (am_S (am_row (am_row f 88 y6.2) 96 y1) g) _
    refine am_F.ops (pc' := 20) (L' := [.ref 88, .int a0, .int (am_b a1), .int (fn_m_heldBy_159 a0.toNatClampNeg (am_row f 96 y1))]) (S' := [.int 1, .int y6.1]) (μ' := (am_S (am_row (am_row f 88 y6.2) 96 y1) g)) 1 rfl ?_
    refine am_F.to (am_To.iteB (pc' := 53) (L2 := [.ref 88, .int a0, .int (am_b a1), .int (fn_m_heldBy_159 a0.toNatClampNeg (am_row f 96 y1))]) (S2 := []) (μ2 := (am_S (am_row (am_row f 88 y6.2) 96 y1) g)) (a := false) (b := true) 1 rfl (fun c7 => ?_) (fun c7 => ?_)) ?_
    · intro res9 g9
      show am_F _ _ 27 [.ref 88, .int a0, .int (am_b a1), .int (fn_m_heldBy_159 a0.toNatClampNeg (am_row f 96 y1))] [] (am_S (am_row (am_row f 88 y6.2) 96 y1) g) _
      refine am_F.ops (pc' := 53) (L' := [.ref 88, .int a0, .int (am_b a1), .int (fn_m_heldBy_159 a0.toNatClampNeg (am_row f 96 y1))]) (S' := [.int 0]) (μ' := (am_S (am_row (am_row f 88 y6.2) 96 y1) g)) 2 rfl ?_
      exact g9
    · intro res9 g9
      show am_F _ _ 23 [.ref 88, .int a0, .int (am_b a1), .int (fn_m_heldBy_159 a0.toNatClampNeg (am_row f 96 y1))] [] (am_S (am_row (am_row f 88 y6.2) 96 y1) g) _
      refine am_F.ops (pc' := 53) (L' := [.ref 88, .int a0, .int (am_b a1), .int (fn_m_heldBy_159 a0.toNatClampNeg (am_row f 96 y1))]) (S' := [.int 1]) (μ' := (am_S (am_row (am_row f 88 y6.2) 96 y1) g)) 2 rfl ?_
      exact g9
    show am_F _ _ 53 [.ref 88, .int a0, .int (am_b a1), .int (fn_m_heldBy_159 a0.toNatClampNeg (am_row f 96 y1))] [.int (am_b (if y6.1 = 1 then false else true))] (am_S (am_row (am_row f 88 y6.2) 96 y1) g) _
    subst hKd
    have hQ := am_KO_s hK
    exact am_F.eq (am_F.ret rfl (am_retB _ _)) hQ
  · show am_F _ _ 31 [.ref 88, .int a0, .int (am_b a1), .int (fn_m_heldBy_159 a0.toNatClampNeg (am_row f 96 y1))] [] (am_S (am_row f 96 y1) g) _
    refine am_F.ops (pc' := 33) (L' := [.ref 88, .int a0, .int (am_b a1), .int (fn_m_heldBy_159 a0.toNatClampNeg (am_row f 96 y1))]) (S' := [.int (fn_m_heldBy_159 a0.toNatClampNeg (am_row f 96 y1)), .ref 88]) (μ' := (am_S (am_row f 96 y1) g)) 2 rfl ?_
    refine am_F.call rfl rfl (x_m_isUnlike (fn_m_heldBy_159 a0.toNatClampNeg (am_row f 96 y1)) (am_row f 96 y1) g ) (by first | decide | omega) ?_
    show am_F _ _ 36 [.ref 88, .int a0, .int (am_b a1), .int (fn_m_heldBy_159 a0.toNatClampNeg (am_row f 96 y1))] [.int (am_b (fn_m_isUnlike (fn_m_heldBy_159 a0.toNatClampNeg (am_row f 96 y1)) (am_row f 96 y1)))] (am_S (am_row f 96 y1) g) _
    refine am_F.bifK 1 rfl K hK (fun c10 hK => ?_) (fun c10 hK => ?_)
    · show am_F _ _ 52 [.ref 88, .int a0, .int (am_b a1), .int (fn_m_heldBy_159 a0.toNatClampNeg (am_row f 96 y1))] [] (am_S (am_row f 96 y1) g) _
      refine am_F.ops (pc' := 53) (L' := [.ref 88, .int a0, .int (am_b a1), .int (fn_m_heldBy_159 a0.toNatClampNeg (am_row f 96 y1))]) (S' := [.int 0]) (μ' := (am_S (am_row f 96 y1) g)) 1 rfl ?_
      refine am_F.mem (F' := (am_row (am_row f 88 (f 88)) 96 y1)) (G' := g) ?_ (by first | rfl | (funext a; by_cases z0 : a = 88; (subst z0; rfl); by_cases z1 : a = 96; (subst z1; rfl); simp only [am_ui, am_ul, am_row_ne z0, am_row_ne z1])) (by first | rfl | (funext a; by_cases z0 : a = 88; (subst z0; rfl); by_cases z1 : a = 96; (subst z1; rfl); simp only [am_ui, am_ul, am_row_ne z0, am_row_ne z1]))
      subst hKd
      have hQ := am_KO_s hK
      exact am_F.eq (am_F.ret rfl rfl) hQ
    · show am_F _ _ 39 [.ref 88, .int a0, .int (am_b a1), .int (fn_m_heldBy_159 a0.toNatClampNeg (am_row f 96 y1))] [] (am_S (am_row f 96 y1) g) _
      refine am_F.ops (pc' := 41) (L' := [.ref 88, .int a0, .int (am_b a1), .int (fn_m_heldBy_159 a0.toNatClampNeg (am_row f 96 y1))]) (S' := [.int (fn_m_heldBy_159 a0.toNatClampNeg (am_row f 96 y1)), .ref 88]) (μ' := (am_S (am_row f 96 y1) g)) 2 rfl ?_
      obtain ⟨y11, hy11⟩ : ∃ z, (fn_m_answerBy_217 (fn_m_heldBy_159 a0.toNatClampNeg (am_row f 96 y1)) (am_row f 96 y1)) = z := ⟨_, rfl⟩
      (try rw [hy11] at hK)
      refine am_F.call rfl rfl (x_m_answerBy_217 (fn_m_heldBy_159 a0.toNatClampNeg (am_row f 96 y1)) (am_row f 96 y1) g hlC hlN hrC hrN) (by first | decide | omega) ?_
      (try rw [hy11])
      refine am_F.mem (F' := (am_row (am_row f 88 y11.2) 96 y1)) (G' := g) ?_ (by first | rfl | (funext a; by_cases z0 : a = 88; (subst z0; rfl); by_cases z1 : a = 96; (subst z1; rfl); simp only [am_ui, am_ul, am_row_ne z0, am_row_ne z1])) (by first | rfl | (funext a; by_cases z0 : a = 88; (subst z0; rfl); by_cases z1 : a = 96; (subst z1; rfl); simp only [am_ui, am_ul, am_row_ne z0, am_row_ne z1]))
      show am_F _ _ 44 [.ref 88, .int a0, .int (am_b a1), .int (fn_m_heldBy_159 a0.toNatClampNeg (am_row f 96 y1))] [.int y11.1] (am_S (am_row (am_row f 88 y11.2) 96 y1) g) _
      refine am_F.ops (pc' := 45) (L' := [.ref 88, .int a0, .int (am_b a1), .int (fn_m_heldBy_159 a0.toNatClampNeg (am_row f 96 y1))]) (S' := [.int 1, .int y11.1]) (μ' := (am_S (am_row (am_row f 88 y11.2) 96 y1) g)) 1 rfl ?_
      refine am_F.to (am_To.iteB (pc' := 53) (L2 := [.ref 88, .int a0, .int (am_b a1), .int (fn_m_heldBy_159 a0.toNatClampNeg (am_row f 96 y1))]) (S2 := []) (μ2 := (am_S (am_row (am_row f 88 y11.2) 96 y1) g)) (a := true) (b := false) 1 rfl (fun c12 => ?_) (fun c12 => ?_)) ?_
      · intro res9 g9
        show am_F _ _ 48 [.ref 88, .int a0, .int (am_b a1), .int (fn_m_heldBy_159 a0.toNatClampNeg (am_row f 96 y1))] [] (am_S (am_row (am_row f 88 y11.2) 96 y1) g) _
        refine am_F.ops (pc' := 53) (L' := [.ref 88, .int a0, .int (am_b a1), .int (fn_m_heldBy_159 a0.toNatClampNeg (am_row f 96 y1))]) (S' := [.int 1]) (μ' := (am_S (am_row (am_row f 88 y11.2) 96 y1) g)) 2 rfl ?_
        exact g9
      · intro res9 g9
        show am_F _ _ 52 [.ref 88, .int a0, .int (am_b a1), .int (fn_m_heldBy_159 a0.toNatClampNeg (am_row f 96 y1))] [] (am_S (am_row (am_row f 88 y11.2) 96 y1) g) _
        refine am_F.ops (pc' := 53) (L' := [.ref 88, .int a0, .int (am_b a1), .int (fn_m_heldBy_159 a0.toNatClampNeg (am_row f 96 y1))]) (S' := [.int 0]) (μ' := (am_S (am_row (am_row f 88 y11.2) 96 y1) g)) 1 rfl ?_
        exact g9
      show am_F _ _ 53 [.ref 88, .int a0, .int (am_b a1), .int (fn_m_heldBy_159 a0.toNatClampNeg (am_row f 96 y1))] [.int (am_b (if y11.1 = 1 then true else false))] (am_S (am_row (am_row f 88 y11.2) 96 y1) g) _
      subst hKd
      have hQ := am_KO_s hK
      exact am_F.eq (am_F.ret rfl (am_retB _ _)) hQ
/-- AccessLatticeModel.turns, with checks -/
noncomputable def fn_m_turns (a0 : Int32) (a1 : Int32) (a2 : Bool) (f : Nat → Nat → Int32) : Option ((Nat → Int32) × (Nat → Int32) × (Nat → Int32)) := (if 100 ≤ a1 then (bif a2 then (if 200 ≤ a1 then (some (upd (f 88) 29 ((f 88 29) ^^^ ((1 : Int32) <<< ((a1 - a1 / 100 * 100) &&& 31))), f 89, f 93)) else (am_chk (am_inb ((210 + (7 * (a1 - 100))) + 6) 3340 = true) (some (f 88, upd (f 89) (((210 + (7 * (a1 - 100))) + 6).toNatClampNeg) ((f 89 (((210 + (7 * (a1 - 100))) + 6).toNatClampNeg)) ^^^ 1), f 93)))) else (some (upd (f 88) 29 ((f 88 29) ^^^ ((1 : Int32) <<< ((a1 - a1 / 100 * 100) &&& 31))), f 89, f 93))) else (am_chk (am_inb (184 + a0) 3340 = true) (am_chk (am_inb a0 16 = true) (some (f 88, upd (f 89) ((184 + a0).toNatClampNeg) ((f 89 ((184 + a0).toNatClampNeg)) ^^^ ((1 : Int32) <<< (a1 &&& 31))), upd (f 93) a0.toNatClampNeg (fn_m_allUnder ((upd (f 89) ((184 + a0).toNatClampNeg) ((f 89 ((184 + a0).toNatClampNeg)) ^^^ ((1 : Int32) <<< (a1 &&& 31)))) ((184 + a0).toNatClampNeg)) (am_row f 89 (upd (f 89) ((184 + a0).toNatClampNeg) ((f 89 ((184 + a0).toNatClampNeg)) ^^^ ((1 : Int32) <<< (a1 &&& 31)))))))))))
theorem x_m_turns (a0 : Int32) (a1 : Int32) (a2 : Bool) (f : Nat → Nat → Int32) (g : Nat → Nat → Int64)  (z0 : (Nat → Int32) × (Nat → Int32) × (Nat → Int32)) (hz0 : (fn_m_turns a0 a1 a2 f) = some z0) : am_D 2 221 4 [.ref 88, .int a0, .int a1, .int (am_b a2)] (am_S f g) ((none : Option Value), am_S (am_row (am_row (am_row f 88 z0.1) 89 z0.2.1) 93 z0.2.2) g) := by
  refine am_D.of (code := am_k_221) rfl (L0 := [.ref 88, .int a0, .int a1, .int (am_b a2)]) rfl ?_
  generalize hres : ((none : Option Value), am_S (am_row (am_row (am_row f 88 z0.1) 89 z0.2.1) 93 z0.2.2) g) = res
  obtain ⟨K, hKd⟩ : ∃ K : Option ((Nat → Int32) × (Nat → Int32) × (Nat → Int32)) → Prop, K = am_KO (fun z => ((none : Option Value), am_S (am_row (am_row (am_row f 88 z.1) 89 z.2.1) 93 z.2.2) g) = res) := ⟨_, rfl⟩
  have hK : K (fn_m_turns a0 a1 a2 f) := by rw [hKd, hz0]; exact hres
  have hKn : ¬ K none := by rw [hKd]; exact id
  clear hres hz0
  unfold fn_m_turns at hK
  refine am_F.ops (pc' := 3) (L' := [.ref 88, .int a0, .int a1, .int (am_b a2)]) (S' := [.int 100, .int a1]) (μ' := (am_S f g)) 2 rfl ?_
  refine am_F.iteK 1 rfl K hK (fun c4 hK => ?_) (fun c4 hK => ?_)
  · show am_F _ _ 45 [.ref 88, .int a0, .int a1, .int (am_b a2)] [] (am_S f g) _
    refine am_F.ops (pc' := 46) (L' := [.ref 88, .int a0, .int a1, .int (am_b a2)]) (S' := [.int (am_b a2)]) (μ' := (am_S f g)) 1 rfl ?_
    refine am_F.bifK 1 rfl K hK (fun c7 hK => ?_) (fun c7 hK => ?_)
    · show am_F _ _ 49 [.ref 88, .int a0, .int a1, .int (am_b a2)] [] (am_S f g) _
      refine am_F.ops (pc' := 53) (L' := [.ref 88, .int a0, .int a1, .int (am_b a2)]) (S' := [.int 200, .int a1]) (μ' := (am_S f g)) 2 rfl ?_
      refine am_F.iteK 1 rfl K hK (fun c9 hK => ?_) (fun c9 hK => ?_)
      · show am_F _ _ 82 [.ref 88, .int a0, .int a1, .int (am_b a2)] [] (am_S f g) _
        refine am_F.ops (pc' := 94) (L' := [.ref 88, .int a0, .int a1, .int (am_b a2)]) (S' := [.int ((f 88 29) ^^^ ((1 : Int32) <<< ((a1 - a1 / 100 * 100) &&& 31))), .ref 88]) (μ' := (am_S f g)) 9 rfl ?_
        refine am_F.pfi (F' := (am_row f 88 (upd (f 88) 29 ((f 88 29) ^^^ ((1 : Int32) <<< ((a1 - a1 / 100 * 100) &&& 31)))))) rfl rfl (by first | rfl | (funext a; by_cases z0 : a = 88; (subst z0; rfl); simp only [am_ui, am_ul, am_row_ne z0])) ?_
        refine am_F.mem (F' := (am_row (am_row (am_row f 88 (upd (f 88) 29 ((f 88 29) ^^^ ((1 : Int32) <<< ((a1 - a1 / 100 * 100) &&& 31))))) 89 (f 89)) 93 (f 93))) (G' := g) ?_ (by first | rfl | (funext a; by_cases z0 : a = 88; (subst z0; rfl); by_cases z1 : a = 89; (subst z1; rfl); by_cases z2 : a = 93; (subst z2; rfl); simp only [am_ui, am_ul, am_row_ne z0, am_row_ne z1, am_row_ne z2])) (by first | rfl | (funext a; by_cases z0 : a = 88; (subst z0; rfl); by_cases z1 : a = 89; (subst z1; rfl); by_cases z2 : a = 93; (subst z2; rfl); simp only [am_ui, am_ul, am_row_ne z0, am_row_ne z1, am_row_ne z2]))
        subst hKd
        have hQ := am_KO_s hK
        exact am_F.eq (am_F.ret rfl rfl) hQ
      · show am_F _ _ 56 [.ref 88, .int a0, .int a1, .int (am_b a2)] [] (am_S f g) _
        refine am_F.ops (pc' := 75) (L' := [.ref 88, .int a0, .int a1, .int (am_b a2)]) (S' := [.int ((210 + (7 * (a1 - 100))) + 6), .ref 89, .int ((210 + (7 * (a1 - 100))) + 6), .ref 89]) (μ' := (am_S f g)) 12 rfl ?_
        obtain ⟨q10, hK⟩ := am_chk_e hKn hK
        refine am_F.ial (N := 3340) rfl rfl rfl q10 ?_
        show am_F _ _ 76 [.ref 88, .int a0, .int a1, .int (am_b a2)] [.int (f 89 (((210 + (7 * (a1 - 100))) + 6).toNatClampNeg)), .int ((210 + (7 * (a1 - 100))) + 6), .ref 89] (am_S f g) _
        refine am_F.ops (pc' := 78) (L' := [.ref 88, .int a0, .int a1, .int (am_b a2)]) (S' := [.int ((f 89 (((210 + (7 * (a1 - 100))) + 6).toNatClampNeg)) ^^^ 1), .int ((210 + (7 * (a1 - 100))) + 6), .ref 89]) (μ' := (am_S f g)) 2 rfl ?_
        refine am_F.ias (F' := (am_row f 89 (upd (f 89) (((210 + (7 * (a1 - 100))) + 6).toNatClampNeg) ((f 89 (((210 + (7 * (a1 - 100))) + 6).toNatClampNeg)) ^^^ 1)))) (N := 3340) rfl rfl rfl q10 (by first | rfl | (funext a; by_cases z0 : a = 89; (subst z0; rfl); simp only [am_ui, am_ul, am_row_ne z0])) ?_
        refine am_F.ops (pc' := 97) (L' := [.ref 88, .int a0, .int a1, .int (am_b a2)]) (S' := []) (μ' := (am_S (am_row f 89 (upd (f 89) (((210 + (7 * (a1 - 100))) + 6).toNatClampNeg) ((f 89 (((210 + (7 * (a1 - 100))) + 6).toNatClampNeg)) ^^^ 1))) g)) 1 rfl ?_
        refine am_F.mem (F' := (am_row (am_row (am_row f 88 (f 88)) 89 (upd (f 89) (((210 + (7 * (a1 - 100))) + 6).toNatClampNeg) ((f 89 (((210 + (7 * (a1 - 100))) + 6).toNatClampNeg)) ^^^ 1))) 93 (f 93))) (G' := g) ?_ (by first | rfl | (funext a; by_cases z0 : a = 88; (subst z0; rfl); by_cases z1 : a = 89; (subst z1; rfl); by_cases z2 : a = 93; (subst z2; rfl); simp only [am_ui, am_ul, am_row_ne z0, am_row_ne z1, am_row_ne z2])) (by first | rfl | (funext a; by_cases z0 : a = 88; (subst z0; rfl); by_cases z1 : a = 89; (subst z1; rfl); by_cases z2 : a = 93; (subst z2; rfl); simp only [am_ui, am_ul, am_row_ne z0, am_row_ne z1, am_row_ne z2]))
        subst hKd
        have hQ := am_KO_s hK
        exact am_F.eq (am_F.ret rfl rfl) hQ
    · show am_F _ _ 82 [.ref 88, .int a0, .int a1, .int (am_b a2)] [] (am_S f g) _
      refine am_F.ops (pc' := 94) (L' := [.ref 88, .int a0, .int a1, .int (am_b a2)]) (S' := [.int ((f 88 29) ^^^ ((1 : Int32) <<< ((a1 - a1 / 100 * 100) &&& 31))), .ref 88]) (μ' := (am_S f g)) 9 rfl ?_
      refine am_F.pfi (F' := (am_row f 88 (upd (f 88) 29 ((f 88 29) ^^^ ((1 : Int32) <<< ((a1 - a1 / 100 * 100) &&& 31)))))) rfl rfl (by first | rfl | (funext a; by_cases z0 : a = 88; (subst z0; rfl); simp only [am_ui, am_ul, am_row_ne z0])) ?_
      refine am_F.mem (F' := (am_row (am_row (am_row f 88 (upd (f 88) 29 ((f 88 29) ^^^ ((1 : Int32) <<< ((a1 - a1 / 100 * 100) &&& 31))))) 89 (f 89)) 93 (f 93))) (G' := g) ?_ (by first | rfl | (funext a; by_cases z0 : a = 88; (subst z0; rfl); by_cases z1 : a = 89; (subst z1; rfl); by_cases z2 : a = 93; (subst z2; rfl); simp only [am_ui, am_ul, am_row_ne z0, am_row_ne z1, am_row_ne z2])) (by first | rfl | (funext a; by_cases z0 : a = 88; (subst z0; rfl); by_cases z1 : a = 89; (subst z1; rfl); by_cases z2 : a = 93; (subst z2; rfl); simp only [am_ui, am_ul, am_row_ne z0, am_row_ne z1, am_row_ne z2]))
      subst hKd
      have hQ := am_KO_s hK
      exact am_F.eq (am_F.ret rfl rfl) hQ
  · show am_F _ _ 6 [.ref 88, .int a0, .int a1, .int (am_b a2)] [] (am_S f g) _
    refine am_F.ops (pc' := 16) (L' := [.ref 88, .int a0, .int a1, .int (am_b a2)]) (S' := [.int (184 + a0), .ref 89, .int (184 + a0), .ref 89]) (μ' := (am_S f g)) 6 rfl ?_
    obtain ⟨q11, hK⟩ := am_chk_e hKn hK
    refine am_F.ial (N := 3340) rfl rfl rfl q11 ?_
    show am_F _ _ 17 [.ref 88, .int a0, .int a1, .int (am_b a2)] [.int (f 89 ((184 + a0).toNatClampNeg)), .int (184 + a0), .ref 89] (am_S f g) _
    refine am_F.ops (pc' := 21) (L' := [.ref 88, .int a0, .int a1, .int (am_b a2)]) (S' := [.int ((f 89 ((184 + a0).toNatClampNeg)) ^^^ ((1 : Int32) <<< (a1 &&& 31))), .int (184 + a0), .ref 89]) (μ' := (am_S f g)) 4 rfl ?_
    refine am_F.ias (F' := (am_row f 89 (upd (f 89) ((184 + a0).toNatClampNeg) ((f 89 ((184 + a0).toNatClampNeg)) ^^^ ((1 : Int32) <<< (a1 &&& 31)))))) (N := 3340) rfl rfl rfl q11 (by first | rfl | (funext a; by_cases z0 : a = 89; (subst z0; rfl); simp only [am_ui, am_ul, am_row_ne z0])) ?_
    refine am_F.ops (pc' := 37) (L' := [.ref 88, .int a0, .int a1, .int (am_b a2)]) (S' := [.int (184 + a0), .ref 89, .ref 88, .int a0, .ref 93]) (μ' := (am_S (am_row f 89 (upd (f 89) ((184 + a0).toNatClampNeg) ((f 89 ((184 + a0).toNatClampNeg)) ^^^ ((1 : Int32) <<< (a1 &&& 31))))) g)) 9 rfl ?_
    refine am_F.ial (N := 3340) rfl rfl rfl q11 ?_
    show am_F _ _ 38 [.ref 88, .int a0, .int a1, .int (am_b a2)] [.int ((upd (f 89) ((184 + a0).toNatClampNeg) ((f 89 ((184 + a0).toNatClampNeg)) ^^^ ((1 : Int32) <<< (a1 &&& 31)))) ((184 + a0).toNatClampNeg)), .ref 88, .int a0, .ref 93] (am_S (am_row f 89 (upd (f 89) ((184 + a0).toNatClampNeg) ((f 89 ((184 + a0).toNatClampNeg)) ^^^ ((1 : Int32) <<< (a1 &&& 31))))) g) _
    refine am_F.call rfl rfl (x_m_allUnder ((upd (f 89) ((184 + a0).toNatClampNeg) ((f 89 ((184 + a0).toNatClampNeg)) ^^^ ((1 : Int32) <<< (a1 &&& 31)))) ((184 + a0).toNatClampNeg)) (am_row f 89 (upd (f 89) ((184 + a0).toNatClampNeg) ((f 89 ((184 + a0).toNatClampNeg)) ^^^ ((1 : Int32) <<< (a1 &&& 31))))) g ) (by first | decide | omega) ?_
    show am_F _ _ 41 [.ref 88, .int a0, .int a1, .int (am_b a2)] [.int (fn_m_allUnder ((upd (f 89) ((184 + a0).toNatClampNeg) ((f 89 ((184 + a0).toNatClampNeg)) ^^^ ((1 : Int32) <<< (a1 &&& 31)))) ((184 + a0).toNatClampNeg)) (am_row f 89 (upd (f 89) ((184 + a0).toNatClampNeg) ((f 89 ((184 + a0).toNatClampNeg)) ^^^ ((1 : Int32) <<< (a1 &&& 31)))))), .int a0, .ref 93] (am_S (am_row f 89 (upd (f 89) ((184 + a0).toNatClampNeg) ((f 89 ((184 + a0).toNatClampNeg)) ^^^ ((1 : Int32) <<< (a1 &&& 31))))) g) _
    obtain ⟨q13, hK⟩ := am_chk_e hKn hK
    refine am_F.ias (F' := (am_row (am_row f 89 (upd (f 89) ((184 + a0).toNatClampNeg) ((f 89 ((184 + a0).toNatClampNeg)) ^^^ ((1 : Int32) <<< (a1 &&& 31))))) 93 (upd (f 93) a0.toNatClampNeg (fn_m_allUnder ((upd (f 89) ((184 + a0).toNatClampNeg) ((f 89 ((184 + a0).toNatClampNeg)) ^^^ ((1 : Int32) <<< (a1 &&& 31)))) ((184 + a0).toNatClampNeg)) (am_row f 89 (upd (f 89) ((184 + a0).toNatClampNeg) ((f 89 ((184 + a0).toNatClampNeg)) ^^^ ((1 : Int32) <<< (a1 &&& 31))))))))) (N := 16) rfl rfl rfl q13 (by first | rfl | (funext a; by_cases z0 : a = 89; (subst z0; rfl); by_cases z1 : a = 93; (subst z1; rfl); simp only [am_ui, am_ul, am_row_ne z0, am_row_ne z1])) ?_
    refine am_F.ops (pc' := 97) (L' := [.ref 88, .int a0, .int a1, .int (am_b a2)]) (S' := []) (μ' := (am_S (am_row (am_row f 89 (upd (f 89) ((184 + a0).toNatClampNeg) ((f 89 ((184 + a0).toNatClampNeg)) ^^^ ((1 : Int32) <<< (a1 &&& 31))))) 93 (upd (f 93) a0.toNatClampNeg (fn_m_allUnder ((upd (f 89) ((184 + a0).toNatClampNeg) ((f 89 ((184 + a0).toNatClampNeg)) ^^^ ((1 : Int32) <<< (a1 &&& 31)))) ((184 + a0).toNatClampNeg)) (am_row f 89 (upd (f 89) ((184 + a0).toNatClampNeg) ((f 89 ((184 + a0).toNatClampNeg)) ^^^ ((1 : Int32) <<< (a1 &&& 31)))))))) g)) 1 rfl ?_
    refine am_F.mem (F' := (am_row (am_row (am_row f 88 (f 88)) 89 (upd (f 89) ((184 + a0).toNatClampNeg) ((f 89 ((184 + a0).toNatClampNeg)) ^^^ ((1 : Int32) <<< (a1 &&& 31))))) 93 (upd (f 93) a0.toNatClampNeg (fn_m_allUnder ((upd (f 89) ((184 + a0).toNatClampNeg) ((f 89 ((184 + a0).toNatClampNeg)) ^^^ ((1 : Int32) <<< (a1 &&& 31)))) ((184 + a0).toNatClampNeg)) (am_row f 89 (upd (f 89) ((184 + a0).toNatClampNeg) ((f 89 ((184 + a0).toNatClampNeg)) ^^^ ((1 : Int32) <<< (a1 &&& 31))))))))) (G' := g) ?_ (by first | rfl | (funext a; by_cases z0 : a = 88; (subst z0; rfl); by_cases z1 : a = 89; (subst z1; rfl); by_cases z2 : a = 93; (subst z2; rfl); simp only [am_ui, am_ul, am_row_ne z0, am_row_ne z1, am_row_ne z2])) (by first | rfl | (funext a; by_cases z0 : a = 88; (subst z0; rfl); by_cases z1 : a = 89; (subst z1; rfl); by_cases z2 : a = 93; (subst z2; rfl); simp only [am_ui, am_ul, am_row_ne z0, am_row_ne z1, am_row_ne z2]))
    subst hKd
    have hQ := am_KO_s hK
    exact am_F.eq (am_F.ret rfl rfl) hQ
/-- AccessLatticeModel.ways, with checks -/
noncomputable def st_m_ways_22 (a1_n : Nat) (f : Nat → Nat → Int32) (y5 : (Nat → Int32) × (Nat → Int32)) : Nat → (Nat → Int32) → Option ((Nat → Int32) ⊕ ((Nat → Int32) ⊕ Empty)) := fun i22 r22_95 => (am_ob (fn_m_waysFrom (nI i22) (nI a1_n) (am_row (am_row (am_row f 93 y5.1) 95 r22_95) 96 y5.2)) (fun (y7 : Int32) => (some (.inl (upd r22_95 i22 y7)))))
noncomputable def lf_m_ways_22 (a1_n : Nat) (f : Nat → Nat → Int32) (y5 : (Nat → Int32) × (Nat → Int32)) : Option ((Nat → Int32) ⊕ Empty) := am_forO (st_m_ways_22 a1_n f y5) 20 0 (f 95)
def st_m_ways_51 (a0_n : Nat) (f : Nat → Nat → Int32) (z22 : (Nat → Int32)) : Nat → Int32 → Int32 := fun i51 a51_3 => (a51_3 + (bif (fn_m_has (f 89 (184 + a0_n)) (nI i51)) then z22 i51 else 0))
def lf_m_ways_51 (a0_n : Nat) (f : Nat → Nat → Int32) (z22 : (Nat → Int32)) : Int32 := am_for (st_m_ways_51 a0_n f z22) 20 0 0
def st_m_ways_99 (a0_n : Nat) (f : Nat → Nat → Int32) (y5 : (Nat → Int32) × (Nat → Int32)) (z22 : (Nat → Int32)) : Nat → Int32 → Int32 := fun i99 a99_3 => (a99_3 + (if (y5.2 i99) = 0 then 0 else (if (fn_m_loanAt i99 1 (am_row (am_row (am_row f 93 y5.1) 95 z22) 96 y5.2)) = (nI a0_n) then z22 ((fn_m_loanAt i99 2 (am_row (am_row (am_row f 93 y5.1) 95 z22) 96 y5.2)).toNatClampNeg) else 0)))
def lf_m_ways_99 (a0_n : Nat) (f : Nat → Nat → Int32) (y5 : (Nat → Int32) × (Nat → Int32)) (z22 : (Nat → Int32)) (z51_10 : Int32) : Int32 := am_for (st_m_ways_99 a0_n f y5 z22) ((f 89 201).toNatClampNeg) 0 z51_10
noncomputable def fn_m_ways (a0 : Int32) (a1 : Int32) (f : Nat → Nat → Int32) : Option (Int32 × (Nat → Int32) × (Nat → Int32) × (Nat → Int32)) := (bif (fn_m_isOne a0) then (bif (fn_m_isRole a1) then (am_ob (lf_m_ways_22 (a1.toNatClampNeg) f (fn_m_stand_155 f)) (fun zz => Sum.elim (fun (z22 : (Nat → Int32)) => (some ((lf_m_ways_99 (a0.toNatClampNeg) f (fn_m_stand_155 f) z22 (lf_m_ways_51 (a0.toNatClampNeg) f z22)), (fn_m_stand_155 f).1, z22, (fn_m_stand_155 f).2))) (fun (z : Empty) => z.elim) zz)) else (some ((-1), f 93, f 95, f 96))) else (some ((-1), f 93, f 95, f 96)))
theorem lp_m_ways_22 (a0_n : Nat) (a1_n : Nat) (f : Nat → Nat → Int32) (g : Nat → Nat → Int64) (y5 : (Nat → Int32) × (Nat → Int32)) (hmk : am_mOK (f 89)) (hlC : f 89 201 = nI (f 89 201).toNatClampNeg) (hlN : (f 89 201).toNatClampNeg ≤ 40) (hrC : f 89 202 = nI (f 89 202).toNatClampNeg) (hrN : (f 89 202).toNatClampNeg ≤ 30) (hl0 : ∀ i, i < (f 89 201).toNatClampNeg → am_inb (fn_m_loanAt i 0 f) 16 = true) (hl5 : ∀ i, i < (f 89 201).toNatClampNeg → ¬ fn_m_loanAt i 5 f < 0 → am_inb (fn_m_loanAt i 5 f) 40 = true) (hl2 : ∀ i, i < (f 89 201).toNatClampNeg → am_inb (fn_m_loanAt i 2 f) 20 = true) (ha0_n : a0_n < 16) (ha1_n : a1_n < 20) (res : Option Value × am_M) : ∀ (n i22 : Nat) (r22_95 : Nat → Int32) , i22 + n = 20 → am_KO (am_KX (fun (z : (Nat → Int32)) => ∀ (wc22 : Value), am_F 22 am_k_226 46 [.ref 88, .int (nI a0_n), .int (nI a1_n), wc22, am_un] [] (am_S (am_row (am_row (am_row f 93 y5.1) 95 z) 96 y5.2) g) res) (fun (z : Empty) => True)) (am_forO (st_m_ways_22 a1_n f y5) n i22 r22_95) → am_F 22 am_k_226 22 [.ref 88, .int (nI a0_n), .int (nI a1_n), .int (nI i22), am_un] [] (am_S (am_row (am_row (am_row f 93 y5.1) 95 r22_95) 96 y5.2) g) res := by
  intro n
  induction n with
  | zero =>
    intro i22 r22_95 hi hK
    refine am_F.pos 3 rfl (by show 20 ≤ nI i22; rw [show (20 : Int32) = nI 20 from rfl]; exact nI_le (by omega) (by omega)) ?_
    exact hK _
  | succ n ih =>
    intro i22 r22_95 hi hK
    refine am_F.neg 3 rfl (by show ¬ 20 ≤ nI i22; rw [show (20 : Int32) = nI 20 from rfl]; exact nI_ge (by omega) (by omega)) ?_
    have hb22 : i22 < 20 := by omega
    show am_F _ _ 28 [.ref 88, .int (nI a0_n), .int (nI a1_n), .int (nI i22), am_un] [] (am_S (am_row (am_row (am_row f 93 y5.1) 95 r22_95) 96 y5.2) g) _
    obtain ⟨K, hKd⟩ : ∃ K : Option ((Nat → Int32) ⊕ ((Nat → Int32) ⊕ Empty)) → Prop, K = fun s => am_KO (am_KX (fun (z : (Nat → Int32)) => ∀ (wc22 : Value), am_F 22 am_k_226 46 [.ref 88, .int (nI a0_n), .int (nI a1_n), wc22, am_un] [] (am_S (am_row (am_row (am_row f 93 y5.1) 95 z) 96 y5.2) g) res) (fun (z : Empty) => True)) (am_whn (fun z => am_forO (st_m_ways_22 a1_n f y5) n (i22 + 1) z) s) := ⟨_, rfl⟩
    have hK : K ((st_m_ways_22 a1_n f y5) i22 r22_95) := by rw [am_forO_s] at hK; rw [hKd]; with_reducible exact hK
    have hKn : ¬ K none := by rw [hKd]; exact id
    unfold st_m_ways_22 at hK
    refine am_F.ops (pc' := 36) (L' := [.ref 88, .int (nI a0_n), .int (nI a1_n), .int (nI i22), am_un]) (S' := [.int (nI a1_n), .int (nI i22), .ref 88, .int (nI i22), .ref 95]) (μ' := (am_S (am_row (am_row (am_row f 93 y5.1) 95 r22_95) 96 y5.2) g)) 6 rfl ?_
    obtain ⟨y7, hy7, hK⟩ := am_ob_e hKn hK
    refine am_F.call rfl rfl (x_m_waysFrom (nI i22) (nI a1_n) (am_row (am_row (am_row f 93 y5.1) 95 r22_95) 96 y5.2) g  y7 hy7) (by first | decide | omega) ?_
    refine am_F.mem (F' := (am_row (am_row (am_row f 93 y5.1) 95 r22_95) 96 y5.2)) (G' := g) ?_ (by first | rfl | (funext a; by_cases z0 : a = 93; (subst z0; rfl); by_cases z1 : a = 95; (subst z1; rfl); by_cases z2 : a = 96; (subst z2; rfl); simp only [am_ui, am_ul, am_row_ne z0, am_row_ne z1, am_row_ne z2])) (by first | rfl | (funext a; by_cases z0 : a = 93; (subst z0; rfl); by_cases z1 : a = 95; (subst z1; rfl); by_cases z2 : a = 96; (subst z2; rfl); simp only [am_ui, am_ul, am_row_ne z0, am_row_ne z1, am_row_ne z2]))
    show am_F _ _ 39 [.ref 88, .int (nI a0_n), .int (nI a1_n), .int (nI i22), am_un] [.int y7, .int (nI i22), .ref 95] (am_S (am_row (am_row (am_row f 93 y5.1) 95 r22_95) 96 y5.2) g) _
    refine am_F.iasE (F' := (am_row (am_row (am_row f 93 y5.1) 95 (upd r22_95 i22 y7)) 96 y5.2)) (m := i22) (N := 20) rfl rfl rfl rfl (by omega) (by decide) (by first | rfl | (funext a; by_cases z0 : a = 93; (subst z0; rfl); by_cases z1 : a = 95; (subst z1; rfl); by_cases z2 : a = 96; (subst z2; rfl); simp only [am_ui, am_ul, am_row_ne z0, am_row_ne z1, am_row_ne z2])) ?_
    refine am_F.ops (pc' := 22) (L' := [.ref 88, .int (nI a0_n), .int (nI a1_n), .int ((nI i22) + 1), am_un]) (S' := []) (μ' := (am_S (am_row (am_row (am_row f 93 y5.1) 95 (upd r22_95 i22 y7)) 96 y5.2) g)) 2 rfl ?_
    rw [nI_1 i22]
    subst hKd
    exact ih (i22 + 1) (upd r22_95 i22 y7) (by omega) hK
theorem lp_m_ways_51 (a0_n : Nat) (a1_n : Nat) (f : Nat → Nat → Int32) (g : Nat → Nat → Int64) (y5 : (Nat → Int32) × (Nat → Int32)) (z22 : (Nat → Int32)) (wc22 : Value) (hmk : am_mOK (f 89)) (hlC : f 89 201 = nI (f 89 201).toNatClampNeg) (hlN : (f 89 201).toNatClampNeg ≤ 40) (hrC : f 89 202 = nI (f 89 202).toNatClampNeg) (hrN : (f 89 202).toNatClampNeg ≤ 30) (hl0 : ∀ i, i < (f 89 201).toNatClampNeg → am_inb (fn_m_loanAt i 0 f) 16 = true) (hl5 : ∀ i, i < (f 89 201).toNatClampNeg → ¬ fn_m_loanAt i 5 f < 0 → am_inb (fn_m_loanAt i 5 f) 40 = true) (hl2 : ∀ i, i < (f 89 201).toNatClampNeg → am_inb (fn_m_loanAt i 2 f) 20 = true) (ha0_n : a0_n < 16) (ha1_n : a1_n < 20) (res : Option Value × am_M) : ∀ (n i51 : Nat) (a51_3 : Int32) , i51 + n = 20 → (fun (z : Int32) => ∀ (wc51 : Value), am_F 22 am_k_226 96 [.ref 88, .int (nI a0_n), .int (nI a1_n), .int z, wc51] [] (am_S (am_row (am_row (am_row f 93 y5.1) 95 z22) 96 y5.2) g) res) (am_for (st_m_ways_51 a0_n f z22) n i51 a51_3) → am_F 22 am_k_226 51 [.ref 88, .int (nI a0_n), .int (nI a1_n), .int a51_3, .int (nI i51)] [] (am_S (am_row (am_row (am_row f 93 y5.1) 95 z22) 96 y5.2) g) res := by
  intro n
  induction n with
  | zero =>
    intro i51 a51_3 hi hK
    refine am_F.pos 3 rfl (by show 20 ≤ nI i51; rw [show (20 : Int32) = nI 20 from rfl]; exact nI_le (by omega) (by omega)) ?_
    exact hK _
  | succ n ih =>
    intro i51 a51_3 hi hK
    refine am_F.neg 3 rfl (by show ¬ 20 ≤ nI i51; rw [show (20 : Int32) = nI 20 from rfl]; exact nI_ge (by omega) (by omega)) ?_
    have hb51 : i51 < 20 := by omega
    show am_F _ _ 58 [.ref 88, .int (nI a0_n), .int (nI a1_n), .int a51_3, .int (nI i51)] [] (am_S (am_row (am_row (am_row f 93 y5.1) 95 z22) 96 y5.2) g) _
    obtain ⟨K, hKd⟩ : ∃ K : (Int32) → Prop, K = fun s => (fun (z : Int32) => ∀ (wc51 : Value), am_F 22 am_k_226 96 [.ref 88, .int (nI a0_n), .int (nI a1_n), .int z, wc51] [] (am_S (am_row (am_row (am_row f 93 y5.1) 95 z22) 96 y5.2) g) res) (am_for (st_m_ways_51 a0_n f z22) n (i51 + 1) s) := ⟨_, rfl⟩
    have hK : K ((st_m_ways_51 a0_n f z22) i51 a51_3) := by rw [hKd]; exact hK
    unfold st_m_ways_51 at hK
    refine am_F.ops (pc' := 68) (L' := [.ref 88, .int (nI a0_n), .int (nI a1_n), .int a51_3, .int (nI i51)]) (S' := [.int (184 + (nI a0_n)), .ref 89, .int a51_3]) (μ' := (am_S (am_row (am_row (am_row f 93 y5.1) 95 z22) 96 y5.2) g)) 6 rfl ?_
    refine am_F.ialE (m := (184 + a0_n)) (N := 3340) rfl rfl rfl (am_addE rfl rfl) (by omega) (by decide) ?_
    show am_F _ _ 69 [.ref 88, .int (nI a0_n), .int (nI a1_n), .int a51_3, .int (nI i51)] [.int (f 89 (184 + a0_n)), .int a51_3] (am_S (am_row (am_row (am_row f 93 y5.1) 95 z22) 96 y5.2) g) _
    refine am_F.ops (pc' := 71) (L' := [.ref 88, .int (nI a0_n), .int (nI a1_n), .int a51_3, .int (nI i51)]) (S' := [.int (nI i51), .int (f 89 (184 + a0_n)), .int a51_3]) (μ' := (am_S (am_row (am_row (am_row f 93 y5.1) 95 z22) 96 y5.2) g)) 1 rfl ?_
    refine am_F.call rfl rfl (x_m_has (f 89 (184 + a0_n)) (nI i51) (am_row (am_row (am_row f 93 y5.1) 95 z22) 96 y5.2) g ) (by first | decide | omega) ?_
    show am_F _ _ 74 [.ref 88, .int (nI a0_n), .int (nI a1_n), .int a51_3, .int (nI i51)] [.int (am_b (fn_m_has (f 89 (184 + a0_n)) (nI i51))), .int a51_3] (am_S (am_row (am_row (am_row f 93 y5.1) 95 z22) 96 y5.2) g) _
    refine am_F.to (am_To.bif (pc' := 88) (L2 := [.ref 88, .int (nI a0_n), .int (nI a1_n), .int a51_3, .int (nI i51)]) (S2 := [.int a51_3]) (μ2 := (am_S (am_row (am_row (am_row f 93 y5.1) 95 z22) 96 y5.2) g)) (a := z22 i51) (b := 0) 1 rfl (fun c9 => ?_) (fun c9 => ?_)) ?_
    · intro res9 g9
      show am_F _ _ 77 [.ref 88, .int (nI a0_n), .int (nI a1_n), .int a51_3, .int (nI i51)] [.int a51_3] (am_S (am_row (am_row (am_row f 93 y5.1) 95 z22) 96 y5.2) g) _
      refine am_F.ops (pc' := 83) (L' := [.ref 88, .int (nI a0_n), .int (nI a1_n), .int a51_3, .int (nI i51)]) (S' := [.int (nI i51), .ref 95, .int a51_3]) (μ' := (am_S (am_row (am_row (am_row f 93 y5.1) 95 z22) 96 y5.2) g)) 3 rfl ?_
      refine am_F.ialE (m := i51) (N := 20) rfl rfl rfl rfl (by omega) (by decide) ?_
      show am_F _ _ 84 [.ref 88, .int (nI a0_n), .int (nI a1_n), .int a51_3, .int (nI i51)] [.int (z22 i51), .int a51_3] (am_S (am_row (am_row (am_row f 93 y5.1) 95 z22) 96 y5.2) g) _
      refine am_F.ops (pc' := 88) (L' := [.ref 88, .int (nI a0_n), .int (nI a1_n), .int a51_3, .int (nI i51)]) (S' := [.int (z22 i51), .int a51_3]) (μ' := (am_S (am_row (am_row (am_row f 93 y5.1) 95 z22) 96 y5.2) g)) 1 rfl ?_
      exact g9
    · intro res9 g9
      show am_F _ _ 87 [.ref 88, .int (nI a0_n), .int (nI a1_n), .int a51_3, .int (nI i51)] [.int a51_3] (am_S (am_row (am_row (am_row f 93 y5.1) 95 z22) 96 y5.2) g) _
      refine am_F.ops (pc' := 88) (L' := [.ref 88, .int (nI a0_n), .int (nI a1_n), .int a51_3, .int (nI i51)]) (S' := [.int 0, .int a51_3]) (μ' := (am_S (am_row (am_row (am_row f 93 y5.1) 95 z22) 96 y5.2) g)) 1 rfl ?_
      exact g9
    show am_F _ _ 88 [.ref 88, .int (nI a0_n), .int (nI a1_n), .int a51_3, .int (nI i51)] [.int (bif (fn_m_has (f 89 (184 + a0_n)) (nI i51)) then z22 i51 else 0), .int a51_3] (am_S (am_row (am_row (am_row f 93 y5.1) 95 z22) 96 y5.2) g) _
    refine am_F.ops (pc' := 51) (L' := [.ref 88, .int (nI a0_n), .int (nI a1_n), .int (a51_3 + (bif (fn_m_has (f 89 (184 + a0_n)) (nI i51)) then z22 i51 else 0)), .int ((nI i51) + 1)]) (S' := []) (μ' := (am_S (am_row (am_row (am_row f 93 y5.1) 95 z22) 96 y5.2) g)) 4 rfl ?_
    rw [nI_1 i51]
    subst hKd
    exact ih (i51 + 1) (a51_3 + (bif (fn_m_has (f 89 (184 + a0_n)) (nI i51)) then z22 i51 else 0)) (by omega)  hK
theorem lp_m_ways_99 (a0_n : Nat) (a1_n : Nat) (f : Nat → Nat → Int32) (g : Nat → Nat → Int64) (y5 : (Nat → Int32) × (Nat → Int32)) (z22 : (Nat → Int32)) (wc22 : Value) (z51_10 : Int32) (wc51 : Value) (hmk : am_mOK (f 89)) (hlC : f 89 201 = nI (f 89 201).toNatClampNeg) (hlN : (f 89 201).toNatClampNeg ≤ 40) (hrC : f 89 202 = nI (f 89 202).toNatClampNeg) (hrN : (f 89 202).toNatClampNeg ≤ 30) (hl0 : ∀ i, i < (f 89 201).toNatClampNeg → am_inb (fn_m_loanAt i 0 f) 16 = true) (hl5 : ∀ i, i < (f 89 201).toNatClampNeg → ¬ fn_m_loanAt i 5 f < 0 → am_inb (fn_m_loanAt i 5 f) 40 = true) (hl2 : ∀ i, i < (f 89 201).toNatClampNeg → am_inb (fn_m_loanAt i 2 f) 20 = true) (ha0_n : a0_n < 16) (ha1_n : a1_n < 20) (res : Option Value × am_M) : ∀ (n i99 : Nat) (a99_3 : Int32) , i99 + n = (f 89 201).toNatClampNeg → (fun (z : Int32) => ∀ (wc99 : Value), am_F 22 am_k_226 158 [.ref 88, .int (nI a0_n), .int (nI a1_n), .int z, wc99] [] (am_S (am_row (am_row (am_row f 93 y5.1) 95 z22) 96 y5.2) g) res) (am_for (st_m_ways_99 a0_n f y5 z22) n i99 a99_3) → am_F 22 am_k_226 99 [.ref 88, .int (nI a0_n), .int (nI a1_n), .int a99_3, .int (nI i99)] [] (am_S (am_row (am_row (am_row f 93 y5.1) 95 z22) 96 y5.2) g) res := by
  intro n
  induction n with
  | zero =>
    intro i99 a99_3 hi hK
    refine am_F.pos 6 rfl (by show (f 89 201) ≤ nI i99; rw [show (f 89 201 : Int32) = nI ((f 89 201).toNatClampNeg) from hlC]; exact nI_le (by omega) (by omega)) ?_
    exact hK _
  | succ n ih =>
    intro i99 a99_3 hi hK
    refine am_F.neg 6 rfl (by show ¬ (f 89 201) ≤ nI i99; rw [show (f 89 201 : Int32) = nI ((f 89 201).toNatClampNeg) from hlC]; exact nI_ge (by omega) (by omega)) ?_
    have hb99 : i99 < (f 89 201).toNatClampNeg := by omega
    show am_F _ _ 112 [.ref 88, .int (nI a0_n), .int (nI a1_n), .int a99_3, .int (nI i99)] [] (am_S (am_row (am_row (am_row f 93 y5.1) 95 z22) 96 y5.2) g) _
    obtain ⟨K, hKd⟩ : ∃ K : (Int32) → Prop, K = fun s => (fun (z : Int32) => ∀ (wc99 : Value), am_F 22 am_k_226 158 [.ref 88, .int (nI a0_n), .int (nI a1_n), .int z, wc99] [] (am_S (am_row (am_row (am_row f 93 y5.1) 95 z22) 96 y5.2) g) res) (am_for (st_m_ways_99 a0_n f y5 z22) n (i99 + 1) s) := ⟨_, rfl⟩
    have hK : K ((st_m_ways_99 a0_n f y5 z22) i99 a99_3) := by rw [hKd]; exact hK
    unfold st_m_ways_99 at hK
    refine am_F.ops (pc' := 119) (L' := [.ref 88, .int (nI a0_n), .int (nI a1_n), .int a99_3, .int (nI i99)]) (S' := [.int (nI i99), .ref 96, .int a99_3]) (μ' := (am_S (am_row (am_row (am_row f 93 y5.1) 95 z22) 96 y5.2) g)) 4 rfl ?_
    refine am_F.ialE (m := i99) (N := 40) rfl rfl rfl rfl (by omega) (by decide) ?_
    show am_F _ _ 120 [.ref 88, .int (nI a0_n), .int (nI a1_n), .int a99_3, .int (nI i99)] [.int (y5.2 i99), .int a99_3] (am_S (am_row (am_row (am_row f 93 y5.1) 95 z22) 96 y5.2) g) _
    refine am_F.to (am_To.ite (pc' := 150) (L2 := [.ref 88, .int (nI a0_n), .int (nI a1_n), .int a99_3, .int (nI i99)]) (S2 := [.int a99_3]) (μ2 := (am_S (am_row (am_row (am_row f 93 y5.1) 95 z22) 96 y5.2) g)) (a := 0) (b := (if (fn_m_loanAt i99 1 (am_row (am_row (am_row f 93 y5.1) 95 z22) 96 y5.2)) = (nI a0_n) then z22 ((fn_m_loanAt i99 2 (am_row (am_row (am_row f 93 y5.1) 95 z22) 96 y5.2)).toNatClampNeg) else 0)) 1 rfl (fun c11 => ?_) (fun c11 => ?_)) ?_
    · intro res9 g9
      show am_F _ _ 149 [.ref 88, .int (nI a0_n), .int (nI a1_n), .int a99_3, .int (nI i99)] [.int a99_3] (am_S (am_row (am_row (am_row f 93 y5.1) 95 z22) 96 y5.2) g) _
      refine am_F.ops (pc' := 150) (L' := [.ref 88, .int (nI a0_n), .int (nI a1_n), .int a99_3, .int (nI i99)]) (S' := [.int 0, .int a99_3]) (μ' := (am_S (am_row (am_row (am_row f 93 y5.1) 95 z22) 96 y5.2) g)) 1 rfl ?_
      exact g9
    · intro res9 g9
      show am_F _ _ 123 [.ref 88, .int (nI a0_n), .int (nI a1_n), .int a99_3, .int (nI i99)] [.int a99_3] (am_S (am_row (am_row (am_row f 93 y5.1) 95 z22) 96 y5.2) g) _
      refine am_F.ops (pc' := 127) (L' := [.ref 88, .int (nI a0_n), .int (nI a1_n), .int a99_3, .int (nI i99)]) (S' := [.int 1, .int (nI i99), .ref 88, .int a99_3]) (μ' := (am_S (am_row (am_row (am_row f 93 y5.1) 95 z22) 96 y5.2) g)) 3 rfl ?_
      refine am_F.call rfl rfl (am_D.args (congrArg (fun (x9 : Int32) => ([.ref 88, .int (nI i99), .int x9] : List Value)) (show (1 : Int32) = nI 1 from rfl)) (x_m_loanAt i99 1 (am_row (am_row (am_row f 93 y5.1) 95 z22) 96 y5.2) g (by omega) (by omega))) (by first | decide | omega) ?_
      show am_F _ _ 130 [.ref 88, .int (nI a0_n), .int (nI a1_n), .int a99_3, .int (nI i99)] [.int (fn_m_loanAt i99 1 (am_row (am_row (am_row f 93 y5.1) 95 z22) 96 y5.2)), .int a99_3] (am_S (am_row (am_row (am_row f 93 y5.1) 95 z22) 96 y5.2) g) _
      refine am_F.ops (pc' := 131) (L' := [.ref 88, .int (nI a0_n), .int (nI a1_n), .int a99_3, .int (nI i99)]) (S' := [.int (nI a0_n), .int (fn_m_loanAt i99 1 (am_row (am_row (am_row f 93 y5.1) 95 z22) 96 y5.2)), .int a99_3]) (μ' := (am_S (am_row (am_row (am_row f 93 y5.1) 95 z22) 96 y5.2) g)) 1 rfl ?_
      refine am_F.to (am_To.ite (pc' := 150) (L2 := [.ref 88, .int (nI a0_n), .int (nI a1_n), .int a99_3, .int (nI i99)]) (S2 := [.int a99_3]) (μ2 := (am_S (am_row (am_row (am_row f 93 y5.1) 95 z22) 96 y5.2) g)) (a := z22 ((fn_m_loanAt i99 2 (am_row (am_row (am_row f 93 y5.1) 95 z22) 96 y5.2)).toNatClampNeg)) (b := 0) 1 rfl (fun c13 => ?_) (fun c13 => ?_)) g9
      · intro res9 g9
        show am_F _ _ 134 [.ref 88, .int (nI a0_n), .int (nI a1_n), .int a99_3, .int (nI i99)] [.int a99_3] (am_S (am_row (am_row (am_row f 93 y5.1) 95 z22) 96 y5.2) g) _
        refine am_F.ops (pc' := 142) (L' := [.ref 88, .int (nI a0_n), .int (nI a1_n), .int a99_3, .int (nI i99)]) (S' := [.int 2, .int (nI i99), .ref 88, .ref 95, .int a99_3]) (μ' := (am_S (am_row (am_row (am_row f 93 y5.1) 95 z22) 96 y5.2) g)) 5 rfl ?_
        refine am_F.call rfl rfl (am_D.args (congrArg (fun (x9 : Int32) => ([.ref 88, .int (nI i99), .int x9] : List Value)) (show (2 : Int32) = nI 2 from rfl)) (x_m_loanAt i99 2 (am_row (am_row (am_row f 93 y5.1) 95 z22) 96 y5.2) g (by omega) (by omega))) (by first | decide | omega) ?_
        show am_F _ _ 145 [.ref 88, .int (nI a0_n), .int (nI a1_n), .int a99_3, .int (nI i99)] [.int (fn_m_loanAt i99 2 (am_row (am_row (am_row f 93 y5.1) 95 z22) 96 y5.2)), .ref 95, .int a99_3] (am_S (am_row (am_row (am_row f 93 y5.1) 95 z22) 96 y5.2) g) _
        refine am_F.ial (N := 20) rfl rfl rfl (hl2 i99 (by omega)) ?_
        show am_F _ _ 146 [.ref 88, .int (nI a0_n), .int (nI a1_n), .int a99_3, .int (nI i99)] [.int (z22 ((fn_m_loanAt i99 2 (am_row (am_row (am_row f 93 y5.1) 95 z22) 96 y5.2)).toNatClampNeg)), .int a99_3] (am_S (am_row (am_row (am_row f 93 y5.1) 95 z22) 96 y5.2) g) _
        refine am_F.ops (pc' := 150) (L' := [.ref 88, .int (nI a0_n), .int (nI a1_n), .int a99_3, .int (nI i99)]) (S' := [.int (z22 ((fn_m_loanAt i99 2 (am_row (am_row (am_row f 93 y5.1) 95 z22) 96 y5.2)).toNatClampNeg)), .int a99_3]) (μ' := (am_S (am_row (am_row (am_row f 93 y5.1) 95 z22) 96 y5.2) g)) 1 rfl ?_
        exact g9
      · intro res9 g9
        show am_F _ _ 149 [.ref 88, .int (nI a0_n), .int (nI a1_n), .int a99_3, .int (nI i99)] [.int a99_3] (am_S (am_row (am_row (am_row f 93 y5.1) 95 z22) 96 y5.2) g) _
        refine am_F.ops (pc' := 150) (L' := [.ref 88, .int (nI a0_n), .int (nI a1_n), .int a99_3, .int (nI i99)]) (S' := [.int 0, .int a99_3]) (μ' := (am_S (am_row (am_row (am_row f 93 y5.1) 95 z22) 96 y5.2) g)) 1 rfl ?_
        exact g9
    show am_F _ _ 150 [.ref 88, .int (nI a0_n), .int (nI a1_n), .int a99_3, .int (nI i99)] [.int (if (y5.2 i99) = 0 then 0 else (if (fn_m_loanAt i99 1 (am_row (am_row (am_row f 93 y5.1) 95 z22) 96 y5.2)) = (nI a0_n) then z22 ((fn_m_loanAt i99 2 (am_row (am_row (am_row f 93 y5.1) 95 z22) 96 y5.2)).toNatClampNeg) else 0)), .int a99_3] (am_S (am_row (am_row (am_row f 93 y5.1) 95 z22) 96 y5.2) g) _
    refine am_F.ops (pc' := 99) (L' := [.ref 88, .int (nI a0_n), .int (nI a1_n), .int (a99_3 + (if (y5.2 i99) = 0 then 0 else (if (fn_m_loanAt i99 1 (am_row (am_row (am_row f 93 y5.1) 95 z22) 96 y5.2)) = (nI a0_n) then z22 ((fn_m_loanAt i99 2 (am_row (am_row (am_row f 93 y5.1) 95 z22) 96 y5.2)).toNatClampNeg) else 0))), .int ((nI i99) + 1)]) (S' := []) (μ' := (am_S (am_row (am_row (am_row f 93 y5.1) 95 z22) 96 y5.2) g)) 4 rfl ?_
    rw [nI_1 i99]
    subst hKd
    exact ih (i99 + 1) (a99_3 + (if (y5.2 i99) = 0 then 0 else (if (fn_m_loanAt i99 1 (am_row (am_row (am_row f 93 y5.1) 95 z22) 96 y5.2)) = (nI a0_n) then z22 ((fn_m_loanAt i99 2 (am_row (am_row (am_row f 93 y5.1) 95 z22) 96 y5.2)).toNatClampNeg) else 0))) (by omega)  hK
theorem x_m_ways (a0 : Int32) (a1 : Int32) (f : Nat → Nat → Int32) (g : Nat → Nat → Int64) (hmk : am_mOK (f 89)) (z0 : Int32 × (Nat → Int32) × (Nat → Int32) × (Nat → Int32)) (hz0 : (fn_m_ways a0 a1 f) = some z0) : am_D 22 226 5 [.ref 88, .int a0, .int a1] (am_S f g) (some (Value.int z0.1), am_S (am_row (am_row (am_row f 93 z0.2.1) 95 z0.2.2.1) 96 z0.2.2.2) g) := by
  obtain ⟨hlC, hlN, hrC, hrN, hl0, hl5, hl2⟩ := am_mOK_e hmk
  refine am_D.of (code := am_k_226) rfl (L0 := [.ref 88, .int a0, .int a1, am_un, am_un]) rfl ?_
  generalize hres : (some (Value.int z0.1), am_S (am_row (am_row (am_row f 93 z0.2.1) 95 z0.2.2.1) 96 z0.2.2.2) g) = res
  obtain ⟨K, hKd⟩ : ∃ K : Option (Int32 × (Nat → Int32) × (Nat → Int32) × (Nat → Int32)) → Prop, K = am_KO (fun z => (some (Value.int z.1), am_S (am_row (am_row (am_row f 93 z.2.1) 95 z.2.2.1) 96 z.2.2.2) g) = res) := ⟨_, rfl⟩
  have hK : K (fn_m_ways a0 a1 f) := by rw [hKd, hz0]; exact hres
  have hKn : ¬ K none := by rw [hKd]; exact id
  clear hres hz0
  unfold fn_m_ways at hK
  refine am_F.ops (pc' := 1) (L' := [.ref 88, .int a0, .int a1, am_un, am_un]) (S' := [.int a0]) (μ' := (am_S f g)) 1 rfl ?_
  refine am_F.call rfl rfl (x_m_isOne a0 f g ) (by first | decide | omega) ?_
  show am_F _ _ 4 [.ref 88, .int a0, .int a1, am_un, am_un] [.int (am_b (fn_m_isOne a0))] (am_S f g) _
  refine am_F.bifK 1 rfl K hK (fun c2 hK => ?_) (fun c2 hK => ?_)
  · obtain ⟨a0_n, ha0_n, ea0_n⟩ := am_mOne c2
    subst ea0_n
    try simp only [nI_clamp (show a0_n < 2147483648 by omega)] at hK
    show am_F _ _ 7 [.ref 88, .int (nI a0_n), .int a1, am_un, am_un] [] (am_S f g) _
    refine am_F.ops (pc' := 8) (L' := [.ref 88, .int (nI a0_n), .int a1, am_un, am_un]) (S' := [.int a1]) (μ' := (am_S f g)) 1 rfl ?_
    refine am_F.call rfl rfl (x_m_isRole a1 f g ) (by first | decide | omega) ?_
    show am_F _ _ 11 [.ref 88, .int (nI a0_n), .int a1, am_un, am_un] [.int (am_b (fn_m_isRole a1))] (am_S f g) _
    refine am_F.bifK 1 rfl K hK (fun c4 hK => ?_) (fun c4 hK => ?_)
    · obtain ⟨a1_n, ha1_n, ea1_n⟩ := am_mRole c4
      subst ea1_n
      try simp only [nI_clamp (show a1_n < 2147483648 by omega)] at hK
      show am_F _ _ 16 [.ref 88, .int (nI a0_n), .int (nI a1_n), am_un, am_un] [] (am_S f g) _
      refine am_F.ops (pc' := 17) (L' := [.ref 88, .int (nI a0_n), .int (nI a1_n), am_un, am_un]) (S' := [.ref 88]) (μ' := (am_S f g)) 1 rfl ?_
      obtain ⟨y5, hy5⟩ : ∃ z, (fn_m_stand_155 f) = z := ⟨_, rfl⟩
      (try rw [hy5] at hK)
      refine am_F.call rfl rfl (x_m_stand_155  f g hlC hlN hrC hrN hl0 hl5 hl2) (by first | decide | omega) ?_
      (try rw [hy5])
      refine am_F.mem (F' := (am_row (am_row f 93 y5.1) 96 y5.2)) (G' := g) ?_ (by first | rfl | (funext a; by_cases z0 : a = 93; (subst z0; rfl); by_cases z1 : a = 96; (subst z1; rfl); simp only [am_ui, am_ul, am_row_ne z0, am_row_ne z1])) (by first | rfl | (funext a; by_cases z0 : a = 93; (subst z0; rfl); by_cases z1 : a = 96; (subst z1; rfl); simp only [am_ui, am_ul, am_row_ne z0, am_row_ne z1]))
      show am_F _ _ 20 [.ref 88, .int (nI a0_n), .int (nI a1_n), am_un, am_un] [] (am_S (am_row (am_row f 93 y5.1) 96 y5.2) g) _
      refine am_F.ops (pc' := 22) (L' := [.ref 88, .int (nI a0_n), .int (nI a1_n), .int 0, am_un]) (S' := []) (μ' := (am_S (am_row (am_row f 93 y5.1) 96 y5.2) g)) 2 rfl ?_
      obtain ⟨z22, hz22, hK⟩ := am_ob_e hKn hK
      refine am_F.mem (F' := (am_row (am_row (am_row f 93 y5.1) 95 (f 95)) 96 y5.2)) (G' := g) ?_ (by first | rfl | (funext a; by_cases z0 : a = 93; (subst z0; rfl); by_cases z1 : a = 95; (subst z1; rfl); by_cases z2 : a = 96; (subst z2; rfl); simp only [am_ui, am_ul, am_row_ne z0, am_row_ne z1, am_row_ne z2])) (by first | rfl | (funext a; by_cases z0 : a = 93; (subst z0; rfl); by_cases z1 : a = 95; (subst z1; rfl); by_cases z2 : a = 96; (subst z2; rfl); simp only [am_ui, am_ul, am_row_ne z0, am_row_ne z1, am_row_ne z2]))
      show am_F _ _ 22 [.ref 88, .int (nI a0_n), .int (nI a1_n), .int (nI 0), am_un] [] (am_S (am_row (am_row (am_row f 93 y5.1) 95 (f 95)) 96 y5.2) g) _
      refine lp_m_ways_22 a0_n a1_n f g y5 hmk hlC hlN hrC hrN hl0 hl5 hl2 ha0_n ha1_n _ 20 0 (f 95)  (by omega) ?_
      rw [show am_forO (st_m_ways_22 a1_n f y5) 20 0 (f 95) = (lf_m_ways_22 a1_n f y5) from rfl, hz22]
      rcases z22 with z22 | z
      · intro wc22
        show am_F _ _ 46 [.ref 88, .int (nI a0_n), .int (nI a1_n), wc22, am_un] [] (am_S (am_row (am_row (am_row f 93 y5.1) 95 z22) 96 y5.2) g) _
        (try simp only [Sum.elim_inl] at hK)
        refine am_F.ops (pc' := 51) (L' := [.ref 88, .int (nI a0_n), .int (nI a1_n), .int 0, .int 0]) (S' := []) (μ' := (am_S (am_row (am_row (am_row f 93 y5.1) 95 z22) 96 y5.2) g)) 4 rfl ?_
        show am_F _ _ 51 [.ref 88, .int (nI a0_n), .int (nI a1_n), .int 0, .int (nI 0)] [] (am_S (am_row (am_row (am_row f 93 y5.1) 95 z22) 96 y5.2) g) _
        refine lp_m_ways_51 a0_n a1_n f g y5 z22 wc22 hmk hlC hlN hrC hrN hl0 hl5 hl2 ha0_n ha1_n _ 20 0 0  (by omega)  ?_
        rw [show am_for (st_m_ways_51 a0_n f z22) 20 0 0 = (lf_m_ways_51 a0_n f z22) from rfl]
        generalize (lf_m_ways_51 a0_n f z22) = z51_10 at hK ⊢
        intro wc51
        show am_F _ _ 96 [.ref 88, .int (nI a0_n), .int (nI a1_n), .int z51_10, wc51] [] (am_S (am_row (am_row (am_row f 93 y5.1) 95 z22) 96 y5.2) g) _
        refine am_F.ops (pc' := 99) (L' := [.ref 88, .int (nI a0_n), .int (nI a1_n), .int z51_10, .int 0]) (S' := []) (μ' := (am_S (am_row (am_row (am_row f 93 y5.1) 95 z22) 96 y5.2) g)) 2 rfl ?_
        show am_F _ _ 99 [.ref 88, .int (nI a0_n), .int (nI a1_n), .int z51_10, .int (nI 0)] [] (am_S (am_row (am_row (am_row f 93 y5.1) 95 z22) 96 y5.2) g) _
        refine lp_m_ways_99 a0_n a1_n f g y5 z22 wc22 z51_10 wc51 hmk hlC hlN hrC hrN hl0 hl5 hl2 ha0_n ha1_n _ ((f 89 201).toNatClampNeg) 0 z51_10  (by omega)  ?_
        rw [show am_for (st_m_ways_99 a0_n f y5 z22) ((f 89 201).toNatClampNeg) 0 z51_10 = (lf_m_ways_99 a0_n f y5 z22 z51_10) from rfl]
        generalize (lf_m_ways_99 a0_n f y5 z22 z51_10) = z99_15 at hK ⊢
        intro wc99
        show am_F _ _ 158 [.ref 88, .int (nI a0_n), .int (nI a1_n), .int z99_15, wc99] [] (am_S (am_row (am_row (am_row f 93 y5.1) 95 z22) 96 y5.2) g) _
        refine am_F.ops (pc' := 159) (L' := [.ref 88, .int (nI a0_n), .int (nI a1_n), .int z99_15, wc99]) (S' := [.int z99_15]) (μ' := (am_S (am_row (am_row (am_row f 93 y5.1) 95 z22) 96 y5.2) g)) 1 rfl ?_
        subst hKd
        have hQ := am_KO_s hK
        exact am_F.eq (am_F.ret rfl rfl) hQ
      · exact z.elim
    · show am_F _ _ 14 [.ref 88, .int (nI a0_n), .int a1, am_un, am_un] [] (am_S f g) _
      refine am_F.ops (pc' := 15) (L' := [.ref 88, .int (nI a0_n), .int a1, am_un, am_un]) (S' := [.int (-1)]) (μ' := (am_S f g)) 1 rfl ?_
      refine am_F.mem (F' := (am_row (am_row (am_row f 93 (f 93)) 95 (f 95)) 96 (f 96))) (G' := g) ?_ (by first | rfl | (funext a; by_cases z0 : a = 93; (subst z0; rfl); by_cases z1 : a = 95; (subst z1; rfl); by_cases z2 : a = 96; (subst z2; rfl); simp only [am_ui, am_ul, am_row_ne z0, am_row_ne z1, am_row_ne z2])) (by first | rfl | (funext a; by_cases z0 : a = 93; (subst z0; rfl); by_cases z1 : a = 95; (subst z1; rfl); by_cases z2 : a = 96; (subst z2; rfl); simp only [am_ui, am_ul, am_row_ne z0, am_row_ne z1, am_row_ne z2]))
      subst hKd
      have hQ := am_KO_s hK
      exact am_F.eq (am_F.ret rfl rfl) hQ
  · show am_F _ _ 14 [.ref 88, .int a0, .int a1, am_un, am_un] [] (am_S f g) _
    refine am_F.ops (pc' := 15) (L' := [.ref 88, .int a0, .int a1, am_un, am_un]) (S' := [.int (-1)]) (μ' := (am_S f g)) 1 rfl ?_
    refine am_F.mem (F' := (am_row (am_row (am_row f 93 (f 93)) 95 (f 95)) 96 (f 96))) (G' := g) ?_ (by first | rfl | (funext a; by_cases z0 : a = 93; (subst z0; rfl); by_cases z1 : a = 95; (subst z1; rfl); by_cases z2 : a = 96; (subst z2; rfl); simp only [am_ui, am_ul, am_row_ne z0, am_row_ne z1, am_row_ne z2])) (by first | rfl | (funext a; by_cases z0 : a = 93; (subst z0; rfl); by_cases z1 : a = 95; (subst z1; rfl); by_cases z2 : a = 96; (subst z2; rfl); simp only [am_ui, am_ul, am_row_ne z0, am_row_ne z1, am_row_ne z2]))
    subst hKd
    have hQ := am_KO_s hK
    exact am_F.eq (am_F.ret rfl rfl) hQ
/-- AccessLatticeModel.isWithin, with checks -/
noncomputable def fn_m_isWithin (a0 : Int32) (a1 : Int32) (f : Nat → Nat → Int32) : Option (Bool) := (am_chk (am_inb a0 30 = true) (am_chk (am_inb a1 30 = true) (if (fn_m_ruleAt a0.toNatClampNeg 3 f) = (fn_m_ruleAt a1.toNatClampNeg 3 f) then (some true) else (am_ob (fn_m_depth (fn_m_ruleAt a0.toNatClampNeg 3 f) (fn_m_ruleAt a1.toNatClampNeg 3 f) f) (fun (y8 : Int32) => (if y8 ≤ 0 then (some false) else (some (if (fn_m_ruleAt a1.toNatClampNeg 4 f) = 1 then true else false))))))))
theorem x_m_isWithin (a0 : Int32) (a1 : Int32) (f : Nat → Nat → Int32) (g : Nat → Nat → Int64)  (z0 : Bool) (hz0 : (fn_m_isWithin a0 a1 f) = some z0) : am_D 1 233 3 [.ref 88, .int a0, .int a1] (am_S f g) (some (Value.int (am_b z0)), am_S f g) := by
  refine am_D.of (code := am_k_233) rfl (L0 := [.ref 88, .int a0, .int a1]) rfl ?_
  generalize hres : (some (Value.int (am_b z0)), am_S f g) = res
  obtain ⟨K, hKd⟩ : ∃ K : Option (Bool) → Prop, K = am_KO (fun z => (some (Value.int (am_b z)), am_S f g) = res) := ⟨_, rfl⟩
  have hK : K (fn_m_isWithin a0 a1 f) := by rw [hKd, hz0]; exact hres
  have hKn : ¬ K none := by rw [hKd]; exact id
  clear hres hz0
  unfold fn_m_isWithin at hK
  refine am_F.ops (pc' := 3) (L' := [.ref 88, .int a0, .int a1]) (S' := [.int 3, .int a0, .ref 88]) (μ' := (am_S f g)) 3 rfl ?_
  obtain ⟨q1, hK⟩ := am_chk_e hKn hK
  refine am_F.call rfl rfl (am_D.args (congrArg (fun (x9 : Int32) => ([.ref 88, .int x9, .int 3] : List Value)) (show (a0 : Int32) = nI a0.toNatClampNeg from (am_inbQ q1).1)) (am_D.args (congrArg (fun (x9 : Int32) => ([.ref 88, .int (nI a0.toNatClampNeg), .int x9] : List Value)) (show (3 : Int32) = nI 3 from rfl)) (x_m_ruleAt a0.toNatClampNeg 3 f g (am_inbQ q1).2 (by omega)))) (by first | decide | omega) ?_
  show am_F _ _ 6 [.ref 88, .int a0, .int a1] [.int (fn_m_ruleAt a0.toNatClampNeg 3 f)] (am_S f g) _
  refine am_F.ops (pc' := 9) (L' := [.ref 88, .int a0, .int a1]) (S' := [.int 3, .int a1, .ref 88, .int (fn_m_ruleAt a0.toNatClampNeg 3 f)]) (μ' := (am_S f g)) 3 rfl ?_
  obtain ⟨q3, hK⟩ := am_chk_e hKn hK
  refine am_F.call rfl rfl (am_D.args (congrArg (fun (x9 : Int32) => ([.ref 88, .int x9, .int 3] : List Value)) (show (a1 : Int32) = nI a1.toNatClampNeg from (am_inbQ q3).1)) (am_D.args (congrArg (fun (x9 : Int32) => ([.ref 88, .int (nI a1.toNatClampNeg), .int x9] : List Value)) (show (3 : Int32) = nI 3 from rfl)) (x_m_ruleAt a1.toNatClampNeg 3 f g (am_inbQ q3).2 (by omega)))) (by first | decide | omega) ?_
  show am_F _ _ 12 [.ref 88, .int a0, .int a1] [.int (fn_m_ruleAt a1.toNatClampNeg 3 f), .int (fn_m_ruleAt a0.toNatClampNeg 3 f)] (am_S f g) _
  refine am_F.iteK 1 rfl K hK (fun c5 hK => ?_) (fun c5 hK => ?_)
  · show am_F _ _ 15 [.ref 88, .int a0, .int a1] [] (am_S f g) _
    refine am_F.ops (pc' := 16) (L' := [.ref 88, .int a0, .int a1]) (S' := [.int 1]) (μ' := (am_S f g)) 1 rfl ?_
    subst hKd
    have hQ := am_KO_s hK
    exact am_F.eq (am_F.ret rfl rfl) hQ
  · show am_F _ _ 17 [.ref 88, .int a0, .int a1] [] (am_S f g) _
    refine am_F.ops (pc' := 21) (L' := [.ref 88, .int a0, .int a1]) (S' := [.int 3, .int a0, .ref 88, .ref 88]) (μ' := (am_S f g)) 4 rfl ?_
    refine am_F.call rfl rfl (am_D.args (congrArg (fun (x9 : Int32) => ([.ref 88, .int x9, .int 3] : List Value)) (show (a0 : Int32) = nI a0.toNatClampNeg from (am_inbQ q1).1)) (am_D.args (congrArg (fun (x9 : Int32) => ([.ref 88, .int (nI a0.toNatClampNeg), .int x9] : List Value)) (show (3 : Int32) = nI 3 from rfl)) (x_m_ruleAt a0.toNatClampNeg 3 f g (am_inbQ q1).2 (by omega)))) (by first | decide | omega) ?_
    show am_F _ _ 24 [.ref 88, .int a0, .int a1] [.int (fn_m_ruleAt a0.toNatClampNeg 3 f), .ref 88] (am_S f g) _
    refine am_F.ops (pc' := 27) (L' := [.ref 88, .int a0, .int a1]) (S' := [.int 3, .int a1, .ref 88, .int (fn_m_ruleAt a0.toNatClampNeg 3 f), .ref 88]) (μ' := (am_S f g)) 3 rfl ?_
    refine am_F.call rfl rfl (am_D.args (congrArg (fun (x9 : Int32) => ([.ref 88, .int x9, .int 3] : List Value)) (show (a1 : Int32) = nI a1.toNatClampNeg from (am_inbQ q3).1)) (am_D.args (congrArg (fun (x9 : Int32) => ([.ref 88, .int (nI a1.toNatClampNeg), .int x9] : List Value)) (show (3 : Int32) = nI 3 from rfl)) (x_m_ruleAt a1.toNatClampNeg 3 f g (am_inbQ q3).2 (by omega)))) (by first | decide | omega) ?_
    show am_F _ _ 30 [.ref 88, .int a0, .int a1] [.int (fn_m_ruleAt a1.toNatClampNeg 3 f), .int (fn_m_ruleAt a0.toNatClampNeg 3 f), .ref 88] (am_S f g) _
    obtain ⟨y8, hy8, hK⟩ := am_ob_e hKn hK
    refine am_F.call rfl rfl (x_m_depth (fn_m_ruleAt a0.toNatClampNeg 3 f) (fn_m_ruleAt a1.toNatClampNeg 3 f) f g  y8 hy8) (by first | decide | omega) ?_
    show am_F _ _ 33 [.ref 88, .int a0, .int a1] [.int y8] (am_S f g) _
    refine am_F.iteK 1 rfl K hK (fun c10 hK => ?_) (fun c10 hK => ?_)
    · show am_F _ _ 50 [.ref 88, .int a0, .int a1] [] (am_S f g) _
      refine am_F.ops (pc' := 51) (L' := [.ref 88, .int a0, .int a1]) (S' := [.int 0]) (μ' := (am_S f g)) 1 rfl ?_
      subst hKd
      have hQ := am_KO_s hK
      exact am_F.eq (am_F.ret rfl rfl) hQ
    · show am_F _ _ 36 [.ref 88, .int a0, .int a1] [] (am_S f g) _
      refine am_F.ops (pc' := 39) (L' := [.ref 88, .int a0, .int a1]) (S' := [.int 4, .int a1, .ref 88]) (μ' := (am_S f g)) 3 rfl ?_
      refine am_F.call rfl rfl (am_D.args (congrArg (fun (x9 : Int32) => ([.ref 88, .int x9, .int 4] : List Value)) (show (a1 : Int32) = nI a1.toNatClampNeg from (am_inbQ q3).1)) (am_D.args (congrArg (fun (x9 : Int32) => ([.ref 88, .int (nI a1.toNatClampNeg), .int x9] : List Value)) (show (4 : Int32) = nI 4 from rfl)) (x_m_ruleAt a1.toNatClampNeg 4 f g (am_inbQ q3).2 (by omega)))) (by first | decide | omega) ?_
      show am_F _ _ 42 [.ref 88, .int a0, .int a1] [.int (fn_m_ruleAt a1.toNatClampNeg 4 f)] (am_S f g) _
      refine am_F.ops (pc' := 43) (L' := [.ref 88, .int a0, .int a1]) (S' := [.int 1, .int (fn_m_ruleAt a1.toNatClampNeg 4 f)]) (μ' := (am_S f g)) 1 rfl ?_
      refine am_F.to (am_To.iteB (pc' := 51) (L2 := [.ref 88, .int a0, .int a1]) (S2 := []) (μ2 := (am_S f g)) (a := true) (b := false) 1 rfl (fun c12 => ?_) (fun c12 => ?_)) ?_
      · intro res9 g9
        show am_F _ _ 46 [.ref 88, .int a0, .int a1] [] (am_S f g) _
        refine am_F.ops (pc' := 51) (L' := [.ref 88, .int a0, .int a1]) (S' := [.int 1]) (μ' := (am_S f g)) 2 rfl ?_
        exact g9
      · intro res9 g9
        show am_F _ _ 50 [.ref 88, .int a0, .int a1] [] (am_S f g) _
        refine am_F.ops (pc' := 51) (L' := [.ref 88, .int a0, .int a1]) (S' := [.int 0]) (μ' := (am_S f g)) 1 rfl ?_
        exact g9
      show am_F _ _ 51 [.ref 88, .int a0, .int a1] [.int (am_b (if (fn_m_ruleAt a1.toNatClampNeg 4 f) = 1 then true else false))] (am_S f g) _
      subst hKd
      have hQ := am_KO_s hK
      exact am_F.eq (am_F.ret rfl (am_retB _ _)) hQ
/-- AccessLatticeModel.clashes, with checks -/
noncomputable def fn_m_clashes (a0 : Int32) (a1 : Int32) (f : Nat → Nat → Int32) : Option (Bool) := (am_chk (am_inb a0 30 = true) (am_chk (am_inb a1 30 = true) (if ((fn_m_ruleAt a0.toNatClampNeg 0 f) + (fn_m_ruleAt a1.toNatClampNeg 0 f)) = 1 then (if ((fn_m_ruleAt a0.toNatClampNeg 2 f) &&& (fn_m_ruleAt a1.toNatClampNeg 2 f)) = 0 then (some false) else (if (fn_m_ruleAt a0.toNatClampNeg 6 f) = (-1) then (if (fn_m_ruleAt a1.toNatClampNeg 6 f) = (-1) then (am_ob (fn_m_isWithin a0 a1 f) (fun (y13 : Bool) => (bif (y13) then (some (if ((fn_m_allAbove (fn_m_ruleAt a0.toNatClampNeg 1 f) f) &&& (fn_m_allAbove (fn_m_ruleAt a1.toNatClampNeg 1 f) f)) = 0 then false else true)) else (am_ob (fn_m_isWithin a1 a0 f) (fun (y21 : Bool) => (bif (y21) then (some (if ((fn_m_allAbove (fn_m_ruleAt a0.toNatClampNeg 1 f) f) &&& (fn_m_allAbove (fn_m_ruleAt a1.toNatClampNeg 1 f) f)) = 0 then false else true)) else (some false))))))) else (if (fn_m_ruleAt a0.toNatClampNeg 5 f) < (fn_m_ruleAt a1.toNatClampNeg 6 f) then (am_ob (fn_m_isWithin a0 a1 f) (fun (y32 : Bool) => (bif (y32) then (some (if ((fn_m_allAbove (fn_m_ruleAt a0.toNatClampNeg 1 f) f) &&& (fn_m_allAbove (fn_m_ruleAt a1.toNatClampNeg 1 f) f)) = 0 then false else true)) else (am_ob (fn_m_isWithin a1 a0 f) (fun (y40 : Bool) => (bif (y40) then (some (if ((fn_m_allAbove (fn_m_ruleAt a0.toNatClampNeg 1 f) f) &&& (fn_m_allAbove (fn_m_ruleAt a1.toNatClampNeg 1 f) f)) = 0 then false else true)) else (some false))))))) else (some false))) else (if (fn_m_ruleAt a0.toNatClampNeg 6 f) ≤ (fn_m_ruleAt a1.toNatClampNeg 5 f) then (some false) else (if (fn_m_ruleAt a1.toNatClampNeg 6 f) = (-1) then (am_ob (fn_m_isWithin a0 a1 f) (fun (y53 : Bool) => (bif (y53) then (some (if ((fn_m_allAbove (fn_m_ruleAt a0.toNatClampNeg 1 f) f) &&& (fn_m_allAbove (fn_m_ruleAt a1.toNatClampNeg 1 f) f)) = 0 then false else true)) else (am_ob (fn_m_isWithin a1 a0 f) (fun (y61 : Bool) => (bif (y61) then (some (if ((fn_m_allAbove (fn_m_ruleAt a0.toNatClampNeg 1 f) f) &&& (fn_m_allAbove (fn_m_ruleAt a1.toNatClampNeg 1 f) f)) = 0 then false else true)) else (some false))))))) else (if (fn_m_ruleAt a0.toNatClampNeg 5 f) < (fn_m_ruleAt a1.toNatClampNeg 6 f) then (am_ob (fn_m_isWithin a0 a1 f) (fun (y72 : Bool) => (bif (y72) then (some (if ((fn_m_allAbove (fn_m_ruleAt a0.toNatClampNeg 1 f) f) &&& (fn_m_allAbove (fn_m_ruleAt a1.toNatClampNeg 1 f) f)) = 0 then false else true)) else (am_ob (fn_m_isWithin a1 a0 f) (fun (y80 : Bool) => (bif (y80) then (some (if ((fn_m_allAbove (fn_m_ruleAt a0.toNatClampNeg 1 f) f) &&& (fn_m_allAbove (fn_m_ruleAt a1.toNatClampNeg 1 f) f)) = 0 then false else true)) else (some false))))))) else (some false)))))) else (some false))))
theorem x_m_clashes (a0 : Int32) (a1 : Int32) (f : Nat → Nat → Int32) (g : Nat → Nat → Int64)  (z0 : Bool) (hz0 : (fn_m_clashes a0 a1 f) = some z0) : am_D 2 235 3 [.ref 88, .int a0, .int a1] (am_S f g) (some (Value.int (am_b z0)), am_S f g) := by
  refine am_D.of (code := am_k_235) rfl (L0 := [.ref 88, .int a0, .int a1]) rfl ?_
  generalize hres : (some (Value.int (am_b z0)), am_S f g) = res
  obtain ⟨K, hKd⟩ : ∃ K : Option (Bool) → Prop, K = am_KO (fun z => (some (Value.int (am_b z)), am_S f g) = res) := ⟨_, rfl⟩
  have hK : K (fn_m_clashes a0 a1 f) := by rw [hKd, hz0]; exact hres
  have hKn : ¬ K none := by rw [hKd]; exact id
  clear hres hz0
  unfold fn_m_clashes at hK
  refine am_F.ops (pc' := 3) (L' := [.ref 88, .int a0, .int a1]) (S' := [.int 0, .int a0, .ref 88]) (μ' := (am_S f g)) 3 rfl ?_
  obtain ⟨q1, hK⟩ := am_chk_e hKn hK
  refine am_F.call rfl rfl (am_D.args (congrArg (fun (x9 : Int32) => ([.ref 88, .int x9, .int 0] : List Value)) (show (a0 : Int32) = nI a0.toNatClampNeg from (am_inbQ q1).1)) (am_D.args (congrArg (fun (x9 : Int32) => ([.ref 88, .int (nI a0.toNatClampNeg), .int x9] : List Value)) (show (0 : Int32) = nI 0 from rfl)) (x_m_ruleAt a0.toNatClampNeg 0 f g (am_inbQ q1).2 (by omega)))) (by first | decide | omega) ?_
  show am_F _ _ 6 [.ref 88, .int a0, .int a1] [.int (fn_m_ruleAt a0.toNatClampNeg 0 f)] (am_S f g) _
  refine am_F.ops (pc' := 9) (L' := [.ref 88, .int a0, .int a1]) (S' := [.int 0, .int a1, .ref 88, .int (fn_m_ruleAt a0.toNatClampNeg 0 f)]) (μ' := (am_S f g)) 3 rfl ?_
  obtain ⟨q3, hK⟩ := am_chk_e hKn hK
  refine am_F.call rfl rfl (am_D.args (congrArg (fun (x9 : Int32) => ([.ref 88, .int x9, .int 0] : List Value)) (show (a1 : Int32) = nI a1.toNatClampNeg from (am_inbQ q3).1)) (am_D.args (congrArg (fun (x9 : Int32) => ([.ref 88, .int (nI a1.toNatClampNeg), .int x9] : List Value)) (show (0 : Int32) = nI 0 from rfl)) (x_m_ruleAt a1.toNatClampNeg 0 f g (am_inbQ q3).2 (by omega)))) (by first | decide | omega) ?_
  show am_F _ _ 12 [.ref 88, .int a0, .int a1] [.int (fn_m_ruleAt a1.toNatClampNeg 0 f), .int (fn_m_ruleAt a0.toNatClampNeg 0 f)] (am_S f g) _
  refine am_F.ops (pc' := 14) (L' := [.ref 88, .int a0, .int a1]) (S' := [.int 1, .int ((fn_m_ruleAt a0.toNatClampNeg 0 f) + (fn_m_ruleAt a1.toNatClampNeg 0 f))]) (μ' := (am_S f g)) 2 rfl ?_
  refine am_F.iteK 1 rfl K hK (fun c5 hK => ?_) (fun c5 hK => ?_)
  · show am_F _ _ 17 [.ref 88, .int a0, .int a1] [] (am_S f g) _
    refine am_F.ops (pc' := 20) (L' := [.ref 88, .int a0, .int a1]) (S' := [.int 2, .int a0, .ref 88]) (μ' := (am_S f g)) 3 rfl ?_
    refine am_F.call rfl rfl (am_D.args (congrArg (fun (x9 : Int32) => ([.ref 88, .int x9, .int 2] : List Value)) (show (a0 : Int32) = nI a0.toNatClampNeg from (am_inbQ q1).1)) (am_D.args (congrArg (fun (x9 : Int32) => ([.ref 88, .int (nI a0.toNatClampNeg), .int x9] : List Value)) (show (2 : Int32) = nI 2 from rfl)) (x_m_ruleAt a0.toNatClampNeg 2 f g (am_inbQ q1).2 (by omega)))) (by first | decide | omega) ?_
    show am_F _ _ 23 [.ref 88, .int a0, .int a1] [.int (fn_m_ruleAt a0.toNatClampNeg 2 f)] (am_S f g) _
    refine am_F.ops (pc' := 26) (L' := [.ref 88, .int a0, .int a1]) (S' := [.int 2, .int a1, .ref 88, .int (fn_m_ruleAt a0.toNatClampNeg 2 f)]) (μ' := (am_S f g)) 3 rfl ?_
    refine am_F.call rfl rfl (am_D.args (congrArg (fun (x9 : Int32) => ([.ref 88, .int x9, .int 2] : List Value)) (show (a1 : Int32) = nI a1.toNatClampNeg from (am_inbQ q3).1)) (am_D.args (congrArg (fun (x9 : Int32) => ([.ref 88, .int (nI a1.toNatClampNeg), .int x9] : List Value)) (show (2 : Int32) = nI 2 from rfl)) (x_m_ruleAt a1.toNatClampNeg 2 f g (am_inbQ q3).2 (by omega)))) (by first | decide | omega) ?_
    show am_F _ _ 29 [.ref 88, .int a0, .int a1] [.int (fn_m_ruleAt a1.toNatClampNeg 2 f), .int (fn_m_ruleAt a0.toNatClampNeg 2 f)] (am_S f g) _
    refine am_F.ops (pc' := 30) (L' := [.ref 88, .int a0, .int a1]) (S' := [.int ((fn_m_ruleAt a0.toNatClampNeg 2 f) &&& (fn_m_ruleAt a1.toNatClampNeg 2 f))]) (μ' := (am_S f g)) 1 rfl ?_
    refine am_F.iteK 1 rfl K hK (fun c8 hK => ?_) (fun c8 hK => ?_)
    · show am_F _ _ 33 [.ref 88, .int a0, .int a1] [] (am_S f g) _
      refine am_F.ops (pc' := 34) (L' := [.ref 88, .int a0, .int a1]) (S' := [.int 0]) (μ' := (am_S f g)) 1 rfl ?_
      subst hKd
      have hQ := am_KO_s hK
      exact am_F.eq (am_F.ret rfl rfl) hQ
    · show am_F _ _ 35 [.ref 88, .int a0, .int a1] [] (am_S f g) _
      refine am_F.ops (pc' := 39) (L' := [.ref 88, .int a0, .int a1]) (S' := [.int 6, .int a0, .ref 88]) (μ' := (am_S f g)) 3 rfl ?_
      refine am_F.call rfl rfl (am_D.args (congrArg (fun (x9 : Int32) => ([.ref 88, .int x9, .int 6] : List Value)) (show (a0 : Int32) = nI a0.toNatClampNeg from (am_inbQ q1).1)) (am_D.args (congrArg (fun (x9 : Int32) => ([.ref 88, .int (nI a0.toNatClampNeg), .int x9] : List Value)) (show (6 : Int32) = nI 6 from rfl)) (x_m_ruleAt a0.toNatClampNeg 6 f g (am_inbQ q1).2 (by omega)))) (by first | decide | omega) ?_
      show am_F _ _ 42 [.ref 88, .int a0, .int a1] [.int (fn_m_ruleAt a0.toNatClampNeg 6 f)] (am_S f g) _
      refine am_F.ops (pc' := 43) (L' := [.ref 88, .int a0, .int a1]) (S' := [.int (-1), .int (fn_m_ruleAt a0.toNatClampNeg 6 f)]) (μ' := (am_S f g)) 1 rfl ?_
      refine am_F.iteK 1 rfl K hK (fun c10 hK => ?_) (fun c10 hK => ?_)
      · show am_F _ _ 62 [.ref 88, .int a0, .int a1] [] (am_S f g) _
        refine am_F.ops (pc' := 66) (L' := [.ref 88, .int a0, .int a1]) (S' := [.int 6, .int a1, .ref 88]) (μ' := (am_S f g)) 3 rfl ?_
        refine am_F.call rfl rfl (am_D.args (congrArg (fun (x9 : Int32) => ([.ref 88, .int x9, .int 6] : List Value)) (show (a1 : Int32) = nI a1.toNatClampNeg from (am_inbQ q3).1)) (am_D.args (congrArg (fun (x9 : Int32) => ([.ref 88, .int (nI a1.toNatClampNeg), .int x9] : List Value)) (show (6 : Int32) = nI 6 from rfl)) (x_m_ruleAt a1.toNatClampNeg 6 f g (am_inbQ q3).2 (by omega)))) (by first | decide | omega) ?_
        show am_F _ _ 69 [.ref 88, .int a0, .int a1] [.int (fn_m_ruleAt a1.toNatClampNeg 6 f)] (am_S f g) _
        refine am_F.ops (pc' := 70) (L' := [.ref 88, .int a0, .int a1]) (S' := [.int (-1), .int (fn_m_ruleAt a1.toNatClampNeg 6 f)]) (μ' := (am_S f g)) 1 rfl ?_
        refine am_F.iteK 1 rfl K hK (fun c12 hK => ?_) (fun c12 hK => ?_)
        · show am_F _ _ 91 [.ref 88, .int a0, .int a1] [] (am_S f g) _
          refine am_F.ops (pc' := 94) (L' := [.ref 88, .int a0, .int a1]) (S' := [.int a1, .int a0, .ref 88]) (μ' := (am_S f g)) 3 rfl ?_
          obtain ⟨y13, hy13, hK⟩ := am_ob_e hKn hK
          refine am_F.call rfl rfl (x_m_isWithin a0 a1 f g  y13 hy13) (by first | decide | omega) ?_
          show am_F _ _ 97 [.ref 88, .int a0, .int a1] [.int (am_b (y13))] (am_S f g) _
          refine am_F.bifK 1 rfl K hK (fun c15 hK => ?_) (fun c15 hK => ?_)
          · show am_F _ _ 109 [.ref 88, .int a0, .int a1] [] (am_S f g) _
            refine am_F.ops (pc' := 113) (L' := [.ref 88, .int a0, .int a1]) (S' := [.int 1, .int a0, .ref 88, .ref 88]) (μ' := (am_S f g)) 4 rfl ?_
            refine am_F.call rfl rfl (am_D.args (congrArg (fun (x9 : Int32) => ([.ref 88, .int x9, .int 1] : List Value)) (show (a0 : Int32) = nI a0.toNatClampNeg from (am_inbQ q1).1)) (am_D.args (congrArg (fun (x9 : Int32) => ([.ref 88, .int (nI a0.toNatClampNeg), .int x9] : List Value)) (show (1 : Int32) = nI 1 from rfl)) (x_m_ruleAt a0.toNatClampNeg 1 f g (am_inbQ q1).2 (by omega)))) (by first | decide | omega) ?_
            show am_F _ _ 116 [.ref 88, .int a0, .int a1] [.int (fn_m_ruleAt a0.toNatClampNeg 1 f), .ref 88] (am_S f g) _
            refine am_F.call rfl rfl (x_m_allAbove (fn_m_ruleAt a0.toNatClampNeg 1 f) f g ) (by first | decide | omega) ?_
            show am_F _ _ 119 [.ref 88, .int a0, .int a1] [.int (fn_m_allAbove (fn_m_ruleAt a0.toNatClampNeg 1 f) f)] (am_S f g) _
            refine am_F.ops (pc' := 123) (L' := [.ref 88, .int a0, .int a1]) (S' := [.int 1, .int a1, .ref 88, .ref 88, .int (fn_m_allAbove (fn_m_ruleAt a0.toNatClampNeg 1 f) f)]) (μ' := (am_S f g)) 4 rfl ?_
            refine am_F.call rfl rfl (am_D.args (congrArg (fun (x9 : Int32) => ([.ref 88, .int x9, .int 1] : List Value)) (show (a1 : Int32) = nI a1.toNatClampNeg from (am_inbQ q3).1)) (am_D.args (congrArg (fun (x9 : Int32) => ([.ref 88, .int (nI a1.toNatClampNeg), .int x9] : List Value)) (show (1 : Int32) = nI 1 from rfl)) (x_m_ruleAt a1.toNatClampNeg 1 f g (am_inbQ q3).2 (by omega)))) (by first | decide | omega) ?_
            show am_F _ _ 126 [.ref 88, .int a0, .int a1] [.int (fn_m_ruleAt a1.toNatClampNeg 1 f), .ref 88, .int (fn_m_allAbove (fn_m_ruleAt a0.toNatClampNeg 1 f) f)] (am_S f g) _
            refine am_F.call rfl rfl (x_m_allAbove (fn_m_ruleAt a1.toNatClampNeg 1 f) f g ) (by first | decide | omega) ?_
            show am_F _ _ 129 [.ref 88, .int a0, .int a1] [.int (fn_m_allAbove (fn_m_ruleAt a1.toNatClampNeg 1 f) f), .int (fn_m_allAbove (fn_m_ruleAt a0.toNatClampNeg 1 f) f)] (am_S f g) _
            refine am_F.ops (pc' := 130) (L' := [.ref 88, .int a0, .int a1]) (S' := [.int ((fn_m_allAbove (fn_m_ruleAt a0.toNatClampNeg 1 f) f) &&& (fn_m_allAbove (fn_m_ruleAt a1.toNatClampNeg 1 f) f))]) (μ' := (am_S f g)) 1 rfl ?_
            refine am_F.to (am_To.iteB (pc' := 138) (L2 := [.ref 88, .int a0, .int a1]) (S2 := []) (μ2 := (am_S f g)) (a := false) (b := true) 1 rfl (fun c20 => ?_) (fun c20 => ?_)) ?_
            · intro res9 g9
              show am_F _ _ 137 [.ref 88, .int a0, .int a1] [] (am_S f g) _
              refine am_F.ops (pc' := 138) (L' := [.ref 88, .int a0, .int a1]) (S' := [.int 0]) (μ' := (am_S f g)) 1 rfl ?_
              exact g9
            · intro res9 g9
              show am_F _ _ 133 [.ref 88, .int a0, .int a1] [] (am_S f g) _
              refine am_F.ops (pc' := 138) (L' := [.ref 88, .int a0, .int a1]) (S' := [.int 1]) (μ' := (am_S f g)) 2 rfl ?_
              exact g9
            show am_F _ _ 138 [.ref 88, .int a0, .int a1] [.int (am_b (if ((fn_m_allAbove (fn_m_ruleAt a0.toNatClampNeg 1 f) f) &&& (fn_m_allAbove (fn_m_ruleAt a1.toNatClampNeg 1 f) f)) = 0 then false else true))] (am_S f g) _
            subst hKd
            have hQ := am_KO_s hK
            exact am_F.eq (am_F.ret rfl (am_retB _ _)) hQ
          · show am_F _ _ 100 [.ref 88, .int a0, .int a1] [] (am_S f g) _
            refine am_F.ops (pc' := 103) (L' := [.ref 88, .int a0, .int a1]) (S' := [.int a0, .int a1, .ref 88]) (μ' := (am_S f g)) 3 rfl ?_
            obtain ⟨y21, hy21, hK⟩ := am_ob_e hKn hK
            refine am_F.call rfl rfl (x_m_isWithin a1 a0 f g  y21 hy21) (by first | decide | omega) ?_
            show am_F _ _ 106 [.ref 88, .int a0, .int a1] [.int (am_b (y21))] (am_S f g) _
            refine am_F.bifK 1 rfl K hK (fun c23 hK => ?_) (fun c23 hK => ?_)
            · show am_F _ _ 109 [.ref 88, .int a0, .int a1] [] (am_S f g) _
              refine am_F.ops (pc' := 113) (L' := [.ref 88, .int a0, .int a1]) (S' := [.int 1, .int a0, .ref 88, .ref 88]) (μ' := (am_S f g)) 4 rfl ?_
              refine am_F.call rfl rfl (am_D.args (congrArg (fun (x9 : Int32) => ([.ref 88, .int x9, .int 1] : List Value)) (show (a0 : Int32) = nI a0.toNatClampNeg from (am_inbQ q1).1)) (am_D.args (congrArg (fun (x9 : Int32) => ([.ref 88, .int (nI a0.toNatClampNeg), .int x9] : List Value)) (show (1 : Int32) = nI 1 from rfl)) (x_m_ruleAt a0.toNatClampNeg 1 f g (am_inbQ q1).2 (by omega)))) (by first | decide | omega) ?_
              show am_F _ _ 116 [.ref 88, .int a0, .int a1] [.int (fn_m_ruleAt a0.toNatClampNeg 1 f), .ref 88] (am_S f g) _
              refine am_F.call rfl rfl (x_m_allAbove (fn_m_ruleAt a0.toNatClampNeg 1 f) f g ) (by first | decide | omega) ?_
              show am_F _ _ 119 [.ref 88, .int a0, .int a1] [.int (fn_m_allAbove (fn_m_ruleAt a0.toNatClampNeg 1 f) f)] (am_S f g) _
              refine am_F.ops (pc' := 123) (L' := [.ref 88, .int a0, .int a1]) (S' := [.int 1, .int a1, .ref 88, .ref 88, .int (fn_m_allAbove (fn_m_ruleAt a0.toNatClampNeg 1 f) f)]) (μ' := (am_S f g)) 4 rfl ?_
              refine am_F.call rfl rfl (am_D.args (congrArg (fun (x9 : Int32) => ([.ref 88, .int x9, .int 1] : List Value)) (show (a1 : Int32) = nI a1.toNatClampNeg from (am_inbQ q3).1)) (am_D.args (congrArg (fun (x9 : Int32) => ([.ref 88, .int (nI a1.toNatClampNeg), .int x9] : List Value)) (show (1 : Int32) = nI 1 from rfl)) (x_m_ruleAt a1.toNatClampNeg 1 f g (am_inbQ q3).2 (by omega)))) (by first | decide | omega) ?_
              show am_F _ _ 126 [.ref 88, .int a0, .int a1] [.int (fn_m_ruleAt a1.toNatClampNeg 1 f), .ref 88, .int (fn_m_allAbove (fn_m_ruleAt a0.toNatClampNeg 1 f) f)] (am_S f g) _
              refine am_F.call rfl rfl (x_m_allAbove (fn_m_ruleAt a1.toNatClampNeg 1 f) f g ) (by first | decide | omega) ?_
              show am_F _ _ 129 [.ref 88, .int a0, .int a1] [.int (fn_m_allAbove (fn_m_ruleAt a1.toNatClampNeg 1 f) f), .int (fn_m_allAbove (fn_m_ruleAt a0.toNatClampNeg 1 f) f)] (am_S f g) _
              refine am_F.ops (pc' := 130) (L' := [.ref 88, .int a0, .int a1]) (S' := [.int ((fn_m_allAbove (fn_m_ruleAt a0.toNatClampNeg 1 f) f) &&& (fn_m_allAbove (fn_m_ruleAt a1.toNatClampNeg 1 f) f))]) (μ' := (am_S f g)) 1 rfl ?_
              refine am_F.to (am_To.iteB (pc' := 138) (L2 := [.ref 88, .int a0, .int a1]) (S2 := []) (μ2 := (am_S f g)) (a := false) (b := true) 1 rfl (fun c28 => ?_) (fun c28 => ?_)) ?_
              · intro res9 g9
                show am_F _ _ 137 [.ref 88, .int a0, .int a1] [] (am_S f g) _
                refine am_F.ops (pc' := 138) (L' := [.ref 88, .int a0, .int a1]) (S' := [.int 0]) (μ' := (am_S f g)) 1 rfl ?_
                exact g9
              · intro res9 g9
                show am_F _ _ 133 [.ref 88, .int a0, .int a1] [] (am_S f g) _
                refine am_F.ops (pc' := 138) (L' := [.ref 88, .int a0, .int a1]) (S' := [.int 1]) (μ' := (am_S f g)) 2 rfl ?_
                exact g9
              show am_F _ _ 138 [.ref 88, .int a0, .int a1] [.int (am_b (if ((fn_m_allAbove (fn_m_ruleAt a0.toNatClampNeg 1 f) f) &&& (fn_m_allAbove (fn_m_ruleAt a1.toNatClampNeg 1 f) f)) = 0 then false else true))] (am_S f g) _
              subst hKd
              have hQ := am_KO_s hK
              exact am_F.eq (am_F.ret rfl (am_retB _ _)) hQ
            · show am_F _ _ 137 [.ref 88, .int a0, .int a1] [] (am_S f g) _
              refine am_F.ops (pc' := 138) (L' := [.ref 88, .int a0, .int a1]) (S' := [.int 0]) (μ' := (am_S f g)) 1 rfl ?_
              subst hKd
              have hQ := am_KO_s hK
              exact am_F.eq (am_F.ret rfl rfl) hQ
        · show am_F _ _ 73 [.ref 88, .int a0, .int a1] [] (am_S f g) _
          refine am_F.ops (pc' := 76) (L' := [.ref 88, .int a0, .int a1]) (S' := [.int 5, .int a0, .ref 88]) (μ' := (am_S f g)) 3 rfl ?_
          refine am_F.call rfl rfl (am_D.args (congrArg (fun (x9 : Int32) => ([.ref 88, .int x9, .int 5] : List Value)) (show (a0 : Int32) = nI a0.toNatClampNeg from (am_inbQ q1).1)) (am_D.args (congrArg (fun (x9 : Int32) => ([.ref 88, .int (nI a0.toNatClampNeg), .int x9] : List Value)) (show (5 : Int32) = nI 5 from rfl)) (x_m_ruleAt a0.toNatClampNeg 5 f g (am_inbQ q1).2 (by omega)))) (by first | decide | omega) ?_
          show am_F _ _ 79 [.ref 88, .int a0, .int a1] [.int (fn_m_ruleAt a0.toNatClampNeg 5 f)] (am_S f g) _
          refine am_F.ops (pc' := 83) (L' := [.ref 88, .int a0, .int a1]) (S' := [.int 6, .int a1, .ref 88, .int (fn_m_ruleAt a0.toNatClampNeg 5 f)]) (μ' := (am_S f g)) 3 rfl ?_
          refine am_F.call rfl rfl (am_D.args (congrArg (fun (x9 : Int32) => ([.ref 88, .int x9, .int 6] : List Value)) (show (a1 : Int32) = nI a1.toNatClampNeg from (am_inbQ q3).1)) (am_D.args (congrArg (fun (x9 : Int32) => ([.ref 88, .int (nI a1.toNatClampNeg), .int x9] : List Value)) (show (6 : Int32) = nI 6 from rfl)) (x_m_ruleAt a1.toNatClampNeg 6 f g (am_inbQ q3).2 (by omega)))) (by first | decide | omega) ?_
          show am_F _ _ 86 [.ref 88, .int a0, .int a1] [.int (fn_m_ruleAt a1.toNatClampNeg 6 f), .int (fn_m_ruleAt a0.toNatClampNeg 5 f)] (am_S f g) _
          refine am_F.iteK 1 rfl K hK (fun c31 hK => ?_) (fun c31 hK => ?_)
          · show am_F _ _ 91 [.ref 88, .int a0, .int a1] [] (am_S f g) _
            refine am_F.ops (pc' := 94) (L' := [.ref 88, .int a0, .int a1]) (S' := [.int a1, .int a0, .ref 88]) (μ' := (am_S f g)) 3 rfl ?_
            obtain ⟨y32, hy32, hK⟩ := am_ob_e hKn hK
            refine am_F.call rfl rfl (x_m_isWithin a0 a1 f g  y32 hy32) (by first | decide | omega) ?_
            show am_F _ _ 97 [.ref 88, .int a0, .int a1] [.int (am_b (y32))] (am_S f g) _
            refine am_F.bifK 1 rfl K hK (fun c34 hK => ?_) (fun c34 hK => ?_)
            · show am_F _ _ 109 [.ref 88, .int a0, .int a1] [] (am_S f g) _
              refine am_F.ops (pc' := 113) (L' := [.ref 88, .int a0, .int a1]) (S' := [.int 1, .int a0, .ref 88, .ref 88]) (μ' := (am_S f g)) 4 rfl ?_
              refine am_F.call rfl rfl (am_D.args (congrArg (fun (x9 : Int32) => ([.ref 88, .int x9, .int 1] : List Value)) (show (a0 : Int32) = nI a0.toNatClampNeg from (am_inbQ q1).1)) (am_D.args (congrArg (fun (x9 : Int32) => ([.ref 88, .int (nI a0.toNatClampNeg), .int x9] : List Value)) (show (1 : Int32) = nI 1 from rfl)) (x_m_ruleAt a0.toNatClampNeg 1 f g (am_inbQ q1).2 (by omega)))) (by first | decide | omega) ?_
              show am_F _ _ 116 [.ref 88, .int a0, .int a1] [.int (fn_m_ruleAt a0.toNatClampNeg 1 f), .ref 88] (am_S f g) _
              refine am_F.call rfl rfl (x_m_allAbove (fn_m_ruleAt a0.toNatClampNeg 1 f) f g ) (by first | decide | omega) ?_
              show am_F _ _ 119 [.ref 88, .int a0, .int a1] [.int (fn_m_allAbove (fn_m_ruleAt a0.toNatClampNeg 1 f) f)] (am_S f g) _
              refine am_F.ops (pc' := 123) (L' := [.ref 88, .int a0, .int a1]) (S' := [.int 1, .int a1, .ref 88, .ref 88, .int (fn_m_allAbove (fn_m_ruleAt a0.toNatClampNeg 1 f) f)]) (μ' := (am_S f g)) 4 rfl ?_
              refine am_F.call rfl rfl (am_D.args (congrArg (fun (x9 : Int32) => ([.ref 88, .int x9, .int 1] : List Value)) (show (a1 : Int32) = nI a1.toNatClampNeg from (am_inbQ q3).1)) (am_D.args (congrArg (fun (x9 : Int32) => ([.ref 88, .int (nI a1.toNatClampNeg), .int x9] : List Value)) (show (1 : Int32) = nI 1 from rfl)) (x_m_ruleAt a1.toNatClampNeg 1 f g (am_inbQ q3).2 (by omega)))) (by first | decide | omega) ?_
              show am_F _ _ 126 [.ref 88, .int a0, .int a1] [.int (fn_m_ruleAt a1.toNatClampNeg 1 f), .ref 88, .int (fn_m_allAbove (fn_m_ruleAt a0.toNatClampNeg 1 f) f)] (am_S f g) _
              refine am_F.call rfl rfl (x_m_allAbove (fn_m_ruleAt a1.toNatClampNeg 1 f) f g ) (by first | decide | omega) ?_
              show am_F _ _ 129 [.ref 88, .int a0, .int a1] [.int (fn_m_allAbove (fn_m_ruleAt a1.toNatClampNeg 1 f) f), .int (fn_m_allAbove (fn_m_ruleAt a0.toNatClampNeg 1 f) f)] (am_S f g) _
              refine am_F.ops (pc' := 130) (L' := [.ref 88, .int a0, .int a1]) (S' := [.int ((fn_m_allAbove (fn_m_ruleAt a0.toNatClampNeg 1 f) f) &&& (fn_m_allAbove (fn_m_ruleAt a1.toNatClampNeg 1 f) f))]) (μ' := (am_S f g)) 1 rfl ?_
              refine am_F.to (am_To.iteB (pc' := 138) (L2 := [.ref 88, .int a0, .int a1]) (S2 := []) (μ2 := (am_S f g)) (a := false) (b := true) 1 rfl (fun c39 => ?_) (fun c39 => ?_)) ?_
              · intro res9 g9
                show am_F _ _ 137 [.ref 88, .int a0, .int a1] [] (am_S f g) _
                refine am_F.ops (pc' := 138) (L' := [.ref 88, .int a0, .int a1]) (S' := [.int 0]) (μ' := (am_S f g)) 1 rfl ?_
                exact g9
              · intro res9 g9
                show am_F _ _ 133 [.ref 88, .int a0, .int a1] [] (am_S f g) _
                refine am_F.ops (pc' := 138) (L' := [.ref 88, .int a0, .int a1]) (S' := [.int 1]) (μ' := (am_S f g)) 2 rfl ?_
                exact g9
              show am_F _ _ 138 [.ref 88, .int a0, .int a1] [.int (am_b (if ((fn_m_allAbove (fn_m_ruleAt a0.toNatClampNeg 1 f) f) &&& (fn_m_allAbove (fn_m_ruleAt a1.toNatClampNeg 1 f) f)) = 0 then false else true))] (am_S f g) _
              subst hKd
              have hQ := am_KO_s hK
              exact am_F.eq (am_F.ret rfl (am_retB _ _)) hQ
            · show am_F _ _ 100 [.ref 88, .int a0, .int a1] [] (am_S f g) _
              refine am_F.ops (pc' := 103) (L' := [.ref 88, .int a0, .int a1]) (S' := [.int a0, .int a1, .ref 88]) (μ' := (am_S f g)) 3 rfl ?_
              obtain ⟨y40, hy40, hK⟩ := am_ob_e hKn hK
              refine am_F.call rfl rfl (x_m_isWithin a1 a0 f g  y40 hy40) (by first | decide | omega) ?_
              show am_F _ _ 106 [.ref 88, .int a0, .int a1] [.int (am_b (y40))] (am_S f g) _
              refine am_F.bifK 1 rfl K hK (fun c42 hK => ?_) (fun c42 hK => ?_)
              · show am_F _ _ 109 [.ref 88, .int a0, .int a1] [] (am_S f g) _
                refine am_F.ops (pc' := 113) (L' := [.ref 88, .int a0, .int a1]) (S' := [.int 1, .int a0, .ref 88, .ref 88]) (μ' := (am_S f g)) 4 rfl ?_
                refine am_F.call rfl rfl (am_D.args (congrArg (fun (x9 : Int32) => ([.ref 88, .int x9, .int 1] : List Value)) (show (a0 : Int32) = nI a0.toNatClampNeg from (am_inbQ q1).1)) (am_D.args (congrArg (fun (x9 : Int32) => ([.ref 88, .int (nI a0.toNatClampNeg), .int x9] : List Value)) (show (1 : Int32) = nI 1 from rfl)) (x_m_ruleAt a0.toNatClampNeg 1 f g (am_inbQ q1).2 (by omega)))) (by first | decide | omega) ?_
                show am_F _ _ 116 [.ref 88, .int a0, .int a1] [.int (fn_m_ruleAt a0.toNatClampNeg 1 f), .ref 88] (am_S f g) _
                refine am_F.call rfl rfl (x_m_allAbove (fn_m_ruleAt a0.toNatClampNeg 1 f) f g ) (by first | decide | omega) ?_
                show am_F _ _ 119 [.ref 88, .int a0, .int a1] [.int (fn_m_allAbove (fn_m_ruleAt a0.toNatClampNeg 1 f) f)] (am_S f g) _
                refine am_F.ops (pc' := 123) (L' := [.ref 88, .int a0, .int a1]) (S' := [.int 1, .int a1, .ref 88, .ref 88, .int (fn_m_allAbove (fn_m_ruleAt a0.toNatClampNeg 1 f) f)]) (μ' := (am_S f g)) 4 rfl ?_
                refine am_F.call rfl rfl (am_D.args (congrArg (fun (x9 : Int32) => ([.ref 88, .int x9, .int 1] : List Value)) (show (a1 : Int32) = nI a1.toNatClampNeg from (am_inbQ q3).1)) (am_D.args (congrArg (fun (x9 : Int32) => ([.ref 88, .int (nI a1.toNatClampNeg), .int x9] : List Value)) (show (1 : Int32) = nI 1 from rfl)) (x_m_ruleAt a1.toNatClampNeg 1 f g (am_inbQ q3).2 (by omega)))) (by first | decide | omega) ?_
                show am_F _ _ 126 [.ref 88, .int a0, .int a1] [.int (fn_m_ruleAt a1.toNatClampNeg 1 f), .ref 88, .int (fn_m_allAbove (fn_m_ruleAt a0.toNatClampNeg 1 f) f)] (am_S f g) _
                refine am_F.call rfl rfl (x_m_allAbove (fn_m_ruleAt a1.toNatClampNeg 1 f) f g ) (by first | decide | omega) ?_
                show am_F _ _ 129 [.ref 88, .int a0, .int a1] [.int (fn_m_allAbove (fn_m_ruleAt a1.toNatClampNeg 1 f) f), .int (fn_m_allAbove (fn_m_ruleAt a0.toNatClampNeg 1 f) f)] (am_S f g) _
                refine am_F.ops (pc' := 130) (L' := [.ref 88, .int a0, .int a1]) (S' := [.int ((fn_m_allAbove (fn_m_ruleAt a0.toNatClampNeg 1 f) f) &&& (fn_m_allAbove (fn_m_ruleAt a1.toNatClampNeg 1 f) f))]) (μ' := (am_S f g)) 1 rfl ?_
                refine am_F.to (am_To.iteB (pc' := 138) (L2 := [.ref 88, .int a0, .int a1]) (S2 := []) (μ2 := (am_S f g)) (a := false) (b := true) 1 rfl (fun c47 => ?_) (fun c47 => ?_)) ?_
                · intro res9 g9
                  show am_F _ _ 137 [.ref 88, .int a0, .int a1] [] (am_S f g) _
                  refine am_F.ops (pc' := 138) (L' := [.ref 88, .int a0, .int a1]) (S' := [.int 0]) (μ' := (am_S f g)) 1 rfl ?_
                  exact g9
                · intro res9 g9
                  show am_F _ _ 133 [.ref 88, .int a0, .int a1] [] (am_S f g) _
                  refine am_F.ops (pc' := 138) (L' := [.ref 88, .int a0, .int a1]) (S' := [.int 1]) (μ' := (am_S f g)) 2 rfl ?_
                  exact g9
                show am_F _ _ 138 [.ref 88, .int a0, .int a1] [.int (am_b (if ((fn_m_allAbove (fn_m_ruleAt a0.toNatClampNeg 1 f) f) &&& (fn_m_allAbove (fn_m_ruleAt a1.toNatClampNeg 1 f) f)) = 0 then false else true))] (am_S f g) _
                subst hKd
                have hQ := am_KO_s hK
                exact am_F.eq (am_F.ret rfl (am_retB _ _)) hQ
              · show am_F _ _ 137 [.ref 88, .int a0, .int a1] [] (am_S f g) _
                refine am_F.ops (pc' := 138) (L' := [.ref 88, .int a0, .int a1]) (S' := [.int 0]) (μ' := (am_S f g)) 1 rfl ?_
                subst hKd
                have hQ := am_KO_s hK
                exact am_F.eq (am_F.ret rfl rfl) hQ
          · show am_F _ _ 89 [.ref 88, .int a0, .int a1] [] (am_S f g) _
            refine am_F.ops (pc' := 90) (L' := [.ref 88, .int a0, .int a1]) (S' := [.int 0]) (μ' := (am_S f g)) 1 rfl ?_
            subst hKd
            have hQ := am_KO_s hK
            exact am_F.eq (am_F.ret rfl rfl) hQ
      · show am_F _ _ 46 [.ref 88, .int a0, .int a1] [] (am_S f g) _
        refine am_F.ops (pc' := 49) (L' := [.ref 88, .int a0, .int a1]) (S' := [.int 5, .int a1, .ref 88]) (μ' := (am_S f g)) 3 rfl ?_
        refine am_F.call rfl rfl (am_D.args (congrArg (fun (x9 : Int32) => ([.ref 88, .int x9, .int 5] : List Value)) (show (a1 : Int32) = nI a1.toNatClampNeg from (am_inbQ q3).1)) (am_D.args (congrArg (fun (x9 : Int32) => ([.ref 88, .int (nI a1.toNatClampNeg), .int x9] : List Value)) (show (5 : Int32) = nI 5 from rfl)) (x_m_ruleAt a1.toNatClampNeg 5 f g (am_inbQ q3).2 (by omega)))) (by first | decide | omega) ?_
        show am_F _ _ 52 [.ref 88, .int a0, .int a1] [.int (fn_m_ruleAt a1.toNatClampNeg 5 f)] (am_S f g) _
        refine am_F.ops (pc' := 56) (L' := [.ref 88, .int a0, .int a1]) (S' := [.int 6, .int a0, .ref 88, .int (fn_m_ruleAt a1.toNatClampNeg 5 f)]) (μ' := (am_S f g)) 3 rfl ?_
        refine am_F.call rfl rfl (am_D.args (congrArg (fun (x9 : Int32) => ([.ref 88, .int x9, .int 6] : List Value)) (show (a0 : Int32) = nI a0.toNatClampNeg from (am_inbQ q1).1)) (am_D.args (congrArg (fun (x9 : Int32) => ([.ref 88, .int (nI a0.toNatClampNeg), .int x9] : List Value)) (show (6 : Int32) = nI 6 from rfl)) (x_m_ruleAt a0.toNatClampNeg 6 f g (am_inbQ q1).2 (by omega)))) (by first | decide | omega) ?_
        show am_F _ _ 59 [.ref 88, .int a0, .int a1] [.int (fn_m_ruleAt a0.toNatClampNeg 6 f), .int (fn_m_ruleAt a1.toNatClampNeg 5 f)] (am_S f g) _
        refine am_F.iteK 1 rfl K hK (fun c50 hK => ?_) (fun c50 hK => ?_)
        · show am_F _ _ 89 [.ref 88, .int a0, .int a1] [] (am_S f g) _
          refine am_F.ops (pc' := 90) (L' := [.ref 88, .int a0, .int a1]) (S' := [.int 0]) (μ' := (am_S f g)) 1 rfl ?_
          subst hKd
          have hQ := am_KO_s hK
          exact am_F.eq (am_F.ret rfl rfl) hQ
        · show am_F _ _ 62 [.ref 88, .int a0, .int a1] [] (am_S f g) _
          refine am_F.ops (pc' := 66) (L' := [.ref 88, .int a0, .int a1]) (S' := [.int 6, .int a1, .ref 88]) (μ' := (am_S f g)) 3 rfl ?_
          refine am_F.call rfl rfl (am_D.args (congrArg (fun (x9 : Int32) => ([.ref 88, .int x9, .int 6] : List Value)) (show (a1 : Int32) = nI a1.toNatClampNeg from (am_inbQ q3).1)) (am_D.args (congrArg (fun (x9 : Int32) => ([.ref 88, .int (nI a1.toNatClampNeg), .int x9] : List Value)) (show (6 : Int32) = nI 6 from rfl)) (x_m_ruleAt a1.toNatClampNeg 6 f g (am_inbQ q3).2 (by omega)))) (by first | decide | omega) ?_
          show am_F _ _ 69 [.ref 88, .int a0, .int a1] [.int (fn_m_ruleAt a1.toNatClampNeg 6 f)] (am_S f g) _
          refine am_F.ops (pc' := 70) (L' := [.ref 88, .int a0, .int a1]) (S' := [.int (-1), .int (fn_m_ruleAt a1.toNatClampNeg 6 f)]) (μ' := (am_S f g)) 1 rfl ?_
          refine am_F.iteK 1 rfl K hK (fun c52 hK => ?_) (fun c52 hK => ?_)
          · show am_F _ _ 91 [.ref 88, .int a0, .int a1] [] (am_S f g) _
            refine am_F.ops (pc' := 94) (L' := [.ref 88, .int a0, .int a1]) (S' := [.int a1, .int a0, .ref 88]) (μ' := (am_S f g)) 3 rfl ?_
            obtain ⟨y53, hy53, hK⟩ := am_ob_e hKn hK
            refine am_F.call rfl rfl (x_m_isWithin a0 a1 f g  y53 hy53) (by first | decide | omega) ?_
            show am_F _ _ 97 [.ref 88, .int a0, .int a1] [.int (am_b (y53))] (am_S f g) _
            refine am_F.bifK 1 rfl K hK (fun c55 hK => ?_) (fun c55 hK => ?_)
            · show am_F _ _ 109 [.ref 88, .int a0, .int a1] [] (am_S f g) _
              refine am_F.ops (pc' := 113) (L' := [.ref 88, .int a0, .int a1]) (S' := [.int 1, .int a0, .ref 88, .ref 88]) (μ' := (am_S f g)) 4 rfl ?_
              refine am_F.call rfl rfl (am_D.args (congrArg (fun (x9 : Int32) => ([.ref 88, .int x9, .int 1] : List Value)) (show (a0 : Int32) = nI a0.toNatClampNeg from (am_inbQ q1).1)) (am_D.args (congrArg (fun (x9 : Int32) => ([.ref 88, .int (nI a0.toNatClampNeg), .int x9] : List Value)) (show (1 : Int32) = nI 1 from rfl)) (x_m_ruleAt a0.toNatClampNeg 1 f g (am_inbQ q1).2 (by omega)))) (by first | decide | omega) ?_
              show am_F _ _ 116 [.ref 88, .int a0, .int a1] [.int (fn_m_ruleAt a0.toNatClampNeg 1 f), .ref 88] (am_S f g) _
              refine am_F.call rfl rfl (x_m_allAbove (fn_m_ruleAt a0.toNatClampNeg 1 f) f g ) (by first | decide | omega) ?_
              show am_F _ _ 119 [.ref 88, .int a0, .int a1] [.int (fn_m_allAbove (fn_m_ruleAt a0.toNatClampNeg 1 f) f)] (am_S f g) _
              refine am_F.ops (pc' := 123) (L' := [.ref 88, .int a0, .int a1]) (S' := [.int 1, .int a1, .ref 88, .ref 88, .int (fn_m_allAbove (fn_m_ruleAt a0.toNatClampNeg 1 f) f)]) (μ' := (am_S f g)) 4 rfl ?_
              refine am_F.call rfl rfl (am_D.args (congrArg (fun (x9 : Int32) => ([.ref 88, .int x9, .int 1] : List Value)) (show (a1 : Int32) = nI a1.toNatClampNeg from (am_inbQ q3).1)) (am_D.args (congrArg (fun (x9 : Int32) => ([.ref 88, .int (nI a1.toNatClampNeg), .int x9] : List Value)) (show (1 : Int32) = nI 1 from rfl)) (x_m_ruleAt a1.toNatClampNeg 1 f g (am_inbQ q3).2 (by omega)))) (by first | decide | omega) ?_
              show am_F _ _ 126 [.ref 88, .int a0, .int a1] [.int (fn_m_ruleAt a1.toNatClampNeg 1 f), .ref 88, .int (fn_m_allAbove (fn_m_ruleAt a0.toNatClampNeg 1 f) f)] (am_S f g) _
              refine am_F.call rfl rfl (x_m_allAbove (fn_m_ruleAt a1.toNatClampNeg 1 f) f g ) (by first | decide | omega) ?_
              show am_F _ _ 129 [.ref 88, .int a0, .int a1] [.int (fn_m_allAbove (fn_m_ruleAt a1.toNatClampNeg 1 f) f), .int (fn_m_allAbove (fn_m_ruleAt a0.toNatClampNeg 1 f) f)] (am_S f g) _
              refine am_F.ops (pc' := 130) (L' := [.ref 88, .int a0, .int a1]) (S' := [.int ((fn_m_allAbove (fn_m_ruleAt a0.toNatClampNeg 1 f) f) &&& (fn_m_allAbove (fn_m_ruleAt a1.toNatClampNeg 1 f) f))]) (μ' := (am_S f g)) 1 rfl ?_
              refine am_F.to (am_To.iteB (pc' := 138) (L2 := [.ref 88, .int a0, .int a1]) (S2 := []) (μ2 := (am_S f g)) (a := false) (b := true) 1 rfl (fun c60 => ?_) (fun c60 => ?_)) ?_
              · intro res9 g9
                show am_F _ _ 137 [.ref 88, .int a0, .int a1] [] (am_S f g) _
                refine am_F.ops (pc' := 138) (L' := [.ref 88, .int a0, .int a1]) (S' := [.int 0]) (μ' := (am_S f g)) 1 rfl ?_
                exact g9
              · intro res9 g9
                show am_F _ _ 133 [.ref 88, .int a0, .int a1] [] (am_S f g) _
                refine am_F.ops (pc' := 138) (L' := [.ref 88, .int a0, .int a1]) (S' := [.int 1]) (μ' := (am_S f g)) 2 rfl ?_
                exact g9
              show am_F _ _ 138 [.ref 88, .int a0, .int a1] [.int (am_b (if ((fn_m_allAbove (fn_m_ruleAt a0.toNatClampNeg 1 f) f) &&& (fn_m_allAbove (fn_m_ruleAt a1.toNatClampNeg 1 f) f)) = 0 then false else true))] (am_S f g) _
              subst hKd
              have hQ := am_KO_s hK
              exact am_F.eq (am_F.ret rfl (am_retB _ _)) hQ
            · show am_F _ _ 100 [.ref 88, .int a0, .int a1] [] (am_S f g) _
              refine am_F.ops (pc' := 103) (L' := [.ref 88, .int a0, .int a1]) (S' := [.int a0, .int a1, .ref 88]) (μ' := (am_S f g)) 3 rfl ?_
              obtain ⟨y61, hy61, hK⟩ := am_ob_e hKn hK
              refine am_F.call rfl rfl (x_m_isWithin a1 a0 f g  y61 hy61) (by first | decide | omega) ?_
              show am_F _ _ 106 [.ref 88, .int a0, .int a1] [.int (am_b (y61))] (am_S f g) _
              refine am_F.bifK 1 rfl K hK (fun c63 hK => ?_) (fun c63 hK => ?_)
              · show am_F _ _ 109 [.ref 88, .int a0, .int a1] [] (am_S f g) _
                refine am_F.ops (pc' := 113) (L' := [.ref 88, .int a0, .int a1]) (S' := [.int 1, .int a0, .ref 88, .ref 88]) (μ' := (am_S f g)) 4 rfl ?_
                refine am_F.call rfl rfl (am_D.args (congrArg (fun (x9 : Int32) => ([.ref 88, .int x9, .int 1] : List Value)) (show (a0 : Int32) = nI a0.toNatClampNeg from (am_inbQ q1).1)) (am_D.args (congrArg (fun (x9 : Int32) => ([.ref 88, .int (nI a0.toNatClampNeg), .int x9] : List Value)) (show (1 : Int32) = nI 1 from rfl)) (x_m_ruleAt a0.toNatClampNeg 1 f g (am_inbQ q1).2 (by omega)))) (by first | decide | omega) ?_
                show am_F _ _ 116 [.ref 88, .int a0, .int a1] [.int (fn_m_ruleAt a0.toNatClampNeg 1 f), .ref 88] (am_S f g) _
                refine am_F.call rfl rfl (x_m_allAbove (fn_m_ruleAt a0.toNatClampNeg 1 f) f g ) (by first | decide | omega) ?_
                show am_F _ _ 119 [.ref 88, .int a0, .int a1] [.int (fn_m_allAbove (fn_m_ruleAt a0.toNatClampNeg 1 f) f)] (am_S f g) _
                refine am_F.ops (pc' := 123) (L' := [.ref 88, .int a0, .int a1]) (S' := [.int 1, .int a1, .ref 88, .ref 88, .int (fn_m_allAbove (fn_m_ruleAt a0.toNatClampNeg 1 f) f)]) (μ' := (am_S f g)) 4 rfl ?_
                refine am_F.call rfl rfl (am_D.args (congrArg (fun (x9 : Int32) => ([.ref 88, .int x9, .int 1] : List Value)) (show (a1 : Int32) = nI a1.toNatClampNeg from (am_inbQ q3).1)) (am_D.args (congrArg (fun (x9 : Int32) => ([.ref 88, .int (nI a1.toNatClampNeg), .int x9] : List Value)) (show (1 : Int32) = nI 1 from rfl)) (x_m_ruleAt a1.toNatClampNeg 1 f g (am_inbQ q3).2 (by omega)))) (by first | decide | omega) ?_
                show am_F _ _ 126 [.ref 88, .int a0, .int a1] [.int (fn_m_ruleAt a1.toNatClampNeg 1 f), .ref 88, .int (fn_m_allAbove (fn_m_ruleAt a0.toNatClampNeg 1 f) f)] (am_S f g) _
                refine am_F.call rfl rfl (x_m_allAbove (fn_m_ruleAt a1.toNatClampNeg 1 f) f g ) (by first | decide | omega) ?_
                show am_F _ _ 129 [.ref 88, .int a0, .int a1] [.int (fn_m_allAbove (fn_m_ruleAt a1.toNatClampNeg 1 f) f), .int (fn_m_allAbove (fn_m_ruleAt a0.toNatClampNeg 1 f) f)] (am_S f g) _
                refine am_F.ops (pc' := 130) (L' := [.ref 88, .int a0, .int a1]) (S' := [.int ((fn_m_allAbove (fn_m_ruleAt a0.toNatClampNeg 1 f) f) &&& (fn_m_allAbove (fn_m_ruleAt a1.toNatClampNeg 1 f) f))]) (μ' := (am_S f g)) 1 rfl ?_
                refine am_F.to (am_To.iteB (pc' := 138) (L2 := [.ref 88, .int a0, .int a1]) (S2 := []) (μ2 := (am_S f g)) (a := false) (b := true) 1 rfl (fun c68 => ?_) (fun c68 => ?_)) ?_
                · intro res9 g9
                  show am_F _ _ 137 [.ref 88, .int a0, .int a1] [] (am_S f g) _
                  refine am_F.ops (pc' := 138) (L' := [.ref 88, .int a0, .int a1]) (S' := [.int 0]) (μ' := (am_S f g)) 1 rfl ?_
                  exact g9
                · intro res9 g9
                  show am_F _ _ 133 [.ref 88, .int a0, .int a1] [] (am_S f g) _
                  refine am_F.ops (pc' := 138) (L' := [.ref 88, .int a0, .int a1]) (S' := [.int 1]) (μ' := (am_S f g)) 2 rfl ?_
                  exact g9
                show am_F _ _ 138 [.ref 88, .int a0, .int a1] [.int (am_b (if ((fn_m_allAbove (fn_m_ruleAt a0.toNatClampNeg 1 f) f) &&& (fn_m_allAbove (fn_m_ruleAt a1.toNatClampNeg 1 f) f)) = 0 then false else true))] (am_S f g) _
                subst hKd
                have hQ := am_KO_s hK
                exact am_F.eq (am_F.ret rfl (am_retB _ _)) hQ
              · show am_F _ _ 137 [.ref 88, .int a0, .int a1] [] (am_S f g) _
                refine am_F.ops (pc' := 138) (L' := [.ref 88, .int a0, .int a1]) (S' := [.int 0]) (μ' := (am_S f g)) 1 rfl ?_
                subst hKd
                have hQ := am_KO_s hK
                exact am_F.eq (am_F.ret rfl rfl) hQ
          · show am_F _ _ 73 [.ref 88, .int a0, .int a1] [] (am_S f g) _
            refine am_F.ops (pc' := 76) (L' := [.ref 88, .int a0, .int a1]) (S' := [.int 5, .int a0, .ref 88]) (μ' := (am_S f g)) 3 rfl ?_
            refine am_F.call rfl rfl (am_D.args (congrArg (fun (x9 : Int32) => ([.ref 88, .int x9, .int 5] : List Value)) (show (a0 : Int32) = nI a0.toNatClampNeg from (am_inbQ q1).1)) (am_D.args (congrArg (fun (x9 : Int32) => ([.ref 88, .int (nI a0.toNatClampNeg), .int x9] : List Value)) (show (5 : Int32) = nI 5 from rfl)) (x_m_ruleAt a0.toNatClampNeg 5 f g (am_inbQ q1).2 (by omega)))) (by first | decide | omega) ?_
            show am_F _ _ 79 [.ref 88, .int a0, .int a1] [.int (fn_m_ruleAt a0.toNatClampNeg 5 f)] (am_S f g) _
            refine am_F.ops (pc' := 83) (L' := [.ref 88, .int a0, .int a1]) (S' := [.int 6, .int a1, .ref 88, .int (fn_m_ruleAt a0.toNatClampNeg 5 f)]) (μ' := (am_S f g)) 3 rfl ?_
            refine am_F.call rfl rfl (am_D.args (congrArg (fun (x9 : Int32) => ([.ref 88, .int x9, .int 6] : List Value)) (show (a1 : Int32) = nI a1.toNatClampNeg from (am_inbQ q3).1)) (am_D.args (congrArg (fun (x9 : Int32) => ([.ref 88, .int (nI a1.toNatClampNeg), .int x9] : List Value)) (show (6 : Int32) = nI 6 from rfl)) (x_m_ruleAt a1.toNatClampNeg 6 f g (am_inbQ q3).2 (by omega)))) (by first | decide | omega) ?_
            show am_F _ _ 86 [.ref 88, .int a0, .int a1] [.int (fn_m_ruleAt a1.toNatClampNeg 6 f), .int (fn_m_ruleAt a0.toNatClampNeg 5 f)] (am_S f g) _
            refine am_F.iteK 1 rfl K hK (fun c71 hK => ?_) (fun c71 hK => ?_)
            · show am_F _ _ 91 [.ref 88, .int a0, .int a1] [] (am_S f g) _
              refine am_F.ops (pc' := 94) (L' := [.ref 88, .int a0, .int a1]) (S' := [.int a1, .int a0, .ref 88]) (μ' := (am_S f g)) 3 rfl ?_
              obtain ⟨y72, hy72, hK⟩ := am_ob_e hKn hK
              refine am_F.call rfl rfl (x_m_isWithin a0 a1 f g  y72 hy72) (by first | decide | omega) ?_
              show am_F _ _ 97 [.ref 88, .int a0, .int a1] [.int (am_b (y72))] (am_S f g) _
              refine am_F.bifK 1 rfl K hK (fun c74 hK => ?_) (fun c74 hK => ?_)
              · show am_F _ _ 109 [.ref 88, .int a0, .int a1] [] (am_S f g) _
                refine am_F.ops (pc' := 113) (L' := [.ref 88, .int a0, .int a1]) (S' := [.int 1, .int a0, .ref 88, .ref 88]) (μ' := (am_S f g)) 4 rfl ?_
                refine am_F.call rfl rfl (am_D.args (congrArg (fun (x9 : Int32) => ([.ref 88, .int x9, .int 1] : List Value)) (show (a0 : Int32) = nI a0.toNatClampNeg from (am_inbQ q1).1)) (am_D.args (congrArg (fun (x9 : Int32) => ([.ref 88, .int (nI a0.toNatClampNeg), .int x9] : List Value)) (show (1 : Int32) = nI 1 from rfl)) (x_m_ruleAt a0.toNatClampNeg 1 f g (am_inbQ q1).2 (by omega)))) (by first | decide | omega) ?_
                show am_F _ _ 116 [.ref 88, .int a0, .int a1] [.int (fn_m_ruleAt a0.toNatClampNeg 1 f), .ref 88] (am_S f g) _
                refine am_F.call rfl rfl (x_m_allAbove (fn_m_ruleAt a0.toNatClampNeg 1 f) f g ) (by first | decide | omega) ?_
                show am_F _ _ 119 [.ref 88, .int a0, .int a1] [.int (fn_m_allAbove (fn_m_ruleAt a0.toNatClampNeg 1 f) f)] (am_S f g) _
                refine am_F.ops (pc' := 123) (L' := [.ref 88, .int a0, .int a1]) (S' := [.int 1, .int a1, .ref 88, .ref 88, .int (fn_m_allAbove (fn_m_ruleAt a0.toNatClampNeg 1 f) f)]) (μ' := (am_S f g)) 4 rfl ?_
                refine am_F.call rfl rfl (am_D.args (congrArg (fun (x9 : Int32) => ([.ref 88, .int x9, .int 1] : List Value)) (show (a1 : Int32) = nI a1.toNatClampNeg from (am_inbQ q3).1)) (am_D.args (congrArg (fun (x9 : Int32) => ([.ref 88, .int (nI a1.toNatClampNeg), .int x9] : List Value)) (show (1 : Int32) = nI 1 from rfl)) (x_m_ruleAt a1.toNatClampNeg 1 f g (am_inbQ q3).2 (by omega)))) (by first | decide | omega) ?_
                show am_F _ _ 126 [.ref 88, .int a0, .int a1] [.int (fn_m_ruleAt a1.toNatClampNeg 1 f), .ref 88, .int (fn_m_allAbove (fn_m_ruleAt a0.toNatClampNeg 1 f) f)] (am_S f g) _
                refine am_F.call rfl rfl (x_m_allAbove (fn_m_ruleAt a1.toNatClampNeg 1 f) f g ) (by first | decide | omega) ?_
                show am_F _ _ 129 [.ref 88, .int a0, .int a1] [.int (fn_m_allAbove (fn_m_ruleAt a1.toNatClampNeg 1 f) f), .int (fn_m_allAbove (fn_m_ruleAt a0.toNatClampNeg 1 f) f)] (am_S f g) _
                refine am_F.ops (pc' := 130) (L' := [.ref 88, .int a0, .int a1]) (S' := [.int ((fn_m_allAbove (fn_m_ruleAt a0.toNatClampNeg 1 f) f) &&& (fn_m_allAbove (fn_m_ruleAt a1.toNatClampNeg 1 f) f))]) (μ' := (am_S f g)) 1 rfl ?_
                refine am_F.to (am_To.iteB (pc' := 138) (L2 := [.ref 88, .int a0, .int a1]) (S2 := []) (μ2 := (am_S f g)) (a := false) (b := true) 1 rfl (fun c79 => ?_) (fun c79 => ?_)) ?_
                · intro res9 g9
                  show am_F _ _ 137 [.ref 88, .int a0, .int a1] [] (am_S f g) _
                  refine am_F.ops (pc' := 138) (L' := [.ref 88, .int a0, .int a1]) (S' := [.int 0]) (μ' := (am_S f g)) 1 rfl ?_
                  exact g9
                · intro res9 g9
                  show am_F _ _ 133 [.ref 88, .int a0, .int a1] [] (am_S f g) _
                  refine am_F.ops (pc' := 138) (L' := [.ref 88, .int a0, .int a1]) (S' := [.int 1]) (μ' := (am_S f g)) 2 rfl ?_
                  exact g9
                show am_F _ _ 138 [.ref 88, .int a0, .int a1] [.int (am_b (if ((fn_m_allAbove (fn_m_ruleAt a0.toNatClampNeg 1 f) f) &&& (fn_m_allAbove (fn_m_ruleAt a1.toNatClampNeg 1 f) f)) = 0 then false else true))] (am_S f g) _
                subst hKd
                have hQ := am_KO_s hK
                exact am_F.eq (am_F.ret rfl (am_retB _ _)) hQ
              · show am_F _ _ 100 [.ref 88, .int a0, .int a1] [] (am_S f g) _
                refine am_F.ops (pc' := 103) (L' := [.ref 88, .int a0, .int a1]) (S' := [.int a0, .int a1, .ref 88]) (μ' := (am_S f g)) 3 rfl ?_
                obtain ⟨y80, hy80, hK⟩ := am_ob_e hKn hK
                refine am_F.call rfl rfl (x_m_isWithin a1 a0 f g  y80 hy80) (by first | decide | omega) ?_
                show am_F _ _ 106 [.ref 88, .int a0, .int a1] [.int (am_b (y80))] (am_S f g) _
                refine am_F.bifK 1 rfl K hK (fun c82 hK => ?_) (fun c82 hK => ?_)
                · show am_F _ _ 109 [.ref 88, .int a0, .int a1] [] (am_S f g) _
                  refine am_F.ops (pc' := 113) (L' := [.ref 88, .int a0, .int a1]) (S' := [.int 1, .int a0, .ref 88, .ref 88]) (μ' := (am_S f g)) 4 rfl ?_
                  refine am_F.call rfl rfl (am_D.args (congrArg (fun (x9 : Int32) => ([.ref 88, .int x9, .int 1] : List Value)) (show (a0 : Int32) = nI a0.toNatClampNeg from (am_inbQ q1).1)) (am_D.args (congrArg (fun (x9 : Int32) => ([.ref 88, .int (nI a0.toNatClampNeg), .int x9] : List Value)) (show (1 : Int32) = nI 1 from rfl)) (x_m_ruleAt a0.toNatClampNeg 1 f g (am_inbQ q1).2 (by omega)))) (by first | decide | omega) ?_
                  show am_F _ _ 116 [.ref 88, .int a0, .int a1] [.int (fn_m_ruleAt a0.toNatClampNeg 1 f), .ref 88] (am_S f g) _
                  refine am_F.call rfl rfl (x_m_allAbove (fn_m_ruleAt a0.toNatClampNeg 1 f) f g ) (by first | decide | omega) ?_
                  show am_F _ _ 119 [.ref 88, .int a0, .int a1] [.int (fn_m_allAbove (fn_m_ruleAt a0.toNatClampNeg 1 f) f)] (am_S f g) _
                  refine am_F.ops (pc' := 123) (L' := [.ref 88, .int a0, .int a1]) (S' := [.int 1, .int a1, .ref 88, .ref 88, .int (fn_m_allAbove (fn_m_ruleAt a0.toNatClampNeg 1 f) f)]) (μ' := (am_S f g)) 4 rfl ?_
                  refine am_F.call rfl rfl (am_D.args (congrArg (fun (x9 : Int32) => ([.ref 88, .int x9, .int 1] : List Value)) (show (a1 : Int32) = nI a1.toNatClampNeg from (am_inbQ q3).1)) (am_D.args (congrArg (fun (x9 : Int32) => ([.ref 88, .int (nI a1.toNatClampNeg), .int x9] : List Value)) (show (1 : Int32) = nI 1 from rfl)) (x_m_ruleAt a1.toNatClampNeg 1 f g (am_inbQ q3).2 (by omega)))) (by first | decide | omega) ?_
                  show am_F _ _ 126 [.ref 88, .int a0, .int a1] [.int (fn_m_ruleAt a1.toNatClampNeg 1 f), .ref 88, .int (fn_m_allAbove (fn_m_ruleAt a0.toNatClampNeg 1 f) f)] (am_S f g) _
                  refine am_F.call rfl rfl (x_m_allAbove (fn_m_ruleAt a1.toNatClampNeg 1 f) f g ) (by first | decide | omega) ?_
                  show am_F _ _ 129 [.ref 88, .int a0, .int a1] [.int (fn_m_allAbove (fn_m_ruleAt a1.toNatClampNeg 1 f) f), .int (fn_m_allAbove (fn_m_ruleAt a0.toNatClampNeg 1 f) f)] (am_S f g) _
                  refine am_F.ops (pc' := 130) (L' := [.ref 88, .int a0, .int a1]) (S' := [.int ((fn_m_allAbove (fn_m_ruleAt a0.toNatClampNeg 1 f) f) &&& (fn_m_allAbove (fn_m_ruleAt a1.toNatClampNeg 1 f) f))]) (μ' := (am_S f g)) 1 rfl ?_
                  refine am_F.to (am_To.iteB (pc' := 138) (L2 := [.ref 88, .int a0, .int a1]) (S2 := []) (μ2 := (am_S f g)) (a := false) (b := true) 1 rfl (fun c87 => ?_) (fun c87 => ?_)) ?_
                  · intro res9 g9
                    show am_F _ _ 137 [.ref 88, .int a0, .int a1] [] (am_S f g) _
                    refine am_F.ops (pc' := 138) (L' := [.ref 88, .int a0, .int a1]) (S' := [.int 0]) (μ' := (am_S f g)) 1 rfl ?_
                    exact g9
                  · intro res9 g9
                    show am_F _ _ 133 [.ref 88, .int a0, .int a1] [] (am_S f g) _
                    refine am_F.ops (pc' := 138) (L' := [.ref 88, .int a0, .int a1]) (S' := [.int 1]) (μ' := (am_S f g)) 2 rfl ?_
                    exact g9
                  show am_F _ _ 138 [.ref 88, .int a0, .int a1] [.int (am_b (if ((fn_m_allAbove (fn_m_ruleAt a0.toNatClampNeg 1 f) f) &&& (fn_m_allAbove (fn_m_ruleAt a1.toNatClampNeg 1 f) f)) = 0 then false else true))] (am_S f g) _
                  subst hKd
                  have hQ := am_KO_s hK
                  exact am_F.eq (am_F.ret rfl (am_retB _ _)) hQ
                · show am_F _ _ 137 [.ref 88, .int a0, .int a1] [] (am_S f g) _
                  refine am_F.ops (pc' := 138) (L' := [.ref 88, .int a0, .int a1]) (S' := [.int 0]) (μ' := (am_S f g)) 1 rfl ?_
                  subst hKd
                  have hQ := am_KO_s hK
                  exact am_F.eq (am_F.ret rfl rfl) hQ
            · show am_F _ _ 89 [.ref 88, .int a0, .int a1] [] (am_S f g) _
              refine am_F.ops (pc' := 90) (L' := [.ref 88, .int a0, .int a1]) (S' := [.int 0]) (μ' := (am_S f g)) 1 rfl ?_
              subst hKd
              have hQ := am_KO_s hK
              exact am_F.eq (am_F.ret rfl rfl) hQ
  · show am_F _ _ 33 [.ref 88, .int a0, .int a1] [] (am_S f g) _
    refine am_F.ops (pc' := 34) (L' := [.ref 88, .int a0, .int a1]) (S' := [.int 0]) (μ' := (am_S f g)) 1 rfl ?_
    subst hKd
    have hQ := am_KO_s hK
    exact am_F.eq (am_F.ret rfl rfl) hQ
/-- AccessLatticeModel.chain, with checks -/
noncomputable def st_m_chain_70 (a2 : Int32) (f : Nat → Nat → Int32) (y6 : (Nat → Int32)) : Int32 × Int32 → Option (Int32 × Int32 ⊕ (Int32 × Int32 ⊕ Empty)) := fun z => match z with
  | (a70_4, a70_5) => (if a2 ≤ a70_5 then (some (.inr (.inl (a70_4, a70_5)))) else (am_ob (fn_m_nearer a70_4 false (am_row f 95 y6)) (fun (y11 : Int32) => (some (.inl (y11, a70_5 + 1))))))
noncomputable def lf_m_chain_70 (a0_n : Nat) (a2 : Int32) (f : Nat → Nat → Int32) (y6 : (Nat → Int32)) : Option (Int32 × Int32 ⊕ Empty) := am_while (st_m_chain_70 a2 f y6) (nI a0_n, 0)
noncomputable def fn_m_chain (a0 : Int32) (a1 : Int32) (a2 : Int32) (f : Nat → Nat → Int32) : Option (Int32 × (Nat → Int32)) := (bif (fn_m_isRole a0) then (bif (fn_m_isRole a1) then (if (-1) ≤ a2 then (if ((fn_m_distances ((1 : Int32) <<< (a1 &&& 31)) false f) (a0.toNatClampNeg)) = 99 then (some ((-2), (fn_m_distances ((1 : Int32) <<< (a1 &&& 31)) false f))) else (if a2 ≤ ((fn_m_distances ((1 : Int32) <<< (a1 &&& 31)) false f) (a0.toNatClampNeg)) then (if 0 ≤ a2 then (am_ob (lf_m_chain_70 (a0.toNatClampNeg) a2 f (fn_m_distances ((1 : Int32) <<< (a1 &&& 31)) false f)) (fun zz => Sum.elim (fun (z70 : Int32 × Int32) => (some (z70.1, (fn_m_distances ((1 : Int32) <<< (a1 &&& 31)) false f)))) (fun (z : Empty) => z.elim) zz)) else (some ((fn_m_distances ((1 : Int32) <<< (a1 &&& 31)) false f) (a0.toNatClampNeg), (fn_m_distances ((1 : Int32) <<< (a1 &&& 31)) false f)))) else (some ((-2), (fn_m_distances ((1 : Int32) <<< (a1 &&& 31)) false f))))) else (some ((-1), f 95))) else (some ((-1), f 95))) else (some ((-1), f 95)))
theorem lp_m_chain_70 (a0_n : Nat) (a1_n : Nat) (a2 : Int32) (f : Nat → Nat → Int32) (g : Nat → Nat → Int64) (y6 : (Nat → Int32)) (ha0_n : a0_n < 20) (ha1_n : a1_n < 20) (res : Option Value × am_M) : ∀ (n : Nat) (a70_4 : Int32) (a70_5 : Int32), am_KO (am_KX (fun (z : Int32 × Int32) => am_F 2 am_k_240 91 [.ref 88, .int (nI a0_n), .int (nI a1_n), .int a2, .int z.1, .int z.2] [] (am_S (am_row f 95 y6) g) res) (fun (z : Empty) => True)) (am_wh (st_m_chain_70 a2 f y6) n (a70_4, a70_5)) → am_F 2 am_k_240 70 [.ref 88, .int (nI a0_n), .int (nI a1_n), .int a2, .int a70_4, .int a70_5] [] (am_S (am_row f 95 y6) g) res := by
  intro n
  induction n with
  | zero =>
    intro a70_4 a70_5 hK
    exact False.elim hK
  | succ n ih =>
    intro a70_4 a70_5 hK
    obtain ⟨K, hKd⟩ : ∃ K : Option (Int32 × Int32 ⊕ (Int32 × Int32 ⊕ Empty)) → Prop, K = fun s => am_KO (am_KX (fun (z : Int32 × Int32) => am_F 2 am_k_240 91 [.ref 88, .int (nI a0_n), .int (nI a1_n), .int a2, .int z.1, .int z.2] [] (am_S (am_row f 95 y6) g) res) (fun (z : Empty) => True)) (am_whn (am_wh (st_m_chain_70 a2 f y6) n) s) := ⟨_, rfl⟩
    have hK : K ((st_m_chain_70 a2 f y6) (a70_4, a70_5)) := by rw [am_wh_s] at hK; rw [hKd]; with_reducible exact hK
    have hKn : ¬ K none := by rw [hKd]; exact id
    unfold st_m_chain_70 at hK
    simp only at hK
    refine am_F.ops (pc' := 73) (L' := [.ref 88, .int (nI a0_n), .int (nI a1_n), .int a2, .int a70_4, .int a70_5]) (S' := [.int a2, .int a70_5]) (μ' := (am_S (am_row f 95 y6) g)) 2 rfl ?_
    refine am_F.iteK 1 rfl K hK (fun c10 hK => ?_) (fun c10 hK => ?_)
    · show am_F _ _ 91 [.ref 88, .int (nI a0_n), .int (nI a1_n), .int a2, .int a70_4, .int a70_5] [] (am_S (am_row f 95 y6) g) _
      subst hKd
      exact hK 
    · show am_F _ _ 76 [.ref 88, .int (nI a0_n), .int (nI a1_n), .int a2, .int a70_4, .int a70_5] [] (am_S (am_row f 95 y6) g) _
      refine am_F.ops (pc' := 80) (L' := [.ref 88, .int (nI a0_n), .int (nI a1_n), .int a2, .int a70_4, .int a70_5]) (S' := [.int 0, .int a70_4, .ref 88]) (μ' := (am_S (am_row f 95 y6) g)) 3 rfl ?_
      obtain ⟨y11, hy11, hK⟩ := am_ob_e hKn hK
      refine am_F.call rfl rfl (x_m_nearer a70_4 false (am_row f 95 y6) g  y11 hy11) (by first | decide | omega) ?_
      refine am_F.mem (F' := (am_row f 95 y6)) (G' := g) ?_ (by first | rfl | (funext a; by_cases z0 : a = 95; (subst z0; rfl); simp only [am_ui, am_ul, am_row_ne z0])) (by first | rfl | (funext a; by_cases z0 : a = 95; (subst z0; rfl); simp only [am_ui, am_ul, am_row_ne z0]))
      show am_F _ _ 83 [.ref 88, .int (nI a0_n), .int (nI a1_n), .int a2, .int a70_4, .int a70_5] [.int y11] (am_S (am_row f 95 y6) g) _
      refine am_F.ops (pc' := 70) (L' := [.ref 88, .int (nI a0_n), .int (nI a1_n), .int a2, .int y11, .int (a70_5 + 1)]) (S' := []) (μ' := (am_S (am_row f 95 y6) g)) 3 rfl ?_
      subst hKd
      exact ih y11 (a70_5 + 1) hK
theorem x_m_chain (a0 : Int32) (a1 : Int32) (a2 : Int32) (f : Nat → Nat → Int32) (g : Nat → Nat → Int64)  (z0 : Int32 × (Nat → Int32)) (hz0 : (fn_m_chain a0 a1 a2 f) = some z0) : am_D 2 240 6 [.ref 88, .int a0, .int a1, .int a2] (am_S f g) (some (Value.int z0.1), am_S (am_row f 95 z0.2) g) := by
  refine am_D.of (code := am_k_240) rfl (L0 := [.ref 88, .int a0, .int a1, .int a2, am_un, am_un]) rfl ?_
  generalize hres : (some (Value.int z0.1), am_S (am_row f 95 z0.2) g) = res
  obtain ⟨K, hKd⟩ : ∃ K : Option (Int32 × (Nat → Int32)) → Prop, K = am_KO (fun z => (some (Value.int z.1), am_S (am_row f 95 z.2) g) = res) := ⟨_, rfl⟩
  have hK : K (fn_m_chain a0 a1 a2 f) := by rw [hKd, hz0]; exact hres
  have hKn : ¬ K none := by rw [hKd]; exact id
  clear hres hz0
  unfold fn_m_chain at hK
  refine am_F.ops (pc' := 1) (L' := [.ref 88, .int a0, .int a1, .int a2, am_un, am_un]) (S' := [.int a0]) (μ' := (am_S f g)) 1 rfl ?_
  refine am_F.call rfl rfl (x_m_isRole a0 f g ) (by first | decide | omega) ?_
  show am_F _ _ 4 [.ref 88, .int a0, .int a1, .int a2, am_un, am_un] [.int (am_b (fn_m_isRole a0))] (am_S f g) _
  refine am_F.bifK 1 rfl K hK (fun c2 hK => ?_) (fun c2 hK => ?_)
  · obtain ⟨a0_n, ha0_n, ea0_n⟩ := am_mRole c2
    subst ea0_n
    try simp only [nI_clamp (show a0_n < 2147483648 by omega)] at hK
    show am_F _ _ 7 [.ref 88, .int (nI a0_n), .int a1, .int a2, am_un, am_un] [] (am_S f g) _
    refine am_F.ops (pc' := 8) (L' := [.ref 88, .int (nI a0_n), .int a1, .int a2, am_un, am_un]) (S' := [.int a1]) (μ' := (am_S f g)) 1 rfl ?_
    refine am_F.call rfl rfl (x_m_isRole a1 f g ) (by first | decide | omega) ?_
    show am_F _ _ 11 [.ref 88, .int (nI a0_n), .int a1, .int a2, am_un, am_un] [.int (am_b (fn_m_isRole a1))] (am_S f g) _
    refine am_F.bifK 1 rfl K hK (fun c4 hK => ?_) (fun c4 hK => ?_)
    · obtain ⟨a1_n, ha1_n, ea1_n⟩ := am_mRole c4
      subst ea1_n
      try simp only [nI_clamp (show a1_n < 2147483648 by omega)] at hK
      show am_F _ _ 14 [.ref 88, .int (nI a0_n), .int (nI a1_n), .int a2, am_un, am_un] [] (am_S f g) _
      refine am_F.ops (pc' := 16) (L' := [.ref 88, .int (nI a0_n), .int (nI a1_n), .int a2, am_un, am_un]) (S' := [.int (-1), .int a2]) (μ' := (am_S f g)) 2 rfl ?_
      refine am_F.iteK 1 rfl K hK (fun c5 hK => ?_) (fun c5 hK => ?_)
      · show am_F _ _ 21 [.ref 88, .int (nI a0_n), .int (nI a1_n), .int a2, am_un, am_un] [] (am_S f g) _
        refine am_F.ops (pc' := 26) (L' := [.ref 88, .int (nI a0_n), .int (nI a1_n), .int a2, am_un, am_un]) (S' := [.int 0, .int ((1 : Int32) <<< ((nI a1_n) &&& 31)), .ref 88]) (μ' := (am_S f g)) 5 rfl ?_
        obtain ⟨y6, hy6⟩ : ∃ z, (fn_m_distances ((1 : Int32) <<< ((nI a1_n) &&& 31)) false f) = z := ⟨_, rfl⟩
        (try rw [hy6] at hK)
        refine am_F.call rfl rfl (x_m_distances ((1 : Int32) <<< ((nI a1_n) &&& 31)) false f g ) (by first | decide | omega) ?_
        (try rw [hy6])
        refine am_F.mem (F' := (am_row f 95 y6)) (G' := g) ?_ (by first | rfl | (funext a; by_cases z0 : a = 95; (subst z0; rfl); simp only [am_ui, am_ul, am_row_ne z0])) (by first | rfl | (funext a; by_cases z0 : a = 95; (subst z0; rfl); simp only [am_ui, am_ul, am_row_ne z0]))
        show am_F _ _ 29 [.ref 88, .int (nI a0_n), .int (nI a1_n), .int a2, am_un, am_un] [] (am_S (am_row f 95 y6) g) _
        refine am_F.ops (pc' := 34) (L' := [.ref 88, .int (nI a0_n), .int (nI a1_n), .int a2, am_un, am_un]) (S' := [.int (nI a0_n), .ref 95]) (μ' := (am_S (am_row f 95 y6) g)) 3 rfl ?_
        refine am_F.ialE (m := a0_n) (N := 20) rfl rfl rfl rfl (by omega) (by decide) ?_
        show am_F _ _ 35 [.ref 88, .int (nI a0_n), .int (nI a1_n), .int a2, am_un, am_un] [.int (y6 a0_n)] (am_S (am_row f 95 y6) g) _
        refine am_F.ops (pc' := 37) (L' := [.ref 88, .int (nI a0_n), .int (nI a1_n), .int a2, am_un, am_un]) (S' := [.int 99, .int (y6 a0_n)]) (μ' := (am_S (am_row f 95 y6) g)) 1 rfl ?_
        refine am_F.iteK 1 rfl K hK (fun c7 hK => ?_) (fun c7 hK => ?_)
        · show am_F _ _ 50 [.ref 88, .int (nI a0_n), .int (nI a1_n), .int a2, am_un, am_un] [] (am_S (am_row f 95 y6) g) _
          refine am_F.ops (pc' := 52) (L' := [.ref 88, .int (nI a0_n), .int (nI a1_n), .int a2, am_un, am_un]) (S' := [.int (-2)]) (μ' := (am_S (am_row f 95 y6) g)) 1 rfl ?_
          subst hKd
          have hQ := am_KO_s hK
          exact am_F.eq (am_F.ret rfl rfl) hQ
        · show am_F _ _ 40 [.ref 88, .int (nI a0_n), .int (nI a1_n), .int a2, am_un, am_un] [] (am_S (am_row f 95 y6) g) _
          refine am_F.ops (pc' := 46) (L' := [.ref 88, .int (nI a0_n), .int (nI a1_n), .int a2, am_un, am_un]) (S' := [.int (nI a0_n), .ref 95, .int a2]) (μ' := (am_S (am_row f 95 y6) g)) 4 rfl ?_
          refine am_F.ialE (m := a0_n) (N := 20) rfl rfl rfl rfl (by omega) (by decide) ?_
          show am_F _ _ 47 [.ref 88, .int (nI a0_n), .int (nI a1_n), .int a2, am_un, am_un] [.int (y6 a0_n), .int a2] (am_S (am_row f 95 y6) g) _
          refine am_F.iteK 1 rfl K hK (fun c8 hK => ?_) (fun c8 hK => ?_)
          · show am_F _ _ 53 [.ref 88, .int (nI a0_n), .int (nI a1_n), .int a2, am_un, am_un] [] (am_S (am_row f 95 y6) g) _
            refine am_F.ops (pc' := 54) (L' := [.ref 88, .int (nI a0_n), .int (nI a1_n), .int a2, am_un, am_un]) (S' := [.int a2]) (μ' := (am_S (am_row f 95 y6) g)) 1 rfl ?_
            refine am_F.iteK 1 rfl K hK (fun c9 hK => ?_) (fun c9 hK => ?_)
            · show am_F _ _ 64 [.ref 88, .int (nI a0_n), .int (nI a1_n), .int a2, am_un, am_un] [] (am_S (am_row f 95 y6) g) _
              refine am_F.ops (pc' := 70) (L' := [.ref 88, .int (nI a0_n), .int (nI a1_n), .int a2, .int (nI a0_n), .int 0]) (S' := []) (μ' := (am_S (am_row f 95 y6) g)) 4 rfl ?_
              obtain ⟨z70, hz70, hK⟩ := am_ob_e hKn hK
              obtain ⟨nz70, gz70⟩ := am_while_s (show am_while (st_m_chain_70 a2 f y6) (nI a0_n, 0) = some z70 from hz70)
              refine lp_m_chain_70 a0_n a1_n a2 f g y6 ha0_n ha1_n _ nz70 (nI a0_n) 0  ?_
              rw [gz70]
              rcases z70 with z70 | z
              · skip
                show am_F _ _ 91 [.ref 88, .int (nI a0_n), .int (nI a1_n), .int a2, .int z70.1, .int z70.2] [] (am_S (am_row f 95 y6) g) _
                (try simp only [Sum.elim_inl] at hK)
                refine am_F.ops (pc' := 93) (L' := [.ref 88, .int (nI a0_n), .int (nI a1_n), .int a2, .int z70.1, .int z70.2]) (S' := [.int z70.1]) (μ' := (am_S (am_row f 95 y6) g)) 1 rfl ?_
                subst hKd
                have hQ := am_KO_s hK
                exact am_F.eq (am_F.ret rfl rfl) hQ
              · exact z.elim
            · show am_F _ _ 57 [.ref 88, .int (nI a0_n), .int (nI a1_n), .int a2, am_un, am_un] [] (am_S (am_row f 95 y6) g) _
              refine am_F.ops (pc' := 62) (L' := [.ref 88, .int (nI a0_n), .int (nI a1_n), .int a2, am_un, am_un]) (S' := [.int (nI a0_n), .ref 95]) (μ' := (am_S (am_row f 95 y6) g)) 3 rfl ?_
              refine am_F.ialE (m := a0_n) (N := 20) rfl rfl rfl rfl (by omega) (by decide) ?_
              show am_F _ _ 63 [.ref 88, .int (nI a0_n), .int (nI a1_n), .int a2, am_un, am_un] [.int (y6 a0_n)] (am_S (am_row f 95 y6) g) _
              subst hKd
              have hQ := am_KO_s hK
              exact am_F.eq (am_F.ret rfl rfl) hQ
          · show am_F _ _ 50 [.ref 88, .int (nI a0_n), .int (nI a1_n), .int a2, am_un, am_un] [] (am_S (am_row f 95 y6) g) _
            refine am_F.ops (pc' := 52) (L' := [.ref 88, .int (nI a0_n), .int (nI a1_n), .int a2, am_un, am_un]) (S' := [.int (-2)]) (μ' := (am_S (am_row f 95 y6) g)) 1 rfl ?_
            subst hKd
            have hQ := am_KO_s hK
            exact am_F.eq (am_F.ret rfl rfl) hQ
      · show am_F _ _ 19 [.ref 88, .int (nI a0_n), .int (nI a1_n), .int a2, am_un, am_un] [] (am_S f g) _
        refine am_F.ops (pc' := 20) (L' := [.ref 88, .int (nI a0_n), .int (nI a1_n), .int a2, am_un, am_un]) (S' := [.int (-1)]) (μ' := (am_S f g)) 1 rfl ?_
        refine am_F.mem (F' := (am_row f 95 (f 95))) (G' := g) ?_ (by first | rfl | (funext a; by_cases z0 : a = 95; (subst z0; rfl); simp only [am_ui, am_ul, am_row_ne z0])) (by first | rfl | (funext a; by_cases z0 : a = 95; (subst z0; rfl); simp only [am_ui, am_ul, am_row_ne z0]))
        subst hKd
        have hQ := am_KO_s hK
        exact am_F.eq (am_F.ret rfl rfl) hQ
    · show am_F _ _ 19 [.ref 88, .int (nI a0_n), .int a1, .int a2, am_un, am_un] [] (am_S f g) _
      refine am_F.ops (pc' := 20) (L' := [.ref 88, .int (nI a0_n), .int a1, .int a2, am_un, am_un]) (S' := [.int (-1)]) (μ' := (am_S f g)) 1 rfl ?_
      refine am_F.mem (F' := (am_row f 95 (f 95))) (G' := g) ?_ (by first | rfl | (funext a; by_cases z0 : a = 95; (subst z0; rfl); simp only [am_ui, am_ul, am_row_ne z0])) (by first | rfl | (funext a; by_cases z0 : a = 95; (subst z0; rfl); simp only [am_ui, am_ul, am_row_ne z0]))
      subst hKd
      have hQ := am_KO_s hK
      exact am_F.eq (am_F.ret rfl rfl) hQ
  · show am_F _ _ 19 [.ref 88, .int a0, .int a1, .int a2, am_un, am_un] [] (am_S f g) _
    refine am_F.ops (pc' := 20) (L' := [.ref 88, .int a0, .int a1, .int a2, am_un, am_un]) (S' := [.int (-1)]) (μ' := (am_S f g)) 1 rfl ?_
    refine am_F.mem (F' := (am_row f 95 (f 95))) (G' := g) ?_ (by first | rfl | (funext a; by_cases z0 : a = 95; (subst z0; rfl); simp only [am_ui, am_ul, am_row_ne z0])) (by first | rfl | (funext a; by_cases z0 : a = 95; (subst z0; rfl); simp only [am_ui, am_ul, am_row_ne z0]))
    subst hKd
    have hQ := am_KO_s hK
    exact am_F.eq (am_F.ret rfl rfl) hQ
/-- AccessLatticeModel.under, with checks -/
noncomputable def st_m_under_13 (a0_n : Nat) (f : Nat → Nat → Int32) : Nat → Int32 → Option (Int32 ⊕ (Int32 ⊕ Empty)) := fun i13 a13_2 => (am_ob (fn_m_depth (nI i13) (nI a0_n) f) (fun (y3 : Int32) => (some (.inl (a13_2 ||| (if y3 ≤ 0 then 0 else (1 : Int32) <<< ((nI i13) &&& 31)))))))
noncomputable def lf_m_under_13 (a0_n : Nat) (f : Nat → Nat → Int32) : Option (Int32 ⊕ Empty) := am_forO (st_m_under_13 a0_n f) 16 0 0
noncomputable def fn_m_under (a0 : Int32) (f : Nat → Nat → Int32) : Option (Int32) := (bif (fn_m_isOne a0) then (am_ob (lf_m_under_13 (a0.toNatClampNeg) f) (fun zz => Sum.elim (fun (z13 : Int32) => (some z13)) (fun (z : Empty) => z.elim) zz)) else (some (-1)))
theorem lp_m_under_13 (a0_n : Nat) (f : Nat → Nat → Int32) (g : Nat → Nat → Int64) (ha0_n : a0_n < 16) (res : Option Value × am_M) : ∀ (n i13 : Nat) (a13_2 : Int32) , i13 + n = 16 → am_KO (am_KX (fun (z : Int32) => ∀ (wc13 : Value), am_F 2 am_k_241 44 [.ref 88, .int (nI a0_n), .int z, wc13] [] (am_S f g) res) (fun (z : Empty) => True)) (am_forO (st_m_under_13 a0_n f) n i13 a13_2) → am_F 2 am_k_241 13 [.ref 88, .int (nI a0_n), .int a13_2, .int (nI i13)] [] (am_S f g) res := by
  intro n
  induction n with
  | zero =>
    intro i13 a13_2 hi hK
    refine am_F.pos 3 rfl (by show 16 ≤ nI i13; rw [show (16 : Int32) = nI 16 from rfl]; exact nI_le (by omega) (by omega)) ?_
    exact hK _
  | succ n ih =>
    intro i13 a13_2 hi hK
    refine am_F.neg 3 rfl (by show ¬ 16 ≤ nI i13; rw [show (16 : Int32) = nI 16 from rfl]; exact nI_ge (by omega) (by omega)) ?_
    have hb13 : i13 < 16 := by omega
    show am_F _ _ 19 [.ref 88, .int (nI a0_n), .int a13_2, .int (nI i13)] [] (am_S f g) _
    obtain ⟨K, hKd⟩ : ∃ K : Option (Int32 ⊕ (Int32 ⊕ Empty)) → Prop, K = fun s => am_KO (am_KX (fun (z : Int32) => ∀ (wc13 : Value), am_F 2 am_k_241 44 [.ref 88, .int (nI a0_n), .int z, wc13] [] (am_S f g) res) (fun (z : Empty) => True)) (am_whn (fun z => am_forO (st_m_under_13 a0_n f) n (i13 + 1) z) s) := ⟨_, rfl⟩
    have hK : K ((st_m_under_13 a0_n f) i13 a13_2) := by rw [am_forO_s] at hK; rw [hKd]; with_reducible exact hK
    have hKn : ¬ K none := by rw [hKd]; exact id
    unfold st_m_under_13 at hK
    refine am_F.ops (pc' := 23) (L' := [.ref 88, .int (nI a0_n), .int a13_2, .int (nI i13)]) (S' := [.int (nI a0_n), .int (nI i13), .ref 88, .int a13_2]) (μ' := (am_S f g)) 4 rfl ?_
    obtain ⟨y3, hy3, hK⟩ := am_ob_e hKn hK
    refine am_F.call rfl rfl (x_m_depth (nI i13) (nI a0_n) f g  y3 hy3) (by first | decide | omega) ?_
    show am_F _ _ 26 [.ref 88, .int (nI a0_n), .int a13_2, .int (nI i13)] [.int y3, .int a13_2] (am_S f g) _
    refine am_F.to (am_To.ite (pc' := 36) (L2 := [.ref 88, .int (nI a0_n), .int a13_2, .int (nI i13)]) (S2 := [.int a13_2]) (μ2 := (am_S f g)) (a := 0) (b := (1 : Int32) <<< ((nI i13) &&& 31)) 1 rfl (fun c4 => ?_) (fun c4 => ?_)) ?_
    · intro res9 g9
      show am_F _ _ 35 [.ref 88, .int (nI a0_n), .int a13_2, .int (nI i13)] [.int a13_2] (am_S f g) _
      refine am_F.ops (pc' := 36) (L' := [.ref 88, .int (nI a0_n), .int a13_2, .int (nI i13)]) (S' := [.int 0, .int a13_2]) (μ' := (am_S f g)) 1 rfl ?_
      exact g9
    · intro res9 g9
      show am_F _ _ 29 [.ref 88, .int (nI a0_n), .int a13_2, .int (nI i13)] [.int a13_2] (am_S f g) _
      refine am_F.ops (pc' := 36) (L' := [.ref 88, .int (nI a0_n), .int a13_2, .int (nI i13)]) (S' := [.int ((1 : Int32) <<< ((nI i13) &&& 31)), .int a13_2]) (μ' := (am_S f g)) 4 rfl ?_
      exact g9
    show am_F _ _ 36 [.ref 88, .int (nI a0_n), .int a13_2, .int (nI i13)] [.int (if y3 ≤ 0 then 0 else (1 : Int32) <<< ((nI i13) &&& 31)), .int a13_2] (am_S f g) _
    refine am_F.ops (pc' := 13) (L' := [.ref 88, .int (nI a0_n), .int (a13_2 ||| (if y3 ≤ 0 then 0 else (1 : Int32) <<< ((nI i13) &&& 31))), .int ((nI i13) + 1)]) (S' := []) (μ' := (am_S f g)) 4 rfl ?_
    rw [nI_1 i13]
    subst hKd
    exact ih (i13 + 1) (a13_2 ||| (if y3 ≤ 0 then 0 else (1 : Int32) <<< ((nI i13) &&& 31))) (by omega) hK
theorem x_m_under (a0 : Int32) (f : Nat → Nat → Int32) (g : Nat → Nat → Int64)  (z0 : Int32) (hz0 : (fn_m_under a0 f) = some z0) : am_D 2 241 4 [.ref 88, .int a0] (am_S f g) (some (Value.int z0), am_S f g) := by
  refine am_D.of (code := am_k_241) rfl (L0 := [.ref 88, .int a0, am_un, am_un]) rfl ?_
  generalize hres : (some (Value.int z0), am_S f g) = res
  obtain ⟨K, hKd⟩ : ∃ K : Option (Int32) → Prop, K = am_KO (fun z => (some (Value.int z), am_S f g) = res) := ⟨_, rfl⟩
  have hK : K (fn_m_under a0 f) := by rw [hKd, hz0]; exact hres
  have hKn : ¬ K none := by rw [hKd]; exact id
  clear hres hz0
  unfold fn_m_under at hK
  refine am_F.ops (pc' := 1) (L' := [.ref 88, .int a0, am_un, am_un]) (S' := [.int a0]) (μ' := (am_S f g)) 1 rfl ?_
  refine am_F.call rfl rfl (x_m_isOne a0 f g ) (by first | decide | omega) ?_
  show am_F _ _ 4 [.ref 88, .int a0, am_un, am_un] [.int (am_b (fn_m_isOne a0))] (am_S f g) _
  refine am_F.bifK 1 rfl K hK (fun c2 hK => ?_) (fun c2 hK => ?_)
  · obtain ⟨a0_n, ha0_n, ea0_n⟩ := am_mOne c2
    subst ea0_n
    try simp only [nI_clamp (show a0_n < 2147483648 by omega)] at hK
    show am_F _ _ 9 [.ref 88, .int (nI a0_n), am_un, am_un] [] (am_S f g) _
    refine am_F.ops (pc' := 13) (L' := [.ref 88, .int (nI a0_n), .int 0, .int 0]) (S' := []) (μ' := (am_S f g)) 4 rfl ?_
    obtain ⟨z13, hz13, hK⟩ := am_ob_e hKn hK
    show am_F _ _ 13 [.ref 88, .int (nI a0_n), .int 0, .int (nI 0)] [] (am_S f g) _
    refine lp_m_under_13 a0_n f g ha0_n _ 16 0 0  (by omega) ?_
    rw [show am_forO (st_m_under_13 a0_n f) 16 0 0 = (lf_m_under_13 a0_n f) from rfl, hz13]
    rcases z13 with z13 | z
    · intro wc13
      show am_F _ _ 44 [.ref 88, .int (nI a0_n), .int z13, wc13] [] (am_S f g) _
      (try simp only [Sum.elim_inl] at hK)
      refine am_F.ops (pc' := 45) (L' := [.ref 88, .int (nI a0_n), .int z13, wc13]) (S' := [.int z13]) (μ' := (am_S f g)) 1 rfl ?_
      subst hKd
      have hQ := am_KO_s hK
      exact am_F.eq (am_F.ret rfl rfl) hQ
    · exact z.elim
  · show am_F _ _ 7 [.ref 88, .int a0, am_un, am_un] [] (am_S f g) _
    refine am_F.ops (pc' := 8) (L' := [.ref 88, .int a0, am_un, am_un]) (S' := [.int (-1)]) (μ' := (am_S f g)) 1 rfl ?_
    subst hKd
    have hQ := am_KO_s hK
    exact am_F.eq (am_F.ret rfl rfl) hQ
/-- AccessLatticeModel.back, with checks -/
noncomputable def fn_m_back (f : Nat → Nat → Int32) : Option (Int32 × (Nat → Int32) × (Nat → Int32)) := (if (f 88 3) = 0 then (some ((-5), f 89, f 92)) else (am_ob (fn_m_lattice (am_row f 89 (fn_m_copiesIS f))) (fun (y3 : (Nat → Int32)) => (some ((fn_m_copiesIS f) 200, (fn_m_copiesIS f), y3)))))
theorem x_m_back (f : Nat → Nat → Int32) (g : Nat → Nat → Int64)  (z0 : Int32 × (Nat → Int32) × (Nat → Int32)) (hz0 : (fn_m_back f) = some z0) : am_D 2 246 1 [.ref 88] (am_S f g) (some (Value.int z0.1), am_S (am_row (am_row f 89 z0.2.1) 92 z0.2.2) g) := by
  refine am_D.of (code := am_k_246) rfl (L0 := [.ref 88]) rfl ?_
  generalize hres : (some (Value.int z0.1), am_S (am_row (am_row f 89 z0.2.1) 92 z0.2.2) g) = res
  obtain ⟨K, hKd⟩ : ∃ K : Option (Int32 × (Nat → Int32) × (Nat → Int32)) → Prop, K = am_KO (fun z => (some (Value.int z.1), am_S (am_row (am_row f 89 z.2.1) 92 z.2.2) g) = res) := ⟨_, rfl⟩
  have hK : K (fn_m_back f) := by rw [hKd, hz0]; exact hres
  have hKn : ¬ K none := by rw [hKd]; exact id
  clear hres hz0
  unfold fn_m_back at hK
  refine am_F.ops (pc' := 4) (L' := [.ref 88]) (S' := [.int (f 88 3)]) (μ' := (am_S f g)) 2 rfl ?_
  refine am_F.iteK 1 rfl K hK (fun c1 hK => ?_) (fun c1 hK => ?_)
  · show am_F _ _ 7 [.ref 88] [] (am_S f g) _
    refine am_F.ops (pc' := 9) (L' := [.ref 88]) (S' := [.int (-5)]) (μ' := (am_S f g)) 1 rfl ?_
    refine am_F.mem (F' := (am_row (am_row f 89 (f 89)) 92 (f 92))) (G' := g) ?_ (by first | rfl | (funext a; by_cases z0 : a = 89; (subst z0; rfl); by_cases z1 : a = 92; (subst z1; rfl); simp only [am_ui, am_ul, am_row_ne z0, am_row_ne z1])) (by first | rfl | (funext a; by_cases z0 : a = 89; (subst z0; rfl); by_cases z1 : a = 92; (subst z1; rfl); simp only [am_ui, am_ul, am_row_ne z0, am_row_ne z1]))
    subst hKd
    have hQ := am_KO_s hK
    exact am_F.eq (am_F.ret rfl rfl) hQ
  · show am_F _ _ 10 [.ref 88] [] (am_S f g) _
    refine am_F.ops (pc' := 18) (L' := [.ref 88]) (S' := [.ref 89, .ref 90]) (μ' := (am_S f g)) 4 rfl ?_
    obtain ⟨y2, hy2⟩ : ∃ z, (fn_m_copiesIS f) = z := ⟨_, rfl⟩
    (try rw [hy2] at hK)
    refine am_F.call rfl rfl (x_m_copiesIS  f g ) (by first | decide | omega) ?_
    (try rw [hy2])
    refine am_F.mem (F' := (am_row f 89 y2)) (G' := g) ?_ (by first | rfl | (funext a; by_cases z0 : a = 89; (subst z0; rfl); simp only [am_ui, am_ul, am_row_ne z0])) (by first | rfl | (funext a; by_cases z0 : a = 89; (subst z0; rfl); simp only [am_ui, am_ul, am_row_ne z0]))
    show am_F _ _ 21 [.ref 88] [] (am_S (am_row f 89 y2) g) _
    refine am_F.ops (pc' := 22) (L' := [.ref 88]) (S' := [.ref 88]) (μ' := (am_S (am_row f 89 y2) g)) 1 rfl ?_
    obtain ⟨y3, hy3, hK⟩ := am_ob_e hKn hK
    refine am_F.call rfl rfl (x_m_lattice  (am_row f 89 y2) g  y3 hy3) (by first | decide | omega) ?_
    refine am_F.mem (F' := (am_row (am_row f 89 y2) 92 y3)) (G' := g) ?_ (by first | rfl | (funext a; by_cases z0 : a = 89; (subst z0; rfl); by_cases z1 : a = 92; (subst z1; rfl); simp only [am_ui, am_ul, am_row_ne z0, am_row_ne z1])) (by first | rfl | (funext a; by_cases z0 : a = 89; (subst z0; rfl); by_cases z1 : a = 92; (subst z1; rfl); simp only [am_ui, am_ul, am_row_ne z0, am_row_ne z1]))
    show am_F _ _ 25 [.ref 88] [] (am_S (am_row (am_row f 89 y2) 92 y3) g) _
    refine am_F.ops (pc' := 33) (L' := [.ref 88]) (S' := [.int (y2 200)]) (μ' := (am_S (am_row (am_row f 89 y2) 92 y3) g)) 4 rfl ?_
    subst hKd
    have hQ := am_KO_s hK
    exact am_F.eq (am_F.ret rfl rfl) hQ
/-- AccessLatticeModel.answer, with checks -/
noncomputable def st_m_answer_11 (a0 : Int32) (a1 : Int32) (a2 : Int32) (f : Nat → Nat → Int32) (a3_4 : Int32) : Nat → (Nat → Int32) → Option ((Nat → Int32) ⊕ ((Nat → Int32) ⊕ Int32 × (Nat → Int32))) := fun i11 r11_88 => (if (fn_m_ruleAt i11 0 (am_row f 88 r11_88)) = a3_4 then (am_chk (am_inb a0 16 = true) (bif (fn_m_has (f 94 a0.toNatClampNeg) (fn_m_ruleAt i11 1 (am_row f 88 r11_88))) then (am_ob (fn_m_fits (nI i11) a0 a1 a2 (am_row f 88 r11_88)) (fun (y42 : Bool × (Nat → Int32)) => (bif (y42.1) then (if a3_4 = 1 then (some (.inr (.inr (2, upd y42.2 24 (nI i11))))) else (some (.inr (.inr (1, upd y42.2 24 (nI i11)))))) else (some (.inl y42.2))))) else (some (.inl r11_88)))) else (some (.inl r11_88)))
noncomputable def lf_m_answer_11 (a0 : Int32) (a1 : Int32) (a2 : Int32) (f : Nat → Nat → Int32) (a3_4 : Int32) (r3_88 : Nat → Int32) : Option ((Nat → Int32) ⊕ Int32 × (Nat → Int32)) := am_forO (st_m_answer_11 a0 a1 a2 f a3_4) ((f 89 202).toNatClampNeg) 0 r3_88
noncomputable def st_m_answer_3 (a0 : Int32) (a1 : Int32) (a2 : Int32) (f : Nat → Nat → Int32) : Int32 × (Nat → Int32) → Option (Int32 × (Nat → Int32) ⊕ (Int32 × (Nat → Int32) ⊕ Int32 × (Nat → Int32))) := fun z => match z with
  | (a3_4, r3_88) => (if a3_4 < 0 then (some (.inr (.inl (a3_4, r3_88)))) else (am_ob (lf_m_answer_11 a0 a1 a2 f a3_4 r3_88) (fun zz => Sum.elim (fun (z11 : (Nat → Int32)) => (some (.inl (a3_4 + (-1), z11)))) (fun (z : Int32 × (Nat → Int32)) => (some (.inr (.inr z)))) zz)))
noncomputable def lf_m_answer_3 (a0 : Int32) (a1 : Int32) (a2 : Int32) (f : Nat → Nat → Int32) : Option (Int32 × (Nat → Int32) ⊕ Int32 × (Nat → Int32)) := am_while (st_m_answer_3 a0 a1 a2 f) (1, f 88)
noncomputable def fn_m_answer (a0 : Int32) (a1 : Int32) (a2 : Int32) (f : Nat → Nat → Int32) : Option (Int32 × (Nat → Int32)) := (am_ob (lf_m_answer_3 a0 a1 a2 f) (fun zz => Sum.elim (fun (z3 : Int32 × (Nat → Int32)) => (some (0, upd z3.2 24 (-1)))) (fun (z : Int32 × (Nat → Int32)) => (some z)) zz))
theorem lp_m_answer_11 (a0 : Int32) (a1 : Int32) (a2 : Int32) (f : Nat → Nat → Int32) (g : Nat → Nat → Int64) (a3_4 : Int32) (r3_88 : Nat → Int32) (hmk : am_mOK (f 89)) (hlC : f 89 201 = nI (f 89 201).toNatClampNeg) (hlN : (f 89 201).toNatClampNeg ≤ 40) (hrC : f 89 202 = nI (f 89 202).toNatClampNeg) (hrN : (f 89 202).toNatClampNeg ≤ 30) (hl0 : ∀ i, i < (f 89 201).toNatClampNeg → am_inb (fn_m_loanAt i 0 f) 16 = true) (hl5 : ∀ i, i < (f 89 201).toNatClampNeg → ¬ fn_m_loanAt i 5 f < 0 → am_inb (fn_m_loanAt i 5 f) 40 = true) (hl2 : ∀ i, i < (f 89 201).toNatClampNeg → am_inb (fn_m_loanAt i 2 f) 20 = true) (res : Option Value × am_M) : ∀ (n i11 : Nat) (r11_88 : Nat → Int32) , i11 + n = (f 89 202).toNatClampNeg → am_KO (am_KX (fun (z : (Nat → Int32)) => ∀ (wc11 : Value), am_F 83 am_k_199 91 [.ref 88, .int a0, .int a1, .int a2, .int a3_4, wc11] [] (am_S (am_row f 88 z) g) res) (fun (z : Int32 × (Nat → Int32)) => (some (Value.int z.1), am_S (am_row f 88 z.2) g) = res)) (am_forO (st_m_answer_11 a0 a1 a2 f a3_4) n i11 r11_88) → am_F 83 am_k_199 11 [.ref 88, .int a0, .int a1, .int a2, .int a3_4, .int (nI i11)] [] (am_S (am_row f 88 r11_88) g) res := by
  intro n
  induction n with
  | zero =>
    intro i11 r11_88 hi hK
    refine am_F.pos 6 rfl (by show (f 89 202) ≤ nI i11; rw [show (f 89 202 : Int32) = nI ((f 89 202).toNatClampNeg) from hrC]; exact nI_le (by omega) (by omega)) ?_
    exact hK _
  | succ n ih =>
    intro i11 r11_88 hi hK
    refine am_F.neg 6 rfl (by show ¬ (f 89 202) ≤ nI i11; rw [show (f 89 202 : Int32) = nI ((f 89 202).toNatClampNeg) from hrC]; exact nI_ge (by omega) (by omega)) ?_
    have hb11 : i11 < (f 89 202).toNatClampNeg := by omega
    show am_F _ _ 24 [.ref 88, .int a0, .int a1, .int a2, .int a3_4, .int (nI i11)] [] (am_S (am_row f 88 r11_88) g) _
    obtain ⟨K, hKd⟩ : ∃ K : Option ((Nat → Int32) ⊕ ((Nat → Int32) ⊕ Int32 × (Nat → Int32))) → Prop, K = fun s => am_KO (am_KX (fun (z : (Nat → Int32)) => ∀ (wc11 : Value), am_F 83 am_k_199 91 [.ref 88, .int a0, .int a1, .int a2, .int a3_4, wc11] [] (am_S (am_row f 88 z) g) res) (fun (z : Int32 × (Nat → Int32)) => (some (Value.int z.1), am_S (am_row f 88 z.2) g) = res)) (am_whn (fun z => am_forO (st_m_answer_11 a0 a1 a2 f a3_4) n (i11 + 1) z) s) := ⟨_, rfl⟩
    have hK : K ((st_m_answer_11 a0 a1 a2 f a3_4) i11 r11_88) := by rw [am_forO_s] at hK; rw [hKd]; with_reducible exact hK
    have hKn : ¬ K none := by rw [hKd]; exact id
    unfold st_m_answer_11 at hK
    refine am_F.ops (pc' := 28) (L' := [.ref 88, .int a0, .int a1, .int a2, .int a3_4, .int (nI i11)]) (S' := [.int 0, .int (nI i11), .ref 88]) (μ' := (am_S (am_row f 88 r11_88) g)) 3 rfl ?_
    refine am_F.call rfl rfl (am_D.args (congrArg (fun (x9 : Int32) => ([.ref 88, .int (nI i11), .int x9] : List Value)) (show (0 : Int32) = nI 0 from rfl)) (x_m_ruleAt i11 0 (am_row f 88 r11_88) g (by omega) (by omega))) (by first | decide | omega) ?_
    show am_F _ _ 31 [.ref 88, .int a0, .int a1, .int a2, .int a3_4, .int (nI i11)] [.int (fn_m_ruleAt i11 0 (am_row f 88 r11_88))] (am_S (am_row f 88 r11_88) g) _
    refine am_F.ops (pc' := 33) (L' := [.ref 88, .int a0, .int a1, .int a2, .int a3_4, .int (nI i11)]) (S' := [.int a3_4, .int (fn_m_ruleAt i11 0 (am_row f 88 r11_88))]) (μ' := (am_S (am_row f 88 r11_88) g)) 1 rfl ?_
    refine am_F.iteK 1 rfl K hK (fun c37 hK => ?_) (fun c37 hK => ?_)
    · show am_F _ _ 36 [.ref 88, .int a0, .int a1, .int a2, .int a3_4, .int (nI i11)] [] (am_S (am_row f 88 r11_88) g) _
      refine am_F.ops (pc' := 41) (L' := [.ref 88, .int a0, .int a1, .int a2, .int a3_4, .int (nI i11)]) (S' := [.int a0, .ref 94]) (μ' := (am_S (am_row f 88 r11_88) g)) 3 rfl ?_
      obtain ⟨q38, hK⟩ := am_chk_e hKn hK
      refine am_F.ial (N := 16) rfl rfl rfl q38 ?_
      show am_F _ _ 42 [.ref 88, .int a0, .int a1, .int a2, .int a3_4, .int (nI i11)] [.int (f 94 a0.toNatClampNeg)] (am_S (am_row f 88 r11_88) g) _
      refine am_F.ops (pc' := 46) (L' := [.ref 88, .int a0, .int a1, .int a2, .int a3_4, .int (nI i11)]) (S' := [.int 1, .int (nI i11), .ref 88, .int (f 94 a0.toNatClampNeg)]) (μ' := (am_S (am_row f 88 r11_88) g)) 3 rfl ?_
      refine am_F.call rfl rfl (am_D.args (congrArg (fun (x9 : Int32) => ([.ref 88, .int (nI i11), .int x9] : List Value)) (show (1 : Int32) = nI 1 from rfl)) (x_m_ruleAt i11 1 (am_row f 88 r11_88) g (by omega) (by omega))) (by first | decide | omega) ?_
      show am_F _ _ 49 [.ref 88, .int a0, .int a1, .int a2, .int a3_4, .int (nI i11)] [.int (fn_m_ruleAt i11 1 (am_row f 88 r11_88)), .int (f 94 a0.toNatClampNeg)] (am_S (am_row f 88 r11_88) g) _
      refine am_F.call rfl rfl (x_m_has (f 94 a0.toNatClampNeg) (fn_m_ruleAt i11 1 (am_row f 88 r11_88)) (am_row f 88 r11_88) g ) (by first | decide | omega) ?_
      show am_F _ _ 52 [.ref 88, .int a0, .int a1, .int a2, .int a3_4, .int (nI i11)] [.int (am_b (fn_m_has (f 94 a0.toNatClampNeg) (fn_m_ruleAt i11 1 (am_row f 88 r11_88))))] (am_S (am_row f 88 r11_88) g) _
      refine am_F.bifK 1 rfl K hK (fun c41 hK => ?_) (fun c41 hK => ?_)
      · show am_F _ _ 55 [.ref 88, .int a0, .int a1, .int a2, .int a3_4, .int (nI i11)] [] (am_S (am_row f 88 r11_88) g) _
        refine am_F.ops (pc' := 61) (L' := [.ref 88, .int a0, .int a1, .int a2, .int a3_4, .int (nI i11)]) (S' := [.int a2, .int a1, .int a0, .int (nI i11), .ref 88]) (μ' := (am_S (am_row f 88 r11_88) g)) 5 rfl ?_
        obtain ⟨y42, hy42, hK⟩ := am_ob_e hKn hK
        refine am_F.call rfl rfl (x_m_fits (nI i11) a0 a1 a2 (am_row f 88 r11_88) g  y42 hy42) (by first | decide | omega) ?_
        refine am_F.mem (F' := (am_row f 88 y42.2)) (G' := g) ?_ (by first | rfl | (funext a; by_cases z0 : a = 88; (subst z0; rfl); simp only [am_ui, am_ul, am_row_ne z0])) (by first | rfl | (funext a; by_cases z0 : a = 88; (subst z0; rfl); simp only [am_ui, am_ul, am_row_ne z0]))
        show am_F _ _ 64 [.ref 88, .int a0, .int a1, .int a2, .int a3_4, .int (nI i11)] [.int (am_b (y42.1))] (am_S (am_row f 88 y42.2) g) _
        refine am_F.bifK 1 rfl K hK (fun c43 hK => ?_) (fun c43 hK => ?_)
        · show am_F _ _ 67 [.ref 88, .int a0, .int a1, .int a2, .int a3_4, .int (nI i11)] [] (am_S (am_row f 88 y42.2) g) _
          refine am_F.ops (pc' := 70) (L' := [.ref 88, .int a0, .int a1, .int a2, .int a3_4, .int (nI i11)]) (S' := [.int (nI i11), .ref 88]) (μ' := (am_S (am_row f 88 y42.2) g)) 2 rfl ?_
          refine am_F.pfi (F' := (am_row f 88 (upd y42.2 24 (nI i11)))) rfl rfl (by first | rfl | (funext a; by_cases z0 : a = 88; (subst z0; rfl); simp only [am_ui, am_ul, am_row_ne z0])) ?_
          refine am_F.ops (pc' := 76) (L' := [.ref 88, .int a0, .int a1, .int a2, .int a3_4, .int (nI i11)]) (S' := [.int 1, .int a3_4]) (μ' := (am_S (am_row f 88 (upd y42.2 24 (nI i11))) g)) 2 rfl ?_
          refine am_F.iteK 1 rfl K hK (fun c44 hK => ?_) (fun c44 hK => ?_)
          · show am_F _ _ 79 [.ref 88, .int a0, .int a1, .int a2, .int a3_4, .int (nI i11)] [] (am_S (am_row f 88 (upd y42.2 24 (nI i11))) g) _
            refine am_F.ops (pc' := 84) (L' := [.ref 88, .int a0, .int a1, .int a2, .int a3_4, .int (nI i11)]) (S' := [.int 2]) (μ' := (am_S (am_row f 88 (upd y42.2 24 (nI i11))) g)) 2 rfl ?_
            subst hKd
            have hQ := am_KO_r hK
            exact am_F.eq (am_F.ret rfl rfl) hQ
          · show am_F _ _ 83 [.ref 88, .int a0, .int a1, .int a2, .int a3_4, .int (nI i11)] [] (am_S (am_row f 88 (upd y42.2 24 (nI i11))) g) _
            refine am_F.ops (pc' := 84) (L' := [.ref 88, .int a0, .int a1, .int a2, .int a3_4, .int (nI i11)]) (S' := [.int 1]) (μ' := (am_S (am_row f 88 (upd y42.2 24 (nI i11))) g)) 1 rfl ?_
            subst hKd
            have hQ := am_KO_r hK
            exact am_F.eq (am_F.ret rfl rfl) hQ
        · show am_F _ _ 85 [.ref 88, .int a0, .int a1, .int a2, .int a3_4, .int (nI i11)] [] (am_S (am_row f 88 y42.2) g) _
          refine am_F.ops (pc' := 11) (L' := [.ref 88, .int a0, .int a1, .int a2, .int a3_4, .int ((nI i11) + 1)]) (S' := []) (μ' := (am_S (am_row f 88 y42.2) g)) 2 rfl ?_
          rw [nI_1 i11]
          subst hKd
          exact ih (i11 + 1) y42.2 (by omega) hK
      · show am_F _ _ 85 [.ref 88, .int a0, .int a1, .int a2, .int a3_4, .int (nI i11)] [] (am_S (am_row f 88 r11_88) g) _
        refine am_F.ops (pc' := 11) (L' := [.ref 88, .int a0, .int a1, .int a2, .int a3_4, .int ((nI i11) + 1)]) (S' := []) (μ' := (am_S (am_row f 88 r11_88) g)) 2 rfl ?_
        rw [nI_1 i11]
        subst hKd
        exact ih (i11 + 1) r11_88 (by omega) hK
    · show am_F _ _ 85 [.ref 88, .int a0, .int a1, .int a2, .int a3_4, .int (nI i11)] [] (am_S (am_row f 88 r11_88) g) _
      refine am_F.ops (pc' := 11) (L' := [.ref 88, .int a0, .int a1, .int a2, .int a3_4, .int ((nI i11) + 1)]) (S' := []) (μ' := (am_S (am_row f 88 r11_88) g)) 2 rfl ?_
      rw [nI_1 i11]
      subst hKd
      exact ih (i11 + 1) r11_88 (by omega) hK
theorem lp_m_answer_3 (a0 : Int32) (a1 : Int32) (a2 : Int32) (f : Nat → Nat → Int32) (g : Nat → Nat → Int64) (hmk : am_mOK (f 89)) (hlC : f 89 201 = nI (f 89 201).toNatClampNeg) (hlN : (f 89 201).toNatClampNeg ≤ 40) (hrC : f 89 202 = nI (f 89 202).toNatClampNeg) (hrN : (f 89 202).toNatClampNeg ≤ 30) (hl0 : ∀ i, i < (f 89 201).toNatClampNeg → am_inb (fn_m_loanAt i 0 f) 16 = true) (hl5 : ∀ i, i < (f 89 201).toNatClampNeg → ¬ fn_m_loanAt i 5 f < 0 → am_inb (fn_m_loanAt i 5 f) 40 = true) (hl2 : ∀ i, i < (f 89 201).toNatClampNeg → am_inb (fn_m_loanAt i 2 f) 20 = true) (res : Option Value × am_M) : ∀ (n : Nat) (a3_4 : Int32) (r3_88 : Nat → Int32) (w3_5 : Value), am_KO (am_KX (fun (z : Int32 × (Nat → Int32)) => ∀ (w3_5 : Value), am_F 83 am_k_199 97 [.ref 88, .int a0, .int a1, .int a2, .int z.1, w3_5] [] (am_S (am_row f 88 z.2) g) res) (fun (z : Int32 × (Nat → Int32)) => (some (Value.int z.1), am_S (am_row f 88 z.2) g) = res)) (am_wh (st_m_answer_3 a0 a1 a2 f) n (a3_4, r3_88)) → am_F 83 am_k_199 3 [.ref 88, .int a0, .int a1, .int a2, .int a3_4, w3_5] [] (am_S (am_row f 88 r3_88) g) res := by
  intro n
  induction n with
  | zero =>
    intro a3_4 r3_88 w3_5 hK
    exact False.elim hK
  | succ n ih =>
    intro a3_4 r3_88 w3_5 hK
    obtain ⟨K, hKd⟩ : ∃ K : Option (Int32 × (Nat → Int32) ⊕ (Int32 × (Nat → Int32) ⊕ Int32 × (Nat → Int32))) → Prop, K = fun s => am_KO (am_KX (fun (z : Int32 × (Nat → Int32)) => ∀ (w3_5 : Value), am_F 83 am_k_199 97 [.ref 88, .int a0, .int a1, .int a2, .int z.1, w3_5] [] (am_S (am_row f 88 z.2) g) res) (fun (z : Int32 × (Nat → Int32)) => (some (Value.int z.1), am_S (am_row f 88 z.2) g) = res)) (am_whn (am_wh (st_m_answer_3 a0 a1 a2 f) n) s) := ⟨_, rfl⟩
    have hK : K ((st_m_answer_3 a0 a1 a2 f) (a3_4, r3_88)) := by rw [am_wh_s] at hK; rw [hKd]; with_reducible exact hK
    have hKn : ¬ K none := by rw [hKd]; exact id
    unfold st_m_answer_3 at hK
    simp only at hK
    refine am_F.ops (pc' := 5) (L' := [.ref 88, .int a0, .int a1, .int a2, .int a3_4, w3_5]) (S' := [.int a3_4]) (μ' := (am_S (am_row f 88 r3_88) g)) 1 rfl ?_
    refine am_F.iteK 1 rfl K hK (fun c24 hK => ?_) (fun c24 hK => ?_)
    · show am_F _ _ 97 [.ref 88, .int a0, .int a1, .int a2, .int a3_4, w3_5] [] (am_S (am_row f 88 r3_88) g) _
      subst hKd
      exact hK w3_5
    · show am_F _ _ 8 [.ref 88, .int a0, .int a1, .int a2, .int a3_4, w3_5] [] (am_S (am_row f 88 r3_88) g) _
      refine am_F.ops (pc' := 11) (L' := [.ref 88, .int a0, .int a1, .int a2, .int a3_4, .int 0]) (S' := []) (μ' := (am_S (am_row f 88 r3_88) g)) 2 rfl ?_
      obtain ⟨z11, hz11, hK⟩ := am_ob_e hKn hK
      show am_F _ _ 11 [.ref 88, .int a0, .int a1, .int a2, .int a3_4, .int (nI 0)] [] (am_S (am_row f 88 r3_88) g) _
      refine lp_m_answer_11 a0 a1 a2 f g a3_4 r3_88 hmk hlC hlN hrC hrN hl0 hl5 hl2 _ ((f 89 202).toNatClampNeg) 0 r3_88  (by omega) ?_
      rw [show am_forO (st_m_answer_11 a0 a1 a2 f a3_4) ((f 89 202).toNatClampNeg) 0 r3_88 = (lf_m_answer_11 a0 a1 a2 f a3_4 r3_88) from rfl, hz11]
      rcases z11 with z11 | z
      · intro wc11
        show am_F _ _ 91 [.ref 88, .int a0, .int a1, .int a2, .int a3_4, wc11] [] (am_S (am_row f 88 z11) g) _
        (try simp only [Sum.elim_inl] at hK)
        refine am_F.ops (pc' := 3) (L' := [.ref 88, .int a0, .int a1, .int a2, .int (a3_4 + (-1)), wc11]) (S' := []) (μ' := (am_S (am_row f 88 z11) g)) 2 rfl ?_
        subst hKd
        exact ih (a3_4 + (-1)) z11 wc11 hK
      · subst hKd
        exact hK
theorem x_m_answer (a0 : Int32) (a1 : Int32) (a2 : Int32) (f : Nat → Nat → Int32) (g : Nat → Nat → Int64) (hmk : am_mOK (f 89)) (z0 : Int32 × (Nat → Int32)) (hz0 : (fn_m_answer a0 a1 a2 f) = some z0) : am_D 83 199 6 [.ref 88, .int a0, .int a1, .int a2] (am_S f g) (some (Value.int z0.1), am_S (am_row f 88 z0.2) g) := by
  obtain ⟨hlC, hlN, hrC, hrN, hl0, hl5, hl2⟩ := am_mOK_e hmk
  refine am_D.of (code := am_k_199) rfl (L0 := [.ref 88, .int a0, .int a1, .int a2, am_un, am_un]) rfl ?_
  generalize hres : (some (Value.int z0.1), am_S (am_row f 88 z0.2) g) = res
  obtain ⟨K, hKd⟩ : ∃ K : Option (Int32 × (Nat → Int32)) → Prop, K = am_KO (fun z => (some (Value.int z.1), am_S (am_row f 88 z.2) g) = res) := ⟨_, rfl⟩
  have hK : K (fn_m_answer a0 a1 a2 f) := by rw [hKd, hz0]; exact hres
  have hKn : ¬ K none := by rw [hKd]; exact id
  clear hres hz0
  unfold fn_m_answer at hK
  refine am_F.ops (pc' := 3) (L' := [.ref 88, .int a0, .int a1, .int a2, .int 1, am_un]) (S' := []) (μ' := (am_S f g)) 2 rfl ?_
  obtain ⟨z3, hz3, hK⟩ := am_ob_e hKn hK
  refine am_F.mem (F' := (am_row f 88 (f 88))) (G' := g) ?_ (by first | rfl | (funext a; by_cases z0 : a = 88; (subst z0; rfl); simp only [am_ui, am_ul, am_row_ne z0])) (by first | rfl | (funext a; by_cases z0 : a = 88; (subst z0; rfl); simp only [am_ui, am_ul, am_row_ne z0]))
  obtain ⟨nz3, gz3⟩ := am_while_s (show am_while (st_m_answer_3 a0 a1 a2 f) (1, f 88) = some z3 from hz3)
  refine lp_m_answer_3 a0 a1 a2 f g hmk hlC hlN hrC hrN hl0 hl5 hl2 _ nz3 1 (f 88) am_un ?_
  rw [gz3]
  rcases z3 with z3 | z
  · intro w3_5
    show am_F _ _ 97 [.ref 88, .int a0, .int a1, .int a2, .int z3.1, w3_5] [] (am_S (am_row f 88 z3.2) g) _
    (try simp only [Sum.elim_inl] at hK)
    refine am_F.ops (pc' := 99) (L' := [.ref 88, .int a0, .int a1, .int a2, .int z3.1, w3_5]) (S' := [.int (-1), .ref 88]) (μ' := (am_S (am_row f 88 z3.2) g)) 2 rfl ?_
    refine am_F.pfi (F' := (am_row f 88 (upd z3.2 24 (-1)))) rfl rfl (by first | rfl | (funext a; by_cases z0 : a = 88; (subst z0; rfl); simp only [am_ui, am_ul, am_row_ne z0])) ?_
    refine am_F.ops (pc' := 103) (L' := [.ref 88, .int a0, .int a1, .int a2, .int z3.1, w3_5]) (S' := [.int 0]) (μ' := (am_S (am_row f 88 (upd z3.2 24 (-1))) g)) 1 rfl ?_
    subst hKd
    have hQ := am_KO_s hK
    exact am_F.eq (am_F.ret rfl rfl) hQ
  · subst hKd
    exact hK
/-- AccessLatticeModel.whoBy, with checks -/
noncomputable def st_m_whoBy_10 (a0 : Int32) (a1 : Int32) (a2 : Int32) (f : Nat → Nat → Int32) (y1 : (Nat → Int32) × (Nat → Int32) × (Nat → Int32)) : Nat → Int32 × (Nat → Int32) → Option (Int32 × (Nat → Int32) ⊕ (Int32 × (Nat → Int32) ⊕ Empty)) := fun i10 z => match z with
  | (a10_4, r10_88) => (am_ob (fn_m_answer (nI i10) a0 a1 (am_row (am_row (am_row (am_row f 88 r10_88) 93 y1.1) 94 y1.2.1) 96 y1.2.2)) (fun (y4 : Int32 × (Nat → Int32)) => (some (.inl (a10_4 ||| (if y4.1 = a2 then (1 : Int32) <<< ((nI i10) &&& 31) else 0), y4.2)))))
noncomputable def lf_m_whoBy_10 (a0 : Int32) (a1 : Int32) (a2 : Int32) (f : Nat → Nat → Int32) (y1 : (Nat → Int32) × (Nat → Int32) × (Nat → Int32)) : Option (Int32 × (Nat → Int32) ⊕ Empty) := am_forO (st_m_whoBy_10 a0 a1 a2 f y1) 16 0 (0, f 88)
noncomputable def fn_m_whoBy (a0 : Int32) (a1 : Int32) (a2 : Int32) (f : Nat → Nat → Int32) : Option (Int32 × (Nat → Int32) × (Nat → Int32) × (Nat → Int32) × (Nat → Int32)) := (am_ob (lf_m_whoBy_10 a0 a1 a2 f (fn_m_holders_154 f)) (fun zz => Sum.elim (fun (z10 : Int32 × (Nat → Int32)) => (some (z10.1, z10.2, (fn_m_holders_154 f).1, (fn_m_holders_154 f).2.1, (fn_m_holders_154 f).2.2))) (fun (z : Empty) => z.elim) zz))
theorem lp_m_whoBy_10 (a0 : Int32) (a1 : Int32) (a2 : Int32) (f : Nat → Nat → Int32) (g : Nat → Nat → Int64) (y1 : (Nat → Int32) × (Nat → Int32) × (Nat → Int32)) (hmk : am_mOK (f 89)) (hlC : f 89 201 = nI (f 89 201).toNatClampNeg) (hlN : (f 89 201).toNatClampNeg ≤ 40) (hrC : f 89 202 = nI (f 89 202).toNatClampNeg) (hrN : (f 89 202).toNatClampNeg ≤ 30) (hl0 : ∀ i, i < (f 89 201).toNatClampNeg → am_inb (fn_m_loanAt i 0 f) 16 = true) (hl5 : ∀ i, i < (f 89 201).toNatClampNeg → ¬ fn_m_loanAt i 5 f < 0 → am_inb (fn_m_loanAt i 5 f) 40 = true) (hl2 : ∀ i, i < (f 89 201).toNatClampNeg → am_inb (fn_m_loanAt i 2 f) 20 = true) (res : Option Value × am_M) : ∀ (n i10 : Nat) (a10_4 : Int32) (r10_88 : Nat → Int32) , i10 + n = 16 → am_KO (am_KX (fun (z : Int32 × (Nat → Int32)) => ∀ (wc10 : Value), am_F 84 am_k_211 48 [.ref 88, .int a0, .int a1, .int a2, .int z.1, wc10] [] (am_S (am_row (am_row (am_row (am_row f 88 z.2) 93 y1.1) 94 y1.2.1) 96 y1.2.2) g) res) (fun (z : Empty) => True)) (am_forO (st_m_whoBy_10 a0 a1 a2 f y1) n i10 (a10_4, r10_88)) → am_F 84 am_k_211 10 [.ref 88, .int a0, .int a1, .int a2, .int a10_4, .int (nI i10)] [] (am_S (am_row (am_row (am_row (am_row f 88 r10_88) 93 y1.1) 94 y1.2.1) 96 y1.2.2) g) res := by
  intro n
  induction n with
  | zero =>
    intro i10 a10_4 r10_88 hi hK
    refine am_F.pos 3 rfl (by show 16 ≤ nI i10; rw [show (16 : Int32) = nI 16 from rfl]; exact nI_le (by omega) (by omega)) ?_
    exact hK _
  | succ n ih =>
    intro i10 a10_4 r10_88 hi hK
    refine am_F.neg 3 rfl (by show ¬ 16 ≤ nI i10; rw [show (16 : Int32) = nI 16 from rfl]; exact nI_ge (by omega) (by omega)) ?_
    have hb10 : i10 < 16 := by omega
    show am_F _ _ 17 [.ref 88, .int a0, .int a1, .int a2, .int a10_4, .int (nI i10)] [] (am_S (am_row (am_row (am_row (am_row f 88 r10_88) 93 y1.1) 94 y1.2.1) 96 y1.2.2) g) _
    obtain ⟨K, hKd⟩ : ∃ K : Option (Int32 × (Nat → Int32) ⊕ (Int32 × (Nat → Int32) ⊕ Empty)) → Prop, K = fun s => am_KO (am_KX (fun (z : Int32 × (Nat → Int32)) => ∀ (wc10 : Value), am_F 84 am_k_211 48 [.ref 88, .int a0, .int a1, .int a2, .int z.1, wc10] [] (am_S (am_row (am_row (am_row (am_row f 88 z.2) 93 y1.1) 94 y1.2.1) 96 y1.2.2) g) res) (fun (z : Empty) => True)) (am_whn (fun z => am_forO (st_m_whoBy_10 a0 a1 a2 f y1) n (i10 + 1) z) s) := ⟨_, rfl⟩
    have hK : K ((st_m_whoBy_10 a0 a1 a2 f y1) i10 (a10_4, r10_88)) := by rw [am_forO_s] at hK; rw [hKd]; with_reducible exact hK
    have hKn : ¬ K none := by rw [hKd]; exact id
    unfold st_m_whoBy_10 at hK
    simp only at hK
    refine am_F.ops (pc' := 24) (L' := [.ref 88, .int a0, .int a1, .int a2, .int a10_4, .int (nI i10)]) (S' := [.int a1, .int a0, .int (nI i10), .ref 88, .int a10_4]) (μ' := (am_S (am_row (am_row (am_row (am_row f 88 r10_88) 93 y1.1) 94 y1.2.1) 96 y1.2.2) g)) 5 rfl ?_
    obtain ⟨y4, hy4, hK⟩ := am_ob_e hKn hK
    refine am_F.call rfl rfl (x_m_answer (nI i10) a0 a1 (am_row (am_row (am_row (am_row f 88 r10_88) 93 y1.1) 94 y1.2.1) 96 y1.2.2) g hmk y4 hy4) (by first | decide | omega) ?_
    refine am_F.mem (F' := (am_row (am_row (am_row (am_row f 88 y4.2) 93 y1.1) 94 y1.2.1) 96 y1.2.2)) (G' := g) ?_ (by first | rfl | (funext a; by_cases z0 : a = 88; (subst z0; rfl); by_cases z1 : a = 93; (subst z1; rfl); by_cases z2 : a = 94; (subst z2; rfl); by_cases z3 : a = 96; (subst z3; rfl); simp only [am_ui, am_ul, am_row_ne z0, am_row_ne z1, am_row_ne z2, am_row_ne z3])) (by first | rfl | (funext a; by_cases z0 : a = 88; (subst z0; rfl); by_cases z1 : a = 93; (subst z1; rfl); by_cases z2 : a = 94; (subst z2; rfl); by_cases z3 : a = 96; (subst z3; rfl); simp only [am_ui, am_ul, am_row_ne z0, am_row_ne z1, am_row_ne z2, am_row_ne z3]))
    show am_F _ _ 27 [.ref 88, .int a0, .int a1, .int a2, .int a10_4, .int (nI i10)] [.int y4.1, .int a10_4] (am_S (am_row (am_row (am_row (am_row f 88 y4.2) 93 y1.1) 94 y1.2.1) 96 y1.2.2) g) _
    refine am_F.ops (pc' := 28) (L' := [.ref 88, .int a0, .int a1, .int a2, .int a10_4, .int (nI i10)]) (S' := [.int a2, .int y4.1, .int a10_4]) (μ' := (am_S (am_row (am_row (am_row (am_row f 88 y4.2) 93 y1.1) 94 y1.2.1) 96 y1.2.2) g)) 1 rfl ?_
    refine am_F.to (am_To.ite (pc' := 39) (L2 := [.ref 88, .int a0, .int a1, .int a2, .int a10_4, .int (nI i10)]) (S2 := [.int a10_4]) (μ2 := (am_S (am_row (am_row (am_row (am_row f 88 y4.2) 93 y1.1) 94 y1.2.1) 96 y1.2.2) g)) (a := (1 : Int32) <<< ((nI i10) &&& 31)) (b := 0) 1 rfl (fun c5 => ?_) (fun c5 => ?_)) ?_
    · intro res9 g9
      show am_F _ _ 31 [.ref 88, .int a0, .int a1, .int a2, .int a10_4, .int (nI i10)] [.int a10_4] (am_S (am_row (am_row (am_row (am_row f 88 y4.2) 93 y1.1) 94 y1.2.1) 96 y1.2.2) g) _
      refine am_F.ops (pc' := 39) (L' := [.ref 88, .int a0, .int a1, .int a2, .int a10_4, .int (nI i10)]) (S' := [.int ((1 : Int32) <<< ((nI i10) &&& 31)), .int a10_4]) (μ' := (am_S (am_row (am_row (am_row (am_row f 88 y4.2) 93 y1.1) 94 y1.2.1) 96 y1.2.2) g)) 4 rfl ?_
      exact g9
    · intro res9 g9
      show am_F _ _ 38 [.ref 88, .int a0, .int a1, .int a2, .int a10_4, .int (nI i10)] [.int a10_4] (am_S (am_row (am_row (am_row (am_row f 88 y4.2) 93 y1.1) 94 y1.2.1) 96 y1.2.2) g) _
      refine am_F.ops (pc' := 39) (L' := [.ref 88, .int a0, .int a1, .int a2, .int a10_4, .int (nI i10)]) (S' := [.int 0, .int a10_4]) (μ' := (am_S (am_row (am_row (am_row (am_row f 88 y4.2) 93 y1.1) 94 y1.2.1) 96 y1.2.2) g)) 1 rfl ?_
      exact g9
    show am_F _ _ 39 [.ref 88, .int a0, .int a1, .int a2, .int a10_4, .int (nI i10)] [.int (if y4.1 = a2 then (1 : Int32) <<< ((nI i10) &&& 31) else 0), .int a10_4] (am_S (am_row (am_row (am_row (am_row f 88 y4.2) 93 y1.1) 94 y1.2.1) 96 y1.2.2) g) _
    refine am_F.ops (pc' := 10) (L' := [.ref 88, .int a0, .int a1, .int a2, .int (a10_4 ||| (if y4.1 = a2 then (1 : Int32) <<< ((nI i10) &&& 31) else 0)), .int ((nI i10) + 1)]) (S' := []) (μ' := (am_S (am_row (am_row (am_row (am_row f 88 y4.2) 93 y1.1) 94 y1.2.1) 96 y1.2.2) g)) 4 rfl ?_
    rw [nI_1 i10]
    subst hKd
    exact ih (i10 + 1) (a10_4 ||| (if y4.1 = a2 then (1 : Int32) <<< ((nI i10) &&& 31) else 0)) y4.2 (by omega) hK
theorem x_m_whoBy (a0 : Int32) (a1 : Int32) (a2 : Int32) (f : Nat → Nat → Int32) (g : Nat → Nat → Int64) (hmk : am_mOK (f 89)) (z0 : Int32 × (Nat → Int32) × (Nat → Int32) × (Nat → Int32) × (Nat → Int32)) (hz0 : (fn_m_whoBy a0 a1 a2 f) = some z0) : am_D 84 211 6 [.ref 88, .int a0, .int a1, .int a2] (am_S f g) (some (Value.int z0.1), am_S (am_row (am_row (am_row (am_row f 88 z0.2.1) 93 z0.2.2.1) 94 z0.2.2.2.1) 96 z0.2.2.2.2) g) := by
  obtain ⟨hlC, hlN, hrC, hrN, hl0, hl5, hl2⟩ := am_mOK_e hmk
  refine am_D.of (code := am_k_211) rfl (L0 := [.ref 88, .int a0, .int a1, .int a2, am_un, am_un]) rfl ?_
  generalize hres : (some (Value.int z0.1), am_S (am_row (am_row (am_row (am_row f 88 z0.2.1) 93 z0.2.2.1) 94 z0.2.2.2.1) 96 z0.2.2.2.2) g) = res
  obtain ⟨K, hKd⟩ : ∃ K : Option (Int32 × (Nat → Int32) × (Nat → Int32) × (Nat → Int32) × (Nat → Int32)) → Prop, K = am_KO (fun z => (some (Value.int z.1), am_S (am_row (am_row (am_row (am_row f 88 z.2.1) 93 z.2.2.1) 94 z.2.2.2.1) 96 z.2.2.2.2) g) = res) := ⟨_, rfl⟩
  have hK : K (fn_m_whoBy a0 a1 a2 f) := by rw [hKd, hz0]; exact hres
  have hKn : ¬ K none := by rw [hKd]; exact id
  clear hres hz0
  unfold fn_m_whoBy at hK
  refine am_F.ops (pc' := 1) (L' := [.ref 88, .int a0, .int a1, .int a2, am_un, am_un]) (S' := [.ref 88]) (μ' := (am_S f g)) 1 rfl ?_
  obtain ⟨y1, hy1⟩ : ∃ z, (fn_m_holders_154 f) = z := ⟨_, rfl⟩
  (try rw [hy1] at hK)
  refine am_F.call rfl rfl (x_m_holders_154  f g hlC hlN hrC hrN hl0 hl5 hl2) (by first | decide | omega) ?_
  (try rw [hy1])
  refine am_F.mem (F' := (am_row (am_row (am_row f 93 y1.1) 94 y1.2.1) 96 y1.2.2)) (G' := g) ?_ (by first | rfl | (funext a; by_cases z0 : a = 93; (subst z0; rfl); by_cases z1 : a = 94; (subst z1; rfl); by_cases z2 : a = 96; (subst z2; rfl); simp only [am_ui, am_ul, am_row_ne z0, am_row_ne z1, am_row_ne z2])) (by first | rfl | (funext a; by_cases z0 : a = 93; (subst z0; rfl); by_cases z1 : a = 94; (subst z1; rfl); by_cases z2 : a = 96; (subst z2; rfl); simp only [am_ui, am_ul, am_row_ne z0, am_row_ne z1, am_row_ne z2]))
  show am_F _ _ 4 [.ref 88, .int a0, .int a1, .int a2, am_un, am_un] [] (am_S (am_row (am_row (am_row f 93 y1.1) 94 y1.2.1) 96 y1.2.2) g) _
  refine am_F.ops (pc' := 10) (L' := [.ref 88, .int a0, .int a1, .int a2, .int 0, .int 0]) (S' := []) (μ' := (am_S (am_row (am_row (am_row f 93 y1.1) 94 y1.2.1) 96 y1.2.2) g)) 4 rfl ?_
  obtain ⟨z10, hz10, hK⟩ := am_ob_e hKn hK
  refine am_F.mem (F' := (am_row (am_row (am_row (am_row f 88 (f 88)) 93 y1.1) 94 y1.2.1) 96 y1.2.2)) (G' := g) ?_ (by first | rfl | (funext a; by_cases z0 : a = 88; (subst z0; rfl); by_cases z1 : a = 93; (subst z1; rfl); by_cases z2 : a = 94; (subst z2; rfl); by_cases z3 : a = 96; (subst z3; rfl); simp only [am_ui, am_ul, am_row_ne z0, am_row_ne z1, am_row_ne z2, am_row_ne z3])) (by first | rfl | (funext a; by_cases z0 : a = 88; (subst z0; rfl); by_cases z1 : a = 93; (subst z1; rfl); by_cases z2 : a = 94; (subst z2; rfl); by_cases z3 : a = 96; (subst z3; rfl); simp only [am_ui, am_ul, am_row_ne z0, am_row_ne z1, am_row_ne z2, am_row_ne z3]))
  show am_F _ _ 10 [.ref 88, .int a0, .int a1, .int a2, .int 0, .int (nI 0)] [] (am_S (am_row (am_row (am_row (am_row f 88 (f 88)) 93 y1.1) 94 y1.2.1) 96 y1.2.2) g) _
  refine lp_m_whoBy_10 a0 a1 a2 f g y1 hmk hlC hlN hrC hrN hl0 hl5 hl2 _ 16 0 0 (f 88)  (by omega) ?_
  rw [show am_forO (st_m_whoBy_10 a0 a1 a2 f y1) 16 0 (0, f 88) = (lf_m_whoBy_10 a0 a1 a2 f y1) from rfl, hz10]
  rcases z10 with z10 | z
  · intro wc10
    show am_F _ _ 48 [.ref 88, .int a0, .int a1, .int a2, .int z10.1, wc10] [] (am_S (am_row (am_row (am_row (am_row f 88 z10.2) 93 y1.1) 94 y1.2.1) 96 y1.2.2) g) _
    (try simp only [Sum.elim_inl] at hK)
    refine am_F.ops (pc' := 50) (L' := [.ref 88, .int a0, .int a1, .int a2, .int z10.1, wc10]) (S' := [.int z10.1]) (μ' := (am_S (am_row (am_row (am_row (am_row f 88 z10.2) 93 y1.1) 94 y1.2.1) 96 y1.2.2) g)) 1 rfl ?_
    subst hKd
    have hQ := am_KO_s hK
    exact am_F.eq (am_F.ret rfl rfl) hQ
  · exact z.elim
/-- AccessLatticeModel.where, with checks -/
noncomputable def st_m_where_20 (a0_n : Nat) (a1_n : Nat) (f : Nat → Nat → Int32) (y3 : (Nat → Int32) × (Nat → Int32) × (Nat → Int32)) : Nat → Int32 × (Nat → Int32) → Option (Int32 × (Nat → Int32) ⊕ (Int32 × (Nat → Int32) ⊕ Empty)) := fun i20 z => match z with
  | (a20_3, r20_88) => (am_ob (fn_m_answer (nI a0_n) (nI a1_n) (nI i20) (am_row (am_row (am_row (am_row f 88 r20_88) 93 y3.1) 94 y3.2.1) 96 y3.2.2)) (fun (y6 : Int32 × (Nat → Int32)) => (some (.inl (a20_3 ||| (if y6.1 = 1 then (1 : Int32) <<< ((nI i20) &&& 31) else 0), y6.2)))))
noncomputable def lf_m_where_20 (a0_n : Nat) (a1_n : Nat) (f : Nat → Nat → Int32) (y3 : (Nat → Int32) × (Nat → Int32) × (Nat → Int32)) : Option (Int32 × (Nat → Int32) ⊕ Empty) := am_forO (st_m_where_20 a0_n a1_n f y3) 16 0 (0, f 88)
noncomputable def fn_m_where (a0 : Int32) (a1 : Int32) (f : Nat → Nat → Int32) : Option (Int32 × (Nat → Int32) × (Nat → Int32) × (Nat → Int32) × (Nat → Int32)) := (bif (fn_m_isAsk a0 a1 0) then (am_ob (lf_m_where_20 (a0.toNatClampNeg) (a1.toNatClampNeg) f (fn_m_holders_154 f)) (fun zz => Sum.elim (fun (z20 : Int32 × (Nat → Int32)) => (some (z20.1, z20.2, (fn_m_holders_154 f).1, (fn_m_holders_154 f).2.1, (fn_m_holders_154 f).2.2))) (fun (z : Empty) => z.elim) zz)) else (some ((-1), f 88, f 93, f 94, f 96)))
theorem lp_m_where_20 (a0_n : Nat) (a1_n : Nat) (f : Nat → Nat → Int32) (g : Nat → Nat → Int64) (y3 : (Nat → Int32) × (Nat → Int32) × (Nat → Int32)) (hmk : am_mOK (f 89)) (hlC : f 89 201 = nI (f 89 201).toNatClampNeg) (hlN : (f 89 201).toNatClampNeg ≤ 40) (hrC : f 89 202 = nI (f 89 202).toNatClampNeg) (hrN : (f 89 202).toNatClampNeg ≤ 30) (hl0 : ∀ i, i < (f 89 201).toNatClampNeg → am_inb (fn_m_loanAt i 0 f) 16 = true) (hl5 : ∀ i, i < (f 89 201).toNatClampNeg → ¬ fn_m_loanAt i 5 f < 0 → am_inb (fn_m_loanAt i 5 f) 40 = true) (hl2 : ∀ i, i < (f 89 201).toNatClampNeg → am_inb (fn_m_loanAt i 2 f) 20 = true) (ha0_n : a0_n < 16) (ha1_n : a1_n < 8) (res : Option Value × am_M) : ∀ (n i20 : Nat) (a20_3 : Int32) (r20_88 : Nat → Int32) , i20 + n = 16 → am_KO (am_KX (fun (z : Int32 × (Nat → Int32)) => ∀ (wc20 : Value), am_F 84 am_k_212 56 [.ref 88, .int (nI a0_n), .int (nI a1_n), .int z.1, wc20] [] (am_S (am_row (am_row (am_row (am_row f 88 z.2) 93 y3.1) 94 y3.2.1) 96 y3.2.2) g) res) (fun (z : Empty) => True)) (am_forO (st_m_where_20 a0_n a1_n f y3) n i20 (a20_3, r20_88)) → am_F 84 am_k_212 20 [.ref 88, .int (nI a0_n), .int (nI a1_n), .int a20_3, .int (nI i20)] [] (am_S (am_row (am_row (am_row (am_row f 88 r20_88) 93 y3.1) 94 y3.2.1) 96 y3.2.2) g) res := by
  intro n
  induction n with
  | zero =>
    intro i20 a20_3 r20_88 hi hK
    refine am_F.pos 3 rfl (by show 16 ≤ nI i20; rw [show (16 : Int32) = nI 16 from rfl]; exact nI_le (by omega) (by omega)) ?_
    exact hK _
  | succ n ih =>
    intro i20 a20_3 r20_88 hi hK
    refine am_F.neg 3 rfl (by show ¬ 16 ≤ nI i20; rw [show (16 : Int32) = nI 16 from rfl]; exact nI_ge (by omega) (by omega)) ?_
    have hb20 : i20 < 16 := by omega
    show am_F _ _ 27 [.ref 88, .int (nI a0_n), .int (nI a1_n), .int a20_3, .int (nI i20)] [] (am_S (am_row (am_row (am_row (am_row f 88 r20_88) 93 y3.1) 94 y3.2.1) 96 y3.2.2) g) _
    obtain ⟨K, hKd⟩ : ∃ K : Option (Int32 × (Nat → Int32) ⊕ (Int32 × (Nat → Int32) ⊕ Empty)) → Prop, K = fun s => am_KO (am_KX (fun (z : Int32 × (Nat → Int32)) => ∀ (wc20 : Value), am_F 84 am_k_212 56 [.ref 88, .int (nI a0_n), .int (nI a1_n), .int z.1, wc20] [] (am_S (am_row (am_row (am_row (am_row f 88 z.2) 93 y3.1) 94 y3.2.1) 96 y3.2.2) g) res) (fun (z : Empty) => True)) (am_whn (fun z => am_forO (st_m_where_20 a0_n a1_n f y3) n (i20 + 1) z) s) := ⟨_, rfl⟩
    have hK : K ((st_m_where_20 a0_n a1_n f y3) i20 (a20_3, r20_88)) := by rw [am_forO_s] at hK; rw [hKd]; with_reducible exact hK
    have hKn : ¬ K none := by rw [hKd]; exact id
    unfold st_m_where_20 at hK
    simp only at hK
    refine am_F.ops (pc' := 33) (L' := [.ref 88, .int (nI a0_n), .int (nI a1_n), .int a20_3, .int (nI i20)]) (S' := [.int (nI i20), .int (nI a1_n), .int (nI a0_n), .ref 88, .int a20_3]) (μ' := (am_S (am_row (am_row (am_row (am_row f 88 r20_88) 93 y3.1) 94 y3.2.1) 96 y3.2.2) g)) 5 rfl ?_
    obtain ⟨y6, hy6, hK⟩ := am_ob_e hKn hK
    refine am_F.call rfl rfl (x_m_answer (nI a0_n) (nI a1_n) (nI i20) (am_row (am_row (am_row (am_row f 88 r20_88) 93 y3.1) 94 y3.2.1) 96 y3.2.2) g hmk y6 hy6) (by first | decide | omega) ?_
    refine am_F.mem (F' := (am_row (am_row (am_row (am_row f 88 y6.2) 93 y3.1) 94 y3.2.1) 96 y3.2.2)) (G' := g) ?_ (by first | rfl | (funext a; by_cases z0 : a = 88; (subst z0; rfl); by_cases z1 : a = 93; (subst z1; rfl); by_cases z2 : a = 94; (subst z2; rfl); by_cases z3 : a = 96; (subst z3; rfl); simp only [am_ui, am_ul, am_row_ne z0, am_row_ne z1, am_row_ne z2, am_row_ne z3])) (by first | rfl | (funext a; by_cases z0 : a = 88; (subst z0; rfl); by_cases z1 : a = 93; (subst z1; rfl); by_cases z2 : a = 94; (subst z2; rfl); by_cases z3 : a = 96; (subst z3; rfl); simp only [am_ui, am_ul, am_row_ne z0, am_row_ne z1, am_row_ne z2, am_row_ne z3]))
    show am_F _ _ 36 [.ref 88, .int (nI a0_n), .int (nI a1_n), .int a20_3, .int (nI i20)] [.int y6.1, .int a20_3] (am_S (am_row (am_row (am_row (am_row f 88 y6.2) 93 y3.1) 94 y3.2.1) 96 y3.2.2) g) _
    refine am_F.ops (pc' := 37) (L' := [.ref 88, .int (nI a0_n), .int (nI a1_n), .int a20_3, .int (nI i20)]) (S' := [.int 1, .int y6.1, .int a20_3]) (μ' := (am_S (am_row (am_row (am_row (am_row f 88 y6.2) 93 y3.1) 94 y3.2.1) 96 y3.2.2) g)) 1 rfl ?_
    refine am_F.to (am_To.ite (pc' := 48) (L2 := [.ref 88, .int (nI a0_n), .int (nI a1_n), .int a20_3, .int (nI i20)]) (S2 := [.int a20_3]) (μ2 := (am_S (am_row (am_row (am_row (am_row f 88 y6.2) 93 y3.1) 94 y3.2.1) 96 y3.2.2) g)) (a := (1 : Int32) <<< ((nI i20) &&& 31)) (b := 0) 1 rfl (fun c7 => ?_) (fun c7 => ?_)) ?_
    · intro res9 g9
      show am_F _ _ 40 [.ref 88, .int (nI a0_n), .int (nI a1_n), .int a20_3, .int (nI i20)] [.int a20_3] (am_S (am_row (am_row (am_row (am_row f 88 y6.2) 93 y3.1) 94 y3.2.1) 96 y3.2.2) g) _
      refine am_F.ops (pc' := 48) (L' := [.ref 88, .int (nI a0_n), .int (nI a1_n), .int a20_3, .int (nI i20)]) (S' := [.int ((1 : Int32) <<< ((nI i20) &&& 31)), .int a20_3]) (μ' := (am_S (am_row (am_row (am_row (am_row f 88 y6.2) 93 y3.1) 94 y3.2.1) 96 y3.2.2) g)) 4 rfl ?_
      exact g9
    · intro res9 g9
      show am_F _ _ 47 [.ref 88, .int (nI a0_n), .int (nI a1_n), .int a20_3, .int (nI i20)] [.int a20_3] (am_S (am_row (am_row (am_row (am_row f 88 y6.2) 93 y3.1) 94 y3.2.1) 96 y3.2.2) g) _
      refine am_F.ops (pc' := 48) (L' := [.ref 88, .int (nI a0_n), .int (nI a1_n), .int a20_3, .int (nI i20)]) (S' := [.int 0, .int a20_3]) (μ' := (am_S (am_row (am_row (am_row (am_row f 88 y6.2) 93 y3.1) 94 y3.2.1) 96 y3.2.2) g)) 1 rfl ?_
      exact g9
    show am_F _ _ 48 [.ref 88, .int (nI a0_n), .int (nI a1_n), .int a20_3, .int (nI i20)] [.int (if y6.1 = 1 then (1 : Int32) <<< ((nI i20) &&& 31) else 0), .int a20_3] (am_S (am_row (am_row (am_row (am_row f 88 y6.2) 93 y3.1) 94 y3.2.1) 96 y3.2.2) g) _
    refine am_F.ops (pc' := 20) (L' := [.ref 88, .int (nI a0_n), .int (nI a1_n), .int (a20_3 ||| (if y6.1 = 1 then (1 : Int32) <<< ((nI i20) &&& 31) else 0)), .int ((nI i20) + 1)]) (S' := []) (μ' := (am_S (am_row (am_row (am_row (am_row f 88 y6.2) 93 y3.1) 94 y3.2.1) 96 y3.2.2) g)) 4 rfl ?_
    rw [nI_1 i20]
    subst hKd
    exact ih (i20 + 1) (a20_3 ||| (if y6.1 = 1 then (1 : Int32) <<< ((nI i20) &&& 31) else 0)) y6.2 (by omega) hK
theorem x_m_where (a0 : Int32) (a1 : Int32) (f : Nat → Nat → Int32) (g : Nat → Nat → Int64) (hmk : am_mOK (f 89)) (z0 : Int32 × (Nat → Int32) × (Nat → Int32) × (Nat → Int32) × (Nat → Int32)) (hz0 : (fn_m_where a0 a1 f) = some z0) : am_D 84 212 5 [.ref 88, .int a0, .int a1] (am_S f g) (some (Value.int z0.1), am_S (am_row (am_row (am_row (am_row f 88 z0.2.1) 93 z0.2.2.1) 94 z0.2.2.2.1) 96 z0.2.2.2.2) g) := by
  obtain ⟨hlC, hlN, hrC, hrN, hl0, hl5, hl2⟩ := am_mOK_e hmk
  refine am_D.of (code := am_k_212) rfl (L0 := [.ref 88, .int a0, .int a1, am_un, am_un]) rfl ?_
  generalize hres : (some (Value.int z0.1), am_S (am_row (am_row (am_row (am_row f 88 z0.2.1) 93 z0.2.2.1) 94 z0.2.2.2.1) 96 z0.2.2.2.2) g) = res
  obtain ⟨K, hKd⟩ : ∃ K : Option (Int32 × (Nat → Int32) × (Nat → Int32) × (Nat → Int32) × (Nat → Int32)) → Prop, K = am_KO (fun z => (some (Value.int z.1), am_S (am_row (am_row (am_row (am_row f 88 z.2.1) 93 z.2.2.1) 94 z.2.2.2.1) 96 z.2.2.2.2) g) = res) := ⟨_, rfl⟩
  have hK : K (fn_m_where a0 a1 f) := by rw [hKd, hz0]; exact hres
  have hKn : ¬ K none := by rw [hKd]; exact id
  clear hres hz0
  unfold fn_m_where at hK
  refine am_F.ops (pc' := 3) (L' := [.ref 88, .int a0, .int a1, am_un, am_un]) (S' := [.int 0, .int a1, .int a0]) (μ' := (am_S f g)) 3 rfl ?_
  refine am_F.call rfl rfl (x_m_isAsk a0 a1 0 f g ) (by first | decide | omega) ?_
  show am_F _ _ 6 [.ref 88, .int a0, .int a1, am_un, am_un] [.int (am_b (fn_m_isAsk a0 a1 0))] (am_S f g) _
  refine am_F.bifK 1 rfl K hK (fun c2 hK => ?_) (fun c2 hK => ?_)
  · obtain ⟨a0_n, ha0_n, ea0_n⟩ := (am_mAsk c2).1
    obtain ⟨a1_n, ha1_n, ea1_n⟩ := (am_mAsk c2).2.1
    subst ea0_n
    try simp only [nI_clamp (show a0_n < 2147483648 by omega)] at hK
    subst ea1_n
    try simp only [nI_clamp (show a1_n < 2147483648 by omega)] at hK
    show am_F _ _ 11 [.ref 88, .int (nI a0_n), .int (nI a1_n), am_un, am_un] [] (am_S f g) _
    refine am_F.ops (pc' := 12) (L' := [.ref 88, .int (nI a0_n), .int (nI a1_n), am_un, am_un]) (S' := [.ref 88]) (μ' := (am_S f g)) 1 rfl ?_
    obtain ⟨y3, hy3⟩ : ∃ z, (fn_m_holders_154 f) = z := ⟨_, rfl⟩
    (try rw [hy3] at hK)
    refine am_F.call rfl rfl (x_m_holders_154  f g hlC hlN hrC hrN hl0 hl5 hl2) (by first | decide | omega) ?_
    (try rw [hy3])
    refine am_F.mem (F' := (am_row (am_row (am_row f 93 y3.1) 94 y3.2.1) 96 y3.2.2)) (G' := g) ?_ (by first | rfl | (funext a; by_cases z0 : a = 93; (subst z0; rfl); by_cases z1 : a = 94; (subst z1; rfl); by_cases z2 : a = 96; (subst z2; rfl); simp only [am_ui, am_ul, am_row_ne z0, am_row_ne z1, am_row_ne z2])) (by first | rfl | (funext a; by_cases z0 : a = 93; (subst z0; rfl); by_cases z1 : a = 94; (subst z1; rfl); by_cases z2 : a = 96; (subst z2; rfl); simp only [am_ui, am_ul, am_row_ne z0, am_row_ne z1, am_row_ne z2]))
    show am_F _ _ 15 [.ref 88, .int (nI a0_n), .int (nI a1_n), am_un, am_un] [] (am_S (am_row (am_row (am_row f 93 y3.1) 94 y3.2.1) 96 y3.2.2) g) _
    refine am_F.ops (pc' := 20) (L' := [.ref 88, .int (nI a0_n), .int (nI a1_n), .int 0, .int 0]) (S' := []) (μ' := (am_S (am_row (am_row (am_row f 93 y3.1) 94 y3.2.1) 96 y3.2.2) g)) 4 rfl ?_
    obtain ⟨z20, hz20, hK⟩ := am_ob_e hKn hK
    refine am_F.mem (F' := (am_row (am_row (am_row (am_row f 88 (f 88)) 93 y3.1) 94 y3.2.1) 96 y3.2.2)) (G' := g) ?_ (by first | rfl | (funext a; by_cases z0 : a = 88; (subst z0; rfl); by_cases z1 : a = 93; (subst z1; rfl); by_cases z2 : a = 94; (subst z2; rfl); by_cases z3 : a = 96; (subst z3; rfl); simp only [am_ui, am_ul, am_row_ne z0, am_row_ne z1, am_row_ne z2, am_row_ne z3])) (by first | rfl | (funext a; by_cases z0 : a = 88; (subst z0; rfl); by_cases z1 : a = 93; (subst z1; rfl); by_cases z2 : a = 94; (subst z2; rfl); by_cases z3 : a = 96; (subst z3; rfl); simp only [am_ui, am_ul, am_row_ne z0, am_row_ne z1, am_row_ne z2, am_row_ne z3]))
    show am_F _ _ 20 [.ref 88, .int (nI a0_n), .int (nI a1_n), .int 0, .int (nI 0)] [] (am_S (am_row (am_row (am_row (am_row f 88 (f 88)) 93 y3.1) 94 y3.2.1) 96 y3.2.2) g) _
    refine lp_m_where_20 a0_n a1_n f g y3 hmk hlC hlN hrC hrN hl0 hl5 hl2 ha0_n ha1_n _ 16 0 0 (f 88)  (by omega) ?_
    rw [show am_forO (st_m_where_20 a0_n a1_n f y3) 16 0 (0, f 88) = (lf_m_where_20 a0_n a1_n f y3) from rfl, hz20]
    rcases z20 with z20 | z
    · intro wc20
      show am_F _ _ 56 [.ref 88, .int (nI a0_n), .int (nI a1_n), .int z20.1, wc20] [] (am_S (am_row (am_row (am_row (am_row f 88 z20.2) 93 y3.1) 94 y3.2.1) 96 y3.2.2) g) _
      (try simp only [Sum.elim_inl] at hK)
      refine am_F.ops (pc' := 57) (L' := [.ref 88, .int (nI a0_n), .int (nI a1_n), .int z20.1, wc20]) (S' := [.int z20.1]) (μ' := (am_S (am_row (am_row (am_row (am_row f 88 z20.2) 93 y3.1) 94 y3.2.1) 96 y3.2.2) g)) 1 rfl ?_
      subst hKd
      have hQ := am_KO_s hK
      exact am_F.eq (am_F.ret rfl rfl) hQ
    · exact z.elim
  · show am_F _ _ 9 [.ref 88, .int a0, .int a1, am_un, am_un] [] (am_S f g) _
    refine am_F.ops (pc' := 10) (L' := [.ref 88, .int a0, .int a1, am_un, am_un]) (S' := [.int (-1)]) (μ' := (am_S f g)) 1 rfl ?_
    refine am_F.mem (F' := (am_row (am_row (am_row (am_row f 88 (f 88)) 93 (f 93)) 94 (f 94)) 96 (f 96))) (G' := g) ?_ (by first | rfl | (funext a; by_cases z0 : a = 88; (subst z0; rfl); by_cases z1 : a = 93; (subst z1; rfl); by_cases z2 : a = 94; (subst z2; rfl); by_cases z3 : a = 96; (subst z3; rfl); simp only [am_ui, am_ul, am_row_ne z0, am_row_ne z1, am_row_ne z2, am_row_ne z3])) (by first | rfl | (funext a; by_cases z0 : a = 88; (subst z0; rfl); by_cases z1 : a = 93; (subst z1; rfl); by_cases z2 : a = 94; (subst z2; rfl); by_cases z3 : a = 96; (subst z3; rfl); simp only [am_ui, am_ul, am_row_ne z0, am_row_ne z1, am_row_ne z2, am_row_ne z3]))
    subst hKd
    have hQ := am_KO_s hK
    exact am_F.eq (am_F.ret rfl rfl) hQ
/-- AccessLatticeModel.could, with checks -/
noncomputable def st_m_could_38 (a0_n : Nat) (a1_n : Nat) (f : Nat → Nat → Int32) : Nat → Int32 × (Nat → Int32) × (Nat → Int32) × (Nat → Int32) × (Nat → Int32) × (Nat → Int32) → Option (Int32 × (Nat → Int32) × (Nat → Int32) × (Nat → Int32) × (Nat → Int32) × (Nat → Int32) ⊕ (Int32 × (Nat → Int32) × (Nat → Int32) × (Nat → Int32) × (Nat → Int32) × (Nat → Int32) ⊕ Empty)) := fun i38 z => match z with
  | (a38_5, r38_88, r38_89, r38_93, r38_94, r38_96) => (am_chk (am_mOK (upd r38_89 200 ((f 89 200) + (nI i38)))) (am_ob (fn_m_whoBy (nI a0_n) (nI a1_n) 1 (am_row (am_row (am_row (am_row (am_row f 88 r38_88) 89 (upd r38_89 200 ((f 89 200) + (nI i38)))) 93 r38_93) 94 r38_94) 96 r38_96)) (fun (y8 : Int32 × (Nat → Int32) × (Nat → Int32) × (Nat → Int32) × (Nat → Int32)) => (some (.inl (a38_5 ||| y8.1, y8.2.1, upd r38_89 200 ((f 89 200) + (nI i38)), y8.2.2.1, y8.2.2.2.1, y8.2.2.2.2))))))
noncomputable def lf_m_could_38 (a0_n : Nat) (a1_n : Nat) (a2_n : Nat) (f : Nat → Nat → Int32) : Option (Int32 × (Nat → Int32) × (Nat → Int32) × (Nat → Int32) × (Nat → Int32) × (Nat → Int32) ⊕ Empty) := am_forO (st_m_could_38 a0_n a1_n f) (a2_n + 1) 0 (0, f 88, f 89, f 93, f 94, f 96)
noncomputable def fn_m_could (a0 : Int32) (a1 : Int32) (a2 : Int32) (f : Nat → Nat → Int32) : Option (Int32 × (Nat → Int32) × (Nat → Int32) × (Nat → Int32) × (Nat → Int32) × (Nat → Int32)) := (bif (fn_m_isAsk 0 a0 a1) then (bif (fn_m_isIn a2 0 200) then (am_ob (lf_m_could_38 (a0.toNatClampNeg) (a1.toNatClampNeg) (a2.toNatClampNeg) f) (fun zz => Sum.elim (fun (z38 : Int32 × (Nat → Int32) × (Nat → Int32) × (Nat → Int32) × (Nat → Int32) × (Nat → Int32)) => (some (z38.1, z38.2.1, upd z38.2.2.1 200 (f 89 200), z38.2.2.2.1, z38.2.2.2.2.1, z38.2.2.2.2.2))) (fun (z : Empty) => z.elim) zz)) else (some ((-1), f 88, f 89, f 93, f 94, f 96))) else (some ((-1), f 88, f 89, f 93, f 94, f 96)))
theorem lp_m_could_38 (a0_n : Nat) (a1_n : Nat) (a2_n : Nat) (f : Nat → Nat → Int32) (g : Nat → Nat → Int64) (hmk : am_mOK (f 89)) (hlC : f 89 201 = nI (f 89 201).toNatClampNeg) (hlN : (f 89 201).toNatClampNeg ≤ 40) (hrC : f 89 202 = nI (f 89 202).toNatClampNeg) (hrN : (f 89 202).toNatClampNeg ≤ 30) (hl0 : ∀ i, i < (f 89 201).toNatClampNeg → am_inb (fn_m_loanAt i 0 f) 16 = true) (hl5 : ∀ i, i < (f 89 201).toNatClampNeg → ¬ fn_m_loanAt i 5 f < 0 → am_inb (fn_m_loanAt i 5 f) 40 = true) (hl2 : ∀ i, i < (f 89 201).toNatClampNeg → am_inb (fn_m_loanAt i 2 f) 20 = true) (ha0_n : a0_n < 8) (ha1_n : a1_n < 16) (ha2_n : a2_n < 201) (res : Option Value × am_M) : ∀ (n i38 : Nat) (a38_5 : Int32) (r38_88 : Nat → Int32) (r38_89 : Nat → Int32) (r38_93 : Nat → Int32) (r38_94 : Nat → Int32) (r38_96 : Nat → Int32) , i38 + n = (a2_n + 1) → am_KO (am_KX (fun (z : Int32 × (Nat → Int32) × (Nat → Int32) × (Nat → Int32) × (Nat → Int32) × (Nat → Int32)) => ∀ (wc38 : Value), am_F 85 am_k_213 75 [.ref 88, .int (nI a0_n), .int (nI a1_n), .int (nI a2_n), .int (f 89 200), .int z.1, wc38] [] (am_S (am_row (am_row (am_row (am_row (am_row f 88 z.2.1) 89 z.2.2.1) 93 z.2.2.2.1) 94 z.2.2.2.2.1) 96 z.2.2.2.2.2) g) res) (fun (z : Empty) => True)) (am_forO (st_m_could_38 a0_n a1_n f) n i38 (a38_5, r38_88, r38_89, r38_93, r38_94, r38_96)) → am_F 85 am_k_213 38 [.ref 88, .int (nI a0_n), .int (nI a1_n), .int (nI a2_n), .int (f 89 200), .int a38_5, .int (nI i38)] [] (am_S (am_row (am_row (am_row (am_row (am_row f 88 r38_88) 89 r38_89) 93 r38_93) 94 r38_94) 96 r38_96) g) res := by
  intro n
  induction n with
  | zero =>
    intro i38 a38_5 r38_88 r38_89 r38_93 r38_94 r38_96 hi hK
    refine am_F.pos 3 rfl (by show (nI a2_n) < nI i38; rw [show (nI a2_n : Int32) = nI a2_n from rfl]; exact nI_lt (by omega) (by omega)) ?_
    exact hK _
  | succ n ih =>
    intro i38 a38_5 r38_88 r38_89 r38_93 r38_94 r38_96 hi hK
    refine am_F.neg 3 rfl (by show ¬ (nI a2_n) < nI i38; rw [show (nI a2_n : Int32) = nI a2_n from rfl]; exact nI_nlt (by omega) (by omega)) ?_
    have hb38 : i38 < (a2_n + 1) := by omega
    show am_F _ _ 44 [.ref 88, .int (nI a0_n), .int (nI a1_n), .int (nI a2_n), .int (f 89 200), .int a38_5, .int (nI i38)] [] (am_S (am_row (am_row (am_row (am_row (am_row f 88 r38_88) 89 r38_89) 93 r38_93) 94 r38_94) 96 r38_96) g) _
    obtain ⟨K, hKd⟩ : ∃ K : Option (Int32 × (Nat → Int32) × (Nat → Int32) × (Nat → Int32) × (Nat → Int32) × (Nat → Int32) ⊕ (Int32 × (Nat → Int32) × (Nat → Int32) × (Nat → Int32) × (Nat → Int32) × (Nat → Int32) ⊕ Empty)) → Prop, K = fun s => am_KO (am_KX (fun (z : Int32 × (Nat → Int32) × (Nat → Int32) × (Nat → Int32) × (Nat → Int32) × (Nat → Int32)) => ∀ (wc38 : Value), am_F 85 am_k_213 75 [.ref 88, .int (nI a0_n), .int (nI a1_n), .int (nI a2_n), .int (f 89 200), .int z.1, wc38] [] (am_S (am_row (am_row (am_row (am_row (am_row f 88 z.2.1) 89 z.2.2.1) 93 z.2.2.2.1) 94 z.2.2.2.2.1) 96 z.2.2.2.2.2) g) res) (fun (z : Empty) => True)) (am_whn (fun z => am_forO (st_m_could_38 a0_n a1_n f) n (i38 + 1) z) s) := ⟨_, rfl⟩
    have hK : K ((st_m_could_38 a0_n a1_n f) i38 (a38_5, r38_88, r38_89, r38_93, r38_94, r38_96)) := by rw [am_forO_s] at hK; rw [hKd]; with_reducible exact hK
    have hKn : ¬ K none := by rw [hKd]; exact id
    unfold st_m_could_38 at hK
    simp only at hK
    refine am_F.ops (pc' := 56) (L' := [.ref 88, .int (nI a0_n), .int (nI a1_n), .int (nI a2_n), .int (f 89 200), .int a38_5, .int (nI i38)]) (S' := [.int ((f 89 200) + (nI i38)), .int 200, .ref 89]) (μ' := (am_S (am_row (am_row (am_row (am_row (am_row f 88 r38_88) 89 r38_89) 93 r38_93) 94 r38_94) 96 r38_96) g)) 6 rfl ?_
    refine am_F.iasE (F' := (am_row (am_row (am_row (am_row (am_row f 88 r38_88) 89 (upd r38_89 200 ((f 89 200) + (nI i38)))) 93 r38_93) 94 r38_94) 96 r38_96)) (m := 200) (N := 3340) rfl rfl rfl rfl (by omega) (by decide) (by first | rfl | (funext a; by_cases z0 : a = 88; (subst z0; rfl); by_cases z1 : a = 89; (subst z1; rfl); by_cases z2 : a = 93; (subst z2; rfl); by_cases z3 : a = 94; (subst z3; rfl); by_cases z4 : a = 96; (subst z4; rfl); simp only [am_ui, am_ul, am_row_ne z0, am_row_ne z1, am_row_ne z2, am_row_ne z3, am_row_ne z4])) ?_
    refine am_F.ops (pc' := 63) (L' := [.ref 88, .int (nI a0_n), .int (nI a1_n), .int (nI a2_n), .int (f 89 200), .int a38_5, .int (nI i38)]) (S' := [.int 1, .int (nI a1_n), .int (nI a0_n), .ref 88, .int a38_5]) (μ' := (am_S (am_row (am_row (am_row (am_row (am_row f 88 r38_88) 89 (upd r38_89 200 ((f 89 200) + (nI i38)))) 93 r38_93) 94 r38_94) 96 r38_96) g)) 5 rfl ?_
    obtain ⟨q7, hK⟩ := am_chk_e hKn hK
    obtain ⟨y8, hy8, hK⟩ := am_ob_e hKn hK
    refine am_F.call rfl rfl (x_m_whoBy (nI a0_n) (nI a1_n) 1 (am_row (am_row (am_row (am_row (am_row f 88 r38_88) 89 (upd r38_89 200 ((f 89 200) + (nI i38)))) 93 r38_93) 94 r38_94) 96 r38_96) g q7 y8 hy8) (by first | decide | omega) ?_
    refine am_F.mem (F' := (am_row (am_row (am_row (am_row (am_row f 88 y8.2.1) 89 (upd r38_89 200 ((f 89 200) + (nI i38)))) 93 y8.2.2.1) 94 y8.2.2.2.1) 96 y8.2.2.2.2)) (G' := g) ?_ (by first | rfl | (funext a; by_cases z0 : a = 88; (subst z0; rfl); by_cases z1 : a = 89; (subst z1; rfl); by_cases z2 : a = 93; (subst z2; rfl); by_cases z3 : a = 94; (subst z3; rfl); by_cases z4 : a = 96; (subst z4; rfl); simp only [am_ui, am_ul, am_row_ne z0, am_row_ne z1, am_row_ne z2, am_row_ne z3, am_row_ne z4])) (by first | rfl | (funext a; by_cases z0 : a = 88; (subst z0; rfl); by_cases z1 : a = 89; (subst z1; rfl); by_cases z2 : a = 93; (subst z2; rfl); by_cases z3 : a = 94; (subst z3; rfl); by_cases z4 : a = 96; (subst z4; rfl); simp only [am_ui, am_ul, am_row_ne z0, am_row_ne z1, am_row_ne z2, am_row_ne z3, am_row_ne z4]))
    show am_F _ _ 66 [.ref 88, .int (nI a0_n), .int (nI a1_n), .int (nI a2_n), .int (f 89 200), .int a38_5, .int (nI i38)] [.int y8.1, .int a38_5] (am_S (am_row (am_row (am_row (am_row (am_row f 88 y8.2.1) 89 (upd r38_89 200 ((f 89 200) + (nI i38)))) 93 y8.2.2.1) 94 y8.2.2.2.1) 96 y8.2.2.2.2) g) _
    refine am_F.ops (pc' := 38) (L' := [.ref 88, .int (nI a0_n), .int (nI a1_n), .int (nI a2_n), .int (f 89 200), .int (a38_5 ||| y8.1), .int ((nI i38) + 1)]) (S' := []) (μ' := (am_S (am_row (am_row (am_row (am_row (am_row f 88 y8.2.1) 89 (upd r38_89 200 ((f 89 200) + (nI i38)))) 93 y8.2.2.1) 94 y8.2.2.2.1) 96 y8.2.2.2.2) g)) 4 rfl ?_
    rw [nI_1 i38]
    subst hKd
    exact ih (i38 + 1) (a38_5 ||| y8.1) y8.2.1 (upd r38_89 200 ((f 89 200) + (nI i38))) y8.2.2.1 y8.2.2.2.1 y8.2.2.2.2 (by omega) hK
theorem x_m_could (a0 : Int32) (a1 : Int32) (a2 : Int32) (f : Nat → Nat → Int32) (g : Nat → Nat → Int64) (hmk : am_mOK (f 89)) (z0 : Int32 × (Nat → Int32) × (Nat → Int32) × (Nat → Int32) × (Nat → Int32) × (Nat → Int32)) (hz0 : (fn_m_could a0 a1 a2 f) = some z0) : am_D 85 213 7 [.ref 88, .int a0, .int a1, .int a2] (am_S f g) (some (Value.int z0.1), am_S (am_row (am_row (am_row (am_row (am_row f 88 z0.2.1) 89 z0.2.2.1) 93 z0.2.2.2.1) 94 z0.2.2.2.2.1) 96 z0.2.2.2.2.2) g) := by
  obtain ⟨hlC, hlN, hrC, hrN, hl0, hl5, hl2⟩ := am_mOK_e hmk
  refine am_D.of (code := am_k_213) rfl (L0 := [.ref 88, .int a0, .int a1, .int a2, am_un, am_un, am_un]) rfl ?_
  generalize hres : (some (Value.int z0.1), am_S (am_row (am_row (am_row (am_row (am_row f 88 z0.2.1) 89 z0.2.2.1) 93 z0.2.2.2.1) 94 z0.2.2.2.2.1) 96 z0.2.2.2.2.2) g) = res
  obtain ⟨K, hKd⟩ : ∃ K : Option (Int32 × (Nat → Int32) × (Nat → Int32) × (Nat → Int32) × (Nat → Int32) × (Nat → Int32)) → Prop, K = am_KO (fun z => (some (Value.int z.1), am_S (am_row (am_row (am_row (am_row (am_row f 88 z.2.1) 89 z.2.2.1) 93 z.2.2.2.1) 94 z.2.2.2.2.1) 96 z.2.2.2.2.2) g) = res) := ⟨_, rfl⟩
  have hK : K (fn_m_could a0 a1 a2 f) := by rw [hKd, hz0]; exact hres
  have hKn : ¬ K none := by rw [hKd]; exact id
  clear hres hz0
  unfold fn_m_could at hK
  refine am_F.ops (pc' := 3) (L' := [.ref 88, .int a0, .int a1, .int a2, am_un, am_un, am_un]) (S' := [.int a1, .int a0, .int 0]) (μ' := (am_S f g)) 3 rfl ?_
  refine am_F.call rfl rfl (x_m_isAsk 0 a0 a1 f g ) (by first | decide | omega) ?_
  show am_F _ _ 6 [.ref 88, .int a0, .int a1, .int a2, am_un, am_un, am_un] [.int (am_b (fn_m_isAsk 0 a0 a1))] (am_S f g) _
  refine am_F.bifK 1 rfl K hK (fun c2 hK => ?_) (fun c2 hK => ?_)
  · obtain ⟨a0_n, ha0_n, ea0_n⟩ := (am_mAsk c2).2.1
    obtain ⟨a1_n, ha1_n, ea1_n⟩ := (am_mAsk c2).2.2
    subst ea0_n
    try simp only [nI_clamp (show a0_n < 2147483648 by omega)] at hK
    subst ea1_n
    try simp only [nI_clamp (show a1_n < 2147483648 by omega)] at hK
    show am_F _ _ 9 [.ref 88, .int (nI a0_n), .int (nI a1_n), .int a2, am_un, am_un, am_un] [] (am_S f g) _
    refine am_F.ops (pc' := 14) (L' := [.ref 88, .int (nI a0_n), .int (nI a1_n), .int a2, am_un, am_un, am_un]) (S' := [.int 200, .int 0, .int a2]) (μ' := (am_S f g)) 3 rfl ?_
    refine am_F.call rfl rfl (x_m_isIn a2 0 200 f g ) (by first | decide | omega) ?_
    show am_F _ _ 17 [.ref 88, .int (nI a0_n), .int (nI a1_n), .int a2, am_un, am_un, am_un] [.int (am_b (fn_m_isIn a2 0 200))] (am_S f g) _
    refine am_F.bifK 1 rfl K hK (fun c4 hK => ?_) (fun c4 hK => ?_)
    · obtain ⟨a2_n, ha2_n, ea2_n⟩ := am_mInN (N := 201) c4 (by decide)
      subst ea2_n
      try simp only [nI_clamp (show a2_n < 2147483648 by omega)] at hK
      show am_F _ _ 22 [.ref 88, .int (nI a0_n), .int (nI a1_n), .int (nI a2_n), am_un, am_un, am_un] [] (am_S f g) _
      refine am_F.ops (pc' := 38) (L' := [.ref 88, .int (nI a0_n), .int (nI a1_n), .int (nI a2_n), .int (f 89 200), .int 0, .int 0]) (S' := []) (μ' := (am_S f g)) 9 rfl ?_
      obtain ⟨z38, hz38, hK⟩ := am_ob_e hKn hK
      refine am_F.mem (F' := (am_row (am_row (am_row (am_row (am_row f 88 (f 88)) 89 (f 89)) 93 (f 93)) 94 (f 94)) 96 (f 96))) (G' := g) ?_ (by first | rfl | (funext a; by_cases z0 : a = 88; (subst z0; rfl); by_cases z1 : a = 89; (subst z1; rfl); by_cases z2 : a = 93; (subst z2; rfl); by_cases z3 : a = 94; (subst z3; rfl); by_cases z4 : a = 96; (subst z4; rfl); simp only [am_ui, am_ul, am_row_ne z0, am_row_ne z1, am_row_ne z2, am_row_ne z3, am_row_ne z4])) (by first | rfl | (funext a; by_cases z0 : a = 88; (subst z0; rfl); by_cases z1 : a = 89; (subst z1; rfl); by_cases z2 : a = 93; (subst z2; rfl); by_cases z3 : a = 94; (subst z3; rfl); by_cases z4 : a = 96; (subst z4; rfl); simp only [am_ui, am_ul, am_row_ne z0, am_row_ne z1, am_row_ne z2, am_row_ne z3, am_row_ne z4]))
      show am_F _ _ 38 [.ref 88, .int (nI a0_n), .int (nI a1_n), .int (nI a2_n), .int (f 89 200), .int 0, .int (nI 0)] [] (am_S (am_row (am_row (am_row (am_row (am_row f 88 (f 88)) 89 (f 89)) 93 (f 93)) 94 (f 94)) 96 (f 96)) g) _
      refine lp_m_could_38 a0_n a1_n a2_n f g hmk hlC hlN hrC hrN hl0 hl5 hl2 ha0_n ha1_n ha2_n _ (a2_n + 1) 0 0 (f 88) (f 89) (f 93) (f 94) (f 96)  (by omega) ?_
      rw [show am_forO (st_m_could_38 a0_n a1_n f) (a2_n + 1) 0 (0, f 88, f 89, f 93, f 94, f 96) = (lf_m_could_38 a0_n a1_n a2_n f) from rfl, hz38]
      rcases z38 with z38 | z
      · intro wc38
        show am_F _ _ 75 [.ref 88, .int (nI a0_n), .int (nI a1_n), .int (nI a2_n), .int (f 89 200), .int z38.1, wc38] [] (am_S (am_row (am_row (am_row (am_row (am_row f 88 z38.2.1) 89 z38.2.2.1) 93 z38.2.2.2.1) 94 z38.2.2.2.2.1) 96 z38.2.2.2.2.2) g) _
        (try simp only [Sum.elim_inl] at hK)
        refine am_F.ops (pc' := 84) (L' := [.ref 88, .int (nI a0_n), .int (nI a1_n), .int (nI a2_n), .int (f 89 200), .int z38.1, wc38]) (S' := [.int (f 89 200), .int 200, .ref 89]) (μ' := (am_S (am_row (am_row (am_row (am_row (am_row f 88 z38.2.1) 89 z38.2.2.1) 93 z38.2.2.2.1) 94 z38.2.2.2.2.1) 96 z38.2.2.2.2.2) g)) 4 rfl ?_
        refine am_F.iasE (F' := (am_row (am_row (am_row (am_row (am_row f 88 z38.2.1) 89 (upd z38.2.2.1 200 (f 89 200))) 93 z38.2.2.2.1) 94 z38.2.2.2.2.1) 96 z38.2.2.2.2.2)) (m := 200) (N := 3340) rfl rfl rfl rfl (by omega) (by decide) (by first | rfl | (funext a; by_cases z0 : a = 88; (subst z0; rfl); by_cases z1 : a = 89; (subst z1; rfl); by_cases z2 : a = 93; (subst z2; rfl); by_cases z3 : a = 94; (subst z3; rfl); by_cases z4 : a = 96; (subst z4; rfl); simp only [am_ui, am_ul, am_row_ne z0, am_row_ne z1, am_row_ne z2, am_row_ne z3, am_row_ne z4])) ?_
        refine am_F.ops (pc' := 87) (L' := [.ref 88, .int (nI a0_n), .int (nI a1_n), .int (nI a2_n), .int (f 89 200), .int z38.1, wc38]) (S' := [.int z38.1]) (μ' := (am_S (am_row (am_row (am_row (am_row (am_row f 88 z38.2.1) 89 (upd z38.2.2.1 200 (f 89 200))) 93 z38.2.2.2.1) 94 z38.2.2.2.2.1) 96 z38.2.2.2.2.2) g)) 1 rfl ?_
        subst hKd
        have hQ := am_KO_s hK
        exact am_F.eq (am_F.ret rfl rfl) hQ
      · exact z.elim
    · show am_F _ _ 20 [.ref 88, .int (nI a0_n), .int (nI a1_n), .int a2, am_un, am_un, am_un] [] (am_S f g) _
      refine am_F.ops (pc' := 21) (L' := [.ref 88, .int (nI a0_n), .int (nI a1_n), .int a2, am_un, am_un, am_un]) (S' := [.int (-1)]) (μ' := (am_S f g)) 1 rfl ?_
      refine am_F.mem (F' := (am_row (am_row (am_row (am_row (am_row f 88 (f 88)) 89 (f 89)) 93 (f 93)) 94 (f 94)) 96 (f 96))) (G' := g) ?_ (by first | rfl | (funext a; by_cases z0 : a = 88; (subst z0; rfl); by_cases z1 : a = 89; (subst z1; rfl); by_cases z2 : a = 93; (subst z2; rfl); by_cases z3 : a = 94; (subst z3; rfl); by_cases z4 : a = 96; (subst z4; rfl); simp only [am_ui, am_ul, am_row_ne z0, am_row_ne z1, am_row_ne z2, am_row_ne z3, am_row_ne z4])) (by first | rfl | (funext a; by_cases z0 : a = 88; (subst z0; rfl); by_cases z1 : a = 89; (subst z1; rfl); by_cases z2 : a = 93; (subst z2; rfl); by_cases z3 : a = 94; (subst z3; rfl); by_cases z4 : a = 96; (subst z4; rfl); simp only [am_ui, am_ul, am_row_ne z0, am_row_ne z1, am_row_ne z2, am_row_ne z3, am_row_ne z4]))
      subst hKd
      have hQ := am_KO_s hK
      exact am_F.eq (am_F.ret rfl rfl) hQ
  · show am_F _ _ 20 [.ref 88, .int a0, .int a1, .int a2, am_un, am_un, am_un] [] (am_S f g) _
    refine am_F.ops (pc' := 21) (L' := [.ref 88, .int a0, .int a1, .int a2, am_un, am_un, am_un]) (S' := [.int (-1)]) (μ' := (am_S f g)) 1 rfl ?_
    refine am_F.mem (F' := (am_row (am_row (am_row (am_row (am_row f 88 (f 88)) 89 (f 89)) 93 (f 93)) 94 (f 94)) 96 (f 96))) (G' := g) ?_ (by first | rfl | (funext a; by_cases z0 : a = 88; (subst z0; rfl); by_cases z1 : a = 89; (subst z1; rfl); by_cases z2 : a = 93; (subst z2; rfl); by_cases z3 : a = 94; (subst z3; rfl); by_cases z4 : a = 96; (subst z4; rfl); simp only [am_ui, am_ul, am_row_ne z0, am_row_ne z1, am_row_ne z2, am_row_ne z3, am_row_ne z4])) (by first | rfl | (funext a; by_cases z0 : a = 88; (subst z0; rfl); by_cases z1 : a = 89; (subst z1; rfl); by_cases z2 : a = 93; (subst z2; rfl); by_cases z3 : a = 94; (subst z3; rfl); by_cases z4 : a = 96; (subst z4; rfl); simp only [am_ui, am_ul, am_row_ne z0, am_row_ne z1, am_row_ne z2, am_row_ne z3, am_row_ne z4]))
    subst hKd
    have hQ := am_KO_s hK
    exact am_F.eq (am_F.ret rfl rfl) hQ
/-- AccessLatticeModel.shows, with checks -/
noncomputable def st_m_shows_13 (a0 : Int32) (a1 : Int32) (a2 : Int32) (f : Nat → Nat → Int32) : Nat → (Nat → Int32) × (Nat → Int32) × (Nat → Int32) × (Nat → Int32) × (Nat → Int32) × (Nat → Int32) → Option ((Nat → Int32) × (Nat → Int32) × (Nat → Int32) × (Nat → Int32) × (Nat → Int32) × (Nat → Int32) ⊕ ((Nat → Int32) × (Nat → Int32) × (Nat → Int32) × (Nat → Int32) × (Nat → Int32) × (Nat → Int32) ⊕ Empty)) := fun i13 z => match z with
  | (r13_88, r13_89, r13_93, r13_94, r13_96, r13_104) => (am_chk (am_mOK (upd r13_89 200 ((f 89 200) + (nI i13)))) (am_chk (am_inb a0 16 = true) (am_ob (fn_m_answer a0 a1 a2 (am_row (am_row (am_row (am_row (am_row (am_row f 88 r13_88) 89 (upd r13_89 200 ((f 89 200) + (nI i13)))) 93 (fn_m_stand_155 (am_row (am_row (am_row (am_row (am_row (am_row f 88 r13_88) 89 (upd r13_89 200 ((f 89 200) + (nI i13)))) 93 r13_93) 94 r13_94) 96 r13_96) 104 r13_104)).1) 94 (upd r13_94 a0.toNatClampNeg (fn_m_heldBy_159 a0.toNatClampNeg (am_row (am_row (am_row (am_row (am_row (am_row f 88 r13_88) 89 (upd r13_89 200 ((f 89 200) + (nI i13)))) 93 (fn_m_stand_155 (am_row (am_row (am_row (am_row (am_row (am_row f 88 r13_88) 89 (upd r13_89 200 ((f 89 200) + (nI i13)))) 93 r13_93) 94 r13_94) 96 r13_96) 104 r13_104)).1) 94 r13_94) 96 (fn_m_stand_155 (am_row (am_row (am_row (am_row (am_row (am_row f 88 r13_88) 89 (upd r13_89 200 ((f 89 200) + (nI i13)))) 93 r13_93) 94 r13_94) 96 r13_96) 104 r13_104)).2) 104 r13_104)))) 96 (fn_m_stand_155 (am_row (am_row (am_row (am_row (am_row (am_row f 88 r13_88) 89 (upd r13_89 200 ((f 89 200) + (nI i13)))) 93 r13_93) 94 r13_94) 96 r13_96) 104 r13_104)).2) 104 r13_104)) (fun (y11 : Int32 × (Nat → Int32)) => (am_chk (i13 < 201) (some (.inl (y11.2, upd r13_89 200 ((f 89 200) + (nI i13)), (fn_m_stand_155 (am_row (am_row (am_row (am_row (am_row (am_row f 88 r13_88) 89 (upd r13_89 200 ((f 89 200) + (nI i13)))) 93 r13_93) 94 r13_94) 96 r13_96) 104 r13_104)).1, upd r13_94 a0.toNatClampNeg (fn_m_heldBy_159 a0.toNatClampNeg (am_row (am_row (am_row (am_row (am_row (am_row f 88 r13_88) 89 (upd r13_89 200 ((f 89 200) + (nI i13)))) 93 (fn_m_stand_155 (am_row (am_row (am_row (am_row (am_row (am_row f 88 r13_88) 89 (upd r13_89 200 ((f 89 200) + (nI i13)))) 93 r13_93) 94 r13_94) 96 r13_96) 104 r13_104)).1) 94 r13_94) 96 (fn_m_stand_155 (am_row (am_row (am_row (am_row (am_row (am_row f 88 r13_88) 89 (upd r13_89 200 ((f 89 200) + (nI i13)))) 93 r13_93) 94 r13_94) 96 r13_96) 104 r13_104)).2) 104 r13_104)), (fn_m_stand_155 (am_row (am_row (am_row (am_row (am_row (am_row f 88 r13_88) 89 (upd r13_89 200 ((f 89 200) + (nI i13)))) 93 r13_93) 94 r13_94) 96 r13_96) 104 r13_104)).2, upd r13_104 i13 y11.1))))))))
noncomputable def lf_m_shows_13 (a0 : Int32) (a1 : Int32) (a2 : Int32) (f : Nat → Nat → Int32) : Option ((Nat → Int32) × (Nat → Int32) × (Nat → Int32) × (Nat → Int32) × (Nat → Int32) × (Nat → Int32) ⊕ Empty) := am_forO (st_m_shows_13 a0 a1 a2 f) (200 + 1) 0 (f 88, f 89, f 93, f 94, f 96, f 104)
noncomputable def fn_m_shows (a0 : Int32) (a1 : Int32) (a2 : Int32) (f : Nat → Nat → Int32) : Option ((Nat → Int32) × (Nat → Int32) × (Nat → Int32) × (Nat → Int32) × (Nat → Int32) × (Nat → Int32)) := (am_ob (lf_m_shows_13 a0 a1 a2 f) (fun zz => Sum.elim (fun (z13 : (Nat → Int32) × (Nat → Int32) × (Nat → Int32) × (Nat → Int32) × (Nat → Int32) × (Nat → Int32)) => (some (z13.1, upd z13.2.1 200 (f 89 200), z13.2.2.1, z13.2.2.2.1, z13.2.2.2.2.1, z13.2.2.2.2.2))) (fun (z : Empty) => z.elim) zz))
theorem lp_m_shows_13 (a0 : Int32) (a1 : Int32) (a2 : Int32) (f : Nat → Nat → Int32) (g : Nat → Nat → Int64) (hmk : am_mOK (f 89)) (hlC : f 89 201 = nI (f 89 201).toNatClampNeg) (hlN : (f 89 201).toNatClampNeg ≤ 40) (hrC : f 89 202 = nI (f 89 202).toNatClampNeg) (hrN : (f 89 202).toNatClampNeg ≤ 30) (hl0 : ∀ i, i < (f 89 201).toNatClampNeg → am_inb (fn_m_loanAt i 0 f) 16 = true) (hl5 : ∀ i, i < (f 89 201).toNatClampNeg → ¬ fn_m_loanAt i 5 f < 0 → am_inb (fn_m_loanAt i 5 f) 40 = true) (hl2 : ∀ i, i < (f 89 201).toNatClampNeg → am_inb (fn_m_loanAt i 2 f) 20 = true) (res : Option Value × am_M) : ∀ (n i13 : Nat) (r13_88 : Nat → Int32) (r13_89 : Nat → Int32) (r13_93 : Nat → Int32) (r13_94 : Nat → Int32) (r13_96 : Nat → Int32) (r13_104 : Nat → Int32) , i13 + n = (200 + 1) → am_KO (am_KX (fun (z : (Nat → Int32) × (Nat → Int32) × (Nat → Int32) × (Nat → Int32) × (Nat → Int32) × (Nat → Int32)) => ∀ (wc13 : Value), am_F 84 am_k_224 69 [.ref 88, .int a0, .int a1, .int a2, .int (f 89 200), wc13] [] (am_S (am_row (am_row (am_row (am_row (am_row (am_row f 88 z.1) 89 z.2.1) 93 z.2.2.1) 94 z.2.2.2.1) 96 z.2.2.2.2.1) 104 z.2.2.2.2.2) g) res) (fun (z : Empty) => True)) (am_forO (st_m_shows_13 a0 a1 a2 f) n i13 (r13_88, r13_89, r13_93, r13_94, r13_96, r13_104)) → am_F 84 am_k_224 13 [.ref 88, .int a0, .int a1, .int a2, .int (f 89 200), .int (nI i13)] [] (am_S (am_row (am_row (am_row (am_row (am_row (am_row f 88 r13_88) 89 r13_89) 93 r13_93) 94 r13_94) 96 r13_96) 104 r13_104) g) res := by
  intro n
  induction n with
  | zero =>
    intro i13 r13_88 r13_89 r13_93 r13_94 r13_96 r13_104 hi hK
    refine am_F.pos 3 rfl (by show 200 < nI i13; rw [show (200 : Int32) = nI 200 from rfl]; exact nI_lt (by omega) (by omega)) ?_
    exact hK _
  | succ n ih =>
    intro i13 r13_88 r13_89 r13_93 r13_94 r13_96 r13_104 hi hK
    refine am_F.neg 3 rfl (by show ¬ 200 < nI i13; rw [show (200 : Int32) = nI 200 from rfl]; exact nI_nlt (by omega) (by omega)) ?_
    have hb13 : i13 < (200 + 1) := by omega
    show am_F _ _ 21 [.ref 88, .int a0, .int a1, .int a2, .int (f 89 200), .int (nI i13)] [] (am_S (am_row (am_row (am_row (am_row (am_row (am_row f 88 r13_88) 89 r13_89) 93 r13_93) 94 r13_94) 96 r13_96) 104 r13_104) g) _
    obtain ⟨K, hKd⟩ : ∃ K : Option ((Nat → Int32) × (Nat → Int32) × (Nat → Int32) × (Nat → Int32) × (Nat → Int32) × (Nat → Int32) ⊕ ((Nat → Int32) × (Nat → Int32) × (Nat → Int32) × (Nat → Int32) × (Nat → Int32) × (Nat → Int32) ⊕ Empty)) → Prop, K = fun s => am_KO (am_KX (fun (z : (Nat → Int32) × (Nat → Int32) × (Nat → Int32) × (Nat → Int32) × (Nat → Int32) × (Nat → Int32)) => ∀ (wc13 : Value), am_F 84 am_k_224 69 [.ref 88, .int a0, .int a1, .int a2, .int (f 89 200), wc13] [] (am_S (am_row (am_row (am_row (am_row (am_row (am_row f 88 z.1) 89 z.2.1) 93 z.2.2.1) 94 z.2.2.2.1) 96 z.2.2.2.2.1) 104 z.2.2.2.2.2) g) res) (fun (z : Empty) => True)) (am_whn (fun z => am_forO (st_m_shows_13 a0 a1 a2 f) n (i13 + 1) z) s) := ⟨_, rfl⟩
    have hK : K ((st_m_shows_13 a0 a1 a2 f) i13 (r13_88, r13_89, r13_93, r13_94, r13_96, r13_104)) := by rw [am_forO_s] at hK; rw [hKd]; with_reducible exact hK
    have hKn : ¬ K none := by rw [hKd]; exact id
    unfold st_m_shows_13 at hK
    simp only at hK
    refine am_F.ops (pc' := 33) (L' := [.ref 88, .int a0, .int a1, .int a2, .int (f 89 200), .int (nI i13)]) (S' := [.int ((f 89 200) + (nI i13)), .int 200, .ref 89]) (μ' := (am_S (am_row (am_row (am_row (am_row (am_row (am_row f 88 r13_88) 89 r13_89) 93 r13_93) 94 r13_94) 96 r13_96) 104 r13_104) g)) 6 rfl ?_
    refine am_F.iasE (F' := (am_row (am_row (am_row (am_row (am_row (am_row f 88 r13_88) 89 (upd r13_89 200 ((f 89 200) + (nI i13)))) 93 r13_93) 94 r13_94) 96 r13_96) 104 r13_104)) (m := 200) (N := 3340) rfl rfl rfl rfl (by omega) (by decide) (by first | rfl | (funext a; by_cases z0 : a = 88; (subst z0; rfl); by_cases z1 : a = 89; (subst z1; rfl); by_cases z2 : a = 93; (subst z2; rfl); by_cases z3 : a = 94; (subst z3; rfl); by_cases z4 : a = 96; (subst z4; rfl); by_cases z5 : a = 104; (subst z5; rfl); simp only [am_ui, am_ul, am_row_ne z0, am_row_ne z1, am_row_ne z2, am_row_ne z3, am_row_ne z4, am_row_ne z5])) ?_
    refine am_F.ops (pc' := 35) (L' := [.ref 88, .int a0, .int a1, .int a2, .int (f 89 200), .int (nI i13)]) (S' := [.ref 88]) (μ' := (am_S (am_row (am_row (am_row (am_row (am_row (am_row f 88 r13_88) 89 (upd r13_89 200 ((f 89 200) + (nI i13)))) 93 r13_93) 94 r13_94) 96 r13_96) 104 r13_104) g)) 1 rfl ?_
    obtain ⟨q7, hK⟩ := am_chk_e hKn hK
    obtain ⟨y8, hy8⟩ : ∃ z, (fn_m_stand_155 (am_row (am_row (am_row (am_row (am_row (am_row f 88 r13_88) 89 (upd r13_89 200 ((f 89 200) + (nI i13)))) 93 r13_93) 94 r13_94) 96 r13_96) 104 r13_104)) = z := ⟨_, rfl⟩
    (try rw [hy8] at hK)
    refine am_F.call rfl rfl (x_m_stand_155  (am_row (am_row (am_row (am_row (am_row (am_row f 88 r13_88) 89 (upd r13_89 200 ((f 89 200) + (nI i13)))) 93 r13_93) 94 r13_94) 96 r13_96) 104 r13_104) g (am_mOK_e (f := (am_row (am_row (am_row (am_row (am_row (am_row f 88 r13_88) 89 (upd r13_89 200 ((f 89 200) + (nI i13)))) 93 r13_93) 94 r13_94) 96 r13_96) 104 r13_104)) q7).1 (am_mOK_e (f := (am_row (am_row (am_row (am_row (am_row (am_row f 88 r13_88) 89 (upd r13_89 200 ((f 89 200) + (nI i13)))) 93 r13_93) 94 r13_94) 96 r13_96) 104 r13_104)) q7).2.1 (am_mOK_e (f := (am_row (am_row (am_row (am_row (am_row (am_row f 88 r13_88) 89 (upd r13_89 200 ((f 89 200) + (nI i13)))) 93 r13_93) 94 r13_94) 96 r13_96) 104 r13_104)) q7).2.2.1 (am_mOK_e (f := (am_row (am_row (am_row (am_row (am_row (am_row f 88 r13_88) 89 (upd r13_89 200 ((f 89 200) + (nI i13)))) 93 r13_93) 94 r13_94) 96 r13_96) 104 r13_104)) q7).2.2.2.1 (am_mOK_e (f := (am_row (am_row (am_row (am_row (am_row (am_row f 88 r13_88) 89 (upd r13_89 200 ((f 89 200) + (nI i13)))) 93 r13_93) 94 r13_94) 96 r13_96) 104 r13_104)) q7).2.2.2.2.1 (am_mOK_e (f := (am_row (am_row (am_row (am_row (am_row (am_row f 88 r13_88) 89 (upd r13_89 200 ((f 89 200) + (nI i13)))) 93 r13_93) 94 r13_94) 96 r13_96) 104 r13_104)) q7).2.2.2.2.2.1 (am_mOK_e (f := (am_row (am_row (am_row (am_row (am_row (am_row f 88 r13_88) 89 (upd r13_89 200 ((f 89 200) + (nI i13)))) 93 r13_93) 94 r13_94) 96 r13_96) 104 r13_104)) q7).2.2.2.2.2.2) (by first | decide | omega) ?_
    (try rw [hy8])
    refine am_F.mem (F' := (am_row (am_row (am_row (am_row (am_row (am_row f 88 r13_88) 89 (upd r13_89 200 ((f 89 200) + (nI i13)))) 93 y8.1) 94 r13_94) 96 y8.2) 104 r13_104)) (G' := g) ?_ (by first | rfl | (funext a; by_cases z0 : a = 88; (subst z0; rfl); by_cases z1 : a = 89; (subst z1; rfl); by_cases z2 : a = 93; (subst z2; rfl); by_cases z3 : a = 94; (subst z3; rfl); by_cases z4 : a = 96; (subst z4; rfl); by_cases z5 : a = 104; (subst z5; rfl); simp only [am_ui, am_ul, am_row_ne z0, am_row_ne z1, am_row_ne z2, am_row_ne z3, am_row_ne z4, am_row_ne z5])) (by first | rfl | (funext a; by_cases z0 : a = 88; (subst z0; rfl); by_cases z1 : a = 89; (subst z1; rfl); by_cases z2 : a = 93; (subst z2; rfl); by_cases z3 : a = 94; (subst z3; rfl); by_cases z4 : a = 96; (subst z4; rfl); by_cases z5 : a = 104; (subst z5; rfl); simp only [am_ui, am_ul, am_row_ne z0, am_row_ne z1, am_row_ne z2, am_row_ne z3, am_row_ne z4, am_row_ne z5]))
    show am_F _ _ 38 [.ref 88, .int a0, .int a1, .int a2, .int (f 89 200), .int (nI i13)] [] (am_S (am_row (am_row (am_row (am_row (am_row (am_row f 88 r13_88) 89 (upd r13_89 200 ((f 89 200) + (nI i13)))) 93 y8.1) 94 r13_94) 96 y8.2) 104 r13_104) g) _
    refine am_F.ops (pc' := 45) (L' := [.ref 88, .int a0, .int a1, .int a2, .int (f 89 200), .int (nI i13)]) (S' := [.int a0, .ref 88, .int a0, .ref 94]) (μ' := (am_S (am_row (am_row (am_row (am_row (am_row (am_row f 88 r13_88) 89 (upd r13_89 200 ((f 89 200) + (nI i13)))) 93 y8.1) 94 r13_94) 96 y8.2) 104 r13_104) g)) 5 rfl ?_
    obtain ⟨q9, hK⟩ := am_chk_e hKn hK
    refine am_F.call rfl rfl (am_D.args (congrArg (fun (x9 : Int32) => ([.ref 88, .int x9] : List Value)) (show (a0 : Int32) = nI a0.toNatClampNeg from (am_inbQ q9).1)) (x_m_heldBy_159 a0.toNatClampNeg (am_row (am_row (am_row (am_row (am_row (am_row f 88 r13_88) 89 (upd r13_89 200 ((f 89 200) + (nI i13)))) 93 y8.1) 94 r13_94) 96 y8.2) 104 r13_104) g (am_mOK_e (f := (am_row (am_row (am_row (am_row (am_row (am_row f 88 r13_88) 89 (upd r13_89 200 ((f 89 200) + (nI i13)))) 93 y8.1) 94 r13_94) 96 y8.2) 104 r13_104)) q7).1 (am_mOK_e (f := (am_row (am_row (am_row (am_row (am_row (am_row f 88 r13_88) 89 (upd r13_89 200 ((f 89 200) + (nI i13)))) 93 y8.1) 94 r13_94) 96 y8.2) 104 r13_104)) q7).2.1 (am_mOK_e (f := (am_row (am_row (am_row (am_row (am_row (am_row f 88 r13_88) 89 (upd r13_89 200 ((f 89 200) + (nI i13)))) 93 y8.1) 94 r13_94) 96 y8.2) 104 r13_104)) q7).2.2.1 (am_mOK_e (f := (am_row (am_row (am_row (am_row (am_row (am_row f 88 r13_88) 89 (upd r13_89 200 ((f 89 200) + (nI i13)))) 93 y8.1) 94 r13_94) 96 y8.2) 104 r13_104)) q7).2.2.2.1 (am_mOK_e (f := (am_row (am_row (am_row (am_row (am_row (am_row f 88 r13_88) 89 (upd r13_89 200 ((f 89 200) + (nI i13)))) 93 y8.1) 94 r13_94) 96 y8.2) 104 r13_104)) q7).2.2.2.2.1 (am_mOK_e (f := (am_row (am_row (am_row (am_row (am_row (am_row f 88 r13_88) 89 (upd r13_89 200 ((f 89 200) + (nI i13)))) 93 y8.1) 94 r13_94) 96 y8.2) 104 r13_104)) q7).2.2.2.2.2.1 (am_mOK_e (f := (am_row (am_row (am_row (am_row (am_row (am_row f 88 r13_88) 89 (upd r13_89 200 ((f 89 200) + (nI i13)))) 93 y8.1) 94 r13_94) 96 y8.2) 104 r13_104)) q7).2.2.2.2.2.2 (am_inbQ q9).2)) (by first | decide | omega) ?_
    show am_F _ _ 48 [.ref 88, .int a0, .int a1, .int a2, .int (f 89 200), .int (nI i13)] [.int (fn_m_heldBy_159 a0.toNatClampNeg (am_row (am_row (am_row (am_row (am_row (am_row f 88 r13_88) 89 (upd r13_89 200 ((f 89 200) + (nI i13)))) 93 y8.1) 94 r13_94) 96 y8.2) 104 r13_104)), .int a0, .ref 94] (am_S (am_row (am_row (am_row (am_row (am_row (am_row f 88 r13_88) 89 (upd r13_89 200 ((f 89 200) + (nI i13)))) 93 y8.1) 94 r13_94) 96 y8.2) 104 r13_104) g) _
    refine am_F.ias (F' := (am_row (am_row (am_row (am_row (am_row (am_row f 88 r13_88) 89 (upd r13_89 200 ((f 89 200) + (nI i13)))) 93 y8.1) 94 (upd r13_94 a0.toNatClampNeg (fn_m_heldBy_159 a0.toNatClampNeg (am_row (am_row (am_row (am_row (am_row (am_row f 88 r13_88) 89 (upd r13_89 200 ((f 89 200) + (nI i13)))) 93 y8.1) 94 r13_94) 96 y8.2) 104 r13_104)))) 96 y8.2) 104 r13_104)) (N := 16) rfl rfl rfl q9 (by first | rfl | (funext a; by_cases z0 : a = 88; (subst z0; rfl); by_cases z1 : a = 89; (subst z1; rfl); by_cases z2 : a = 93; (subst z2; rfl); by_cases z3 : a = 94; (subst z3; rfl); by_cases z4 : a = 96; (subst z4; rfl); by_cases z5 : a = 104; (subst z5; rfl); simp only [am_ui, am_ul, am_row_ne z0, am_row_ne z1, am_row_ne z2, am_row_ne z3, am_row_ne z4, am_row_ne z5])) ?_
    refine am_F.ops (pc' := 59) (L' := [.ref 88, .int a0, .int a1, .int a2, .int (f 89 200), .int (nI i13)]) (S' := [.int a2, .int a1, .int a0, .ref 88, .int (nI i13), .ref 104]) (μ' := (am_S (am_row (am_row (am_row (am_row (am_row (am_row f 88 r13_88) 89 (upd r13_89 200 ((f 89 200) + (nI i13)))) 93 y8.1) 94 (upd r13_94 a0.toNatClampNeg (fn_m_heldBy_159 a0.toNatClampNeg (am_row (am_row (am_row (am_row (am_row (am_row f 88 r13_88) 89 (upd r13_89 200 ((f 89 200) + (nI i13)))) 93 y8.1) 94 r13_94) 96 y8.2) 104 r13_104)))) 96 y8.2) 104 r13_104) g)) 7 rfl ?_
    obtain ⟨y11, hy11, hK⟩ := am_ob_e hKn hK
    refine am_F.call rfl rfl (x_m_answer a0 a1 a2 (am_row (am_row (am_row (am_row (am_row (am_row f 88 r13_88) 89 (upd r13_89 200 ((f 89 200) + (nI i13)))) 93 y8.1) 94 (upd r13_94 a0.toNatClampNeg (fn_m_heldBy_159 a0.toNatClampNeg (am_row (am_row (am_row (am_row (am_row (am_row f 88 r13_88) 89 (upd r13_89 200 ((f 89 200) + (nI i13)))) 93 y8.1) 94 r13_94) 96 y8.2) 104 r13_104)))) 96 y8.2) 104 r13_104) g q7 y11 hy11) (by first | decide | omega) ?_
    refine am_F.mem (F' := (am_row (am_row (am_row (am_row (am_row (am_row f 88 y11.2) 89 (upd r13_89 200 ((f 89 200) + (nI i13)))) 93 y8.1) 94 (upd r13_94 a0.toNatClampNeg (fn_m_heldBy_159 a0.toNatClampNeg (am_row (am_row (am_row (am_row (am_row (am_row f 88 r13_88) 89 (upd r13_89 200 ((f 89 200) + (nI i13)))) 93 y8.1) 94 r13_94) 96 y8.2) 104 r13_104)))) 96 y8.2) 104 r13_104)) (G' := g) ?_ (by first | rfl | (funext a; by_cases z0 : a = 88; (subst z0; rfl); by_cases z1 : a = 89; (subst z1; rfl); by_cases z2 : a = 93; (subst z2; rfl); by_cases z3 : a = 94; (subst z3; rfl); by_cases z4 : a = 96; (subst z4; rfl); by_cases z5 : a = 104; (subst z5; rfl); simp only [am_ui, am_ul, am_row_ne z0, am_row_ne z1, am_row_ne z2, am_row_ne z3, am_row_ne z4, am_row_ne z5])) (by first | rfl | (funext a; by_cases z0 : a = 88; (subst z0; rfl); by_cases z1 : a = 89; (subst z1; rfl); by_cases z2 : a = 93; (subst z2; rfl); by_cases z3 : a = 94; (subst z3; rfl); by_cases z4 : a = 96; (subst z4; rfl); by_cases z5 : a = 104; (subst z5; rfl); simp only [am_ui, am_ul, am_row_ne z0, am_row_ne z1, am_row_ne z2, am_row_ne z3, am_row_ne z4, am_row_ne z5]))
    show am_F _ _ 62 [.ref 88, .int a0, .int a1, .int a2, .int (f 89 200), .int (nI i13)] [.int y11.1, .int (nI i13), .ref 104] (am_S (am_row (am_row (am_row (am_row (am_row (am_row f 88 y11.2) 89 (upd r13_89 200 ((f 89 200) + (nI i13)))) 93 y8.1) 94 (upd r13_94 a0.toNatClampNeg (fn_m_heldBy_159 a0.toNatClampNeg (am_row (am_row (am_row (am_row (am_row (am_row f 88 r13_88) 89 (upd r13_89 200 ((f 89 200) + (nI i13)))) 93 y8.1) 94 r13_94) 96 y8.2) 104 r13_104)))) 96 y8.2) 104 r13_104) g) _
    obtain ⟨q12, hK⟩ := am_chk_e hKn hK
    refine am_F.iasE (F' := (am_row (am_row (am_row (am_row (am_row (am_row f 88 y11.2) 89 (upd r13_89 200 ((f 89 200) + (nI i13)))) 93 y8.1) 94 (upd r13_94 a0.toNatClampNeg (fn_m_heldBy_159 a0.toNatClampNeg (am_row (am_row (am_row (am_row (am_row (am_row f 88 r13_88) 89 (upd r13_89 200 ((f 89 200) + (nI i13)))) 93 y8.1) 94 r13_94) 96 y8.2) 104 r13_104)))) 96 y8.2) 104 (upd r13_104 i13 y11.1))) (m := i13) (N := 201) rfl rfl rfl rfl (by omega) (by decide) (by first | rfl | (funext a; by_cases z0 : a = 88; (subst z0; rfl); by_cases z1 : a = 89; (subst z1; rfl); by_cases z2 : a = 93; (subst z2; rfl); by_cases z3 : a = 94; (subst z3; rfl); by_cases z4 : a = 96; (subst z4; rfl); by_cases z5 : a = 104; (subst z5; rfl); simp only [am_ui, am_ul, am_row_ne z0, am_row_ne z1, am_row_ne z2, am_row_ne z3, am_row_ne z4, am_row_ne z5])) ?_
    refine am_F.ops (pc' := 13) (L' := [.ref 88, .int a0, .int a1, .int a2, .int (f 89 200), .int ((nI i13) + 1)]) (S' := []) (μ' := (am_S (am_row (am_row (am_row (am_row (am_row (am_row f 88 y11.2) 89 (upd r13_89 200 ((f 89 200) + (nI i13)))) 93 y8.1) 94 (upd r13_94 a0.toNatClampNeg (fn_m_heldBy_159 a0.toNatClampNeg (am_row (am_row (am_row (am_row (am_row (am_row f 88 r13_88) 89 (upd r13_89 200 ((f 89 200) + (nI i13)))) 93 y8.1) 94 r13_94) 96 y8.2) 104 r13_104)))) 96 y8.2) 104 (upd r13_104 i13 y11.1)) g)) 2 rfl ?_
    rw [nI_1 i13]
    subst hKd
    exact ih (i13 + 1) y11.2 (upd r13_89 200 ((f 89 200) + (nI i13))) y8.1 (upd r13_94 a0.toNatClampNeg (fn_m_heldBy_159 a0.toNatClampNeg (am_row (am_row (am_row (am_row (am_row (am_row f 88 r13_88) 89 (upd r13_89 200 ((f 89 200) + (nI i13)))) 93 y8.1) 94 r13_94) 96 y8.2) 104 r13_104))) y8.2 (upd r13_104 i13 y11.1) (by omega) hK
theorem x_m_shows (a0 : Int32) (a1 : Int32) (a2 : Int32) (f : Nat → Nat → Int32) (g : Nat → Nat → Int64) (hmk : am_mOK (f 89)) (z0 : (Nat → Int32) × (Nat → Int32) × (Nat → Int32) × (Nat → Int32) × (Nat → Int32) × (Nat → Int32)) (hz0 : (fn_m_shows a0 a1 a2 f) = some z0) : am_D 84 224 6 [.ref 88, .int a0, .int a1, .int a2] (am_S f g) ((none : Option Value), am_S (am_row (am_row (am_row (am_row (am_row (am_row f 88 z0.1) 89 z0.2.1) 93 z0.2.2.1) 94 z0.2.2.2.1) 96 z0.2.2.2.2.1) 104 z0.2.2.2.2.2) g) := by
  obtain ⟨hlC, hlN, hrC, hrN, hl0, hl5, hl2⟩ := am_mOK_e hmk
  refine am_D.of (code := am_k_224) rfl (L0 := [.ref 88, .int a0, .int a1, .int a2, am_un, am_un]) rfl ?_
  generalize hres : ((none : Option Value), am_S (am_row (am_row (am_row (am_row (am_row (am_row f 88 z0.1) 89 z0.2.1) 93 z0.2.2.1) 94 z0.2.2.2.1) 96 z0.2.2.2.2.1) 104 z0.2.2.2.2.2) g) = res
  obtain ⟨K, hKd⟩ : ∃ K : Option ((Nat → Int32) × (Nat → Int32) × (Nat → Int32) × (Nat → Int32) × (Nat → Int32) × (Nat → Int32)) → Prop, K = am_KO (fun z => ((none : Option Value), am_S (am_row (am_row (am_row (am_row (am_row (am_row f 88 z.1) 89 z.2.1) 93 z.2.2.1) 94 z.2.2.2.1) 96 z.2.2.2.2.1) 104 z.2.2.2.2.2) g) = res) := ⟨_, rfl⟩
  have hK : K (fn_m_shows a0 a1 a2 f) := by rw [hKd, hz0]; exact hres
  have hKn : ¬ K none := by rw [hKd]; exact id
  clear hres hz0
  unfold fn_m_shows at hK
  refine am_F.ops (pc' := 13) (L' := [.ref 88, .int a0, .int a1, .int a2, .int (f 89 200), .int 0]) (S' := []) (μ' := (am_S f g)) 7 rfl ?_
  obtain ⟨z13, hz13, hK⟩ := am_ob_e hKn hK
  refine am_F.mem (F' := (am_row (am_row (am_row (am_row (am_row (am_row f 88 (f 88)) 89 (f 89)) 93 (f 93)) 94 (f 94)) 96 (f 96)) 104 (f 104))) (G' := g) ?_ (by first | rfl | (funext a; by_cases z0 : a = 88; (subst z0; rfl); by_cases z1 : a = 89; (subst z1; rfl); by_cases z2 : a = 93; (subst z2; rfl); by_cases z3 : a = 94; (subst z3; rfl); by_cases z4 : a = 96; (subst z4; rfl); by_cases z5 : a = 104; (subst z5; rfl); simp only [am_ui, am_ul, am_row_ne z0, am_row_ne z1, am_row_ne z2, am_row_ne z3, am_row_ne z4, am_row_ne z5])) (by first | rfl | (funext a; by_cases z0 : a = 88; (subst z0; rfl); by_cases z1 : a = 89; (subst z1; rfl); by_cases z2 : a = 93; (subst z2; rfl); by_cases z3 : a = 94; (subst z3; rfl); by_cases z4 : a = 96; (subst z4; rfl); by_cases z5 : a = 104; (subst z5; rfl); simp only [am_ui, am_ul, am_row_ne z0, am_row_ne z1, am_row_ne z2, am_row_ne z3, am_row_ne z4, am_row_ne z5]))
  show am_F _ _ 13 [.ref 88, .int a0, .int a1, .int a2, .int (f 89 200), .int (nI 0)] [] (am_S (am_row (am_row (am_row (am_row (am_row (am_row f 88 (f 88)) 89 (f 89)) 93 (f 93)) 94 (f 94)) 96 (f 96)) 104 (f 104)) g) _
  refine lp_m_shows_13 a0 a1 a2 f g hmk hlC hlN hrC hrN hl0 hl5 hl2 _ (200 + 1) 0 (f 88) (f 89) (f 93) (f 94) (f 96) (f 104)  (by omega) ?_
  rw [show am_forO (st_m_shows_13 a0 a1 a2 f) (200 + 1) 0 (f 88, f 89, f 93, f 94, f 96, f 104) = (lf_m_shows_13 a0 a1 a2 f) from rfl, hz13]
  rcases z13 with z13 | z
  · intro wc13
    show am_F _ _ 69 [.ref 88, .int a0, .int a1, .int a2, .int (f 89 200), wc13] [] (am_S (am_row (am_row (am_row (am_row (am_row (am_row f 88 z13.1) 89 z13.2.1) 93 z13.2.2.1) 94 z13.2.2.2.1) 96 z13.2.2.2.2.1) 104 z13.2.2.2.2.2) g) _
    (try simp only [Sum.elim_inl] at hK)
    refine am_F.ops (pc' := 78) (L' := [.ref 88, .int a0, .int a1, .int a2, .int (f 89 200), wc13]) (S' := [.int (f 89 200), .int 200, .ref 89]) (μ' := (am_S (am_row (am_row (am_row (am_row (am_row (am_row f 88 z13.1) 89 z13.2.1) 93 z13.2.2.1) 94 z13.2.2.2.1) 96 z13.2.2.2.2.1) 104 z13.2.2.2.2.2) g)) 4 rfl ?_
    refine am_F.iasE (F' := (am_row (am_row (am_row (am_row (am_row (am_row f 88 z13.1) 89 (upd z13.2.1 200 (f 89 200))) 93 z13.2.2.1) 94 z13.2.2.2.1) 96 z13.2.2.2.2.1) 104 z13.2.2.2.2.2)) (m := 200) (N := 3340) rfl rfl rfl rfl (by omega) (by decide) (by first | rfl | (funext a; by_cases z0 : a = 88; (subst z0; rfl); by_cases z1 : a = 89; (subst z1; rfl); by_cases z2 : a = 93; (subst z2; rfl); by_cases z3 : a = 94; (subst z3; rfl); by_cases z4 : a = 96; (subst z4; rfl); by_cases z5 : a = 104; (subst z5; rfl); simp only [am_ui, am_ul, am_row_ne z0, am_row_ne z1, am_row_ne z2, am_row_ne z3, am_row_ne z4, am_row_ne z5])) ?_
    subst hKd
    have hQ := am_KO_s hK
    exact am_F.eq (am_F.ret rfl rfl) hQ
  · exact z.elim
/-- AccessLatticeModel.changes, with checks -/
noncomputable def st_m_changes_30 (a3 : Int32) (y4 : (Nat → Int32) × (Nat → Int32) × (Nat → Int32) × (Nat → Int32) × (Nat → Int32) × (Nat → Int32)) : Nat → Int32 → Option (Int32 ⊕ (Int32 ⊕ Int32 × (Nat → Int32) × (Nat → Int32) × (Nat → Int32) × (Nat → Int32) × (Nat → Int32) × (Nat → Int32))) := fun i30 a30_5 => (am_chk (i30 < 201) (am_chk (am_inb ((nI i30) - 1) 201 = true) (if (y4.2.2.2.2.2 i30) = (y4.2.2.2.2.2 (((nI i30) - 1).toNatClampNeg)) then (some (.inl a30_5)) else (if a30_5 = a3 then (some (.inr (.inr ((y4.2.1 200) + (nI i30), y4.1, y4.2.1, y4.2.2.1, y4.2.2.2.1, y4.2.2.2.2.1, y4.2.2.2.2.2)))) else (some (.inl (a30_5 + 1)))))))
noncomputable def lf_m_changes_30 (a3 : Int32) (y4 : (Nat → Int32) × (Nat → Int32) × (Nat → Int32) × (Nat → Int32) × (Nat → Int32) × (Nat → Int32)) : Option (Int32 ⊕ Int32 × (Nat → Int32) × (Nat → Int32) × (Nat → Int32) × (Nat → Int32) × (Nat → Int32) × (Nat → Int32)) := am_forO (st_m_changes_30 a3 y4) ((200 + 1) - 1) 1 0
noncomputable def fn_m_changes (a0 : Int32) (a1 : Int32) (a2 : Int32) (a3 : Int32) (f : Nat → Nat → Int32) : Option (Int32 × (Nat → Int32) × (Nat → Int32) × (Nat → Int32) × (Nat → Int32) × (Nat → Int32) × (Nat → Int32)) := (bif (fn_m_isAsk a0 a1 a2) then (if (-1) ≤ a3 then (am_ob (fn_m_shows a0 a1 a2 f) (fun (y4 : (Nat → Int32) × (Nat → Int32) × (Nat → Int32) × (Nat → Int32) × (Nat → Int32) × (Nat → Int32)) => (am_ob (lf_m_changes_30 a3 y4) (fun zz => Sum.elim (fun (z30 : Int32) => (some ((if 0 ≤ a3 then (-2) else z30), y4.1, y4.2.1, y4.2.2.1, y4.2.2.2.1, y4.2.2.2.2.1, y4.2.2.2.2.2))) (fun (z : Int32 × (Nat → Int32) × (Nat → Int32) × (Nat → Int32) × (Nat → Int32) × (Nat → Int32) × (Nat → Int32)) => (some z)) zz)))) else (some ((-1), f 88, f 89, f 93, f 94, f 96, f 104))) else (some ((-1), f 88, f 89, f 93, f 94, f 96, f 104)))
theorem lp_m_changes_30 (a0_n : Nat) (a1_n : Nat) (a2_n : Nat) (a3 : Int32) (f : Nat → Nat → Int32) (g : Nat → Nat → Int64) (y4 : (Nat → Int32) × (Nat → Int32) × (Nat → Int32) × (Nat → Int32) × (Nat → Int32) × (Nat → Int32)) (hmk : am_mOK (f 89)) (hlC : f 89 201 = nI (f 89 201).toNatClampNeg) (hlN : (f 89 201).toNatClampNeg ≤ 40) (hrC : f 89 202 = nI (f 89 202).toNatClampNeg) (hrN : (f 89 202).toNatClampNeg ≤ 30) (hl0 : ∀ i, i < (f 89 201).toNatClampNeg → am_inb (fn_m_loanAt i 0 f) 16 = true) (hl5 : ∀ i, i < (f 89 201).toNatClampNeg → ¬ fn_m_loanAt i 5 f < 0 → am_inb (fn_m_loanAt i 5 f) 40 = true) (hl2 : ∀ i, i < (f 89 201).toNatClampNeg → am_inb (fn_m_loanAt i 2 f) 20 = true) (ha0_n : a0_n < 16) (ha1_n : a1_n < 8) (ha2_n : a2_n < 16) (res : Option Value × am_M) : ∀ (n i30 : Nat) (a30_5 : Int32) , i30 + n = (200 + 1) → am_KO (am_KX (fun (z : Int32) => ∀ (wc30 : Value), am_F 85 am_k_225 88 [.ref 88, .int (nI a0_n), .int (nI a1_n), .int (nI a2_n), .int a3, .int z, wc30] [] (am_S (am_row (am_row (am_row (am_row (am_row (am_row f 88 y4.1) 89 y4.2.1) 93 y4.2.2.1) 94 y4.2.2.2.1) 96 y4.2.2.2.2.1) 104 y4.2.2.2.2.2) g) res) (fun (z : Int32 × (Nat → Int32) × (Nat → Int32) × (Nat → Int32) × (Nat → Int32) × (Nat → Int32) × (Nat → Int32)) => (some (Value.int z.1), am_S (am_row (am_row (am_row (am_row (am_row (am_row f 88 z.2.1) 89 z.2.2.1) 93 z.2.2.2.1) 94 z.2.2.2.2.1) 96 z.2.2.2.2.2.1) 104 z.2.2.2.2.2.2) g) = res)) (am_forO (st_m_changes_30 a3 y4) n i30 a30_5) → am_F 85 am_k_225 30 [.ref 88, .int (nI a0_n), .int (nI a1_n), .int (nI a2_n), .int a3, .int a30_5, .int (nI i30)] [] (am_S (am_row (am_row (am_row (am_row (am_row (am_row f 88 y4.1) 89 y4.2.1) 93 y4.2.2.1) 94 y4.2.2.2.1) 96 y4.2.2.2.2.1) 104 y4.2.2.2.2.2) g) res := by
  intro n
  induction n with
  | zero =>
    intro i30 a30_5 hi hK
    refine am_F.pos 3 rfl (by show 200 < nI i30; rw [show (200 : Int32) = nI 200 from rfl]; exact nI_lt (by omega) (by omega)) ?_
    exact hK _
  | succ n ih =>
    intro i30 a30_5 hi hK
    refine am_F.neg 3 rfl (by show ¬ 200 < nI i30; rw [show (200 : Int32) = nI 200 from rfl]; exact nI_nlt (by omega) (by omega)) ?_
    have hb30 : i30 < (200 + 1) := by omega
    show am_F _ _ 38 [.ref 88, .int (nI a0_n), .int (nI a1_n), .int (nI a2_n), .int a3, .int a30_5, .int (nI i30)] [] (am_S (am_row (am_row (am_row (am_row (am_row (am_row f 88 y4.1) 89 y4.2.1) 93 y4.2.2.1) 94 y4.2.2.2.1) 96 y4.2.2.2.2.1) 104 y4.2.2.2.2.2) g) _
    obtain ⟨K, hKd⟩ : ∃ K : Option (Int32 ⊕ (Int32 ⊕ Int32 × (Nat → Int32) × (Nat → Int32) × (Nat → Int32) × (Nat → Int32) × (Nat → Int32) × (Nat → Int32))) → Prop, K = fun s => am_KO (am_KX (fun (z : Int32) => ∀ (wc30 : Value), am_F 85 am_k_225 88 [.ref 88, .int (nI a0_n), .int (nI a1_n), .int (nI a2_n), .int a3, .int z, wc30] [] (am_S (am_row (am_row (am_row (am_row (am_row (am_row f 88 y4.1) 89 y4.2.1) 93 y4.2.2.1) 94 y4.2.2.2.1) 96 y4.2.2.2.2.1) 104 y4.2.2.2.2.2) g) res) (fun (z : Int32 × (Nat → Int32) × (Nat → Int32) × (Nat → Int32) × (Nat → Int32) × (Nat → Int32) × (Nat → Int32)) => (some (Value.int z.1), am_S (am_row (am_row (am_row (am_row (am_row (am_row f 88 z.2.1) 89 z.2.2.1) 93 z.2.2.2.1) 94 z.2.2.2.2.1) 96 z.2.2.2.2.2.1) 104 z.2.2.2.2.2.2) g) = res)) (am_whn (fun z => am_forO (st_m_changes_30 a3 y4) n (i30 + 1) z) s) := ⟨_, rfl⟩
    have hK : K ((st_m_changes_30 a3 y4) i30 a30_5) := by rw [am_forO_s] at hK; rw [hKd]; with_reducible exact hK
    have hKn : ¬ K none := by rw [hKd]; exact id
    unfold st_m_changes_30 at hK
    refine am_F.ops (pc' := 44) (L' := [.ref 88, .int (nI a0_n), .int (nI a1_n), .int (nI a2_n), .int a3, .int a30_5, .int (nI i30)]) (S' := [.int (nI i30), .ref 104]) (μ' := (am_S (am_row (am_row (am_row (am_row (am_row (am_row f 88 y4.1) 89 y4.2.1) 93 y4.2.2.1) 94 y4.2.2.2.1) 96 y4.2.2.2.2.1) 104 y4.2.2.2.2.2) g)) 3 rfl ?_
    obtain ⟨q5, hK⟩ := am_chk_e hKn hK
    refine am_F.ialE (m := i30) (N := 201) rfl rfl rfl rfl (by omega) (by decide) ?_
    show am_F _ _ 45 [.ref 88, .int (nI a0_n), .int (nI a1_n), .int (nI a2_n), .int a3, .int a30_5, .int (nI i30)] [.int (y4.2.2.2.2.2 i30)] (am_S (am_row (am_row (am_row (am_row (am_row (am_row f 88 y4.1) 89 y4.2.1) 93 y4.2.2.1) 94 y4.2.2.2.1) 96 y4.2.2.2.2.1) 104 y4.2.2.2.2.2) g) _
    refine am_F.ops (pc' := 53) (L' := [.ref 88, .int (nI a0_n), .int (nI a1_n), .int (nI a2_n), .int a3, .int a30_5, .int (nI i30)]) (S' := [.int ((nI i30) - 1), .ref 104, .int (y4.2.2.2.2.2 i30)]) (μ' := (am_S (am_row (am_row (am_row (am_row (am_row (am_row f 88 y4.1) 89 y4.2.1) 93 y4.2.2.1) 94 y4.2.2.2.1) 96 y4.2.2.2.2.1) 104 y4.2.2.2.2.2) g)) 5 rfl ?_
    obtain ⟨q6, hK⟩ := am_chk_e hKn hK
    refine am_F.ial (N := 201) rfl rfl rfl q6 ?_
    show am_F _ _ 54 [.ref 88, .int (nI a0_n), .int (nI a1_n), .int (nI a2_n), .int a3, .int a30_5, .int (nI i30)] [.int (y4.2.2.2.2.2 (((nI i30) - 1).toNatClampNeg)), .int (y4.2.2.2.2.2 i30)] (am_S (am_row (am_row (am_row (am_row (am_row (am_row f 88 y4.1) 89 y4.2.1) 93 y4.2.2.1) 94 y4.2.2.2.1) 96 y4.2.2.2.2.1) 104 y4.2.2.2.2.2) g) _
    refine am_F.iteK 1 rfl K hK (fun c7 hK => ?_) (fun c7 hK => ?_)
    · show am_F _ _ 57 [.ref 88, .int (nI a0_n), .int (nI a1_n), .int (nI a2_n), .int a3, .int a30_5, .int (nI i30)] [] (am_S (am_row (am_row (am_row (am_row (am_row (am_row f 88 y4.1) 89 y4.2.1) 93 y4.2.2.1) 94 y4.2.2.2.1) 96 y4.2.2.2.2.1) 104 y4.2.2.2.2.2) g) _
      refine am_F.ops (pc' := 30) (L' := [.ref 88, .int (nI a0_n), .int (nI a1_n), .int (nI a2_n), .int a3, .int a30_5, .int ((nI i30) + 1)]) (S' := []) (μ' := (am_S (am_row (am_row (am_row (am_row (am_row (am_row f 88 y4.1) 89 y4.2.1) 93 y4.2.2.1) 94 y4.2.2.2.1) 96 y4.2.2.2.2.1) 104 y4.2.2.2.2.2) g)) 3 rfl ?_
      rw [nI_1 i30]
      subst hKd
      exact ih (i30 + 1) a30_5 (by omega) hK
    · show am_F _ _ 60 [.ref 88, .int (nI a0_n), .int (nI a1_n), .int (nI a2_n), .int a3, .int a30_5, .int (nI i30)] [] (am_S (am_row (am_row (am_row (am_row (am_row (am_row f 88 y4.1) 89 y4.2.1) 93 y4.2.2.1) 94 y4.2.2.2.1) 96 y4.2.2.2.2.1) 104 y4.2.2.2.2.2) g) _
      refine am_F.ops (pc' := 64) (L' := [.ref 88, .int (nI a0_n), .int (nI a1_n), .int (nI a2_n), .int a3, .int a30_5, .int (nI i30)]) (S' := [.int a3, .int a30_5]) (μ' := (am_S (am_row (am_row (am_row (am_row (am_row (am_row f 88 y4.1) 89 y4.2.1) 93 y4.2.2.1) 94 y4.2.2.2.1) 96 y4.2.2.2.2.1) 104 y4.2.2.2.2.2) g)) 2 rfl ?_
      refine am_F.iteK 1 rfl K hK (fun c8 hK => ?_) (fun c8 hK => ?_)
      · show am_F _ _ 67 [.ref 88, .int (nI a0_n), .int (nI a1_n), .int (nI a2_n), .int a3, .int a30_5, .int (nI i30)] [] (am_S (am_row (am_row (am_row (am_row (am_row (am_row f 88 y4.1) 89 y4.2.1) 93 y4.2.2.1) 94 y4.2.2.2.1) 96 y4.2.2.2.2.1) 104 y4.2.2.2.2.2) g) _
        refine am_F.ops (pc' := 78) (L' := [.ref 88, .int (nI a0_n), .int (nI a1_n), .int (nI a2_n), .int a3, .int a30_5, .int (nI i30)]) (S' := [.int ((y4.2.1 200) + (nI i30))]) (μ' := (am_S (am_row (am_row (am_row (am_row (am_row (am_row f 88 y4.1) 89 y4.2.1) 93 y4.2.2.1) 94 y4.2.2.2.1) 96 y4.2.2.2.2.1) 104 y4.2.2.2.2.2) g)) 6 rfl ?_
        subst hKd
        have hQ := am_KO_r hK
        exact am_F.eq (am_F.ret rfl rfl) hQ
      · show am_F _ _ 79 [.ref 88, .int (nI a0_n), .int (nI a1_n), .int (nI a2_n), .int a3, .int a30_5, .int (nI i30)] [] (am_S (am_row (am_row (am_row (am_row (am_row (am_row f 88 y4.1) 89 y4.2.1) 93 y4.2.2.1) 94 y4.2.2.2.1) 96 y4.2.2.2.2.1) 104 y4.2.2.2.2.2) g) _
        refine am_F.ops (pc' := 30) (L' := [.ref 88, .int (nI a0_n), .int (nI a1_n), .int (nI a2_n), .int a3, .int (a30_5 + 1), .int ((nI i30) + 1)]) (S' := []) (μ' := (am_S (am_row (am_row (am_row (am_row (am_row (am_row f 88 y4.1) 89 y4.2.1) 93 y4.2.2.1) 94 y4.2.2.2.1) 96 y4.2.2.2.2.1) 104 y4.2.2.2.2.2) g)) 3 rfl ?_
        rw [nI_1 i30]
        subst hKd
        exact ih (i30 + 1) (a30_5 + 1) (by omega) hK
theorem x_m_changes (a0 : Int32) (a1 : Int32) (a2 : Int32) (a3 : Int32) (f : Nat → Nat → Int32) (g : Nat → Nat → Int64) (hmk : am_mOK (f 89)) (z0 : Int32 × (Nat → Int32) × (Nat → Int32) × (Nat → Int32) × (Nat → Int32) × (Nat → Int32) × (Nat → Int32)) (hz0 : (fn_m_changes a0 a1 a2 a3 f) = some z0) : am_D 85 225 7 [.ref 88, .int a0, .int a1, .int a2, .int a3] (am_S f g) (some (Value.int z0.1), am_S (am_row (am_row (am_row (am_row (am_row (am_row f 88 z0.2.1) 89 z0.2.2.1) 93 z0.2.2.2.1) 94 z0.2.2.2.2.1) 96 z0.2.2.2.2.2.1) 104 z0.2.2.2.2.2.2) g) := by
  obtain ⟨hlC, hlN, hrC, hrN, hl0, hl5, hl2⟩ := am_mOK_e hmk
  refine am_D.of (code := am_k_225) rfl (L0 := [.ref 88, .int a0, .int a1, .int a2, .int a3, am_un, am_un]) rfl ?_
  generalize hres : (some (Value.int z0.1), am_S (am_row (am_row (am_row (am_row (am_row (am_row f 88 z0.2.1) 89 z0.2.2.1) 93 z0.2.2.2.1) 94 z0.2.2.2.2.1) 96 z0.2.2.2.2.2.1) 104 z0.2.2.2.2.2.2) g) = res
  obtain ⟨K, hKd⟩ : ∃ K : Option (Int32 × (Nat → Int32) × (Nat → Int32) × (Nat → Int32) × (Nat → Int32) × (Nat → Int32) × (Nat → Int32)) → Prop, K = am_KO (fun z => (some (Value.int z.1), am_S (am_row (am_row (am_row (am_row (am_row (am_row f 88 z.2.1) 89 z.2.2.1) 93 z.2.2.2.1) 94 z.2.2.2.2.1) 96 z.2.2.2.2.2.1) 104 z.2.2.2.2.2.2) g) = res) := ⟨_, rfl⟩
  have hK : K (fn_m_changes a0 a1 a2 a3 f) := by rw [hKd, hz0]; exact hres
  have hKn : ¬ K none := by rw [hKd]; exact id
  clear hres hz0
  unfold fn_m_changes at hK
  refine am_F.ops (pc' := 3) (L' := [.ref 88, .int a0, .int a1, .int a2, .int a3, am_un, am_un]) (S' := [.int a2, .int a1, .int a0]) (μ' := (am_S f g)) 3 rfl ?_
  refine am_F.call rfl rfl (x_m_isAsk a0 a1 a2 f g ) (by first | decide | omega) ?_
  show am_F _ _ 6 [.ref 88, .int a0, .int a1, .int a2, .int a3, am_un, am_un] [.int (am_b (fn_m_isAsk a0 a1 a2))] (am_S f g) _
  refine am_F.bifK 1 rfl K hK (fun c2 hK => ?_) (fun c2 hK => ?_)
  · obtain ⟨a0_n, ha0_n, ea0_n⟩ := (am_mAsk c2).1
    obtain ⟨a1_n, ha1_n, ea1_n⟩ := (am_mAsk c2).2.1
    obtain ⟨a2_n, ha2_n, ea2_n⟩ := (am_mAsk c2).2.2
    subst ea0_n
    try simp only [nI_clamp (show a0_n < 2147483648 by omega)] at hK
    subst ea1_n
    try simp only [nI_clamp (show a1_n < 2147483648 by omega)] at hK
    subst ea2_n
    try simp only [nI_clamp (show a2_n < 2147483648 by omega)] at hK
    show am_F _ _ 9 [.ref 88, .int (nI a0_n), .int (nI a1_n), .int (nI a2_n), .int a3, am_un, am_un] [] (am_S f g) _
    refine am_F.ops (pc' := 12) (L' := [.ref 88, .int (nI a0_n), .int (nI a1_n), .int (nI a2_n), .int a3, am_un, am_un]) (S' := [.int (-1), .int a3]) (μ' := (am_S f g)) 2 rfl ?_
    refine am_F.iteK 1 rfl K hK (fun c3 hK => ?_) (fun c3 hK => ?_)
    · show am_F _ _ 17 [.ref 88, .int (nI a0_n), .int (nI a1_n), .int (nI a2_n), .int a3, am_un, am_un] [] (am_S f g) _
      refine am_F.ops (pc' := 21) (L' := [.ref 88, .int (nI a0_n), .int (nI a1_n), .int (nI a2_n), .int a3, am_un, am_un]) (S' := [.int (nI a2_n), .int (nI a1_n), .int (nI a0_n), .ref 88]) (μ' := (am_S f g)) 4 rfl ?_
      obtain ⟨y4, hy4, hK⟩ := am_ob_e hKn hK
      refine am_F.call rfl rfl (x_m_shows (nI a0_n) (nI a1_n) (nI a2_n) f g hmk y4 hy4) (by first | decide | omega) ?_
      refine am_F.mem (F' := (am_row (am_row (am_row (am_row (am_row (am_row f 88 y4.1) 89 y4.2.1) 93 y4.2.2.1) 94 y4.2.2.2.1) 96 y4.2.2.2.2.1) 104 y4.2.2.2.2.2)) (G' := g) ?_ (by first | rfl | (funext a; by_cases z0 : a = 88; (subst z0; rfl); by_cases z1 : a = 89; (subst z1; rfl); by_cases z2 : a = 93; (subst z2; rfl); by_cases z3 : a = 94; (subst z3; rfl); by_cases z4 : a = 96; (subst z4; rfl); by_cases z5 : a = 104; (subst z5; rfl); simp only [am_ui, am_ul, am_row_ne z0, am_row_ne z1, am_row_ne z2, am_row_ne z3, am_row_ne z4, am_row_ne z5])) (by first | rfl | (funext a; by_cases z0 : a = 88; (subst z0; rfl); by_cases z1 : a = 89; (subst z1; rfl); by_cases z2 : a = 93; (subst z2; rfl); by_cases z3 : a = 94; (subst z3; rfl); by_cases z4 : a = 96; (subst z4; rfl); by_cases z5 : a = 104; (subst z5; rfl); simp only [am_ui, am_ul, am_row_ne z0, am_row_ne z1, am_row_ne z2, am_row_ne z3, am_row_ne z4, am_row_ne z5]))
      show am_F _ _ 24 [.ref 88, .int (nI a0_n), .int (nI a1_n), .int (nI a2_n), .int a3, am_un, am_un] [] (am_S (am_row (am_row (am_row (am_row (am_row (am_row f 88 y4.1) 89 y4.2.1) 93 y4.2.2.1) 94 y4.2.2.2.1) 96 y4.2.2.2.2.1) 104 y4.2.2.2.2.2) g) _
      refine am_F.ops (pc' := 30) (L' := [.ref 88, .int (nI a0_n), .int (nI a1_n), .int (nI a2_n), .int a3, .int 0, .int 1]) (S' := []) (μ' := (am_S (am_row (am_row (am_row (am_row (am_row (am_row f 88 y4.1) 89 y4.2.1) 93 y4.2.2.1) 94 y4.2.2.2.1) 96 y4.2.2.2.2.1) 104 y4.2.2.2.2.2) g)) 4 rfl ?_
      obtain ⟨z30, hz30, hK⟩ := am_ob_e hKn hK
      show am_F _ _ 30 [.ref 88, .int (nI a0_n), .int (nI a1_n), .int (nI a2_n), .int a3, .int 0, .int (nI 1)] [] (am_S (am_row (am_row (am_row (am_row (am_row (am_row f 88 y4.1) 89 y4.2.1) 93 y4.2.2.1) 94 y4.2.2.2.1) 96 y4.2.2.2.2.1) 104 y4.2.2.2.2.2) g) _
      refine lp_m_changes_30 a0_n a1_n a2_n a3 f g y4 hmk hlC hlN hrC hrN hl0 hl5 hl2 ha0_n ha1_n ha2_n _ ((200 + 1) - 1) 1 0  (by omega) ?_
      rw [show am_forO (st_m_changes_30 a3 y4) ((200 + 1) - 1) 1 0 = (lf_m_changes_30 a3 y4) from rfl, hz30]
      rcases z30 with z30 | z
      · intro wc30
        show am_F _ _ 88 [.ref 88, .int (nI a0_n), .int (nI a1_n), .int (nI a2_n), .int a3, .int z30, wc30] [] (am_S (am_row (am_row (am_row (am_row (am_row (am_row f 88 y4.1) 89 y4.2.1) 93 y4.2.2.1) 94 y4.2.2.2.1) 96 y4.2.2.2.2.1) 104 y4.2.2.2.2.2) g) _
        (try simp only [Sum.elim_inl] at hK)
        refine am_F.ops (pc' := 90) (L' := [.ref 88, .int (nI a0_n), .int (nI a1_n), .int (nI a2_n), .int a3, .int z30, wc30]) (S' := [.int a3]) (μ' := (am_S (am_row (am_row (am_row (am_row (am_row (am_row f 88 y4.1) 89 y4.2.1) 93 y4.2.2.1) 94 y4.2.2.2.1) 96 y4.2.2.2.2.1) 104 y4.2.2.2.2.2) g)) 1 rfl ?_
        refine am_F.to (am_To.ite (pc' := 100) (L2 := [.ref 88, .int (nI a0_n), .int (nI a1_n), .int (nI a2_n), .int a3, .int z30, wc30]) (S2 := []) (μ2 := (am_S (am_row (am_row (am_row (am_row (am_row (am_row f 88 y4.1) 89 y4.2.1) 93 y4.2.2.1) 94 y4.2.2.2.1) 96 y4.2.2.2.2.1) 104 y4.2.2.2.2.2) g)) (a := (-2)) (b := z30) 1 rfl (fun c9 => ?_) (fun c9 => ?_)) ?_
        · intro res9 g9
          show am_F _ _ 98 [.ref 88, .int (nI a0_n), .int (nI a1_n), .int (nI a2_n), .int a3, .int z30, wc30] [] (am_S (am_row (am_row (am_row (am_row (am_row (am_row f 88 y4.1) 89 y4.2.1) 93 y4.2.2.1) 94 y4.2.2.2.1) 96 y4.2.2.2.2.1) 104 y4.2.2.2.2.2) g) _
          refine am_F.ops (pc' := 100) (L' := [.ref 88, .int (nI a0_n), .int (nI a1_n), .int (nI a2_n), .int a3, .int z30, wc30]) (S' := [.int (-2)]) (μ' := (am_S (am_row (am_row (am_row (am_row (am_row (am_row f 88 y4.1) 89 y4.2.1) 93 y4.2.2.1) 94 y4.2.2.2.1) 96 y4.2.2.2.2.1) 104 y4.2.2.2.2.2) g)) 1 rfl ?_
          exact g9
        · intro res9 g9
          show am_F _ _ 93 [.ref 88, .int (nI a0_n), .int (nI a1_n), .int (nI a2_n), .int a3, .int z30, wc30] [] (am_S (am_row (am_row (am_row (am_row (am_row (am_row f 88 y4.1) 89 y4.2.1) 93 y4.2.2.1) 94 y4.2.2.2.1) 96 y4.2.2.2.2.1) 104 y4.2.2.2.2.2) g) _
          refine am_F.ops (pc' := 100) (L' := [.ref 88, .int (nI a0_n), .int (nI a1_n), .int (nI a2_n), .int a3, .int z30, wc30]) (S' := [.int z30]) (μ' := (am_S (am_row (am_row (am_row (am_row (am_row (am_row f 88 y4.1) 89 y4.2.1) 93 y4.2.2.1) 94 y4.2.2.2.1) 96 y4.2.2.2.2.1) 104 y4.2.2.2.2.2) g)) 2 rfl ?_
          exact g9
        show am_F _ _ 100 [.ref 88, .int (nI a0_n), .int (nI a1_n), .int (nI a2_n), .int a3, .int z30, wc30] [.int (if 0 ≤ a3 then (-2) else z30)] (am_S (am_row (am_row (am_row (am_row (am_row (am_row f 88 y4.1) 89 y4.2.1) 93 y4.2.2.1) 94 y4.2.2.2.1) 96 y4.2.2.2.2.1) 104 y4.2.2.2.2.2) g) _
        subst hKd
        have hQ := am_KO_s hK
        exact am_F.eq (am_F.ret rfl rfl) hQ
      · subst hKd
        exact hK
    · show am_F _ _ 15 [.ref 88, .int (nI a0_n), .int (nI a1_n), .int (nI a2_n), .int a3, am_un, am_un] [] (am_S f g) _
      refine am_F.ops (pc' := 16) (L' := [.ref 88, .int (nI a0_n), .int (nI a1_n), .int (nI a2_n), .int a3, am_un, am_un]) (S' := [.int (-1)]) (μ' := (am_S f g)) 1 rfl ?_
      refine am_F.mem (F' := (am_row (am_row (am_row (am_row (am_row (am_row f 88 (f 88)) 89 (f 89)) 93 (f 93)) 94 (f 94)) 96 (f 96)) 104 (f 104))) (G' := g) ?_ (by first | rfl | (funext a; by_cases z0 : a = 88; (subst z0; rfl); by_cases z1 : a = 89; (subst z1; rfl); by_cases z2 : a = 93; (subst z2; rfl); by_cases z3 : a = 94; (subst z3; rfl); by_cases z4 : a = 96; (subst z4; rfl); by_cases z5 : a = 104; (subst z5; rfl); simp only [am_ui, am_ul, am_row_ne z0, am_row_ne z1, am_row_ne z2, am_row_ne z3, am_row_ne z4, am_row_ne z5])) (by first | rfl | (funext a; by_cases z0 : a = 88; (subst z0; rfl); by_cases z1 : a = 89; (subst z1; rfl); by_cases z2 : a = 93; (subst z2; rfl); by_cases z3 : a = 94; (subst z3; rfl); by_cases z4 : a = 96; (subst z4; rfl); by_cases z5 : a = 104; (subst z5; rfl); simp only [am_ui, am_ul, am_row_ne z0, am_row_ne z1, am_row_ne z2, am_row_ne z3, am_row_ne z4, am_row_ne z5]))
      subst hKd
      have hQ := am_KO_s hK
      exact am_F.eq (am_F.ret rfl rfl) hQ
  · show am_F _ _ 15 [.ref 88, .int a0, .int a1, .int a2, .int a3, am_un, am_un] [] (am_S f g) _
    refine am_F.ops (pc' := 16) (L' := [.ref 88, .int a0, .int a1, .int a2, .int a3, am_un, am_un]) (S' := [.int (-1)]) (μ' := (am_S f g)) 1 rfl ?_
    refine am_F.mem (F' := (am_row (am_row (am_row (am_row (am_row (am_row f 88 (f 88)) 89 (f 89)) 93 (f 93)) 94 (f 94)) 96 (f 96)) 104 (f 104))) (G' := g) ?_ (by first | rfl | (funext a; by_cases z0 : a = 88; (subst z0; rfl); by_cases z1 : a = 89; (subst z1; rfl); by_cases z2 : a = 93; (subst z2; rfl); by_cases z3 : a = 94; (subst z3; rfl); by_cases z4 : a = 96; (subst z4; rfl); by_cases z5 : a = 104; (subst z5; rfl); simp only [am_ui, am_ul, am_row_ne z0, am_row_ne z1, am_row_ne z2, am_row_ne z3, am_row_ne z4, am_row_ne z5])) (by first | rfl | (funext a; by_cases z0 : a = 88; (subst z0; rfl); by_cases z1 : a = 89; (subst z1; rfl); by_cases z2 : a = 93; (subst z2; rfl); by_cases z3 : a = 94; (subst z3; rfl); by_cases z4 : a = 96; (subst z4; rfl); by_cases z5 : a = 104; (subst z5; rfl); simp only [am_ui, am_ul, am_row_ne z0, am_row_ne z1, am_row_ne z2, am_row_ne z3, am_row_ne z4, am_row_ne z5]))
    subst hKd
    have hQ := am_KO_s hK
    exact am_F.eq (am_F.ret rfl rfl) hQ
/-- AccessLatticeModel.unlike, with checks -/
noncomputable def st_m_unlike_31 (a0_n : Nat) (a1_n : Nat) (a2 : Int32) (f : Nat → Nat → Int32) (y6 : (Nat → Int32) × (Nat → Int32) × (Nat → Int32)) : Nat → Int32 × (Nat → Int32) → Option (Int32 × (Nat → Int32) ⊕ (Int32 × (Nat → Int32) ⊕ Int32 × (Nat → Int32) × (Nat → Int32) × (Nat → Int32) × (Nat → Int32))) := fun i31 z => match z with
  | (a31_4, r31_88) => (am_ob (fn_m_answer (nI a0_n) ((nI i31) / 16) ((nI i31) - (nI i31) / 16 * 16) (am_row (am_row (am_row (am_row f 88 r31_88) 93 y6.1) 94 y6.2.1) 96 y6.2.2)) (fun (y11 : Int32 × (Nat → Int32)) => (am_ob (fn_m_answer (nI a1_n) ((nI i31) / 16) ((nI i31) - (nI i31) / 16 * 16) (am_row (am_row (am_row (am_row f 88 y11.2) 93 y6.1) 94 y6.2.1) 96 y6.2.2)) (fun (y12 : Int32 × (Nat → Int32)) => (if y11.1 = y12.1 then (some (.inl (a31_4, y12.2))) else (if a31_4 = a2 then (some (.inr (.inr (nI i31, y12.2, y6.1, y6.2.1, y6.2.2)))) else (some (.inl (a31_4 + 1, y12.2)))))))))
noncomputable def lf_m_unlike_31 (a0_n : Nat) (a1_n : Nat) (a2 : Int32) (f : Nat → Nat → Int32) (y6 : (Nat → Int32) × (Nat → Int32) × (Nat → Int32)) : Option (Int32 × (Nat → Int32) ⊕ Int32 × (Nat → Int32) × (Nat → Int32) × (Nat → Int32) × (Nat → Int32)) := am_forO (st_m_unlike_31 a0_n a1_n a2 f y6) 128 0 (0, f 88)
noncomputable def fn_m_unlike (a0 : Int32) (a1 : Int32) (a2 : Int32) (f : Nat → Nat → Int32) : Option (Int32 × (Nat → Int32) × (Nat → Int32) × (Nat → Int32) × (Nat → Int32)) := (bif (fn_m_isOne a0) then (bif (fn_m_isOne a1) then (if (-1) ≤ a2 then (am_ob (lf_m_unlike_31 (a0.toNatClampNeg) (a1.toNatClampNeg) a2 f (fn_m_holders_154 f)) (fun zz => Sum.elim (fun (z31 : Int32 × (Nat → Int32)) => (some ((if 0 ≤ a2 then (-2) else z31.1), z31.2, (fn_m_holders_154 f).1, (fn_m_holders_154 f).2.1, (fn_m_holders_154 f).2.2))) (fun (z : Int32 × (Nat → Int32) × (Nat → Int32) × (Nat → Int32) × (Nat → Int32)) => (some z)) zz)) else (some ((-1), f 88, f 93, f 94, f 96))) else (some ((-1), f 88, f 93, f 94, f 96))) else (some ((-1), f 88, f 93, f 94, f 96)))
theorem lp_m_unlike_31 (a0_n : Nat) (a1_n : Nat) (a2 : Int32) (f : Nat → Nat → Int32) (g : Nat → Nat → Int64) (y6 : (Nat → Int32) × (Nat → Int32) × (Nat → Int32)) (hmk : am_mOK (f 89)) (hlC : f 89 201 = nI (f 89 201).toNatClampNeg) (hlN : (f 89 201).toNatClampNeg ≤ 40) (hrC : f 89 202 = nI (f 89 202).toNatClampNeg) (hrN : (f 89 202).toNatClampNeg ≤ 30) (hl0 : ∀ i, i < (f 89 201).toNatClampNeg → am_inb (fn_m_loanAt i 0 f) 16 = true) (hl5 : ∀ i, i < (f 89 201).toNatClampNeg → ¬ fn_m_loanAt i 5 f < 0 → am_inb (fn_m_loanAt i 5 f) 40 = true) (hl2 : ∀ i, i < (f 89 201).toNatClampNeg → am_inb (fn_m_loanAt i 2 f) 20 = true) (ha0_n : a0_n < 16) (ha1_n : a1_n < 16) (res : Option Value × am_M) : ∀ (n i31 : Nat) (a31_4 : Int32) (r31_88 : Nat → Int32) , i31 + n = 128 → am_KO (am_KX (fun (z : Int32 × (Nat → Int32)) => ∀ (wc31 : Value), am_F 84 am_k_229 93 [.ref 88, .int (nI a0_n), .int (nI a1_n), .int a2, .int z.1, wc31] [] (am_S (am_row (am_row (am_row (am_row f 88 z.2) 93 y6.1) 94 y6.2.1) 96 y6.2.2) g) res) (fun (z : Int32 × (Nat → Int32) × (Nat → Int32) × (Nat → Int32) × (Nat → Int32)) => (some (Value.int z.1), am_S (am_row (am_row (am_row (am_row f 88 z.2.1) 93 z.2.2.1) 94 z.2.2.2.1) 96 z.2.2.2.2) g) = res)) (am_forO (st_m_unlike_31 a0_n a1_n a2 f y6) n i31 (a31_4, r31_88)) → am_F 84 am_k_229 31 [.ref 88, .int (nI a0_n), .int (nI a1_n), .int a2, .int a31_4, .int (nI i31)] [] (am_S (am_row (am_row (am_row (am_row f 88 r31_88) 93 y6.1) 94 y6.2.1) 96 y6.2.2) g) res := by
  intro n
  induction n with
  | zero =>
    intro i31 a31_4 r31_88 hi hK
    refine am_F.pos 3 rfl (by show 128 ≤ nI i31; rw [show (128 : Int32) = nI 128 from rfl]; exact nI_le (by omega) (by omega)) ?_
    exact hK _
  | succ n ih =>
    intro i31 a31_4 r31_88 hi hK
    refine am_F.neg 3 rfl (by show ¬ 128 ≤ nI i31; rw [show (128 : Int32) = nI 128 from rfl]; exact nI_ge (by omega) (by omega)) ?_
    have hb31 : i31 < 128 := by omega
    show am_F _ _ 39 [.ref 88, .int (nI a0_n), .int (nI a1_n), .int a2, .int a31_4, .int (nI i31)] [] (am_S (am_row (am_row (am_row (am_row f 88 r31_88) 93 y6.1) 94 y6.2.1) 96 y6.2.2) g) _
    obtain ⟨K, hKd⟩ : ∃ K : Option (Int32 × (Nat → Int32) ⊕ (Int32 × (Nat → Int32) ⊕ Int32 × (Nat → Int32) × (Nat → Int32) × (Nat → Int32) × (Nat → Int32))) → Prop, K = fun s => am_KO (am_KX (fun (z : Int32 × (Nat → Int32)) => ∀ (wc31 : Value), am_F 84 am_k_229 93 [.ref 88, .int (nI a0_n), .int (nI a1_n), .int a2, .int z.1, wc31] [] (am_S (am_row (am_row (am_row (am_row f 88 z.2) 93 y6.1) 94 y6.2.1) 96 y6.2.2) g) res) (fun (z : Int32 × (Nat → Int32) × (Nat → Int32) × (Nat → Int32) × (Nat → Int32)) => (some (Value.int z.1), am_S (am_row (am_row (am_row (am_row f 88 z.2.1) 93 z.2.2.1) 94 z.2.2.2.1) 96 z.2.2.2.2) g) = res)) (am_whn (fun z => am_forO (st_m_unlike_31 a0_n a1_n a2 f y6) n (i31 + 1) z) s) := ⟨_, rfl⟩
    have hK : K ((st_m_unlike_31 a0_n a1_n a2 f y6) i31 (a31_4, r31_88)) := by rw [am_forO_s] at hK; rw [hKd]; with_reducible exact hK
    have hKn : ¬ K none := by rw [hKd]; exact id
    unfold st_m_unlike_31 at hK
    simp only at hK
    refine am_F.ops (pc' := 51) (L' := [.ref 88, .int (nI a0_n), .int (nI a1_n), .int a2, .int a31_4, .int (nI i31)]) (S' := [.int ((nI i31) - (nI i31) / 16 * 16), .int ((nI i31) / 16), .int (nI a0_n), .ref 88]) (μ' := (am_S (am_row (am_row (am_row (am_row f 88 r31_88) 93 y6.1) 94 y6.2.1) 96 y6.2.2) g)) 8 rfl ?_
    obtain ⟨y11, hy11, hK⟩ := am_ob_e hKn hK
    refine am_F.call rfl rfl (x_m_answer (nI a0_n) ((nI i31) / 16) ((nI i31) - (nI i31) / 16 * 16) (am_row (am_row (am_row (am_row f 88 r31_88) 93 y6.1) 94 y6.2.1) 96 y6.2.2) g hmk y11 hy11) (by first | decide | omega) ?_
    refine am_F.mem (F' := (am_row (am_row (am_row (am_row f 88 y11.2) 93 y6.1) 94 y6.2.1) 96 y6.2.2)) (G' := g) ?_ (by first | rfl | (funext a; by_cases z0 : a = 88; (subst z0; rfl); by_cases z1 : a = 93; (subst z1; rfl); by_cases z2 : a = 94; (subst z2; rfl); by_cases z3 : a = 96; (subst z3; rfl); simp only [am_ui, am_ul, am_row_ne z0, am_row_ne z1, am_row_ne z2, am_row_ne z3])) (by first | rfl | (funext a; by_cases z0 : a = 88; (subst z0; rfl); by_cases z1 : a = 93; (subst z1; rfl); by_cases z2 : a = 94; (subst z2; rfl); by_cases z3 : a = 96; (subst z3; rfl); simp only [am_ui, am_ul, am_row_ne z0, am_row_ne z1, am_row_ne z2, am_row_ne z3]))
    show am_F _ _ 54 [.ref 88, .int (nI a0_n), .int (nI a1_n), .int a2, .int a31_4, .int (nI i31)] [.int y11.1] (am_S (am_row (am_row (am_row (am_row f 88 y11.2) 93 y6.1) 94 y6.2.1) 96 y6.2.2) g) _
    refine am_F.ops (pc' := 66) (L' := [.ref 88, .int (nI a0_n), .int (nI a1_n), .int a2, .int a31_4, .int (nI i31)]) (S' := [.int ((nI i31) - (nI i31) / 16 * 16), .int ((nI i31) / 16), .int (nI a1_n), .ref 88, .int y11.1]) (μ' := (am_S (am_row (am_row (am_row (am_row f 88 y11.2) 93 y6.1) 94 y6.2.1) 96 y6.2.2) g)) 8 rfl ?_
    obtain ⟨y12, hy12, hK⟩ := am_ob_e hKn hK
    refine am_F.call rfl rfl (x_m_answer (nI a1_n) ((nI i31) / 16) ((nI i31) - (nI i31) / 16 * 16) (am_row (am_row (am_row (am_row f 88 y11.2) 93 y6.1) 94 y6.2.1) 96 y6.2.2) g hmk y12 hy12) (by first | decide | omega) ?_
    refine am_F.mem (F' := (am_row (am_row (am_row (am_row f 88 y12.2) 93 y6.1) 94 y6.2.1) 96 y6.2.2)) (G' := g) ?_ (by first | rfl | (funext a; by_cases z0 : a = 88; (subst z0; rfl); by_cases z1 : a = 93; (subst z1; rfl); by_cases z2 : a = 94; (subst z2; rfl); by_cases z3 : a = 96; (subst z3; rfl); simp only [am_ui, am_ul, am_row_ne z0, am_row_ne z1, am_row_ne z2, am_row_ne z3])) (by first | rfl | (funext a; by_cases z0 : a = 88; (subst z0; rfl); by_cases z1 : a = 93; (subst z1; rfl); by_cases z2 : a = 94; (subst z2; rfl); by_cases z3 : a = 96; (subst z3; rfl); simp only [am_ui, am_ul, am_row_ne z0, am_row_ne z1, am_row_ne z2, am_row_ne z3]))
    show am_F _ _ 69 [.ref 88, .int (nI a0_n), .int (nI a1_n), .int a2, .int a31_4, .int (nI i31)] [.int y12.1, .int y11.1] (am_S (am_row (am_row (am_row (am_row f 88 y12.2) 93 y6.1) 94 y6.2.1) 96 y6.2.2) g) _
    refine am_F.iteK 1 rfl K hK (fun c13 hK => ?_) (fun c13 hK => ?_)
    · show am_F _ _ 72 [.ref 88, .int (nI a0_n), .int (nI a1_n), .int a2, .int a31_4, .int (nI i31)] [] (am_S (am_row (am_row (am_row (am_row f 88 y12.2) 93 y6.1) 94 y6.2.1) 96 y6.2.2) g) _
      refine am_F.ops (pc' := 31) (L' := [.ref 88, .int (nI a0_n), .int (nI a1_n), .int a2, .int a31_4, .int ((nI i31) + 1)]) (S' := []) (μ' := (am_S (am_row (am_row (am_row (am_row f 88 y12.2) 93 y6.1) 94 y6.2.1) 96 y6.2.2) g)) 3 rfl ?_
      rw [nI_1 i31]
      subst hKd
      exact ih (i31 + 1) a31_4 y12.2 (by omega) hK
    · show am_F _ _ 75 [.ref 88, .int (nI a0_n), .int (nI a1_n), .int a2, .int a31_4, .int (nI i31)] [] (am_S (am_row (am_row (am_row (am_row f 88 y12.2) 93 y6.1) 94 y6.2.1) 96 y6.2.2) g) _
      refine am_F.ops (pc' := 78) (L' := [.ref 88, .int (nI a0_n), .int (nI a1_n), .int a2, .int a31_4, .int (nI i31)]) (S' := [.int a2, .int a31_4]) (μ' := (am_S (am_row (am_row (am_row (am_row f 88 y12.2) 93 y6.1) 94 y6.2.1) 96 y6.2.2) g)) 2 rfl ?_
      refine am_F.iteK 1 rfl K hK (fun c14 hK => ?_) (fun c14 hK => ?_)
      · show am_F _ _ 81 [.ref 88, .int (nI a0_n), .int (nI a1_n), .int a2, .int a31_4, .int (nI i31)] [] (am_S (am_row (am_row (am_row (am_row f 88 y12.2) 93 y6.1) 94 y6.2.1) 96 y6.2.2) g) _
        refine am_F.ops (pc' := 83) (L' := [.ref 88, .int (nI a0_n), .int (nI a1_n), .int a2, .int a31_4, .int (nI i31)]) (S' := [.int (nI i31)]) (μ' := (am_S (am_row (am_row (am_row (am_row f 88 y12.2) 93 y6.1) 94 y6.2.1) 96 y6.2.2) g)) 1 rfl ?_
        subst hKd
        have hQ := am_KO_r hK
        exact am_F.eq (am_F.ret rfl rfl) hQ
      · show am_F _ _ 84 [.ref 88, .int (nI a0_n), .int (nI a1_n), .int a2, .int a31_4, .int (nI i31)] [] (am_S (am_row (am_row (am_row (am_row f 88 y12.2) 93 y6.1) 94 y6.2.1) 96 y6.2.2) g) _
        refine am_F.ops (pc' := 31) (L' := [.ref 88, .int (nI a0_n), .int (nI a1_n), .int a2, .int (a31_4 + 1), .int ((nI i31) + 1)]) (S' := []) (μ' := (am_S (am_row (am_row (am_row (am_row f 88 y12.2) 93 y6.1) 94 y6.2.1) 96 y6.2.2) g)) 3 rfl ?_
        rw [nI_1 i31]
        subst hKd
        exact ih (i31 + 1) (a31_4 + 1) y12.2 (by omega) hK
theorem x_m_unlike (a0 : Int32) (a1 : Int32) (a2 : Int32) (f : Nat → Nat → Int32) (g : Nat → Nat → Int64) (hmk : am_mOK (f 89)) (z0 : Int32 × (Nat → Int32) × (Nat → Int32) × (Nat → Int32) × (Nat → Int32)) (hz0 : (fn_m_unlike a0 a1 a2 f) = some z0) : am_D 84 229 6 [.ref 88, .int a0, .int a1, .int a2] (am_S f g) (some (Value.int z0.1), am_S (am_row (am_row (am_row (am_row f 88 z0.2.1) 93 z0.2.2.1) 94 z0.2.2.2.1) 96 z0.2.2.2.2) g) := by
  obtain ⟨hlC, hlN, hrC, hrN, hl0, hl5, hl2⟩ := am_mOK_e hmk
  refine am_D.of (code := am_k_229) rfl (L0 := [.ref 88, .int a0, .int a1, .int a2, am_un, am_un]) rfl ?_
  generalize hres : (some (Value.int z0.1), am_S (am_row (am_row (am_row (am_row f 88 z0.2.1) 93 z0.2.2.1) 94 z0.2.2.2.1) 96 z0.2.2.2.2) g) = res
  obtain ⟨K, hKd⟩ : ∃ K : Option (Int32 × (Nat → Int32) × (Nat → Int32) × (Nat → Int32) × (Nat → Int32)) → Prop, K = am_KO (fun z => (some (Value.int z.1), am_S (am_row (am_row (am_row (am_row f 88 z.2.1) 93 z.2.2.1) 94 z.2.2.2.1) 96 z.2.2.2.2) g) = res) := ⟨_, rfl⟩
  have hK : K (fn_m_unlike a0 a1 a2 f) := by rw [hKd, hz0]; exact hres
  have hKn : ¬ K none := by rw [hKd]; exact id
  clear hres hz0
  unfold fn_m_unlike at hK
  refine am_F.ops (pc' := 1) (L' := [.ref 88, .int a0, .int a1, .int a2, am_un, am_un]) (S' := [.int a0]) (μ' := (am_S f g)) 1 rfl ?_
  refine am_F.call rfl rfl (x_m_isOne a0 f g ) (by first | decide | omega) ?_
  show am_F _ _ 4 [.ref 88, .int a0, .int a1, .int a2, am_un, am_un] [.int (am_b (fn_m_isOne a0))] (am_S f g) _
  refine am_F.bifK 1 rfl K hK (fun c2 hK => ?_) (fun c2 hK => ?_)
  · obtain ⟨a0_n, ha0_n, ea0_n⟩ := am_mOne c2
    subst ea0_n
    try simp only [nI_clamp (show a0_n < 2147483648 by omega)] at hK
    show am_F _ _ 7 [.ref 88, .int (nI a0_n), .int a1, .int a2, am_un, am_un] [] (am_S f g) _
    refine am_F.ops (pc' := 8) (L' := [.ref 88, .int (nI a0_n), .int a1, .int a2, am_un, am_un]) (S' := [.int a1]) (μ' := (am_S f g)) 1 rfl ?_
    refine am_F.call rfl rfl (x_m_isOne a1 f g ) (by first | decide | omega) ?_
    show am_F _ _ 11 [.ref 88, .int (nI a0_n), .int a1, .int a2, am_un, am_un] [.int (am_b (fn_m_isOne a1))] (am_S f g) _
    refine am_F.bifK 1 rfl K hK (fun c4 hK => ?_) (fun c4 hK => ?_)
    · obtain ⟨a1_n, ha1_n, ea1_n⟩ := am_mOne c4
      subst ea1_n
      try simp only [nI_clamp (show a1_n < 2147483648 by omega)] at hK
      show am_F _ _ 14 [.ref 88, .int (nI a0_n), .int (nI a1_n), .int a2, am_un, am_un] [] (am_S f g) _
      refine am_F.ops (pc' := 16) (L' := [.ref 88, .int (nI a0_n), .int (nI a1_n), .int a2, am_un, am_un]) (S' := [.int (-1), .int a2]) (μ' := (am_S f g)) 2 rfl ?_
      refine am_F.iteK 1 rfl K hK (fun c5 hK => ?_) (fun c5 hK => ?_)
      · show am_F _ _ 21 [.ref 88, .int (nI a0_n), .int (nI a1_n), .int a2, am_un, am_un] [] (am_S f g) _
        refine am_F.ops (pc' := 22) (L' := [.ref 88, .int (nI a0_n), .int (nI a1_n), .int a2, am_un, am_un]) (S' := [.ref 88]) (μ' := (am_S f g)) 1 rfl ?_
        obtain ⟨y6, hy6⟩ : ∃ z, (fn_m_holders_154 f) = z := ⟨_, rfl⟩
        (try rw [hy6] at hK)
        refine am_F.call rfl rfl (x_m_holders_154  f g hlC hlN hrC hrN hl0 hl5 hl2) (by first | decide | omega) ?_
        (try rw [hy6])
        refine am_F.mem (F' := (am_row (am_row (am_row f 93 y6.1) 94 y6.2.1) 96 y6.2.2)) (G' := g) ?_ (by first | rfl | (funext a; by_cases z0 : a = 93; (subst z0; rfl); by_cases z1 : a = 94; (subst z1; rfl); by_cases z2 : a = 96; (subst z2; rfl); simp only [am_ui, am_ul, am_row_ne z0, am_row_ne z1, am_row_ne z2])) (by first | rfl | (funext a; by_cases z0 : a = 93; (subst z0; rfl); by_cases z1 : a = 94; (subst z1; rfl); by_cases z2 : a = 96; (subst z2; rfl); simp only [am_ui, am_ul, am_row_ne z0, am_row_ne z1, am_row_ne z2]))
        show am_F _ _ 25 [.ref 88, .int (nI a0_n), .int (nI a1_n), .int a2, am_un, am_un] [] (am_S (am_row (am_row (am_row f 93 y6.1) 94 y6.2.1) 96 y6.2.2) g) _
        refine am_F.ops (pc' := 31) (L' := [.ref 88, .int (nI a0_n), .int (nI a1_n), .int a2, .int 0, .int 0]) (S' := []) (μ' := (am_S (am_row (am_row (am_row f 93 y6.1) 94 y6.2.1) 96 y6.2.2) g)) 4 rfl ?_
        obtain ⟨z31, hz31, hK⟩ := am_ob_e hKn hK
        refine am_F.mem (F' := (am_row (am_row (am_row (am_row f 88 (f 88)) 93 y6.1) 94 y6.2.1) 96 y6.2.2)) (G' := g) ?_ (by first | rfl | (funext a; by_cases z0 : a = 88; (subst z0; rfl); by_cases z1 : a = 93; (subst z1; rfl); by_cases z2 : a = 94; (subst z2; rfl); by_cases z3 : a = 96; (subst z3; rfl); simp only [am_ui, am_ul, am_row_ne z0, am_row_ne z1, am_row_ne z2, am_row_ne z3])) (by first | rfl | (funext a; by_cases z0 : a = 88; (subst z0; rfl); by_cases z1 : a = 93; (subst z1; rfl); by_cases z2 : a = 94; (subst z2; rfl); by_cases z3 : a = 96; (subst z3; rfl); simp only [am_ui, am_ul, am_row_ne z0, am_row_ne z1, am_row_ne z2, am_row_ne z3]))
        show am_F _ _ 31 [.ref 88, .int (nI a0_n), .int (nI a1_n), .int a2, .int 0, .int (nI 0)] [] (am_S (am_row (am_row (am_row (am_row f 88 (f 88)) 93 y6.1) 94 y6.2.1) 96 y6.2.2) g) _
        refine lp_m_unlike_31 a0_n a1_n a2 f g y6 hmk hlC hlN hrC hrN hl0 hl5 hl2 ha0_n ha1_n _ 128 0 0 (f 88)  (by omega) ?_
        rw [show am_forO (st_m_unlike_31 a0_n a1_n a2 f y6) 128 0 (0, f 88) = (lf_m_unlike_31 a0_n a1_n a2 f y6) from rfl, hz31]
        rcases z31 with z31 | z
        · intro wc31
          show am_F _ _ 93 [.ref 88, .int (nI a0_n), .int (nI a1_n), .int a2, .int z31.1, wc31] [] (am_S (am_row (am_row (am_row (am_row f 88 z31.2) 93 y6.1) 94 y6.2.1) 96 y6.2.2) g) _
          (try simp only [Sum.elim_inl] at hK)
          refine am_F.ops (pc' := 94) (L' := [.ref 88, .int (nI a0_n), .int (nI a1_n), .int a2, .int z31.1, wc31]) (S' := [.int a2]) (μ' := (am_S (am_row (am_row (am_row (am_row f 88 z31.2) 93 y6.1) 94 y6.2.1) 96 y6.2.2) g)) 1 rfl ?_
          refine am_F.to (am_To.ite (pc' := 104) (L2 := [.ref 88, .int (nI a0_n), .int (nI a1_n), .int a2, .int z31.1, wc31]) (S2 := []) (μ2 := (am_S (am_row (am_row (am_row (am_row f 88 z31.2) 93 y6.1) 94 y6.2.1) 96 y6.2.2) g)) (a := (-2)) (b := z31.1) 1 rfl (fun c15 => ?_) (fun c15 => ?_)) ?_
          · intro res9 g9
            show am_F _ _ 102 [.ref 88, .int (nI a0_n), .int (nI a1_n), .int a2, .int z31.1, wc31] [] (am_S (am_row (am_row (am_row (am_row f 88 z31.2) 93 y6.1) 94 y6.2.1) 96 y6.2.2) g) _
            refine am_F.ops (pc' := 104) (L' := [.ref 88, .int (nI a0_n), .int (nI a1_n), .int a2, .int z31.1, wc31]) (S' := [.int (-2)]) (μ' := (am_S (am_row (am_row (am_row (am_row f 88 z31.2) 93 y6.1) 94 y6.2.1) 96 y6.2.2) g)) 1 rfl ?_
            exact g9
          · intro res9 g9
            show am_F _ _ 97 [.ref 88, .int (nI a0_n), .int (nI a1_n), .int a2, .int z31.1, wc31] [] (am_S (am_row (am_row (am_row (am_row f 88 z31.2) 93 y6.1) 94 y6.2.1) 96 y6.2.2) g) _
            refine am_F.ops (pc' := 104) (L' := [.ref 88, .int (nI a0_n), .int (nI a1_n), .int a2, .int z31.1, wc31]) (S' := [.int z31.1]) (μ' := (am_S (am_row (am_row (am_row (am_row f 88 z31.2) 93 y6.1) 94 y6.2.1) 96 y6.2.2) g)) 2 rfl ?_
            exact g9
          show am_F _ _ 104 [.ref 88, .int (nI a0_n), .int (nI a1_n), .int a2, .int z31.1, wc31] [.int (if 0 ≤ a2 then (-2) else z31.1)] (am_S (am_row (am_row (am_row (am_row f 88 z31.2) 93 y6.1) 94 y6.2.1) 96 y6.2.2) g) _
          subst hKd
          have hQ := am_KO_s hK
          exact am_F.eq (am_F.ret rfl rfl) hQ
        · subst hKd
          exact hK
      · show am_F _ _ 19 [.ref 88, .int (nI a0_n), .int (nI a1_n), .int a2, am_un, am_un] [] (am_S f g) _
        refine am_F.ops (pc' := 20) (L' := [.ref 88, .int (nI a0_n), .int (nI a1_n), .int a2, am_un, am_un]) (S' := [.int (-1)]) (μ' := (am_S f g)) 1 rfl ?_
        refine am_F.mem (F' := (am_row (am_row (am_row (am_row f 88 (f 88)) 93 (f 93)) 94 (f 94)) 96 (f 96))) (G' := g) ?_ (by first | rfl | (funext a; by_cases z0 : a = 88; (subst z0; rfl); by_cases z1 : a = 93; (subst z1; rfl); by_cases z2 : a = 94; (subst z2; rfl); by_cases z3 : a = 96; (subst z3; rfl); simp only [am_ui, am_ul, am_row_ne z0, am_row_ne z1, am_row_ne z2, am_row_ne z3])) (by first | rfl | (funext a; by_cases z0 : a = 88; (subst z0; rfl); by_cases z1 : a = 93; (subst z1; rfl); by_cases z2 : a = 94; (subst z2; rfl); by_cases z3 : a = 96; (subst z3; rfl); simp only [am_ui, am_ul, am_row_ne z0, am_row_ne z1, am_row_ne z2, am_row_ne z3]))
        subst hKd
        have hQ := am_KO_s hK
        exact am_F.eq (am_F.ret rfl rfl) hQ
    · show am_F _ _ 19 [.ref 88, .int (nI a0_n), .int a1, .int a2, am_un, am_un] [] (am_S f g) _
      refine am_F.ops (pc' := 20) (L' := [.ref 88, .int (nI a0_n), .int a1, .int a2, am_un, am_un]) (S' := [.int (-1)]) (μ' := (am_S f g)) 1 rfl ?_
      refine am_F.mem (F' := (am_row (am_row (am_row (am_row f 88 (f 88)) 93 (f 93)) 94 (f 94)) 96 (f 96))) (G' := g) ?_ (by first | rfl | (funext a; by_cases z0 : a = 88; (subst z0; rfl); by_cases z1 : a = 93; (subst z1; rfl); by_cases z2 : a = 94; (subst z2; rfl); by_cases z3 : a = 96; (subst z3; rfl); simp only [am_ui, am_ul, am_row_ne z0, am_row_ne z1, am_row_ne z2, am_row_ne z3])) (by first | rfl | (funext a; by_cases z0 : a = 88; (subst z0; rfl); by_cases z1 : a = 93; (subst z1; rfl); by_cases z2 : a = 94; (subst z2; rfl); by_cases z3 : a = 96; (subst z3; rfl); simp only [am_ui, am_ul, am_row_ne z0, am_row_ne z1, am_row_ne z2, am_row_ne z3]))
      subst hKd
      have hQ := am_KO_s hK
      exact am_F.eq (am_F.ret rfl rfl) hQ
  · show am_F _ _ 19 [.ref 88, .int a0, .int a1, .int a2, am_un, am_un] [] (am_S f g) _
    refine am_F.ops (pc' := 20) (L' := [.ref 88, .int a0, .int a1, .int a2, am_un, am_un]) (S' := [.int (-1)]) (μ' := (am_S f g)) 1 rfl ?_
    refine am_F.mem (F' := (am_row (am_row (am_row (am_row f 88 (f 88)) 93 (f 93)) 94 (f 94)) 96 (f 96))) (G' := g) ?_ (by first | rfl | (funext a; by_cases z0 : a = 88; (subst z0; rfl); by_cases z1 : a = 93; (subst z1; rfl); by_cases z2 : a = 94; (subst z2; rfl); by_cases z3 : a = 96; (subst z3; rfl); simp only [am_ui, am_ul, am_row_ne z0, am_row_ne z1, am_row_ne z2, am_row_ne z3])) (by first | rfl | (funext a; by_cases z0 : a = 88; (subst z0; rfl); by_cases z1 : a = 93; (subst z1; rfl); by_cases z2 : a = 94; (subst z2; rfl); by_cases z3 : a = 96; (subst z3; rfl); simp only [am_ui, am_ul, am_row_ne z0, am_row_ne z1, am_row_ne z2, am_row_ne z3]))
    subst hKd
    have hQ := am_KO_s hK
    exact am_F.eq (am_F.ret rfl rfl) hQ
/-- AccessLatticeModel.shadows, with checks -/
noncomputable def fn_m_shadows (a0 : Int32) (a1 : Int32) (f : Nat → Nat → Int32) : Option (Bool) := (if a0 = a1 then (some false) else (am_chk (am_inb a0 30 = true) (am_chk (am_inb a1 30 = true) (if (fn_m_ruleAt a0.toNatClampNeg 0 f) = (fn_m_ruleAt a1.toNatClampNeg 0 f) then (am_chk (am_inb (fn_m_ruleAt a1.toNatClampNeg 1 f) 20 = true) (bif (fn_m_has (f 92 ((fn_m_ruleAt a1.toNatClampNeg 1 f).toNatClampNeg)) (fn_m_ruleAt a0.toNatClampNeg 1 f)) then (if (fn_m_ruleAt a0.toNatClampNeg 8 f) ≤ 0 then (if ((fn_m_ruleAt a1.toNatClampNeg 2 f) &&& ((fn_m_ruleAt a0.toNatClampNeg 2 f) ^^^ (-1))) = 0 then (am_ob (fn_m_isWithin a1 a0 f) (fun (y17 : Bool) => (bif (y17) then (if (fn_m_ruleAt a1.toNatClampNeg 4 f) ≤ (fn_m_ruleAt a0.toNatClampNeg 4 f) then (if (fn_m_ruleAt a0.toNatClampNeg 5 f) ≤ (fn_m_ruleAt a1.toNatClampNeg 5 f) then (if (fn_m_ruleAt a0.toNatClampNeg 6 f) = (-1) then (some true) else (if (fn_m_ruleAt a1.toNatClampNeg 6 f) = (-1) then (some false) else (some (if (fn_m_ruleAt a0.toNatClampNeg 6 f) < (fn_m_ruleAt a1.toNatClampNeg 6 f) then false else true)))) else (some false)) else (some false)) else (some false)))) else (some false)) else (some false)) else (some false))) else (some false)))))
theorem x_m_shadows (a0 : Int32) (a1 : Int32) (f : Nat → Nat → Int32) (g : Nat → Nat → Int64)  (z0 : Bool) (hz0 : (fn_m_shadows a0 a1 f) = some z0) : am_D 2 232 3 [.ref 88, .int a0, .int a1] (am_S f g) (some (Value.int (am_b z0)), am_S f g) := by
  refine am_D.of (code := am_k_232) rfl (L0 := [.ref 88, .int a0, .int a1]) rfl ?_
  generalize hres : (some (Value.int (am_b z0)), am_S f g) = res
  obtain ⟨K, hKd⟩ : ∃ K : Option (Bool) → Prop, K = am_KO (fun z => (some (Value.int (am_b z)), am_S f g) = res) := ⟨_, rfl⟩
  have hK : K (fn_m_shadows a0 a1 f) := by rw [hKd, hz0]; exact hres
  have hKn : ¬ K none := by rw [hKd]; exact id
  clear hres hz0
  unfold fn_m_shadows at hK
  refine am_F.ops (pc' := 2) (L' := [.ref 88, .int a0, .int a1]) (S' := [.int a1, .int a0]) (μ' := (am_S f g)) 2 rfl ?_
  refine am_F.iteK 1 rfl K hK (fun c1 hK => ?_) (fun c1 hK => ?_)
  · show am_F _ _ 53 [.ref 88, .int a0, .int a1] [] (am_S f g) _
    refine am_F.ops (pc' := 54) (L' := [.ref 88, .int a0, .int a1]) (S' := [.int 0]) (μ' := (am_S f g)) 1 rfl ?_
    subst hKd
    have hQ := am_KO_s hK
    exact am_F.eq (am_F.ret rfl rfl) hQ
  · show am_F _ _ 5 [.ref 88, .int a0, .int a1] [] (am_S f g) _
    refine am_F.ops (pc' := 8) (L' := [.ref 88, .int a0, .int a1]) (S' := [.int 0, .int a0, .ref 88]) (μ' := (am_S f g)) 3 rfl ?_
    obtain ⟨q2, hK⟩ := am_chk_e hKn hK
    refine am_F.call rfl rfl (am_D.args (congrArg (fun (x9 : Int32) => ([.ref 88, .int x9, .int 0] : List Value)) (show (a0 : Int32) = nI a0.toNatClampNeg from (am_inbQ q2).1)) (am_D.args (congrArg (fun (x9 : Int32) => ([.ref 88, .int (nI a0.toNatClampNeg), .int x9] : List Value)) (show (0 : Int32) = nI 0 from rfl)) (x_m_ruleAt a0.toNatClampNeg 0 f g (am_inbQ q2).2 (by omega)))) (by first | decide | omega) ?_
    show am_F _ _ 11 [.ref 88, .int a0, .int a1] [.int (fn_m_ruleAt a0.toNatClampNeg 0 f)] (am_S f g) _
    refine am_F.ops (pc' := 14) (L' := [.ref 88, .int a0, .int a1]) (S' := [.int 0, .int a1, .ref 88, .int (fn_m_ruleAt a0.toNatClampNeg 0 f)]) (μ' := (am_S f g)) 3 rfl ?_
    obtain ⟨q4, hK⟩ := am_chk_e hKn hK
    refine am_F.call rfl rfl (am_D.args (congrArg (fun (x9 : Int32) => ([.ref 88, .int x9, .int 0] : List Value)) (show (a1 : Int32) = nI a1.toNatClampNeg from (am_inbQ q4).1)) (am_D.args (congrArg (fun (x9 : Int32) => ([.ref 88, .int (nI a1.toNatClampNeg), .int x9] : List Value)) (show (0 : Int32) = nI 0 from rfl)) (x_m_ruleAt a1.toNatClampNeg 0 f g (am_inbQ q4).2 (by omega)))) (by first | decide | omega) ?_
    show am_F _ _ 17 [.ref 88, .int a0, .int a1] [.int (fn_m_ruleAt a1.toNatClampNeg 0 f), .int (fn_m_ruleAt a0.toNatClampNeg 0 f)] (am_S f g) _
    refine am_F.iteK 1 rfl K hK (fun c6 hK => ?_) (fun c6 hK => ?_)
    · show am_F _ _ 20 [.ref 88, .int a0, .int a1] [] (am_S f g) _
      refine am_F.ops (pc' := 27) (L' := [.ref 88, .int a0, .int a1]) (S' := [.int 1, .int a1, .ref 88, .ref 92]) (μ' := (am_S f g)) 5 rfl ?_
      refine am_F.call rfl rfl (am_D.args (congrArg (fun (x9 : Int32) => ([.ref 88, .int x9, .int 1] : List Value)) (show (a1 : Int32) = nI a1.toNatClampNeg from (am_inbQ q4).1)) (am_D.args (congrArg (fun (x9 : Int32) => ([.ref 88, .int (nI a1.toNatClampNeg), .int x9] : List Value)) (show (1 : Int32) = nI 1 from rfl)) (x_m_ruleAt a1.toNatClampNeg 1 f g (am_inbQ q4).2 (by omega)))) (by first | decide | omega) ?_
      show am_F _ _ 30 [.ref 88, .int a0, .int a1] [.int (fn_m_ruleAt a1.toNatClampNeg 1 f), .ref 92] (am_S f g) _
      obtain ⟨q8, hK⟩ := am_chk_e hKn hK
      refine am_F.ial (N := 20) rfl rfl rfl q8 ?_
      show am_F _ _ 31 [.ref 88, .int a0, .int a1] [.int (f 92 ((fn_m_ruleAt a1.toNatClampNeg 1 f).toNatClampNeg))] (am_S f g) _
      refine am_F.ops (pc' := 34) (L' := [.ref 88, .int a0, .int a1]) (S' := [.int 1, .int a0, .ref 88, .int (f 92 ((fn_m_ruleAt a1.toNatClampNeg 1 f).toNatClampNeg))]) (μ' := (am_S f g)) 3 rfl ?_
      refine am_F.call rfl rfl (am_D.args (congrArg (fun (x9 : Int32) => ([.ref 88, .int x9, .int 1] : List Value)) (show (a0 : Int32) = nI a0.toNatClampNeg from (am_inbQ q2).1)) (am_D.args (congrArg (fun (x9 : Int32) => ([.ref 88, .int (nI a0.toNatClampNeg), .int x9] : List Value)) (show (1 : Int32) = nI 1 from rfl)) (x_m_ruleAt a0.toNatClampNeg 1 f g (am_inbQ q2).2 (by omega)))) (by first | decide | omega) ?_
      show am_F _ _ 37 [.ref 88, .int a0, .int a1] [.int (fn_m_ruleAt a0.toNatClampNeg 1 f), .int (f 92 ((fn_m_ruleAt a1.toNatClampNeg 1 f).toNatClampNeg))] (am_S f g) _
      refine am_F.call rfl rfl (x_m_has (f 92 ((fn_m_ruleAt a1.toNatClampNeg 1 f).toNatClampNeg)) (fn_m_ruleAt a0.toNatClampNeg 1 f) f g ) (by first | decide | omega) ?_
      show am_F _ _ 40 [.ref 88, .int a0, .int a1] [.int (am_b (fn_m_has (f 92 ((fn_m_ruleAt a1.toNatClampNeg 1 f).toNatClampNeg)) (fn_m_ruleAt a0.toNatClampNeg 1 f)))] (am_S f g) _
      refine am_F.bifK 1 rfl K hK (fun c11 hK => ?_) (fun c11 hK => ?_)
      · show am_F _ _ 43 [.ref 88, .int a0, .int a1] [] (am_S f g) _
        refine am_F.ops (pc' := 47) (L' := [.ref 88, .int a0, .int a1]) (S' := [.int 8, .int a0, .ref 88]) (μ' := (am_S f g)) 3 rfl ?_
        refine am_F.call rfl rfl (am_D.args (congrArg (fun (x9 : Int32) => ([.ref 88, .int x9, .int 8] : List Value)) (show (a0 : Int32) = nI a0.toNatClampNeg from (am_inbQ q2).1)) (am_D.args (congrArg (fun (x9 : Int32) => ([.ref 88, .int (nI a0.toNatClampNeg), .int x9] : List Value)) (show (8 : Int32) = nI 8 from rfl)) (x_m_ruleAt a0.toNatClampNeg 8 f g (am_inbQ q2).2 (by omega)))) (by first | decide | omega) ?_
        show am_F _ _ 50 [.ref 88, .int a0, .int a1] [.int (fn_m_ruleAt a0.toNatClampNeg 8 f)] (am_S f g) _
        refine am_F.iteK 1 rfl K hK (fun c13 hK => ?_) (fun c13 hK => ?_)
        · show am_F _ _ 55 [.ref 88, .int a0, .int a1] [] (am_S f g) _
          refine am_F.ops (pc' := 58) (L' := [.ref 88, .int a0, .int a1]) (S' := [.int 2, .int a1, .ref 88]) (μ' := (am_S f g)) 3 rfl ?_
          refine am_F.call rfl rfl (am_D.args (congrArg (fun (x9 : Int32) => ([.ref 88, .int x9, .int 2] : List Value)) (show (a1 : Int32) = nI a1.toNatClampNeg from (am_inbQ q4).1)) (am_D.args (congrArg (fun (x9 : Int32) => ([.ref 88, .int (nI a1.toNatClampNeg), .int x9] : List Value)) (show (2 : Int32) = nI 2 from rfl)) (x_m_ruleAt a1.toNatClampNeg 2 f g (am_inbQ q4).2 (by omega)))) (by first | decide | omega) ?_
          show am_F _ _ 61 [.ref 88, .int a0, .int a1] [.int (fn_m_ruleAt a1.toNatClampNeg 2 f)] (am_S f g) _
          refine am_F.ops (pc' := 64) (L' := [.ref 88, .int a0, .int a1]) (S' := [.int 2, .int a0, .ref 88, .int (fn_m_ruleAt a1.toNatClampNeg 2 f)]) (μ' := (am_S f g)) 3 rfl ?_
          refine am_F.call rfl rfl (am_D.args (congrArg (fun (x9 : Int32) => ([.ref 88, .int x9, .int 2] : List Value)) (show (a0 : Int32) = nI a0.toNatClampNeg from (am_inbQ q2).1)) (am_D.args (congrArg (fun (x9 : Int32) => ([.ref 88, .int (nI a0.toNatClampNeg), .int x9] : List Value)) (show (2 : Int32) = nI 2 from rfl)) (x_m_ruleAt a0.toNatClampNeg 2 f g (am_inbQ q2).2 (by omega)))) (by first | decide | omega) ?_
          show am_F _ _ 67 [.ref 88, .int a0, .int a1] [.int (fn_m_ruleAt a0.toNatClampNeg 2 f), .int (fn_m_ruleAt a1.toNatClampNeg 2 f)] (am_S f g) _
          refine am_F.ops (pc' := 70) (L' := [.ref 88, .int a0, .int a1]) (S' := [.int ((fn_m_ruleAt a1.toNatClampNeg 2 f) &&& ((fn_m_ruleAt a0.toNatClampNeg 2 f) ^^^ (-1)))]) (μ' := (am_S f g)) 3 rfl ?_
          refine am_F.iteK 1 rfl K hK (fun c16 hK => ?_) (fun c16 hK => ?_)
          · show am_F _ _ 73 [.ref 88, .int a0, .int a1] [] (am_S f g) _
            refine am_F.ops (pc' := 76) (L' := [.ref 88, .int a0, .int a1]) (S' := [.int a0, .int a1, .ref 88]) (μ' := (am_S f g)) 3 rfl ?_
            obtain ⟨y17, hy17, hK⟩ := am_ob_e hKn hK
            refine am_F.call rfl rfl (x_m_isWithin a1 a0 f g  y17 hy17) (by first | decide | omega) ?_
            show am_F _ _ 79 [.ref 88, .int a0, .int a1] [.int (am_b (y17))] (am_S f g) _
            refine am_F.bifK 1 rfl K hK (fun c18 hK => ?_) (fun c18 hK => ?_)
            · show am_F _ _ 82 [.ref 88, .int a0, .int a1] [] (am_S f g) _
              refine am_F.ops (pc' := 85) (L' := [.ref 88, .int a0, .int a1]) (S' := [.int 4, .int a0, .ref 88]) (μ' := (am_S f g)) 3 rfl ?_
              refine am_F.call rfl rfl (am_D.args (congrArg (fun (x9 : Int32) => ([.ref 88, .int x9, .int 4] : List Value)) (show (a0 : Int32) = nI a0.toNatClampNeg from (am_inbQ q2).1)) (am_D.args (congrArg (fun (x9 : Int32) => ([.ref 88, .int (nI a0.toNatClampNeg), .int x9] : List Value)) (show (4 : Int32) = nI 4 from rfl)) (x_m_ruleAt a0.toNatClampNeg 4 f g (am_inbQ q2).2 (by omega)))) (by first | decide | omega) ?_
              show am_F _ _ 88 [.ref 88, .int a0, .int a1] [.int (fn_m_ruleAt a0.toNatClampNeg 4 f)] (am_S f g) _
              refine am_F.ops (pc' := 91) (L' := [.ref 88, .int a0, .int a1]) (S' := [.int 4, .int a1, .ref 88, .int (fn_m_ruleAt a0.toNatClampNeg 4 f)]) (μ' := (am_S f g)) 3 rfl ?_
              refine am_F.call rfl rfl (am_D.args (congrArg (fun (x9 : Int32) => ([.ref 88, .int x9, .int 4] : List Value)) (show (a1 : Int32) = nI a1.toNatClampNeg from (am_inbQ q4).1)) (am_D.args (congrArg (fun (x9 : Int32) => ([.ref 88, .int (nI a1.toNatClampNeg), .int x9] : List Value)) (show (4 : Int32) = nI 4 from rfl)) (x_m_ruleAt a1.toNatClampNeg 4 f g (am_inbQ q4).2 (by omega)))) (by first | decide | omega) ?_
              show am_F _ _ 94 [.ref 88, .int a0, .int a1] [.int (fn_m_ruleAt a1.toNatClampNeg 4 f), .int (fn_m_ruleAt a0.toNatClampNeg 4 f)] (am_S f g) _
              refine am_F.iteK 1 rfl K hK (fun c21 hK => ?_) (fun c21 hK => ?_)
              · show am_F _ _ 99 [.ref 88, .int a0, .int a1] [] (am_S f g) _
                refine am_F.ops (pc' := 102) (L' := [.ref 88, .int a0, .int a1]) (S' := [.int 5, .int a0, .ref 88]) (μ' := (am_S f g)) 3 rfl ?_
                refine am_F.call rfl rfl (am_D.args (congrArg (fun (x9 : Int32) => ([.ref 88, .int x9, .int 5] : List Value)) (show (a0 : Int32) = nI a0.toNatClampNeg from (am_inbQ q2).1)) (am_D.args (congrArg (fun (x9 : Int32) => ([.ref 88, .int (nI a0.toNatClampNeg), .int x9] : List Value)) (show (5 : Int32) = nI 5 from rfl)) (x_m_ruleAt a0.toNatClampNeg 5 f g (am_inbQ q2).2 (by omega)))) (by first | decide | omega) ?_
                show am_F _ _ 105 [.ref 88, .int a0, .int a1] [.int (fn_m_ruleAt a0.toNatClampNeg 5 f)] (am_S f g) _
                refine am_F.ops (pc' := 108) (L' := [.ref 88, .int a0, .int a1]) (S' := [.int 5, .int a1, .ref 88, .int (fn_m_ruleAt a0.toNatClampNeg 5 f)]) (μ' := (am_S f g)) 3 rfl ?_
                refine am_F.call rfl rfl (am_D.args (congrArg (fun (x9 : Int32) => ([.ref 88, .int x9, .int 5] : List Value)) (show (a1 : Int32) = nI a1.toNatClampNeg from (am_inbQ q4).1)) (am_D.args (congrArg (fun (x9 : Int32) => ([.ref 88, .int (nI a1.toNatClampNeg), .int x9] : List Value)) (show (5 : Int32) = nI 5 from rfl)) (x_m_ruleAt a1.toNatClampNeg 5 f g (am_inbQ q4).2 (by omega)))) (by first | decide | omega) ?_
                show am_F _ _ 111 [.ref 88, .int a0, .int a1] [.int (fn_m_ruleAt a1.toNatClampNeg 5 f), .int (fn_m_ruleAt a0.toNatClampNeg 5 f)] (am_S f g) _
                refine am_F.iteK 1 rfl K hK (fun c24 hK => ?_) (fun c24 hK => ?_)
                · show am_F _ _ 116 [.ref 88, .int a0, .int a1] [] (am_S f g) _
                  refine am_F.ops (pc' := 120) (L' := [.ref 88, .int a0, .int a1]) (S' := [.int 6, .int a0, .ref 88]) (μ' := (am_S f g)) 3 rfl ?_
                  refine am_F.call rfl rfl (am_D.args (congrArg (fun (x9 : Int32) => ([.ref 88, .int x9, .int 6] : List Value)) (show (a0 : Int32) = nI a0.toNatClampNeg from (am_inbQ q2).1)) (am_D.args (congrArg (fun (x9 : Int32) => ([.ref 88, .int (nI a0.toNatClampNeg), .int x9] : List Value)) (show (6 : Int32) = nI 6 from rfl)) (x_m_ruleAt a0.toNatClampNeg 6 f g (am_inbQ q2).2 (by omega)))) (by first | decide | omega) ?_
                  show am_F _ _ 123 [.ref 88, .int a0, .int a1] [.int (fn_m_ruleAt a0.toNatClampNeg 6 f)] (am_S f g) _
                  refine am_F.ops (pc' := 124) (L' := [.ref 88, .int a0, .int a1]) (S' := [.int (-1), .int (fn_m_ruleAt a0.toNatClampNeg 6 f)]) (μ' := (am_S f g)) 1 rfl ?_
                  refine am_F.iteK 1 rfl K hK (fun c27 hK => ?_) (fun c27 hK => ?_)
                  · show am_F _ _ 155 [.ref 88, .int a0, .int a1] [] (am_S f g) _
                    refine am_F.ops (pc' := 160) (L' := [.ref 88, .int a0, .int a1]) (S' := [.int 1]) (μ' := (am_S f g)) 2 rfl ?_
                    subst hKd
                    have hQ := am_KO_s hK
                    exact am_F.eq (am_F.ret rfl rfl) hQ
                  · show am_F _ _ 127 [.ref 88, .int a0, .int a1] [] (am_S f g) _
                    refine am_F.ops (pc' := 131) (L' := [.ref 88, .int a0, .int a1]) (S' := [.int 6, .int a1, .ref 88]) (μ' := (am_S f g)) 3 rfl ?_
                    refine am_F.call rfl rfl (am_D.args (congrArg (fun (x9 : Int32) => ([.ref 88, .int x9, .int 6] : List Value)) (show (a1 : Int32) = nI a1.toNatClampNeg from (am_inbQ q4).1)) (am_D.args (congrArg (fun (x9 : Int32) => ([.ref 88, .int (nI a1.toNatClampNeg), .int x9] : List Value)) (show (6 : Int32) = nI 6 from rfl)) (x_m_ruleAt a1.toNatClampNeg 6 f g (am_inbQ q4).2 (by omega)))) (by first | decide | omega) ?_
                    show am_F _ _ 134 [.ref 88, .int a0, .int a1] [.int (fn_m_ruleAt a1.toNatClampNeg 6 f)] (am_S f g) _
                    refine am_F.ops (pc' := 135) (L' := [.ref 88, .int a0, .int a1]) (S' := [.int (-1), .int (fn_m_ruleAt a1.toNatClampNeg 6 f)]) (μ' := (am_S f g)) 1 rfl ?_
                    refine am_F.iteK 1 rfl K hK (fun c30 hK => ?_) (fun c30 hK => ?_)
                    · show am_F _ _ 159 [.ref 88, .int a0, .int a1] [] (am_S f g) _
                      refine am_F.ops (pc' := 160) (L' := [.ref 88, .int a0, .int a1]) (S' := [.int 0]) (μ' := (am_S f g)) 1 rfl ?_
                      subst hKd
                      have hQ := am_KO_s hK
                      exact am_F.eq (am_F.ret rfl rfl) hQ
                    · show am_F _ _ 138 [.ref 88, .int a0, .int a1] [] (am_S f g) _
                      refine am_F.ops (pc' := 142) (L' := [.ref 88, .int a0, .int a1]) (S' := [.int 6, .int a0, .ref 88]) (μ' := (am_S f g)) 3 rfl ?_
                      refine am_F.call rfl rfl (am_D.args (congrArg (fun (x9 : Int32) => ([.ref 88, .int x9, .int 6] : List Value)) (show (a0 : Int32) = nI a0.toNatClampNeg from (am_inbQ q2).1)) (am_D.args (congrArg (fun (x9 : Int32) => ([.ref 88, .int (nI a0.toNatClampNeg), .int x9] : List Value)) (show (6 : Int32) = nI 6 from rfl)) (x_m_ruleAt a0.toNatClampNeg 6 f g (am_inbQ q2).2 (by omega)))) (by first | decide | omega) ?_
                      show am_F _ _ 145 [.ref 88, .int a0, .int a1] [.int (fn_m_ruleAt a0.toNatClampNeg 6 f)] (am_S f g) _
                      refine am_F.ops (pc' := 149) (L' := [.ref 88, .int a0, .int a1]) (S' := [.int 6, .int a1, .ref 88, .int (fn_m_ruleAt a0.toNatClampNeg 6 f)]) (μ' := (am_S f g)) 3 rfl ?_
                      refine am_F.call rfl rfl (am_D.args (congrArg (fun (x9 : Int32) => ([.ref 88, .int x9, .int 6] : List Value)) (show (a1 : Int32) = nI a1.toNatClampNeg from (am_inbQ q4).1)) (am_D.args (congrArg (fun (x9 : Int32) => ([.ref 88, .int (nI a1.toNatClampNeg), .int x9] : List Value)) (show (6 : Int32) = nI 6 from rfl)) (x_m_ruleAt a1.toNatClampNeg 6 f g (am_inbQ q4).2 (by omega)))) (by first | decide | omega) ?_
                      show am_F _ _ 152 [.ref 88, .int a0, .int a1] [.int (fn_m_ruleAt a1.toNatClampNeg 6 f), .int (fn_m_ruleAt a0.toNatClampNeg 6 f)] (am_S f g) _
                      refine am_F.to (am_To.iteB (pc' := 160) (L2 := [.ref 88, .int a0, .int a1]) (S2 := []) (μ2 := (am_S f g)) (a := false) (b := true) 1 rfl (fun c33 => ?_) (fun c33 => ?_)) ?_
                      · intro res9 g9
                        show am_F _ _ 159 [.ref 88, .int a0, .int a1] [] (am_S f g) _
                        refine am_F.ops (pc' := 160) (L' := [.ref 88, .int a0, .int a1]) (S' := [.int 0]) (μ' := (am_S f g)) 1 rfl ?_
                        exact g9
                      · intro res9 g9
                        show am_F _ _ 155 [.ref 88, .int a0, .int a1] [] (am_S f g) _
                        refine am_F.ops (pc' := 160) (L' := [.ref 88, .int a0, .int a1]) (S' := [.int 1]) (μ' := (am_S f g)) 2 rfl ?_
                        exact g9
                      show am_F _ _ 160 [.ref 88, .int a0, .int a1] [.int (am_b (if (fn_m_ruleAt a0.toNatClampNeg 6 f) < (fn_m_ruleAt a1.toNatClampNeg 6 f) then false else true))] (am_S f g) _
                      subst hKd
                      have hQ := am_KO_s hK
                      exact am_F.eq (am_F.ret rfl (am_retB _ _)) hQ
                · show am_F _ _ 114 [.ref 88, .int a0, .int a1] [] (am_S f g) _
                  refine am_F.ops (pc' := 115) (L' := [.ref 88, .int a0, .int a1]) (S' := [.int 0]) (μ' := (am_S f g)) 1 rfl ?_
                  subst hKd
                  have hQ := am_KO_s hK
                  exact am_F.eq (am_F.ret rfl rfl) hQ
              · show am_F _ _ 97 [.ref 88, .int a0, .int a1] [] (am_S f g) _
                refine am_F.ops (pc' := 98) (L' := [.ref 88, .int a0, .int a1]) (S' := [.int 0]) (μ' := (am_S f g)) 1 rfl ?_
                subst hKd
                have hQ := am_KO_s hK
                exact am_F.eq (am_F.ret rfl rfl) hQ
            · show am_F _ _ 97 [.ref 88, .int a0, .int a1] [] (am_S f g) _
              refine am_F.ops (pc' := 98) (L' := [.ref 88, .int a0, .int a1]) (S' := [.int 0]) (μ' := (am_S f g)) 1 rfl ?_
              subst hKd
              have hQ := am_KO_s hK
              exact am_F.eq (am_F.ret rfl rfl) hQ
          · show am_F _ _ 97 [.ref 88, .int a0, .int a1] [] (am_S f g) _
            refine am_F.ops (pc' := 98) (L' := [.ref 88, .int a0, .int a1]) (S' := [.int 0]) (μ' := (am_S f g)) 1 rfl ?_
            subst hKd
            have hQ := am_KO_s hK
            exact am_F.eq (am_F.ret rfl rfl) hQ
        · show am_F _ _ 53 [.ref 88, .int a0, .int a1] [] (am_S f g) _
          refine am_F.ops (pc' := 54) (L' := [.ref 88, .int a0, .int a1]) (S' := [.int 0]) (μ' := (am_S f g)) 1 rfl ?_
          subst hKd
          have hQ := am_KO_s hK
          exact am_F.eq (am_F.ret rfl rfl) hQ
      · show am_F _ _ 53 [.ref 88, .int a0, .int a1] [] (am_S f g) _
        refine am_F.ops (pc' := 54) (L' := [.ref 88, .int a0, .int a1]) (S' := [.int 0]) (μ' := (am_S f g)) 1 rfl ?_
        subst hKd
        have hQ := am_KO_s hK
        exact am_F.eq (am_F.ret rfl rfl) hQ
    · show am_F _ _ 53 [.ref 88, .int a0, .int a1] [] (am_S f g) _
      refine am_F.ops (pc' := 54) (L' := [.ref 88, .int a0, .int a1]) (S' := [.int 0]) (μ' := (am_S f g)) 1 rfl ?_
      subst hKd
      have hQ := am_KO_s hK
      exact am_F.eq (am_F.ret rfl rfl) hQ
/-- AccessLatticeModel.clash, with checks -/
noncomputable def st_m_clash_20 (a0_n : Nat) (a1 : Int32) (f : Nat → Nat → Int32) : Nat → Int32 → Option (Int32 ⊕ (Int32 ⊕ Int32)) := fun i20 a20_3 => (am_ob (fn_m_clashes (nI a0_n) (nI i20) f) (fun (y4 : Bool) => (bif (y4) then (if a20_3 = a1 then (some (.inr (.inr (nI i20)))) else (some (.inl (a20_3 + 1)))) else (some (.inl a20_3)))))
noncomputable def lf_m_clash_20 (a0_n : Nat) (a1 : Int32) (f : Nat → Nat → Int32) : Option (Int32 ⊕ Int32) := am_forO (st_m_clash_20 a0_n a1 f) ((f 89 202).toNatClampNeg) 0 0
noncomputable def fn_m_clash (a0 : Int32) (a1 : Int32) (f : Nat → Nat → Int32) : Option (Int32) := (bif (fn_m_isRule a0 f) then (if (-1) ≤ a1 then (am_ob (lf_m_clash_20 (a0.toNatClampNeg) a1 f) (fun zz => Sum.elim (fun (z20 : Int32) => (some (if 0 ≤ a1 then (-2) else z20))) (fun (z : Int32) => (some z)) zz)) else (some (-1))) else (some (-1)))
theorem lp_m_clash_20 (a0_n : Nat) (a1 : Int32) (f : Nat → Nat → Int32) (g : Nat → Nat → Int64) (hmk : am_mOK (f 89)) (hlC : f 89 201 = nI (f 89 201).toNatClampNeg) (hlN : (f 89 201).toNatClampNeg ≤ 40) (hrC : f 89 202 = nI (f 89 202).toNatClampNeg) (hrN : (f 89 202).toNatClampNeg ≤ 30) (hl0 : ∀ i, i < (f 89 201).toNatClampNeg → am_inb (fn_m_loanAt i 0 f) 16 = true) (hl5 : ∀ i, i < (f 89 201).toNatClampNeg → ¬ fn_m_loanAt i 5 f < 0 → am_inb (fn_m_loanAt i 5 f) 40 = true) (hl2 : ∀ i, i < (f 89 201).toNatClampNeg → am_inb (fn_m_loanAt i 2 f) 20 = true) (ha0_n : a0_n < (f 89 202).toNatClampNeg) (res : Option Value × am_M) : ∀ (n i20 : Nat) (a20_3 : Int32) , i20 + n = (f 89 202).toNatClampNeg → am_KO (am_KX (fun (z : Int32) => ∀ (wc20 : Value), am_F 3 am_k_234 63 [.ref 88, .int (nI a0_n), .int a1, .int z, wc20] [] (am_S f g) res) (fun (z : Int32) => (some (Value.int z), am_S f g) = res)) (am_forO (st_m_clash_20 a0_n a1 f) n i20 a20_3) → am_F 3 am_k_234 20 [.ref 88, .int (nI a0_n), .int a1, .int a20_3, .int (nI i20)] [] (am_S f g) res := by
  intro n
  induction n with
  | zero =>
    intro i20 a20_3 hi hK
    refine am_F.pos 6 rfl (by show (f 89 202) ≤ nI i20; rw [show (f 89 202 : Int32) = nI ((f 89 202).toNatClampNeg) from hrC]; exact nI_le (by omega) (by omega)) ?_
    exact hK _
  | succ n ih =>
    intro i20 a20_3 hi hK
    refine am_F.neg 6 rfl (by show ¬ (f 89 202) ≤ nI i20; rw [show (f 89 202 : Int32) = nI ((f 89 202).toNatClampNeg) from hrC]; exact nI_ge (by omega) (by omega)) ?_
    have hb20 : i20 < (f 89 202).toNatClampNeg := by omega
    show am_F _ _ 33 [.ref 88, .int (nI a0_n), .int a1, .int a20_3, .int (nI i20)] [] (am_S f g) _
    obtain ⟨K, hKd⟩ : ∃ K : Option (Int32 ⊕ (Int32 ⊕ Int32)) → Prop, K = fun s => am_KO (am_KX (fun (z : Int32) => ∀ (wc20 : Value), am_F 3 am_k_234 63 [.ref 88, .int (nI a0_n), .int a1, .int z, wc20] [] (am_S f g) res) (fun (z : Int32) => (some (Value.int z), am_S f g) = res)) (am_whn (fun z => am_forO (st_m_clash_20 a0_n a1 f) n (i20 + 1) z) s) := ⟨_, rfl⟩
    have hK : K ((st_m_clash_20 a0_n a1 f) i20 a20_3) := by rw [am_forO_s] at hK; rw [hKd]; with_reducible exact hK
    have hKn : ¬ K none := by rw [hKd]; exact id
    unfold st_m_clash_20 at hK
    refine am_F.ops (pc' := 37) (L' := [.ref 88, .int (nI a0_n), .int a1, .int a20_3, .int (nI i20)]) (S' := [.int (nI i20), .int (nI a0_n), .ref 88]) (μ' := (am_S f g)) 3 rfl ?_
    obtain ⟨y4, hy4, hK⟩ := am_ob_e hKn hK
    refine am_F.call rfl rfl (x_m_clashes (nI a0_n) (nI i20) f g  y4 hy4) (by first | decide | omega) ?_
    show am_F _ _ 40 [.ref 88, .int (nI a0_n), .int a1, .int a20_3, .int (nI i20)] [.int (am_b (y4))] (am_S f g) _
    refine am_F.bifK 1 rfl K hK (fun c5 hK => ?_) (fun c5 hK => ?_)
    · show am_F _ _ 46 [.ref 88, .int (nI a0_n), .int a1, .int a20_3, .int (nI i20)] [] (am_S f g) _
      refine am_F.ops (pc' := 48) (L' := [.ref 88, .int (nI a0_n), .int a1, .int a20_3, .int (nI i20)]) (S' := [.int a1, .int a20_3]) (μ' := (am_S f g)) 2 rfl ?_
      refine am_F.iteK 1 rfl K hK (fun c6 hK => ?_) (fun c6 hK => ?_)
      · show am_F _ _ 51 [.ref 88, .int (nI a0_n), .int a1, .int a20_3, .int (nI i20)] [] (am_S f g) _
        refine am_F.ops (pc' := 53) (L' := [.ref 88, .int (nI a0_n), .int a1, .int a20_3, .int (nI i20)]) (S' := [.int (nI i20)]) (μ' := (am_S f g)) 1 rfl ?_
        subst hKd
        have hQ := am_KO_r hK
        exact am_F.eq (am_F.ret rfl rfl) hQ
      · show am_F _ _ 54 [.ref 88, .int (nI a0_n), .int a1, .int a20_3, .int (nI i20)] [] (am_S f g) _
        refine am_F.ops (pc' := 20) (L' := [.ref 88, .int (nI a0_n), .int a1, .int (a20_3 + 1), .int ((nI i20) + 1)]) (S' := []) (μ' := (am_S f g)) 3 rfl ?_
        rw [nI_1 i20]
        subst hKd
        exact ih (i20 + 1) (a20_3 + 1) (by omega) hK
    · show am_F _ _ 43 [.ref 88, .int (nI a0_n), .int a1, .int a20_3, .int (nI i20)] [] (am_S f g) _
      refine am_F.ops (pc' := 20) (L' := [.ref 88, .int (nI a0_n), .int a1, .int a20_3, .int ((nI i20) + 1)]) (S' := []) (μ' := (am_S f g)) 3 rfl ?_
      rw [nI_1 i20]
      subst hKd
      exact ih (i20 + 1) a20_3 (by omega) hK
theorem x_m_clash (a0 : Int32) (a1 : Int32) (f : Nat → Nat → Int32) (g : Nat → Nat → Int64) (hmk : am_mOK (f 89)) (z0 : Int32) (hz0 : (fn_m_clash a0 a1 f) = some z0) : am_D 3 234 5 [.ref 88, .int a0, .int a1] (am_S f g) (some (Value.int z0), am_S f g) := by
  obtain ⟨hlC, hlN, hrC, hrN, hl0, hl5, hl2⟩ := am_mOK_e hmk
  refine am_D.of (code := am_k_234) rfl (L0 := [.ref 88, .int a0, .int a1, am_un, am_un]) rfl ?_
  generalize hres : (some (Value.int z0), am_S f g) = res
  obtain ⟨K, hKd⟩ : ∃ K : Option (Int32) → Prop, K = am_KO (fun z => (some (Value.int z), am_S f g) = res) := ⟨_, rfl⟩
  have hK : K (fn_m_clash a0 a1 f) := by rw [hKd, hz0]; exact hres
  have hKn : ¬ K none := by rw [hKd]; exact id
  clear hres hz0
  unfold fn_m_clash at hK
  refine am_F.ops (pc' := 2) (L' := [.ref 88, .int a0, .int a1, am_un, am_un]) (S' := [.int a0, .ref 88]) (μ' := (am_S f g)) 2 rfl ?_
  refine am_F.call rfl rfl (x_m_isRule a0 f g hrC hrN) (by first | decide | omega) ?_
  show am_F _ _ 5 [.ref 88, .int a0, .int a1, am_un, am_un] [.int (am_b (fn_m_isRule a0 f))] (am_S f g) _
  refine am_F.bifK 1 rfl K hK (fun c2 hK => ?_) (fun c2 hK => ?_)
  · obtain ⟨a0_n, ha0_n, ea0_n⟩ := am_mRuleN hrC (by omega) c2
    subst ea0_n
    try simp only [nI_clamp (show a0_n < 2147483648 by omega)] at hK
    show am_F _ _ 8 [.ref 88, .int (nI a0_n), .int a1, am_un, am_un] [] (am_S f g) _
    refine am_F.ops (pc' := 10) (L' := [.ref 88, .int (nI a0_n), .int a1, am_un, am_un]) (S' := [.int (-1), .int a1]) (μ' := (am_S f g)) 2 rfl ?_
    refine am_F.iteK 1 rfl K hK (fun c3 hK => ?_) (fun c3 hK => ?_)
    · show am_F _ _ 15 [.ref 88, .int (nI a0_n), .int a1, am_un, am_un] [] (am_S f g) _
      refine am_F.ops (pc' := 20) (L' := [.ref 88, .int (nI a0_n), .int a1, .int 0, .int 0]) (S' := []) (μ' := (am_S f g)) 4 rfl ?_
      obtain ⟨z20, hz20, hK⟩ := am_ob_e hKn hK
      show am_F _ _ 20 [.ref 88, .int (nI a0_n), .int a1, .int 0, .int (nI 0)] [] (am_S f g) _
      refine lp_m_clash_20 a0_n a1 f g hmk hlC hlN hrC hrN hl0 hl5 hl2 ha0_n _ ((f 89 202).toNatClampNeg) 0 0  (by omega) ?_
      rw [show am_forO (st_m_clash_20 a0_n a1 f) ((f 89 202).toNatClampNeg) 0 0 = (lf_m_clash_20 a0_n a1 f) from rfl, hz20]
      rcases z20 with z20 | z
      · intro wc20
        show am_F _ _ 63 [.ref 88, .int (nI a0_n), .int a1, .int z20, wc20] [] (am_S f g) _
        (try simp only [Sum.elim_inl] at hK)
        refine am_F.ops (pc' := 64) (L' := [.ref 88, .int (nI a0_n), .int a1, .int z20, wc20]) (S' := [.int a1]) (μ' := (am_S f g)) 1 rfl ?_
        refine am_F.to (am_To.ite (pc' := 73) (L2 := [.ref 88, .int (nI a0_n), .int a1, .int z20, wc20]) (S2 := []) (μ2 := (am_S f g)) (a := (-2)) (b := z20) 1 rfl (fun c7 => ?_) (fun c7 => ?_)) ?_
        · intro res9 g9
          show am_F _ _ 71 [.ref 88, .int (nI a0_n), .int a1, .int z20, wc20] [] (am_S f g) _
          refine am_F.ops (pc' := 73) (L' := [.ref 88, .int (nI a0_n), .int a1, .int z20, wc20]) (S' := [.int (-2)]) (μ' := (am_S f g)) 1 rfl ?_
          exact g9
        · intro res9 g9
          show am_F _ _ 67 [.ref 88, .int (nI a0_n), .int a1, .int z20, wc20] [] (am_S f g) _
          refine am_F.ops (pc' := 73) (L' := [.ref 88, .int (nI a0_n), .int a1, .int z20, wc20]) (S' := [.int z20]) (μ' := (am_S f g)) 2 rfl ?_
          exact g9
        show am_F _ _ 73 [.ref 88, .int (nI a0_n), .int a1, .int z20, wc20] [.int (if 0 ≤ a1 then (-2) else z20)] (am_S f g) _
        subst hKd
        have hQ := am_KO_s hK
        exact am_F.eq (am_F.ret rfl rfl) hQ
      · subst hKd
        exact hK
    · show am_F _ _ 13 [.ref 88, .int (nI a0_n), .int a1, am_un, am_un] [] (am_S f g) _
      refine am_F.ops (pc' := 14) (L' := [.ref 88, .int (nI a0_n), .int a1, am_un, am_un]) (S' := [.int (-1)]) (μ' := (am_S f g)) 1 rfl ?_
      subst hKd
      have hQ := am_KO_s hK
      exact am_F.eq (am_F.ret rfl rfl) hQ
  · show am_F _ _ 13 [.ref 88, .int a0, .int a1, am_un, am_un] [] (am_S f g) _
    refine am_F.ops (pc' := 14) (L' := [.ref 88, .int a0, .int a1, am_un, am_un]) (S' := [.int (-1)]) (μ' := (am_S f g)) 1 rfl ?_
    subst hKd
    have hQ := am_KO_s hK
    exact am_F.eq (am_F.ret rfl rfl) hQ
/-- AccessLatticeModel.decides, with checks -/
noncomputable def st_m_decides_36 (a0_n : Nat) (a1_n : Nat) (f : Nat → Nat → Int32) (y5 : (Nat → Int32) × (Nat → Int32) × (Nat → Int32)) : Nat → Int32 × (Nat → Int32) × (Nat → Int32) → Option (Int32 × (Nat → Int32) × (Nat → Int32) ⊕ (Int32 × (Nat → Int32) × (Nat → Int32) ⊕ Empty)) := fun i36 z => match z with
  | (a36_4, r36_88, r36_89) => (am_chk (am_mOK r36_89) (am_ob (fn_m_answer ((nI i36) / 128) (((nI i36) / 16) - ((nI i36) / 16) / 8 * 8) ((nI i36) - (nI i36) / 16 * 16) (am_row (am_row (am_row (am_row (am_row f 88 r36_88) 89 r36_89) 93 y5.1) 94 y5.2.1) 96 y5.2.2)) (fun (y17 : Int32 × (Nat → Int32)) => (if (y17.2 24) = (nI a0_n) then (if (nI a1_n) = 0 then (some (.inl (a36_4 + 1, y17.2, r36_89))) else (am_chk (am_mOK (upd r36_89 ((490 + (9 * a0_n)) + 0) 2)) (am_ob (fn_m_answer ((nI i36) / 128) (((nI i36) / 16) - ((nI i36) / 16) / 8 * 8) ((nI i36) - (nI i36) / 16 * 16) (am_row (am_row (am_row (am_row (am_row f 88 y17.2) 89 (upd r36_89 ((490 + (9 * a0_n)) + 0) 2)) 93 y5.1) 94 y5.2.1) 96 y5.2.2)) (fun (y24 : Int32 × (Nat → Int32)) => (some (.inl (a36_4 + (am_b (if y24.1 = y17.1 then false else true)), y24.2, upd (upd r36_89 ((490 + (9 * a0_n)) + 0) 2) ((490 + (9 * a0_n)) + 0) (fn_m_ruleAt a0_n 0 (am_row (am_row (am_row f 93 y5.1) 94 y5.2.1) 96 y5.2.2))))))))) else (some (.inl (a36_4, y17.2, r36_89)))))))
noncomputable def lf_m_decides_36 (a0_n : Nat) (a1_n : Nat) (f : Nat → Nat → Int32) (y5 : (Nat → Int32) × (Nat → Int32) × (Nat → Int32)) : Option (Int32 × (Nat → Int32) × (Nat → Int32) ⊕ Empty) := am_forO (st_m_decides_36 a0_n a1_n f y5) 2048 0 (0, f 88, f 89)
noncomputable def fn_m_decides (a0 : Int32) (a1 : Int32) (f : Nat → Nat → Int32) : Option (Int32 × (Nat → Int32) × (Nat → Int32) × (Nat → Int32) × (Nat → Int32) × (Nat → Int32)) := (bif (fn_m_isRule a0 f) then (bif (fn_m_isIn a1 0 1) then (am_ob (lf_m_decides_36 (a0.toNatClampNeg) (a1.toNatClampNeg) f (fn_m_holders_154 f)) (fun zz => Sum.elim (fun (z36 : Int32 × (Nat → Int32) × (Nat → Int32)) => (some (z36.1, z36.2.1, z36.2.2, (fn_m_holders_154 f).1, (fn_m_holders_154 f).2.1, (fn_m_holders_154 f).2.2))) (fun (z : Empty) => z.elim) zz)) else (some ((-1), f 88, f 89, f 93, f 94, f 96))) else (some ((-1), f 88, f 89, f 93, f 94, f 96)))
theorem lp_m_decides_36 (a0_n : Nat) (a1_n : Nat) (f : Nat → Nat → Int32) (g : Nat → Nat → Int64) (y5 : (Nat → Int32) × (Nat → Int32) × (Nat → Int32)) (hmk : am_mOK (f 89)) (hlC : f 89 201 = nI (f 89 201).toNatClampNeg) (hlN : (f 89 201).toNatClampNeg ≤ 40) (hrC : f 89 202 = nI (f 89 202).toNatClampNeg) (hrN : (f 89 202).toNatClampNeg ≤ 30) (hl0 : ∀ i, i < (f 89 201).toNatClampNeg → am_inb (fn_m_loanAt i 0 f) 16 = true) (hl5 : ∀ i, i < (f 89 201).toNatClampNeg → ¬ fn_m_loanAt i 5 f < 0 → am_inb (fn_m_loanAt i 5 f) 40 = true) (hl2 : ∀ i, i < (f 89 201).toNatClampNeg → am_inb (fn_m_loanAt i 2 f) 20 = true) (ha0_n : a0_n < (f 89 202).toNatClampNeg) (ha1_n : a1_n < 2) (res : Option Value × am_M) : ∀ (n i36 : Nat) (a36_4 : Int32) (r36_88 : Nat → Int32) (r36_89 : Nat → Int32) (w36_6 : Value) (w36_7 : Value), i36 + n = 2048 → am_KO (am_KX (fun (z : Int32 × (Nat → Int32) × (Nat → Int32)) => ∀ (wc36 : Value) (w36_6 : Value) (w36_7 : Value), am_F 84 am_k_242 166 [.ref 88, .int (nI a0_n), .int (nI a1_n), .int (fn_m_ruleAt a0_n 0 (am_row (am_row (am_row f 93 y5.1) 94 y5.2.1) 96 y5.2.2)), .int z.1, wc36, w36_6, w36_7] [] (am_S (am_row (am_row (am_row (am_row (am_row f 88 z.2.1) 89 z.2.2) 93 y5.1) 94 y5.2.1) 96 y5.2.2) g) res) (fun (z : Empty) => True)) (am_forO (st_m_decides_36 a0_n a1_n f y5) n i36 (a36_4, r36_88, r36_89)) → am_F 84 am_k_242 36 [.ref 88, .int (nI a0_n), .int (nI a1_n), .int (fn_m_ruleAt a0_n 0 (am_row (am_row (am_row f 93 y5.1) 94 y5.2.1) 96 y5.2.2)), .int a36_4, .int (nI i36), w36_6, w36_7] [] (am_S (am_row (am_row (am_row (am_row (am_row f 88 r36_88) 89 r36_89) 93 y5.1) 94 y5.2.1) 96 y5.2.2) g) res := by
  intro n
  induction n with
  | zero =>
    intro i36 a36_4 r36_88 r36_89 w36_6 w36_7 hi hK
    refine am_F.pos 3 rfl (by show 2048 ≤ nI i36; rw [show (2048 : Int32) = nI 2048 from rfl]; exact nI_le (by omega) (by omega)) ?_
    exact hK _ _ _
  | succ n ih =>
    intro i36 a36_4 r36_88 r36_89 w36_6 w36_7 hi hK
    refine am_F.neg 3 rfl (by show ¬ 2048 ≤ nI i36; rw [show (2048 : Int32) = nI 2048 from rfl]; exact nI_ge (by omega) (by omega)) ?_
    have hb36 : i36 < 2048 := by omega
    show am_F _ _ 44 [.ref 88, .int (nI a0_n), .int (nI a1_n), .int (fn_m_ruleAt a0_n 0 (am_row (am_row (am_row f 93 y5.1) 94 y5.2.1) 96 y5.2.2)), .int a36_4, .int (nI i36), w36_6, w36_7] [] (am_S (am_row (am_row (am_row (am_row (am_row f 88 r36_88) 89 r36_89) 93 y5.1) 94 y5.2.1) 96 y5.2.2) g) _
    obtain ⟨K, hKd⟩ : ∃ K : Option (Int32 × (Nat → Int32) × (Nat → Int32) ⊕ (Int32 × (Nat → Int32) × (Nat → Int32) ⊕ Empty)) → Prop, K = fun s => am_KO (am_KX (fun (z : Int32 × (Nat → Int32) × (Nat → Int32)) => ∀ (wc36 : Value) (w36_6 : Value) (w36_7 : Value), am_F 84 am_k_242 166 [.ref 88, .int (nI a0_n), .int (nI a1_n), .int (fn_m_ruleAt a0_n 0 (am_row (am_row (am_row f 93 y5.1) 94 y5.2.1) 96 y5.2.2)), .int z.1, wc36, w36_6, w36_7] [] (am_S (am_row (am_row (am_row (am_row (am_row f 88 z.2.1) 89 z.2.2) 93 y5.1) 94 y5.2.1) 96 y5.2.2) g) res) (fun (z : Empty) => True)) (am_whn (fun z => am_forO (st_m_decides_36 a0_n a1_n f y5) n (i36 + 1) z) s) := ⟨_, rfl⟩
    have hK : K ((st_m_decides_36 a0_n a1_n f y5) i36 (a36_4, r36_88, r36_89)) := by rw [am_forO_s] at hK; rw [hKd]; with_reducible exact hK
    have hKn : ¬ K none := by rw [hKd]; exact id
    unfold st_m_decides_36 at hK
    simp only at hK
    refine am_F.ops (pc' := 68) (L' := [.ref 88, .int (nI a0_n), .int (nI a1_n), .int (fn_m_ruleAt a0_n 0 (am_row (am_row (am_row f 93 y5.1) 94 y5.2.1) 96 y5.2.2)), .int a36_4, .int (nI i36), .int ((nI i36) / 128), w36_7]) (S' := [.int ((nI i36) - (nI i36) / 16 * 16), .int (((nI i36) / 16) - ((nI i36) / 16) / 8 * 8), .int ((nI i36) / 128), .ref 88]) (μ' := (am_S (am_row (am_row (am_row (am_row (am_row f 88 r36_88) 89 r36_89) 93 y5.1) 94 y5.2.1) 96 y5.2.2) g)) 14 rfl ?_
    obtain ⟨q16, hK⟩ := am_chk_e hKn hK
    obtain ⟨y17, hy17, hK⟩ := am_ob_e hKn hK
    refine am_F.call rfl rfl (x_m_answer ((nI i36) / 128) (((nI i36) / 16) - ((nI i36) / 16) / 8 * 8) ((nI i36) - (nI i36) / 16 * 16) (am_row (am_row (am_row (am_row (am_row f 88 r36_88) 89 r36_89) 93 y5.1) 94 y5.2.1) 96 y5.2.2) g q16 y17 hy17) (by first | decide | omega) ?_
    refine am_F.mem (F' := (am_row (am_row (am_row (am_row (am_row f 88 y17.2) 89 r36_89) 93 y5.1) 94 y5.2.1) 96 y5.2.2)) (G' := g) ?_ (by first | rfl | (funext a; by_cases z0 : a = 88; (subst z0; rfl); by_cases z1 : a = 89; (subst z1; rfl); by_cases z2 : a = 93; (subst z2; rfl); by_cases z3 : a = 94; (subst z3; rfl); by_cases z4 : a = 96; (subst z4; rfl); simp only [am_ui, am_ul, am_row_ne z0, am_row_ne z1, am_row_ne z2, am_row_ne z3, am_row_ne z4])) (by first | rfl | (funext a; by_cases z0 : a = 88; (subst z0; rfl); by_cases z1 : a = 89; (subst z1; rfl); by_cases z2 : a = 93; (subst z2; rfl); by_cases z3 : a = 94; (subst z3; rfl); by_cases z4 : a = 96; (subst z4; rfl); simp only [am_ui, am_ul, am_row_ne z0, am_row_ne z1, am_row_ne z2, am_row_ne z3, am_row_ne z4]))
    show am_F _ _ 71 [.ref 88, .int (nI a0_n), .int (nI a1_n), .int (fn_m_ruleAt a0_n 0 (am_row (am_row (am_row f 93 y5.1) 94 y5.2.1) 96 y5.2.2)), .int a36_4, .int (nI i36), .int ((nI i36) / 128), w36_7] [.int y17.1] (am_S (am_row (am_row (am_row (am_row (am_row f 88 y17.2) 89 r36_89) 93 y5.1) 94 y5.2.1) 96 y5.2.2) g) _
    refine am_F.ops (pc' := 78) (L' := [.ref 88, .int (nI a0_n), .int (nI a1_n), .int (fn_m_ruleAt a0_n 0 (am_row (am_row (am_row f 93 y5.1) 94 y5.2.1) 96 y5.2.2)), .int a36_4, .int (nI i36), .int ((nI i36) / 128), .int y17.1]) (S' := [.int (nI a0_n), .int (y17.2 24)]) (μ' := (am_S (am_row (am_row (am_row (am_row (am_row f 88 y17.2) 89 r36_89) 93 y5.1) 94 y5.2.1) 96 y5.2.2) g)) 4 rfl ?_
    refine am_F.iteK 1 rfl K hK (fun c20 hK => ?_) (fun c20 hK => ?_)
    · show am_F _ _ 84 [.ref 88, .int (nI a0_n), .int (nI a1_n), .int (fn_m_ruleAt a0_n 0 (am_row (am_row (am_row f 93 y5.1) 94 y5.2.1) 96 y5.2.2)), .int a36_4, .int (nI i36), .int ((nI i36) / 128), .int y17.1] [] (am_S (am_row (am_row (am_row (am_row (am_row f 88 y17.2) 89 r36_89) 93 y5.1) 94 y5.2.1) 96 y5.2.2) g) _
      refine am_F.ops (pc' := 85) (L' := [.ref 88, .int (nI a0_n), .int (nI a1_n), .int (fn_m_ruleAt a0_n 0 (am_row (am_row (am_row f 93 y5.1) 94 y5.2.1) 96 y5.2.2)), .int a36_4, .int (nI i36), .int ((nI i36) / 128), .int y17.1]) (S' := [.int (nI a1_n)]) (μ' := (am_S (am_row (am_row (am_row (am_row (am_row f 88 y17.2) 89 r36_89) 93 y5.1) 94 y5.2.1) 96 y5.2.2) g)) 1 rfl ?_
      refine am_F.iteK 1 rfl K hK (fun c22 hK => ?_) (fun c22 hK => ?_)
      · show am_F _ _ 88 [.ref 88, .int (nI a0_n), .int (nI a1_n), .int (fn_m_ruleAt a0_n 0 (am_row (am_row (am_row f 93 y5.1) 94 y5.2.1) 96 y5.2.2)), .int a36_4, .int (nI i36), .int ((nI i36) / 128), .int y17.1] [] (am_S (am_row (am_row (am_row (am_row (am_row f 88 y17.2) 89 r36_89) 93 y5.1) 94 y5.2.1) 96 y5.2.2) g) _
        refine am_F.ops (pc' := 36) (L' := [.ref 88, .int (nI a0_n), .int (nI a1_n), .int (fn_m_ruleAt a0_n 0 (am_row (am_row (am_row f 93 y5.1) 94 y5.2.1) 96 y5.2.2)), .int (a36_4 + 1), .int ((nI i36) + 1), .int ((nI i36) / 128), .int y17.1]) (S' := []) (μ' := (am_S (am_row (am_row (am_row (am_row (am_row f 88 y17.2) 89 r36_89) 93 y5.1) 94 y5.2.1) 96 y5.2.2) g)) 4 rfl ?_
        rw [nI_1 i36]
        subst hKd
        exact ih (i36 + 1) (a36_4 + 1) y17.2 r36_89 (.int ((nI i36) / 128)) (.int y17.1) (by omega) hK
      · show am_F _ _ 94 [.ref 88, .int (nI a0_n), .int (nI a1_n), .int (fn_m_ruleAt a0_n 0 (am_row (am_row (am_row f 93 y5.1) 94 y5.2.1) 96 y5.2.2)), .int a36_4, .int (nI i36), .int ((nI i36) / 128), .int y17.1] [] (am_S (am_row (am_row (am_row (am_row (am_row f 88 y17.2) 89 r36_89) 93 y5.1) 94 y5.2.1) 96 y5.2.2) g) _
        refine am_F.ops (pc' := 109) (L' := [.ref 88, .int (nI a0_n), .int (nI a1_n), .int (fn_m_ruleAt a0_n 0 (am_row (am_row (am_row f 93 y5.1) 94 y5.2.1) 96 y5.2.2)), .int a36_4, .int (nI i36), .int ((nI i36) / 128), .int y17.1]) (S' := [.int 2, .int ((490 + (9 * (nI a0_n))) + 0), .ref 89]) (μ' := (am_S (am_row (am_row (am_row (am_row (am_row f 88 y17.2) 89 r36_89) 93 y5.1) 94 y5.2.1) 96 y5.2.2) g)) 10 rfl ?_
        refine am_F.iasE (F' := (am_row (am_row (am_row (am_row (am_row f 88 y17.2) 89 (upd r36_89 ((490 + (9 * a0_n)) + 0) 2)) 93 y5.1) 94 y5.2.1) 96 y5.2.2)) (m := ((490 + (9 * a0_n)) + 0)) (N := 3340) rfl rfl rfl (am_addE (am_addE rfl (am_mulE rfl rfl)) rfl) (by omega) (by decide) (by first | rfl | (funext a; by_cases z0 : a = 88; (subst z0; rfl); by_cases z1 : a = 89; (subst z1; rfl); by_cases z2 : a = 93; (subst z2; rfl); by_cases z3 : a = 94; (subst z3; rfl); by_cases z4 : a = 96; (subst z4; rfl); simp only [am_ui, am_ul, am_row_ne z0, am_row_ne z1, am_row_ne z2, am_row_ne z3, am_row_ne z4])) ?_
        refine am_F.ops (pc' := 128) (L' := [.ref 88, .int (nI a0_n), .int (nI a1_n), .int (fn_m_ruleAt a0_n 0 (am_row (am_row (am_row f 93 y5.1) 94 y5.2.1) 96 y5.2.2)), .int a36_4, .int (nI i36), .int ((nI i36) / 128), .int y17.1]) (S' := [.int ((nI i36) - (nI i36) / 16 * 16), .int (((nI i36) / 16) - ((nI i36) / 16) / 8 * 8), .int ((nI i36) / 128), .ref 88, .int a36_4]) (μ' := (am_S (am_row (am_row (am_row (am_row (am_row f 88 y17.2) 89 (upd r36_89 ((490 + (9 * a0_n)) + 0) 2)) 93 y5.1) 94 y5.2.1) 96 y5.2.2) g)) 11 rfl ?_
        obtain ⟨q23, hK⟩ := am_chk_e hKn hK
        obtain ⟨y24, hy24, hK⟩ := am_ob_e hKn hK
        refine am_F.call rfl rfl (x_m_answer ((nI i36) / 128) (((nI i36) / 16) - ((nI i36) / 16) / 8 * 8) ((nI i36) - (nI i36) / 16 * 16) (am_row (am_row (am_row (am_row (am_row f 88 y17.2) 89 (upd r36_89 ((490 + (9 * a0_n)) + 0) 2)) 93 y5.1) 94 y5.2.1) 96 y5.2.2) g q23 y24 hy24) (by first | decide | omega) ?_
        refine am_F.mem (F' := (am_row (am_row (am_row (am_row (am_row f 88 y24.2) 89 (upd r36_89 ((490 + (9 * a0_n)) + 0) 2)) 93 y5.1) 94 y5.2.1) 96 y5.2.2)) (G' := g) ?_ (by first | rfl | (funext a; by_cases z0 : a = 88; (subst z0; rfl); by_cases z1 : a = 89; (subst z1; rfl); by_cases z2 : a = 93; (subst z2; rfl); by_cases z3 : a = 94; (subst z3; rfl); by_cases z4 : a = 96; (subst z4; rfl); simp only [am_ui, am_ul, am_row_ne z0, am_row_ne z1, am_row_ne z2, am_row_ne z3, am_row_ne z4])) (by first | rfl | (funext a; by_cases z0 : a = 88; (subst z0; rfl); by_cases z1 : a = 89; (subst z1; rfl); by_cases z2 : a = 93; (subst z2; rfl); by_cases z3 : a = 94; (subst z3; rfl); by_cases z4 : a = 96; (subst z4; rfl); simp only [am_ui, am_ul, am_row_ne z0, am_row_ne z1, am_row_ne z2, am_row_ne z3, am_row_ne z4]))
        show am_F _ _ 131 [.ref 88, .int (nI a0_n), .int (nI a1_n), .int (fn_m_ruleAt a0_n 0 (am_row (am_row (am_row f 93 y5.1) 94 y5.2.1) 96 y5.2.2)), .int a36_4, .int (nI i36), .int ((nI i36) / 128), .int y17.1] [.int y24.1, .int a36_4] (am_S (am_row (am_row (am_row (am_row (am_row f 88 y24.2) 89 (upd r36_89 ((490 + (9 * a0_n)) + 0) 2)) 93 y5.1) 94 y5.2.1) 96 y5.2.2) g) _
        refine am_F.ops (pc' := 133) (L' := [.ref 88, .int (nI a0_n), .int (nI a1_n), .int (fn_m_ruleAt a0_n 0 (am_row (am_row (am_row f 93 y5.1) 94 y5.2.1) 96 y5.2.2)), .int a36_4, .int (nI i36), .int ((nI i36) / 128), .int y17.1]) (S' := [.int y17.1, .int y24.1, .int a36_4]) (μ' := (am_S (am_row (am_row (am_row (am_row (am_row f 88 y24.2) 89 (upd r36_89 ((490 + (9 * a0_n)) + 0) 2)) 93 y5.1) 94 y5.2.1) 96 y5.2.2) g)) 1 rfl ?_
        refine am_F.to (am_To.iteB (pc' := 141) (L2 := [.ref 88, .int (nI a0_n), .int (nI a1_n), .int (fn_m_ruleAt a0_n 0 (am_row (am_row (am_row f 93 y5.1) 94 y5.2.1) 96 y5.2.2)), .int a36_4, .int (nI i36), .int ((nI i36) / 128), .int y17.1]) (S2 := [.int a36_4]) (μ2 := (am_S (am_row (am_row (am_row (am_row (am_row f 88 y24.2) 89 (upd r36_89 ((490 + (9 * a0_n)) + 0) 2)) 93 y5.1) 94 y5.2.1) 96 y5.2.2) g)) (a := false) (b := true) 1 rfl (fun c25 => ?_) (fun c25 => ?_)) ?_
        · intro res9 g9
          show am_F _ _ 140 [.ref 88, .int (nI a0_n), .int (nI a1_n), .int (fn_m_ruleAt a0_n 0 (am_row (am_row (am_row f 93 y5.1) 94 y5.2.1) 96 y5.2.2)), .int a36_4, .int (nI i36), .int ((nI i36) / 128), .int y17.1] [.int a36_4] (am_S (am_row (am_row (am_row (am_row (am_row f 88 y24.2) 89 (upd r36_89 ((490 + (9 * a0_n)) + 0) 2)) 93 y5.1) 94 y5.2.1) 96 y5.2.2) g) _
          refine am_F.ops (pc' := 141) (L' := [.ref 88, .int (nI a0_n), .int (nI a1_n), .int (fn_m_ruleAt a0_n 0 (am_row (am_row (am_row f 93 y5.1) 94 y5.2.1) 96 y5.2.2)), .int a36_4, .int (nI i36), .int ((nI i36) / 128), .int y17.1]) (S' := [.int 0, .int a36_4]) (μ' := (am_S (am_row (am_row (am_row (am_row (am_row f 88 y24.2) 89 (upd r36_89 ((490 + (9 * a0_n)) + 0) 2)) 93 y5.1) 94 y5.2.1) 96 y5.2.2) g)) 1 rfl ?_
          exact g9
        · intro res9 g9
          show am_F _ _ 136 [.ref 88, .int (nI a0_n), .int (nI a1_n), .int (fn_m_ruleAt a0_n 0 (am_row (am_row (am_row f 93 y5.1) 94 y5.2.1) 96 y5.2.2)), .int a36_4, .int (nI i36), .int ((nI i36) / 128), .int y17.1] [.int a36_4] (am_S (am_row (am_row (am_row (am_row (am_row f 88 y24.2) 89 (upd r36_89 ((490 + (9 * a0_n)) + 0) 2)) 93 y5.1) 94 y5.2.1) 96 y5.2.2) g) _
          refine am_F.ops (pc' := 141) (L' := [.ref 88, .int (nI a0_n), .int (nI a1_n), .int (fn_m_ruleAt a0_n 0 (am_row (am_row (am_row f 93 y5.1) 94 y5.2.1) 96 y5.2.2)), .int a36_4, .int (nI i36), .int ((nI i36) / 128), .int y17.1]) (S' := [.int 1, .int a36_4]) (μ' := (am_S (am_row (am_row (am_row (am_row (am_row f 88 y24.2) 89 (upd r36_89 ((490 + (9 * a0_n)) + 0) 2)) 93 y5.1) 94 y5.2.1) 96 y5.2.2) g)) 2 rfl ?_
          exact g9
        show am_F _ _ 141 [.ref 88, .int (nI a0_n), .int (nI a1_n), .int (fn_m_ruleAt a0_n 0 (am_row (am_row (am_row f 93 y5.1) 94 y5.2.1) 96 y5.2.2)), .int a36_4, .int (nI i36), .int ((nI i36) / 128), .int y17.1] [.int (am_b (if y24.1 = y17.1 then false else true)), .int a36_4] (am_S (am_row (am_row (am_row (am_row (am_row f 88 y24.2) 89 (upd r36_89 ((490 + (9 * a0_n)) + 0) 2)) 93 y5.1) 94 y5.2.1) 96 y5.2.2) g) _
        refine am_F.ops (pc' := 159) (L' := [.ref 88, .int (nI a0_n), .int (nI a1_n), .int (fn_m_ruleAt a0_n 0 (am_row (am_row (am_row f 93 y5.1) 94 y5.2.1) 96 y5.2.2)), .int (a36_4 + (am_b (if y24.1 = y17.1 then false else true))), .int (nI i36), .int ((nI i36) / 128), .int y17.1]) (S' := [.int (fn_m_ruleAt a0_n 0 (am_row (am_row (am_row f 93 y5.1) 94 y5.2.1) 96 y5.2.2)), .int ((490 + (9 * (nI a0_n))) + 0), .ref 89]) (μ' := (am_S (am_row (am_row (am_row (am_row (am_row f 88 y24.2) 89 (upd r36_89 ((490 + (9 * a0_n)) + 0) 2)) 93 y5.1) 94 y5.2.1) 96 y5.2.2) g)) 12 rfl ?_
        refine am_F.iasE (F' := (am_row (am_row (am_row (am_row (am_row f 88 y24.2) 89 (upd (upd r36_89 ((490 + (9 * a0_n)) + 0) 2) ((490 + (9 * a0_n)) + 0) (fn_m_ruleAt a0_n 0 (am_row (am_row (am_row f 93 y5.1) 94 y5.2.1) 96 y5.2.2)))) 93 y5.1) 94 y5.2.1) 96 y5.2.2)) (m := ((490 + (9 * a0_n)) + 0)) (N := 3340) rfl rfl rfl (am_addE (am_addE rfl (am_mulE rfl rfl)) rfl) (by omega) (by decide) (by first | rfl | (funext a; by_cases z0 : a = 88; (subst z0; rfl); by_cases z1 : a = 89; (subst z1; rfl); by_cases z2 : a = 93; (subst z2; rfl); by_cases z3 : a = 94; (subst z3; rfl); by_cases z4 : a = 96; (subst z4; rfl); simp only [am_ui, am_ul, am_row_ne z0, am_row_ne z1, am_row_ne z2, am_row_ne z3, am_row_ne z4])) ?_
        refine am_F.ops (pc' := 36) (L' := [.ref 88, .int (nI a0_n), .int (nI a1_n), .int (fn_m_ruleAt a0_n 0 (am_row (am_row (am_row f 93 y5.1) 94 y5.2.1) 96 y5.2.2)), .int (a36_4 + (am_b (if y24.1 = y17.1 then false else true))), .int ((nI i36) + 1), .int ((nI i36) / 128), .int y17.1]) (S' := []) (μ' := (am_S (am_row (am_row (am_row (am_row (am_row f 88 y24.2) 89 (upd (upd r36_89 ((490 + (9 * a0_n)) + 0) 2) ((490 + (9 * a0_n)) + 0) (fn_m_ruleAt a0_n 0 (am_row (am_row (am_row f 93 y5.1) 94 y5.2.1) 96 y5.2.2)))) 93 y5.1) 94 y5.2.1) 96 y5.2.2) g)) 2 rfl ?_
        rw [nI_1 i36]
        subst hKd
        exact ih (i36 + 1) (a36_4 + (am_b (if y24.1 = y17.1 then false else true))) y24.2 (upd (upd r36_89 ((490 + (9 * a0_n)) + 0) 2) ((490 + (9 * a0_n)) + 0) (fn_m_ruleAt a0_n 0 (am_row (am_row (am_row f 93 y5.1) 94 y5.2.1) 96 y5.2.2))) (.int ((nI i36) / 128)) (.int y17.1) (by omega) hK
    · show am_F _ _ 81 [.ref 88, .int (nI a0_n), .int (nI a1_n), .int (fn_m_ruleAt a0_n 0 (am_row (am_row (am_row f 93 y5.1) 94 y5.2.1) 96 y5.2.2)), .int a36_4, .int (nI i36), .int ((nI i36) / 128), .int y17.1] [] (am_S (am_row (am_row (am_row (am_row (am_row f 88 y17.2) 89 r36_89) 93 y5.1) 94 y5.2.1) 96 y5.2.2) g) _
      refine am_F.ops (pc' := 36) (L' := [.ref 88, .int (nI a0_n), .int (nI a1_n), .int (fn_m_ruleAt a0_n 0 (am_row (am_row (am_row f 93 y5.1) 94 y5.2.1) 96 y5.2.2)), .int a36_4, .int ((nI i36) + 1), .int ((nI i36) / 128), .int y17.1]) (S' := []) (μ' := (am_S (am_row (am_row (am_row (am_row (am_row f 88 y17.2) 89 r36_89) 93 y5.1) 94 y5.2.1) 96 y5.2.2) g)) 3 rfl ?_
      rw [nI_1 i36]
      subst hKd
      exact ih (i36 + 1) a36_4 y17.2 r36_89 (.int ((nI i36) / 128)) (.int y17.1) (by omega) hK
theorem x_m_decides (a0 : Int32) (a1 : Int32) (f : Nat → Nat → Int32) (g : Nat → Nat → Int64) (hmk : am_mOK (f 89)) (z0 : Int32 × (Nat → Int32) × (Nat → Int32) × (Nat → Int32) × (Nat → Int32) × (Nat → Int32)) (hz0 : (fn_m_decides a0 a1 f) = some z0) : am_D 84 242 8 [.ref 88, .int a0, .int a1] (am_S f g) (some (Value.int z0.1), am_S (am_row (am_row (am_row (am_row (am_row f 88 z0.2.1) 89 z0.2.2.1) 93 z0.2.2.2.1) 94 z0.2.2.2.2.1) 96 z0.2.2.2.2.2) g) := by
  obtain ⟨hlC, hlN, hrC, hrN, hl0, hl5, hl2⟩ := am_mOK_e hmk
  refine am_D.of (code := am_k_242) rfl (L0 := [.ref 88, .int a0, .int a1, am_un, am_un, am_un, am_un, am_un]) rfl ?_
  generalize hres : (some (Value.int z0.1), am_S (am_row (am_row (am_row (am_row (am_row f 88 z0.2.1) 89 z0.2.2.1) 93 z0.2.2.2.1) 94 z0.2.2.2.2.1) 96 z0.2.2.2.2.2) g) = res
  obtain ⟨K, hKd⟩ : ∃ K : Option (Int32 × (Nat → Int32) × (Nat → Int32) × (Nat → Int32) × (Nat → Int32) × (Nat → Int32)) → Prop, K = am_KO (fun z => (some (Value.int z.1), am_S (am_row (am_row (am_row (am_row (am_row f 88 z.2.1) 89 z.2.2.1) 93 z.2.2.2.1) 94 z.2.2.2.2.1) 96 z.2.2.2.2.2) g) = res) := ⟨_, rfl⟩
  have hK : K (fn_m_decides a0 a1 f) := by rw [hKd, hz0]; exact hres
  have hKn : ¬ K none := by rw [hKd]; exact id
  clear hres hz0
  unfold fn_m_decides at hK
  refine am_F.ops (pc' := 2) (L' := [.ref 88, .int a0, .int a1, am_un, am_un, am_un, am_un, am_un]) (S' := [.int a0, .ref 88]) (μ' := (am_S f g)) 2 rfl ?_
  refine am_F.call rfl rfl (x_m_isRule a0 f g hrC hrN) (by first | decide | omega) ?_
  show am_F _ _ 5 [.ref 88, .int a0, .int a1, am_un, am_un, am_un, am_un, am_un] [.int (am_b (fn_m_isRule a0 f))] (am_S f g) _
  refine am_F.bifK 1 rfl K hK (fun c2 hK => ?_) (fun c2 hK => ?_)
  · obtain ⟨a0_n, ha0_n, ea0_n⟩ := am_mRuleN hrC (by omega) c2
    subst ea0_n
    try simp only [nI_clamp (show a0_n < 2147483648 by omega)] at hK
    show am_F _ _ 8 [.ref 88, .int (nI a0_n), .int a1, am_un, am_un, am_un, am_un, am_un] [] (am_S f g) _
    refine am_F.ops (pc' := 11) (L' := [.ref 88, .int (nI a0_n), .int a1, am_un, am_un, am_un, am_un, am_un]) (S' := [.int 1, .int 0, .int a1]) (μ' := (am_S f g)) 3 rfl ?_
    refine am_F.call rfl rfl (x_m_isIn a1 0 1 f g ) (by first | decide | omega) ?_
    show am_F _ _ 14 [.ref 88, .int (nI a0_n), .int a1, am_un, am_un, am_un, am_un, am_un] [.int (am_b (fn_m_isIn a1 0 1))] (am_S f g) _
    refine am_F.bifK 1 rfl K hK (fun c4 hK => ?_) (fun c4 hK => ?_)
    · obtain ⟨a1_n, ha1_n, ea1_n⟩ := am_mInN (N := 2) c4 (by decide)
      subst ea1_n
      try simp only [nI_clamp (show a1_n < 2147483648 by omega)] at hK
      show am_F _ _ 19 [.ref 88, .int (nI a0_n), .int (nI a1_n), am_un, am_un, am_un, am_un, am_un] [] (am_S f g) _
      refine am_F.ops (pc' := 20) (L' := [.ref 88, .int (nI a0_n), .int (nI a1_n), am_un, am_un, am_un, am_un, am_un]) (S' := [.ref 88]) (μ' := (am_S f g)) 1 rfl ?_
      obtain ⟨y5, hy5⟩ : ∃ z, (fn_m_holders_154 f) = z := ⟨_, rfl⟩
      (try rw [hy5] at hK)
      refine am_F.call rfl rfl (x_m_holders_154  f g hlC hlN hrC hrN hl0 hl5 hl2) (by first | decide | omega) ?_
      (try rw [hy5])
      refine am_F.mem (F' := (am_row (am_row (am_row f 93 y5.1) 94 y5.2.1) 96 y5.2.2)) (G' := g) ?_ (by first | rfl | (funext a; by_cases z0 : a = 93; (subst z0; rfl); by_cases z1 : a = 94; (subst z1; rfl); by_cases z2 : a = 96; (subst z2; rfl); simp only [am_ui, am_ul, am_row_ne z0, am_row_ne z1, am_row_ne z2])) (by first | rfl | (funext a; by_cases z0 : a = 93; (subst z0; rfl); by_cases z1 : a = 94; (subst z1; rfl); by_cases z2 : a = 96; (subst z2; rfl); simp only [am_ui, am_ul, am_row_ne z0, am_row_ne z1, am_row_ne z2]))
      show am_F _ _ 23 [.ref 88, .int (nI a0_n), .int (nI a1_n), am_un, am_un, am_un, am_un, am_un] [] (am_S (am_row (am_row (am_row f 93 y5.1) 94 y5.2.1) 96 y5.2.2) g) _
      refine am_F.ops (pc' := 26) (L' := [.ref 88, .int (nI a0_n), .int (nI a1_n), am_un, am_un, am_un, am_un, am_un]) (S' := [.int 0, .int (nI a0_n), .ref 88]) (μ' := (am_S (am_row (am_row (am_row f 93 y5.1) 94 y5.2.1) 96 y5.2.2) g)) 3 rfl ?_
      refine am_F.call rfl rfl (am_D.args (congrArg (fun (x9 : Int32) => ([.ref 88, .int (nI a0_n), .int x9] : List Value)) (show (0 : Int32) = nI 0 from rfl)) (x_m_ruleAt a0_n 0 (am_row (am_row (am_row f 93 y5.1) 94 y5.2.1) 96 y5.2.2) g (by omega) (by omega))) (by first | decide | omega) ?_
      show am_F _ _ 29 [.ref 88, .int (nI a0_n), .int (nI a1_n), am_un, am_un, am_un, am_un, am_un] [.int (fn_m_ruleAt a0_n 0 (am_row (am_row (am_row f 93 y5.1) 94 y5.2.1) 96 y5.2.2))] (am_S (am_row (am_row (am_row f 93 y5.1) 94 y5.2.1) 96 y5.2.2) g) _
      refine am_F.ops (pc' := 36) (L' := [.ref 88, .int (nI a0_n), .int (nI a1_n), .int (fn_m_ruleAt a0_n 0 (am_row (am_row (am_row f 93 y5.1) 94 y5.2.1) 96 y5.2.2)), .int 0, .int 0, am_un, am_un]) (S' := []) (μ' := (am_S (am_row (am_row (am_row f 93 y5.1) 94 y5.2.1) 96 y5.2.2) g)) 5 rfl ?_
      obtain ⟨z36, hz36, hK⟩ := am_ob_e hKn hK
      refine am_F.mem (F' := (am_row (am_row (am_row (am_row (am_row f 88 (f 88)) 89 (f 89)) 93 y5.1) 94 y5.2.1) 96 y5.2.2)) (G' := g) ?_ (by first | rfl | (funext a; by_cases z0 : a = 88; (subst z0; rfl); by_cases z1 : a = 89; (subst z1; rfl); by_cases z2 : a = 93; (subst z2; rfl); by_cases z3 : a = 94; (subst z3; rfl); by_cases z4 : a = 96; (subst z4; rfl); simp only [am_ui, am_ul, am_row_ne z0, am_row_ne z1, am_row_ne z2, am_row_ne z3, am_row_ne z4])) (by first | rfl | (funext a; by_cases z0 : a = 88; (subst z0; rfl); by_cases z1 : a = 89; (subst z1; rfl); by_cases z2 : a = 93; (subst z2; rfl); by_cases z3 : a = 94; (subst z3; rfl); by_cases z4 : a = 96; (subst z4; rfl); simp only [am_ui, am_ul, am_row_ne z0, am_row_ne z1, am_row_ne z2, am_row_ne z3, am_row_ne z4]))
      show am_F _ _ 36 [.ref 88, .int (nI a0_n), .int (nI a1_n), .int (fn_m_ruleAt a0_n 0 (am_row (am_row (am_row f 93 y5.1) 94 y5.2.1) 96 y5.2.2)), .int 0, .int (nI 0), am_un, am_un] [] (am_S (am_row (am_row (am_row (am_row (am_row f 88 (f 88)) 89 (f 89)) 93 y5.1) 94 y5.2.1) 96 y5.2.2) g) _
      refine lp_m_decides_36 a0_n a1_n f g y5 hmk hlC hlN hrC hrN hl0 hl5 hl2 ha0_n ha1_n _ 2048 0 0 (f 88) (f 89) am_un am_un (by omega) ?_
      rw [show am_forO (st_m_decides_36 a0_n a1_n f y5) 2048 0 (0, f 88, f 89) = (lf_m_decides_36 a0_n a1_n f y5) from rfl, hz36]
      rcases z36 with z36 | z
      · intro wc36 w36_6 w36_7
        show am_F _ _ 166 [.ref 88, .int (nI a0_n), .int (nI a1_n), .int (fn_m_ruleAt a0_n 0 (am_row (am_row (am_row f 93 y5.1) 94 y5.2.1) 96 y5.2.2)), .int z36.1, wc36, w36_6, w36_7] [] (am_S (am_row (am_row (am_row (am_row (am_row f 88 z36.2.1) 89 z36.2.2) 93 y5.1) 94 y5.2.1) 96 y5.2.2) g) _
        (try simp only [Sum.elim_inl] at hK)
        refine am_F.ops (pc' := 168) (L' := [.ref 88, .int (nI a0_n), .int (nI a1_n), .int (fn_m_ruleAt a0_n 0 (am_row (am_row (am_row f 93 y5.1) 94 y5.2.1) 96 y5.2.2)), .int z36.1, wc36, w36_6, w36_7]) (S' := [.int z36.1]) (μ' := (am_S (am_row (am_row (am_row (am_row (am_row f 88 z36.2.1) 89 z36.2.2) 93 y5.1) 94 y5.2.1) 96 y5.2.2) g)) 1 rfl ?_
        subst hKd
        have hQ := am_KO_s hK
        exact am_F.eq (am_F.ret rfl rfl) hQ
      · exact z.elim
    · show am_F _ _ 17 [.ref 88, .int (nI a0_n), .int a1, am_un, am_un, am_un, am_un, am_un] [] (am_S f g) _
      refine am_F.ops (pc' := 18) (L' := [.ref 88, .int (nI a0_n), .int a1, am_un, am_un, am_un, am_un, am_un]) (S' := [.int (-1)]) (μ' := (am_S f g)) 1 rfl ?_
      refine am_F.mem (F' := (am_row (am_row (am_row (am_row (am_row f 88 (f 88)) 89 (f 89)) 93 (f 93)) 94 (f 94)) 96 (f 96))) (G' := g) ?_ (by first | rfl | (funext a; by_cases z0 : a = 88; (subst z0; rfl); by_cases z1 : a = 89; (subst z1; rfl); by_cases z2 : a = 93; (subst z2; rfl); by_cases z3 : a = 94; (subst z3; rfl); by_cases z4 : a = 96; (subst z4; rfl); simp only [am_ui, am_ul, am_row_ne z0, am_row_ne z1, am_row_ne z2, am_row_ne z3, am_row_ne z4])) (by first | rfl | (funext a; by_cases z0 : a = 88; (subst z0; rfl); by_cases z1 : a = 89; (subst z1; rfl); by_cases z2 : a = 93; (subst z2; rfl); by_cases z3 : a = 94; (subst z3; rfl); by_cases z4 : a = 96; (subst z4; rfl); simp only [am_ui, am_ul, am_row_ne z0, am_row_ne z1, am_row_ne z2, am_row_ne z3, am_row_ne z4]))
      subst hKd
      have hQ := am_KO_s hK
      exact am_F.eq (am_F.ret rfl rfl) hQ
  · show am_F _ _ 17 [.ref 88, .int a0, .int a1, am_un, am_un, am_un, am_un, am_un] [] (am_S f g) _
    refine am_F.ops (pc' := 18) (L' := [.ref 88, .int a0, .int a1, am_un, am_un, am_un, am_un, am_un]) (S' := [.int (-1)]) (μ' := (am_S f g)) 1 rfl ?_
    refine am_F.mem (F' := (am_row (am_row (am_row (am_row (am_row f 88 (f 88)) 89 (f 89)) 93 (f 93)) 94 (f 94)) 96 (f 96))) (G' := g) ?_ (by first | rfl | (funext a; by_cases z0 : a = 88; (subst z0; rfl); by_cases z1 : a = 89; (subst z1; rfl); by_cases z2 : a = 93; (subst z2; rfl); by_cases z3 : a = 94; (subst z3; rfl); by_cases z4 : a = 96; (subst z4; rfl); simp only [am_ui, am_ul, am_row_ne z0, am_row_ne z1, am_row_ne z2, am_row_ne z3, am_row_ne z4])) (by first | rfl | (funext a; by_cases z0 : a = 88; (subst z0; rfl); by_cases z1 : a = 89; (subst z1; rfl); by_cases z2 : a = 93; (subst z2; rfl); by_cases z3 : a = 94; (subst z3; rfl); by_cases z4 : a = 96; (subst z4; rfl); simp only [am_ui, am_ul, am_row_ne z0, am_row_ne z1, am_row_ne z2, am_row_ne z3, am_row_ne z4]))
    subst hKd
    have hQ := am_KO_s hK
    exact am_F.eq (am_F.ret rfl rfl) hQ
/-- AccessLatticeModel.since, with checks -/
noncomputable def st_m_since_54 (f : Nat → Nat → Int32) (y4 : (Nat → Int32)) (y5 : (Nat → Int32)) (y6 : (Nat → Int32)) (y8 : (Nat → Int32) × (Nat → Int32) × (Nat → Int32)) : Nat → (Nat → Int32) × (Nat → Int32) → Option ((Nat → Int32) × (Nat → Int32) ⊕ ((Nat → Int32) × (Nat → Int32) ⊕ Empty)) := fun i54 z => match z with
  | (r54_88, r54_103) => (am_chk (am_mOK y5) (am_ob (fn_m_answer ((nI i54) / 128) (((nI i54) / 16) - ((nI i54) / 16) / 8 * 8) ((nI i54) - (nI i54) / 16 * 16) (am_row (am_row (am_row (am_row (am_row (am_row (am_row (am_row f 88 r54_88) 89 y5) 91 y4) 92 y6) 93 y8.1) 94 y8.2.1) 96 y8.2.2) 103 r54_103)) (fun (y12 : Int32 × (Nat → Int32)) => (some (.inl (y12.2, upd r54_103 i54 y12.1))))))
noncomputable def lf_m_since_54 (f : Nat → Nat → Int32) (y4 : (Nat → Int32)) (y5 : (Nat → Int32)) (y6 : (Nat → Int32)) (y8 : (Nat → Int32) × (Nat → Int32) × (Nat → Int32)) : Option ((Nat → Int32) × (Nat → Int32) ⊕ Empty) := am_forO (st_m_since_54 f y4 y5 y6 y8) 2048 0 (f 88, f 103)
noncomputable def st_m_since_118 (a0_n : Nat) (f : Nat → Nat → Int32) (y4 : (Nat → Int32)) (z54 : (Nat → Int32) × (Nat → Int32)) (y13 : (Nat → Int32)) (y14 : (Nat → Int32)) (y16 : (Nat → Int32) × (Nat → Int32) × (Nat → Int32)) : Nat → Int32 × (Nat → Int32) → Option (Int32 × (Nat → Int32) ⊕ (Int32 × (Nat → Int32) ⊕ Empty)) := fun i118 z => match z with
  | (a118_2, r118_88) => (if (nI a0_n) = 16 then (am_chk (am_mOK y13) (am_ob (fn_m_answer ((nI i118) / 128) (((nI i118) / 16) - ((nI i118) / 16) / 8 * 8) ((nI i118) - (nI i118) / 16 * 16) (am_row (am_row (am_row (am_row (am_row (am_row (am_row (am_row f 88 r118_88) 89 y13) 91 y4) 92 y14) 93 y16.1) 94 y16.2.1) 96 y16.2.2) 103 z54.2)) (fun (y32 : Int32 × (Nat → Int32)) => (some (.inl (a118_2 + (am_b (if (z54.2 i118) = y32.1 then false else true)), y32.2)))))) else (if (nI a0_n) = ((nI i118) / 128) then (am_chk (am_mOK y13) (am_ob (fn_m_answer ((nI i118) / 128) (((nI i118) / 16) - ((nI i118) / 16) / 8 * 8) ((nI i118) - (nI i118) / 16 * 16) (am_row (am_row (am_row (am_row (am_row (am_row (am_row (am_row f 88 r118_88) 89 y13) 91 y4) 92 y14) 93 y16.1) 94 y16.2.1) 96 y16.2.2) 103 z54.2)) (fun (y37 : Int32 × (Nat → Int32)) => (some (.inl (a118_2 + (am_b (if (z54.2 i118) = y37.1 then false else true)), y37.2)))))) else (some (.inl (a118_2 + 0, r118_88)))))
noncomputable def lf_m_since_118 (a0_n : Nat) (f : Nat → Nat → Int32) (y4 : (Nat → Int32)) (z54 : (Nat → Int32) × (Nat → Int32)) (y13 : (Nat → Int32)) (y14 : (Nat → Int32)) (y16 : (Nat → Int32) × (Nat → Int32) × (Nat → Int32)) : Option (Int32 × (Nat → Int32) ⊕ Empty) := am_forO (st_m_since_118 a0_n f y4 z54 y13 y14 y16) 2048 0 (0, z54.1)
noncomputable def fn_m_since (a0 : Int32) (f : Nat → Nat → Int32) : Option (Int32 × (Nat → Int32) × (Nat → Int32) × (Nat → Int32) × (Nat → Int32) × (Nat → Int32) × (Nat → Int32) × (Nat → Int32) × (Nat → Int32)) := (bif (fn_m_isIn a0 0 16) then (if (f 88 3) = 0 then (some ((-5), f 88, f 89, f 91, f 92, f 93, f 94, f 96, f 103)) else (am_ob (fn_m_lattice (am_row (am_row f 89 (fn_m_copiesIS (am_row f 91 (fn_m_copiesSM f)))) 91 (fn_m_copiesSM f))) (fun (y6 : (Nat → Int32)) => (am_chk (am_mOK (fn_m_copiesIS (am_row f 91 (fn_m_copiesSM f)))) (am_ob (lf_m_since_54 f (fn_m_copiesSM f) (fn_m_copiesIS (am_row f 91 (fn_m_copiesSM f))) y6 (fn_m_holders_154 (am_row (am_row (am_row f 89 (fn_m_copiesIS (am_row f 91 (fn_m_copiesSM f)))) 91 (fn_m_copiesSM f)) 92 y6))) (fun zz => Sum.elim (fun (z54 : (Nat → Int32) × (Nat → Int32)) => (am_ob (fn_m_lattice (am_row (am_row (am_row (am_row (am_row (am_row (am_row (am_row f 88 z54.1) 89 (fn_m_copiesMS (am_row (am_row (am_row (am_row (am_row (am_row (am_row (am_row f 88 z54.1) 89 (fn_m_copiesIS (am_row f 91 (fn_m_copiesSM f)))) 91 (fn_m_copiesSM f)) 92 y6) 93 (fn_m_holders_154 (am_row (am_row (am_row f 89 (fn_m_copiesIS (am_row f 91 (fn_m_copiesSM f)))) 91 (fn_m_copiesSM f)) 92 y6)).1) 94 (fn_m_holders_154 (am_row (am_row (am_row f 89 (fn_m_copiesIS (am_row f 91 (fn_m_copiesSM f)))) 91 (fn_m_copiesSM f)) 92 y6)).2.1) 96 (fn_m_holders_154 (am_row (am_row (am_row f 89 (fn_m_copiesIS (am_row f 91 (fn_m_copiesSM f)))) 91 (fn_m_copiesSM f)) 92 y6)).2.2) 103 z54.2))) 91 (fn_m_copiesSM f)) 92 y6) 93 (fn_m_holders_154 (am_row (am_row (am_row f 89 (fn_m_copiesIS (am_row f 91 (fn_m_copiesSM f)))) 91 (fn_m_copiesSM f)) 92 y6)).1) 94 (fn_m_holders_154 (am_row (am_row (am_row f 89 (fn_m_copiesIS (am_row f 91 (fn_m_copiesSM f)))) 91 (fn_m_copiesSM f)) 92 y6)).2.1) 96 (fn_m_holders_154 (am_row (am_row (am_row f 89 (fn_m_copiesIS (am_row f 91 (fn_m_copiesSM f)))) 91 (fn_m_copiesSM f)) 92 y6)).2.2) 103 z54.2)) (fun (y14 : (Nat → Int32)) => (am_chk (am_mOK (fn_m_copiesMS (am_row (am_row (am_row (am_row (am_row (am_row (am_row (am_row f 88 z54.1) 89 (fn_m_copiesIS (am_row f 91 (fn_m_copiesSM f)))) 91 (fn_m_copiesSM f)) 92 y6) 93 (fn_m_holders_154 (am_row (am_row (am_row f 89 (fn_m_copiesIS (am_row f 91 (fn_m_copiesSM f)))) 91 (fn_m_copiesSM f)) 92 y6)).1) 94 (fn_m_holders_154 (am_row (am_row (am_row f 89 (fn_m_copiesIS (am_row f 91 (fn_m_copiesSM f)))) 91 (fn_m_copiesSM f)) 92 y6)).2.1) 96 (fn_m_holders_154 (am_row (am_row (am_row f 89 (fn_m_copiesIS (am_row f 91 (fn_m_copiesSM f)))) 91 (fn_m_copiesSM f)) 92 y6)).2.2) 103 z54.2))) (am_ob (lf_m_since_118 (a0.toNatClampNeg) f (fn_m_copiesSM f) z54 (fn_m_copiesMS (am_row (am_row (am_row (am_row (am_row (am_row (am_row (am_row f 88 z54.1) 89 (fn_m_copiesIS (am_row f 91 (fn_m_copiesSM f)))) 91 (fn_m_copiesSM f)) 92 y6) 93 (fn_m_holders_154 (am_row (am_row (am_row f 89 (fn_m_copiesIS (am_row f 91 (fn_m_copiesSM f)))) 91 (fn_m_copiesSM f)) 92 y6)).1) 94 (fn_m_holders_154 (am_row (am_row (am_row f 89 (fn_m_copiesIS (am_row f 91 (fn_m_copiesSM f)))) 91 (fn_m_copiesSM f)) 92 y6)).2.1) 96 (fn_m_holders_154 (am_row (am_row (am_row f 89 (fn_m_copiesIS (am_row f 91 (fn_m_copiesSM f)))) 91 (fn_m_copiesSM f)) 92 y6)).2.2) 103 z54.2)) y14 (fn_m_holders_154 (am_row (am_row (am_row (am_row (am_row (am_row (am_row (am_row f 88 z54.1) 89 (fn_m_copiesMS (am_row (am_row (am_row (am_row (am_row (am_row (am_row (am_row f 88 z54.1) 89 (fn_m_copiesIS (am_row f 91 (fn_m_copiesSM f)))) 91 (fn_m_copiesSM f)) 92 y6) 93 (fn_m_holders_154 (am_row (am_row (am_row f 89 (fn_m_copiesIS (am_row f 91 (fn_m_copiesSM f)))) 91 (fn_m_copiesSM f)) 92 y6)).1) 94 (fn_m_holders_154 (am_row (am_row (am_row f 89 (fn_m_copiesIS (am_row f 91 (fn_m_copiesSM f)))) 91 (fn_m_copiesSM f)) 92 y6)).2.1) 96 (fn_m_holders_154 (am_row (am_row (am_row f 89 (fn_m_copiesIS (am_row f 91 (fn_m_copiesSM f)))) 91 (fn_m_copiesSM f)) 92 y6)).2.2) 103 z54.2))) 91 (fn_m_copiesSM f)) 92 y14) 93 (fn_m_holders_154 (am_row (am_row (am_row f 89 (fn_m_copiesIS (am_row f 91 (fn_m_copiesSM f)))) 91 (fn_m_copiesSM f)) 92 y6)).1) 94 (fn_m_holders_154 (am_row (am_row (am_row f 89 (fn_m_copiesIS (am_row f 91 (fn_m_copiesSM f)))) 91 (fn_m_copiesSM f)) 92 y6)).2.1) 96 (fn_m_holders_154 (am_row (am_row (am_row f 89 (fn_m_copiesIS (am_row f 91 (fn_m_copiesSM f)))) 91 (fn_m_copiesSM f)) 92 y6)).2.2) 103 z54.2))) (fun zz => Sum.elim (fun (z118 : Int32 × (Nat → Int32)) => (some (z118.1, z118.2, (fn_m_copiesMS (am_row (am_row (am_row (am_row (am_row (am_row (am_row (am_row f 88 z54.1) 89 (fn_m_copiesIS (am_row f 91 (fn_m_copiesSM f)))) 91 (fn_m_copiesSM f)) 92 y6) 93 (fn_m_holders_154 (am_row (am_row (am_row f 89 (fn_m_copiesIS (am_row f 91 (fn_m_copiesSM f)))) 91 (fn_m_copiesSM f)) 92 y6)).1) 94 (fn_m_holders_154 (am_row (am_row (am_row f 89 (fn_m_copiesIS (am_row f 91 (fn_m_copiesSM f)))) 91 (fn_m_copiesSM f)) 92 y6)).2.1) 96 (fn_m_holders_154 (am_row (am_row (am_row f 89 (fn_m_copiesIS (am_row f 91 (fn_m_copiesSM f)))) 91 (fn_m_copiesSM f)) 92 y6)).2.2) 103 z54.2)), (fn_m_copiesSM f), y14, (fn_m_holders_154 (am_row (am_row (am_row (am_row (am_row (am_row (am_row (am_row f 88 z54.1) 89 (fn_m_copiesMS (am_row (am_row (am_row (am_row (am_row (am_row (am_row (am_row f 88 z54.1) 89 (fn_m_copiesIS (am_row f 91 (fn_m_copiesSM f)))) 91 (fn_m_copiesSM f)) 92 y6) 93 (fn_m_holders_154 (am_row (am_row (am_row f 89 (fn_m_copiesIS (am_row f 91 (fn_m_copiesSM f)))) 91 (fn_m_copiesSM f)) 92 y6)).1) 94 (fn_m_holders_154 (am_row (am_row (am_row f 89 (fn_m_copiesIS (am_row f 91 (fn_m_copiesSM f)))) 91 (fn_m_copiesSM f)) 92 y6)).2.1) 96 (fn_m_holders_154 (am_row (am_row (am_row f 89 (fn_m_copiesIS (am_row f 91 (fn_m_copiesSM f)))) 91 (fn_m_copiesSM f)) 92 y6)).2.2) 103 z54.2))) 91 (fn_m_copiesSM f)) 92 y14) 93 (fn_m_holders_154 (am_row (am_row (am_row f 89 (fn_m_copiesIS (am_row f 91 (fn_m_copiesSM f)))) 91 (fn_m_copiesSM f)) 92 y6)).1) 94 (fn_m_holders_154 (am_row (am_row (am_row f 89 (fn_m_copiesIS (am_row f 91 (fn_m_copiesSM f)))) 91 (fn_m_copiesSM f)) 92 y6)).2.1) 96 (fn_m_holders_154 (am_row (am_row (am_row f 89 (fn_m_copiesIS (am_row f 91 (fn_m_copiesSM f)))) 91 (fn_m_copiesSM f)) 92 y6)).2.2) 103 z54.2)).1, (fn_m_holders_154 (am_row (am_row (am_row (am_row (am_row (am_row (am_row (am_row f 88 z54.1) 89 (fn_m_copiesMS (am_row (am_row (am_row (am_row (am_row (am_row (am_row (am_row f 88 z54.1) 89 (fn_m_copiesIS (am_row f 91 (fn_m_copiesSM f)))) 91 (fn_m_copiesSM f)) 92 y6) 93 (fn_m_holders_154 (am_row (am_row (am_row f 89 (fn_m_copiesIS (am_row f 91 (fn_m_copiesSM f)))) 91 (fn_m_copiesSM f)) 92 y6)).1) 94 (fn_m_holders_154 (am_row (am_row (am_row f 89 (fn_m_copiesIS (am_row f 91 (fn_m_copiesSM f)))) 91 (fn_m_copiesSM f)) 92 y6)).2.1) 96 (fn_m_holders_154 (am_row (am_row (am_row f 89 (fn_m_copiesIS (am_row f 91 (fn_m_copiesSM f)))) 91 (fn_m_copiesSM f)) 92 y6)).2.2) 103 z54.2))) 91 (fn_m_copiesSM f)) 92 y14) 93 (fn_m_holders_154 (am_row (am_row (am_row f 89 (fn_m_copiesIS (am_row f 91 (fn_m_copiesSM f)))) 91 (fn_m_copiesSM f)) 92 y6)).1) 94 (fn_m_holders_154 (am_row (am_row (am_row f 89 (fn_m_copiesIS (am_row f 91 (fn_m_copiesSM f)))) 91 (fn_m_copiesSM f)) 92 y6)).2.1) 96 (fn_m_holders_154 (am_row (am_row (am_row f 89 (fn_m_copiesIS (am_row f 91 (fn_m_copiesSM f)))) 91 (fn_m_copiesSM f)) 92 y6)).2.2) 103 z54.2)).2.1, (fn_m_holders_154 (am_row (am_row (am_row (am_row (am_row (am_row (am_row (am_row f 88 z54.1) 89 (fn_m_copiesMS (am_row (am_row (am_row (am_row (am_row (am_row (am_row (am_row f 88 z54.1) 89 (fn_m_copiesIS (am_row f 91 (fn_m_copiesSM f)))) 91 (fn_m_copiesSM f)) 92 y6) 93 (fn_m_holders_154 (am_row (am_row (am_row f 89 (fn_m_copiesIS (am_row f 91 (fn_m_copiesSM f)))) 91 (fn_m_copiesSM f)) 92 y6)).1) 94 (fn_m_holders_154 (am_row (am_row (am_row f 89 (fn_m_copiesIS (am_row f 91 (fn_m_copiesSM f)))) 91 (fn_m_copiesSM f)) 92 y6)).2.1) 96 (fn_m_holders_154 (am_row (am_row (am_row f 89 (fn_m_copiesIS (am_row f 91 (fn_m_copiesSM f)))) 91 (fn_m_copiesSM f)) 92 y6)).2.2) 103 z54.2))) 91 (fn_m_copiesSM f)) 92 y14) 93 (fn_m_holders_154 (am_row (am_row (am_row f 89 (fn_m_copiesIS (am_row f 91 (fn_m_copiesSM f)))) 91 (fn_m_copiesSM f)) 92 y6)).1) 94 (fn_m_holders_154 (am_row (am_row (am_row f 89 (fn_m_copiesIS (am_row f 91 (fn_m_copiesSM f)))) 91 (fn_m_copiesSM f)) 92 y6)).2.1) 96 (fn_m_holders_154 (am_row (am_row (am_row f 89 (fn_m_copiesIS (am_row f 91 (fn_m_copiesSM f)))) 91 (fn_m_copiesSM f)) 92 y6)).2.2) 103 z54.2)).2.2, z54.2))) (fun (z : Empty) => z.elim) zz)))))) (fun (z : Empty) => z.elim) zz)))))) else (some ((-1), f 88, f 89, f 91, f 92, f 93, f 94, f 96, f 103)))
theorem lp_m_since_54 (a0_n : Nat) (f : Nat → Nat → Int32) (g : Nat → Nat → Int64) (y4 : (Nat → Int32)) (y5 : (Nat → Int32)) (y6 : (Nat → Int32)) (y8 : (Nat → Int32) × (Nat → Int32) × (Nat → Int32)) (hmk : am_mOK (f 89)) (hlC : f 89 201 = nI (f 89 201).toNatClampNeg) (hlN : (f 89 201).toNatClampNeg ≤ 40) (hrC : f 89 202 = nI (f 89 202).toNatClampNeg) (hrN : (f 89 202).toNatClampNeg ≤ 30) (hl0 : ∀ i, i < (f 89 201).toNatClampNeg → am_inb (fn_m_loanAt i 0 f) 16 = true) (hl5 : ∀ i, i < (f 89 201).toNatClampNeg → ¬ fn_m_loanAt i 5 f < 0 → am_inb (fn_m_loanAt i 5 f) 40 = true) (hl2 : ∀ i, i < (f 89 201).toNatClampNeg → am_inb (fn_m_loanAt i 2 f) 20 = true) (ha0_n : a0_n < 17) (res : Option Value × am_M) : ∀ (n i54 : Nat) (r54_88 : Nat → Int32) (r54_103 : Nat → Int32) , i54 + n = 2048 → am_KO (am_KX (fun (z : (Nat → Int32) × (Nat → Int32)) => ∀ (wc54 : Value), am_F 84 am_k_243 95 [.ref 88, .int (nI a0_n), wc54, am_un, am_un] [] (am_S (am_row (am_row (am_row (am_row (am_row (am_row (am_row (am_row f 88 z.1) 89 y5) 91 y4) 92 y6) 93 y8.1) 94 y8.2.1) 96 y8.2.2) 103 z.2) g) res) (fun (z : Empty) => True)) (am_forO (st_m_since_54 f y4 y5 y6 y8) n i54 (r54_88, r54_103)) → am_F 84 am_k_243 54 [.ref 88, .int (nI a0_n), .int (nI i54), am_un, am_un] [] (am_S (am_row (am_row (am_row (am_row (am_row (am_row (am_row (am_row f 88 r54_88) 89 y5) 91 y4) 92 y6) 93 y8.1) 94 y8.2.1) 96 y8.2.2) 103 r54_103) g) res := by
  intro n
  induction n with
  | zero =>
    intro i54 r54_88 r54_103 hi hK
    refine am_F.pos 5 rfl (by show 2048 ≤ nI i54; rw [show (2048 : Int32) = nI 2048 from rfl]; exact nI_le (by omega) (by omega)) ?_
    exact hK _
  | succ n ih =>
    intro i54 r54_88 r54_103 hi hK
    refine am_F.neg 5 rfl (by show ¬ 2048 ≤ nI i54; rw [show (2048 : Int32) = nI 2048 from rfl]; exact nI_ge (by omega) (by omega)) ?_
    have hb54 : i54 < 2048 := by omega
    show am_F _ _ 63 [.ref 88, .int (nI a0_n), .int (nI i54), am_un, am_un] [] (am_S (am_row (am_row (am_row (am_row (am_row (am_row (am_row (am_row f 88 r54_88) 89 y5) 91 y4) 92 y6) 93 y8.1) 94 y8.2.1) 96 y8.2.2) 103 r54_103) g) _
    obtain ⟨K, hKd⟩ : ∃ K : Option ((Nat → Int32) × (Nat → Int32) ⊕ ((Nat → Int32) × (Nat → Int32) ⊕ Empty)) → Prop, K = fun s => am_KO (am_KX (fun (z : (Nat → Int32) × (Nat → Int32)) => ∀ (wc54 : Value), am_F 84 am_k_243 95 [.ref 88, .int (nI a0_n), wc54, am_un, am_un] [] (am_S (am_row (am_row (am_row (am_row (am_row (am_row (am_row (am_row f 88 z.1) 89 y5) 91 y4) 92 y6) 93 y8.1) 94 y8.2.1) 96 y8.2.2) 103 z.2) g) res) (fun (z : Empty) => True)) (am_whn (fun z => am_forO (st_m_since_54 f y4 y5 y6 y8) n (i54 + 1) z) s) := ⟨_, rfl⟩
    have hK : K ((st_m_since_54 f y4 y5 y6 y8) i54 (r54_88, r54_103)) := by rw [am_forO_s] at hK; rw [hKd]; with_reducible exact hK
    have hKn : ¬ K none := by rw [hKd]; exact id
    unfold st_m_since_54 at hK
    simp only at hK
    refine am_F.ops (pc' := 85) (L' := [.ref 88, .int (nI a0_n), .int (nI i54), am_un, am_un]) (S' := [.int ((nI i54) - (nI i54) / 16 * 16), .int (((nI i54) / 16) - ((nI i54) / 16) / 8 * 8), .int ((nI i54) / 128), .ref 88, .int (nI i54), .ref 103]) (μ' := (am_S (am_row (am_row (am_row (am_row (am_row (am_row (am_row (am_row f 88 r54_88) 89 y5) 91 y4) 92 y6) 93 y8.1) 94 y8.2.1) 96 y8.2.2) 103 r54_103) g)) 15 rfl ?_
    obtain ⟨q11, hK⟩ := am_chk_e hKn hK
    obtain ⟨y12, hy12, hK⟩ := am_ob_e hKn hK
    refine am_F.call rfl rfl (x_m_answer ((nI i54) / 128) (((nI i54) / 16) - ((nI i54) / 16) / 8 * 8) ((nI i54) - (nI i54) / 16 * 16) (am_row (am_row (am_row (am_row (am_row (am_row (am_row (am_row f 88 r54_88) 89 y5) 91 y4) 92 y6) 93 y8.1) 94 y8.2.1) 96 y8.2.2) 103 r54_103) g q11 y12 hy12) (by first | decide | omega) ?_
    refine am_F.mem (F' := (am_row (am_row (am_row (am_row (am_row (am_row (am_row (am_row f 88 y12.2) 89 y5) 91 y4) 92 y6) 93 y8.1) 94 y8.2.1) 96 y8.2.2) 103 r54_103)) (G' := g) ?_ (by first | rfl | (funext a; by_cases z0 : a = 88; (subst z0; rfl); by_cases z1 : a = 89; (subst z1; rfl); by_cases z2 : a = 91; (subst z2; rfl); by_cases z3 : a = 92; (subst z3; rfl); by_cases z4 : a = 93; (subst z4; rfl); by_cases z5 : a = 94; (subst z5; rfl); by_cases z6 : a = 96; (subst z6; rfl); by_cases z7 : a = 103; (subst z7; rfl); simp only [am_ui, am_ul, am_row_ne z0, am_row_ne z1, am_row_ne z2, am_row_ne z3, am_row_ne z4, am_row_ne z5, am_row_ne z6, am_row_ne z7])) (by first | rfl | (funext a; by_cases z0 : a = 88; (subst z0; rfl); by_cases z1 : a = 89; (subst z1; rfl); by_cases z2 : a = 91; (subst z2; rfl); by_cases z3 : a = 92; (subst z3; rfl); by_cases z4 : a = 93; (subst z4; rfl); by_cases z5 : a = 94; (subst z5; rfl); by_cases z6 : a = 96; (subst z6; rfl); by_cases z7 : a = 103; (subst z7; rfl); simp only [am_ui, am_ul, am_row_ne z0, am_row_ne z1, am_row_ne z2, am_row_ne z3, am_row_ne z4, am_row_ne z5, am_row_ne z6, am_row_ne z7]))
    show am_F _ _ 88 [.ref 88, .int (nI a0_n), .int (nI i54), am_un, am_un] [.int y12.1, .int (nI i54), .ref 103] (am_S (am_row (am_row (am_row (am_row (am_row (am_row (am_row (am_row f 88 y12.2) 89 y5) 91 y4) 92 y6) 93 y8.1) 94 y8.2.1) 96 y8.2.2) 103 r54_103) g) _
    refine am_F.iasE (F' := (am_row (am_row (am_row (am_row (am_row (am_row (am_row (am_row f 88 y12.2) 89 y5) 91 y4) 92 y6) 93 y8.1) 94 y8.2.1) 96 y8.2.2) 103 (upd r54_103 i54 y12.1))) (m := i54) (N := 2048) rfl rfl rfl rfl (by omega) (by decide) (by first | rfl | (funext a; by_cases z0 : a = 88; (subst z0; rfl); by_cases z1 : a = 89; (subst z1; rfl); by_cases z2 : a = 91; (subst z2; rfl); by_cases z3 : a = 92; (subst z3; rfl); by_cases z4 : a = 93; (subst z4; rfl); by_cases z5 : a = 94; (subst z5; rfl); by_cases z6 : a = 96; (subst z6; rfl); by_cases z7 : a = 103; (subst z7; rfl); simp only [am_ui, am_ul, am_row_ne z0, am_row_ne z1, am_row_ne z2, am_row_ne z3, am_row_ne z4, am_row_ne z5, am_row_ne z6, am_row_ne z7])) ?_
    refine am_F.ops (pc' := 54) (L' := [.ref 88, .int (nI a0_n), .int ((nI i54) + 1), am_un, am_un]) (S' := []) (μ' := (am_S (am_row (am_row (am_row (am_row (am_row (am_row (am_row (am_row f 88 y12.2) 89 y5) 91 y4) 92 y6) 93 y8.1) 94 y8.2.1) 96 y8.2.2) 103 (upd r54_103 i54 y12.1)) g)) 2 rfl ?_
    rw [nI_1 i54]
    subst hKd
    exact ih (i54 + 1) y12.2 (upd r54_103 i54 y12.1) (by omega) hK
theorem lp_m_since_118 (a0_n : Nat) (f : Nat → Nat → Int32) (g : Nat → Nat → Int64) (y4 : (Nat → Int32)) (y5 : (Nat → Int32)) (y6 : (Nat → Int32)) (y8 : (Nat → Int32) × (Nat → Int32) × (Nat → Int32)) (z54 : (Nat → Int32) × (Nat → Int32)) (wc54 : Value) (y13 : (Nat → Int32)) (y14 : (Nat → Int32)) (y16 : (Nat → Int32) × (Nat → Int32) × (Nat → Int32)) (hmk : am_mOK (f 89)) (hlC : f 89 201 = nI (f 89 201).toNatClampNeg) (hlN : (f 89 201).toNatClampNeg ≤ 40) (hrC : f 89 202 = nI (f 89 202).toNatClampNeg) (hrN : (f 89 202).toNatClampNeg ≤ 30) (hl0 : ∀ i, i < (f 89 201).toNatClampNeg → am_inb (fn_m_loanAt i 0 f) 16 = true) (hl5 : ∀ i, i < (f 89 201).toNatClampNeg → ¬ fn_m_loanAt i 5 f < 0 → am_inb (fn_m_loanAt i 5 f) 40 = true) (hl2 : ∀ i, i < (f 89 201).toNatClampNeg → am_inb (fn_m_loanAt i 2 f) 20 = true) (ha0_n : a0_n < 17) (res : Option Value × am_M) : ∀ (n i118 : Nat) (a118_2 : Int32) (r118_88 : Nat → Int32) (w118_4 : Value), i118 + n = 2048 → am_KO (am_KX (fun (z : Int32 × (Nat → Int32)) => ∀ (wc118 : Value) (w118_4 : Value), am_F 84 am_k_243 186 [.ref 88, .int (nI a0_n), .int z.1, wc118, w118_4] [] (am_S (am_row (am_row (am_row (am_row (am_row (am_row (am_row (am_row f 88 z.2) 89 y13) 91 y4) 92 y14) 93 y16.1) 94 y16.2.1) 96 y16.2.2) 103 z54.2) g) res) (fun (z : Empty) => True)) (am_forO (st_m_since_118 a0_n f y4 z54 y13 y14 y16) n i118 (a118_2, r118_88)) → am_F 84 am_k_243 118 [.ref 88, .int (nI a0_n), .int a118_2, .int (nI i118), w118_4] [] (am_S (am_row (am_row (am_row (am_row (am_row (am_row (am_row (am_row f 88 r118_88) 89 y13) 91 y4) 92 y14) 93 y16.1) 94 y16.2.1) 96 y16.2.2) 103 z54.2) g) res := by
  intro n
  induction n with
  | zero =>
    intro i118 a118_2 r118_88 w118_4 hi hK
    refine am_F.pos 5 rfl (by show 2048 ≤ nI i118; rw [show (2048 : Int32) = nI 2048 from rfl]; exact nI_le (by omega) (by omega)) ?_
    exact hK _ _
  | succ n ih =>
    intro i118 a118_2 r118_88 w118_4 hi hK
    refine am_F.neg 5 rfl (by show ¬ 2048 ≤ nI i118; rw [show (2048 : Int32) = nI 2048 from rfl]; exact nI_ge (by omega) (by omega)) ?_
    have hb118 : i118 < 2048 := by omega
    show am_F _ _ 127 [.ref 88, .int (nI a0_n), .int a118_2, .int (nI i118), w118_4] [] (am_S (am_row (am_row (am_row (am_row (am_row (am_row (am_row (am_row f 88 r118_88) 89 y13) 91 y4) 92 y14) 93 y16.1) 94 y16.2.1) 96 y16.2.2) 103 z54.2) g) _
    obtain ⟨K, hKd⟩ : ∃ K : Option (Int32 × (Nat → Int32) ⊕ (Int32 × (Nat → Int32) ⊕ Empty)) → Prop, K = fun s => am_KO (am_KX (fun (z : Int32 × (Nat → Int32)) => ∀ (wc118 : Value) (w118_4 : Value), am_F 84 am_k_243 186 [.ref 88, .int (nI a0_n), .int z.1, wc118, w118_4] [] (am_S (am_row (am_row (am_row (am_row (am_row (am_row (am_row (am_row f 88 z.2) 89 y13) 91 y4) 92 y14) 93 y16.1) 94 y16.2.1) 96 y16.2.2) 103 z54.2) g) res) (fun (z : Empty) => True)) (am_whn (fun z => am_forO (st_m_since_118 a0_n f y4 z54 y13 y14 y16) n (i118 + 1) z) s) := ⟨_, rfl⟩
    have hK : K ((st_m_since_118 a0_n f y4 z54 y13 y14 y16) i118 (a118_2, r118_88)) := by rw [am_forO_s] at hK; rw [hKd]; with_reducible exact hK
    have hKn : ¬ K none := by rw [hKd]; exact id
    unfold st_m_since_118 at hK
    simp only at hK
    refine am_F.ops (pc' := 138) (L' := [.ref 88, .int (nI a0_n), .int a118_2, .int (nI i118), .int ((nI i118) / 128)]) (S' := [.int 16, .int (nI a0_n), .int a118_2]) (μ' := (am_S (am_row (am_row (am_row (am_row (am_row (am_row (am_row (am_row f 88 r118_88) 89 y13) 91 y4) 92 y14) 93 y16.1) 94 y16.2.1) 96 y16.2.2) 103 z54.2) g)) 7 rfl ?_
    refine am_F.iteK 1 rfl K hK (fun c30 hK => ?_) (fun c30 hK => ?_)
    · show am_F _ _ 147 [.ref 88, .int (nI a0_n), .int a118_2, .int (nI i118), .int ((nI i118) / 128)] [.int a118_2] (am_S (am_row (am_row (am_row (am_row (am_row (am_row (am_row (am_row f 88 r118_88) 89 y13) 91 y4) 92 y14) 93 y16.1) 94 y16.2.1) 96 y16.2.2) 103 z54.2) g) _
      refine am_F.ops (pc' := 152) (L' := [.ref 88, .int (nI a0_n), .int a118_2, .int (nI i118), .int ((nI i118) / 128)]) (S' := [.int (nI i118), .ref 103, .int a118_2]) (μ' := (am_S (am_row (am_row (am_row (am_row (am_row (am_row (am_row (am_row f 88 r118_88) 89 y13) 91 y4) 92 y14) 93 y16.1) 94 y16.2.1) 96 y16.2.2) 103 z54.2) g)) 3 rfl ?_
      refine am_F.ialE (m := i118) (N := 2048) rfl rfl rfl rfl (by omega) (by decide) ?_
      show am_F _ _ 153 [.ref 88, .int (nI a0_n), .int a118_2, .int (nI i118), .int ((nI i118) / 128)] [.int (z54.2 i118), .int a118_2] (am_S (am_row (am_row (am_row (am_row (am_row (am_row (am_row (am_row f 88 r118_88) 89 y13) 91 y4) 92 y14) 93 y16.1) 94 y16.2.1) 96 y16.2.2) 103 z54.2) g) _
      refine am_F.ops (pc' := 167) (L' := [.ref 88, .int (nI a0_n), .int a118_2, .int (nI i118), .int ((nI i118) / 128)]) (S' := [.int ((nI i118) - (nI i118) / 16 * 16), .int (((nI i118) / 16) - ((nI i118) / 16) / 8 * 8), .int ((nI i118) / 128), .ref 88, .int (z54.2 i118), .int a118_2]) (μ' := (am_S (am_row (am_row (am_row (am_row (am_row (am_row (am_row (am_row f 88 r118_88) 89 y13) 91 y4) 92 y14) 93 y16.1) 94 y16.2.1) 96 y16.2.2) 103 z54.2) g)) 10 rfl ?_
      obtain ⟨q31, hK⟩ := am_chk_e hKn hK
      obtain ⟨y32, hy32, hK⟩ := am_ob_e hKn hK
      refine am_F.call rfl rfl (x_m_answer ((nI i118) / 128) (((nI i118) / 16) - ((nI i118) / 16) / 8 * 8) ((nI i118) - (nI i118) / 16 * 16) (am_row (am_row (am_row (am_row (am_row (am_row (am_row (am_row f 88 r118_88) 89 y13) 91 y4) 92 y14) 93 y16.1) 94 y16.2.1) 96 y16.2.2) 103 z54.2) g q31 y32 hy32) (by first | decide | omega) ?_
      refine am_F.mem (F' := (am_row (am_row (am_row (am_row (am_row (am_row (am_row (am_row f 88 y32.2) 89 y13) 91 y4) 92 y14) 93 y16.1) 94 y16.2.1) 96 y16.2.2) 103 z54.2)) (G' := g) ?_ (by first | rfl | (funext a; by_cases z0 : a = 88; (subst z0; rfl); by_cases z1 : a = 89; (subst z1; rfl); by_cases z2 : a = 91; (subst z2; rfl); by_cases z3 : a = 92; (subst z3; rfl); by_cases z4 : a = 93; (subst z4; rfl); by_cases z5 : a = 94; (subst z5; rfl); by_cases z6 : a = 96; (subst z6; rfl); by_cases z7 : a = 103; (subst z7; rfl); simp only [am_ui, am_ul, am_row_ne z0, am_row_ne z1, am_row_ne z2, am_row_ne z3, am_row_ne z4, am_row_ne z5, am_row_ne z6, am_row_ne z7])) (by first | rfl | (funext a; by_cases z0 : a = 88; (subst z0; rfl); by_cases z1 : a = 89; (subst z1; rfl); by_cases z2 : a = 91; (subst z2; rfl); by_cases z3 : a = 92; (subst z3; rfl); by_cases z4 : a = 93; (subst z4; rfl); by_cases z5 : a = 94; (subst z5; rfl); by_cases z6 : a = 96; (subst z6; rfl); by_cases z7 : a = 103; (subst z7; rfl); simp only [am_ui, am_ul, am_row_ne z0, am_row_ne z1, am_row_ne z2, am_row_ne z3, am_row_ne z4, am_row_ne z5, am_row_ne z6, am_row_ne z7]))
      show am_F _ _ 170 [.ref 88, .int (nI a0_n), .int a118_2, .int (nI i118), .int ((nI i118) / 128)] [.int y32.1, .int (z54.2 i118), .int a118_2] (am_S (am_row (am_row (am_row (am_row (am_row (am_row (am_row (am_row f 88 y32.2) 89 y13) 91 y4) 92 y14) 93 y16.1) 94 y16.2.1) 96 y16.2.2) 103 z54.2) g) _
      refine am_F.to (am_To.iteB (pc' := 178) (L2 := [.ref 88, .int (nI a0_n), .int a118_2, .int (nI i118), .int ((nI i118) / 128)]) (S2 := [.int a118_2]) (μ2 := (am_S (am_row (am_row (am_row (am_row (am_row (am_row (am_row (am_row f 88 y32.2) 89 y13) 91 y4) 92 y14) 93 y16.1) 94 y16.2.1) 96 y16.2.2) 103 z54.2) g)) (a := false) (b := true) 1 rfl (fun c33 => ?_) (fun c33 => ?_)) ?_
      · intro res9 g9
        show am_F _ _ 177 [.ref 88, .int (nI a0_n), .int a118_2, .int (nI i118), .int ((nI i118) / 128)] [.int a118_2] (am_S (am_row (am_row (am_row (am_row (am_row (am_row (am_row (am_row f 88 y32.2) 89 y13) 91 y4) 92 y14) 93 y16.1) 94 y16.2.1) 96 y16.2.2) 103 z54.2) g) _
        refine am_F.ops (pc' := 178) (L' := [.ref 88, .int (nI a0_n), .int a118_2, .int (nI i118), .int ((nI i118) / 128)]) (S' := [.int 0, .int a118_2]) (μ' := (am_S (am_row (am_row (am_row (am_row (am_row (am_row (am_row (am_row f 88 y32.2) 89 y13) 91 y4) 92 y14) 93 y16.1) 94 y16.2.1) 96 y16.2.2) 103 z54.2) g)) 1 rfl ?_
        exact g9
      · intro res9 g9
        show am_F _ _ 173 [.ref 88, .int (nI a0_n), .int a118_2, .int (nI i118), .int ((nI i118) / 128)] [.int a118_2] (am_S (am_row (am_row (am_row (am_row (am_row (am_row (am_row (am_row f 88 y32.2) 89 y13) 91 y4) 92 y14) 93 y16.1) 94 y16.2.1) 96 y16.2.2) 103 z54.2) g) _
        refine am_F.ops (pc' := 178) (L' := [.ref 88, .int (nI a0_n), .int a118_2, .int (nI i118), .int ((nI i118) / 128)]) (S' := [.int 1, .int a118_2]) (μ' := (am_S (am_row (am_row (am_row (am_row (am_row (am_row (am_row (am_row f 88 y32.2) 89 y13) 91 y4) 92 y14) 93 y16.1) 94 y16.2.1) 96 y16.2.2) 103 z54.2) g)) 2 rfl ?_
        exact g9
      show am_F _ _ 178 [.ref 88, .int (nI a0_n), .int a118_2, .int (nI i118), .int ((nI i118) / 128)] [.int (am_b (if (z54.2 i118) = y32.1 then false else true)), .int a118_2] (am_S (am_row (am_row (am_row (am_row (am_row (am_row (am_row (am_row f 88 y32.2) 89 y13) 91 y4) 92 y14) 93 y16.1) 94 y16.2.1) 96 y16.2.2) 103 z54.2) g) _
      refine am_F.ops (pc' := 118) (L' := [.ref 88, .int (nI a0_n), .int (a118_2 + (am_b (if (z54.2 i118) = y32.1 then false else true))), .int ((nI i118) + 1), .int ((nI i118) / 128)]) (S' := []) (μ' := (am_S (am_row (am_row (am_row (am_row (am_row (am_row (am_row (am_row f 88 y32.2) 89 y13) 91 y4) 92 y14) 93 y16.1) 94 y16.2.1) 96 y16.2.2) 103 z54.2) g)) 4 rfl ?_
      rw [nI_1 i118]
      subst hKd
      exact ih (i118 + 1) (a118_2 + (am_b (if (z54.2 i118) = y32.1 then false else true))) y32.2 (.int ((nI i118) / 128)) (by omega) hK
    · show am_F _ _ 141 [.ref 88, .int (nI a0_n), .int a118_2, .int (nI i118), .int ((nI i118) / 128)] [.int a118_2] (am_S (am_row (am_row (am_row (am_row (am_row (am_row (am_row (am_row f 88 r118_88) 89 y13) 91 y4) 92 y14) 93 y16.1) 94 y16.2.1) 96 y16.2.2) 103 z54.2) g) _
      refine am_F.ops (pc' := 144) (L' := [.ref 88, .int (nI a0_n), .int a118_2, .int (nI i118), .int ((nI i118) / 128)]) (S' := [.int ((nI i118) / 128), .int (nI a0_n), .int a118_2]) (μ' := (am_S (am_row (am_row (am_row (am_row (am_row (am_row (am_row (am_row f 88 r118_88) 89 y13) 91 y4) 92 y14) 93 y16.1) 94 y16.2.1) 96 y16.2.2) 103 z54.2) g)) 2 rfl ?_
      refine am_F.iteK 1 rfl K hK (fun c35 hK => ?_) (fun c35 hK => ?_)
      · show am_F _ _ 147 [.ref 88, .int (nI a0_n), .int a118_2, .int (nI i118), .int ((nI i118) / 128)] [.int a118_2] (am_S (am_row (am_row (am_row (am_row (am_row (am_row (am_row (am_row f 88 r118_88) 89 y13) 91 y4) 92 y14) 93 y16.1) 94 y16.2.1) 96 y16.2.2) 103 z54.2) g) _
        refine am_F.ops (pc' := 152) (L' := [.ref 88, .int (nI a0_n), .int a118_2, .int (nI i118), .int ((nI i118) / 128)]) (S' := [.int (nI i118), .ref 103, .int a118_2]) (μ' := (am_S (am_row (am_row (am_row (am_row (am_row (am_row (am_row (am_row f 88 r118_88) 89 y13) 91 y4) 92 y14) 93 y16.1) 94 y16.2.1) 96 y16.2.2) 103 z54.2) g)) 3 rfl ?_
        refine am_F.ialE (m := i118) (N := 2048) rfl rfl rfl rfl (by omega) (by decide) ?_
        show am_F _ _ 153 [.ref 88, .int (nI a0_n), .int a118_2, .int (nI i118), .int ((nI i118) / 128)] [.int (z54.2 i118), .int a118_2] (am_S (am_row (am_row (am_row (am_row (am_row (am_row (am_row (am_row f 88 r118_88) 89 y13) 91 y4) 92 y14) 93 y16.1) 94 y16.2.1) 96 y16.2.2) 103 z54.2) g) _
        refine am_F.ops (pc' := 167) (L' := [.ref 88, .int (nI a0_n), .int a118_2, .int (nI i118), .int ((nI i118) / 128)]) (S' := [.int ((nI i118) - (nI i118) / 16 * 16), .int (((nI i118) / 16) - ((nI i118) / 16) / 8 * 8), .int ((nI i118) / 128), .ref 88, .int (z54.2 i118), .int a118_2]) (μ' := (am_S (am_row (am_row (am_row (am_row (am_row (am_row (am_row (am_row f 88 r118_88) 89 y13) 91 y4) 92 y14) 93 y16.1) 94 y16.2.1) 96 y16.2.2) 103 z54.2) g)) 10 rfl ?_
        obtain ⟨q36, hK⟩ := am_chk_e hKn hK
        obtain ⟨y37, hy37, hK⟩ := am_ob_e hKn hK
        refine am_F.call rfl rfl (x_m_answer ((nI i118) / 128) (((nI i118) / 16) - ((nI i118) / 16) / 8 * 8) ((nI i118) - (nI i118) / 16 * 16) (am_row (am_row (am_row (am_row (am_row (am_row (am_row (am_row f 88 r118_88) 89 y13) 91 y4) 92 y14) 93 y16.1) 94 y16.2.1) 96 y16.2.2) 103 z54.2) g q36 y37 hy37) (by first | decide | omega) ?_
        refine am_F.mem (F' := (am_row (am_row (am_row (am_row (am_row (am_row (am_row (am_row f 88 y37.2) 89 y13) 91 y4) 92 y14) 93 y16.1) 94 y16.2.1) 96 y16.2.2) 103 z54.2)) (G' := g) ?_ (by first | rfl | (funext a; by_cases z0 : a = 88; (subst z0; rfl); by_cases z1 : a = 89; (subst z1; rfl); by_cases z2 : a = 91; (subst z2; rfl); by_cases z3 : a = 92; (subst z3; rfl); by_cases z4 : a = 93; (subst z4; rfl); by_cases z5 : a = 94; (subst z5; rfl); by_cases z6 : a = 96; (subst z6; rfl); by_cases z7 : a = 103; (subst z7; rfl); simp only [am_ui, am_ul, am_row_ne z0, am_row_ne z1, am_row_ne z2, am_row_ne z3, am_row_ne z4, am_row_ne z5, am_row_ne z6, am_row_ne z7])) (by first | rfl | (funext a; by_cases z0 : a = 88; (subst z0; rfl); by_cases z1 : a = 89; (subst z1; rfl); by_cases z2 : a = 91; (subst z2; rfl); by_cases z3 : a = 92; (subst z3; rfl); by_cases z4 : a = 93; (subst z4; rfl); by_cases z5 : a = 94; (subst z5; rfl); by_cases z6 : a = 96; (subst z6; rfl); by_cases z7 : a = 103; (subst z7; rfl); simp only [am_ui, am_ul, am_row_ne z0, am_row_ne z1, am_row_ne z2, am_row_ne z3, am_row_ne z4, am_row_ne z5, am_row_ne z6, am_row_ne z7]))
        show am_F _ _ 170 [.ref 88, .int (nI a0_n), .int a118_2, .int (nI i118), .int ((nI i118) / 128)] [.int y37.1, .int (z54.2 i118), .int a118_2] (am_S (am_row (am_row (am_row (am_row (am_row (am_row (am_row (am_row f 88 y37.2) 89 y13) 91 y4) 92 y14) 93 y16.1) 94 y16.2.1) 96 y16.2.2) 103 z54.2) g) _
        refine am_F.to (am_To.iteB (pc' := 178) (L2 := [.ref 88, .int (nI a0_n), .int a118_2, .int (nI i118), .int ((nI i118) / 128)]) (S2 := [.int a118_2]) (μ2 := (am_S (am_row (am_row (am_row (am_row (am_row (am_row (am_row (am_row f 88 y37.2) 89 y13) 91 y4) 92 y14) 93 y16.1) 94 y16.2.1) 96 y16.2.2) 103 z54.2) g)) (a := false) (b := true) 1 rfl (fun c38 => ?_) (fun c38 => ?_)) ?_
        · intro res9 g9
          show am_F _ _ 177 [.ref 88, .int (nI a0_n), .int a118_2, .int (nI i118), .int ((nI i118) / 128)] [.int a118_2] (am_S (am_row (am_row (am_row (am_row (am_row (am_row (am_row (am_row f 88 y37.2) 89 y13) 91 y4) 92 y14) 93 y16.1) 94 y16.2.1) 96 y16.2.2) 103 z54.2) g) _
          refine am_F.ops (pc' := 178) (L' := [.ref 88, .int (nI a0_n), .int a118_2, .int (nI i118), .int ((nI i118) / 128)]) (S' := [.int 0, .int a118_2]) (μ' := (am_S (am_row (am_row (am_row (am_row (am_row (am_row (am_row (am_row f 88 y37.2) 89 y13) 91 y4) 92 y14) 93 y16.1) 94 y16.2.1) 96 y16.2.2) 103 z54.2) g)) 1 rfl ?_
          exact g9
        · intro res9 g9
          show am_F _ _ 173 [.ref 88, .int (nI a0_n), .int a118_2, .int (nI i118), .int ((nI i118) / 128)] [.int a118_2] (am_S (am_row (am_row (am_row (am_row (am_row (am_row (am_row (am_row f 88 y37.2) 89 y13) 91 y4) 92 y14) 93 y16.1) 94 y16.2.1) 96 y16.2.2) 103 z54.2) g) _
          refine am_F.ops (pc' := 178) (L' := [.ref 88, .int (nI a0_n), .int a118_2, .int (nI i118), .int ((nI i118) / 128)]) (S' := [.int 1, .int a118_2]) (μ' := (am_S (am_row (am_row (am_row (am_row (am_row (am_row (am_row (am_row f 88 y37.2) 89 y13) 91 y4) 92 y14) 93 y16.1) 94 y16.2.1) 96 y16.2.2) 103 z54.2) g)) 2 rfl ?_
          exact g9
        show am_F _ _ 178 [.ref 88, .int (nI a0_n), .int a118_2, .int (nI i118), .int ((nI i118) / 128)] [.int (am_b (if (z54.2 i118) = y37.1 then false else true)), .int a118_2] (am_S (am_row (am_row (am_row (am_row (am_row (am_row (am_row (am_row f 88 y37.2) 89 y13) 91 y4) 92 y14) 93 y16.1) 94 y16.2.1) 96 y16.2.2) 103 z54.2) g) _
        refine am_F.ops (pc' := 118) (L' := [.ref 88, .int (nI a0_n), .int (a118_2 + (am_b (if (z54.2 i118) = y37.1 then false else true))), .int ((nI i118) + 1), .int ((nI i118) / 128)]) (S' := []) (μ' := (am_S (am_row (am_row (am_row (am_row (am_row (am_row (am_row (am_row f 88 y37.2) 89 y13) 91 y4) 92 y14) 93 y16.1) 94 y16.2.1) 96 y16.2.2) 103 z54.2) g)) 4 rfl ?_
        rw [nI_1 i118]
        subst hKd
        exact ih (i118 + 1) (a118_2 + (am_b (if (z54.2 i118) = y37.1 then false else true))) y37.2 (.int ((nI i118) / 128)) (by omega) hK
      · show am_F _ _ 177 [.ref 88, .int (nI a0_n), .int a118_2, .int (nI i118), .int ((nI i118) / 128)] [.int a118_2] (am_S (am_row (am_row (am_row (am_row (am_row (am_row (am_row (am_row f 88 r118_88) 89 y13) 91 y4) 92 y14) 93 y16.1) 94 y16.2.1) 96 y16.2.2) 103 z54.2) g) _
        refine am_F.ops (pc' := 118) (L' := [.ref 88, .int (nI a0_n), .int (a118_2 + 0), .int ((nI i118) + 1), .int ((nI i118) / 128)]) (S' := []) (μ' := (am_S (am_row (am_row (am_row (am_row (am_row (am_row (am_row (am_row f 88 r118_88) 89 y13) 91 y4) 92 y14) 93 y16.1) 94 y16.2.1) 96 y16.2.2) 103 z54.2) g)) 5 rfl ?_
        rw [nI_1 i118]
        subst hKd
        exact ih (i118 + 1) (a118_2 + 0) r118_88 (.int ((nI i118) / 128)) (by omega) hK
theorem x_m_since (a0 : Int32) (f : Nat → Nat → Int32) (g : Nat → Nat → Int64) (hmk : am_mOK (f 89)) (z0 : Int32 × (Nat → Int32) × (Nat → Int32) × (Nat → Int32) × (Nat → Int32) × (Nat → Int32) × (Nat → Int32) × (Nat → Int32) × (Nat → Int32)) (hz0 : (fn_m_since a0 f) = some z0) : am_D 84 243 5 [.ref 88, .int a0] (am_S f g) (some (Value.int z0.1), am_S (am_row (am_row (am_row (am_row (am_row (am_row (am_row (am_row f 88 z0.2.1) 89 z0.2.2.1) 91 z0.2.2.2.1) 92 z0.2.2.2.2.1) 93 z0.2.2.2.2.2.1) 94 z0.2.2.2.2.2.2.1) 96 z0.2.2.2.2.2.2.2.1) 103 z0.2.2.2.2.2.2.2.2) g) := by
  obtain ⟨hlC, hlN, hrC, hrN, hl0, hl5, hl2⟩ := am_mOK_e hmk
  refine am_D.of (code := am_k_243) rfl (L0 := [.ref 88, .int a0, am_un, am_un, am_un]) rfl ?_
  generalize hres : (some (Value.int z0.1), am_S (am_row (am_row (am_row (am_row (am_row (am_row (am_row (am_row f 88 z0.2.1) 89 z0.2.2.1) 91 z0.2.2.2.1) 92 z0.2.2.2.2.1) 93 z0.2.2.2.2.2.1) 94 z0.2.2.2.2.2.2.1) 96 z0.2.2.2.2.2.2.2.1) 103 z0.2.2.2.2.2.2.2.2) g) = res
  obtain ⟨K, hKd⟩ : ∃ K : Option (Int32 × (Nat → Int32) × (Nat → Int32) × (Nat → Int32) × (Nat → Int32) × (Nat → Int32) × (Nat → Int32) × (Nat → Int32) × (Nat → Int32)) → Prop, K = am_KO (fun z => (some (Value.int z.1), am_S (am_row (am_row (am_row (am_row (am_row (am_row (am_row (am_row f 88 z.2.1) 89 z.2.2.1) 91 z.2.2.2.1) 92 z.2.2.2.2.1) 93 z.2.2.2.2.2.1) 94 z.2.2.2.2.2.2.1) 96 z.2.2.2.2.2.2.2.1) 103 z.2.2.2.2.2.2.2.2) g) = res) := ⟨_, rfl⟩
  have hK : K (fn_m_since a0 f) := by rw [hKd, hz0]; exact hres
  have hKn : ¬ K none := by rw [hKd]; exact id
  clear hres hz0
  unfold fn_m_since at hK
  refine am_F.ops (pc' := 4) (L' := [.ref 88, .int a0, am_un, am_un, am_un]) (S' := [.int 16, .int 0, .int a0]) (μ' := (am_S f g)) 3 rfl ?_
  refine am_F.call rfl rfl (x_m_isIn a0 0 16 f g ) (by first | decide | omega) ?_
  show am_F _ _ 7 [.ref 88, .int a0, am_un, am_un, am_un] [.int (am_b (fn_m_isIn a0 0 16))] (am_S f g) _
  refine am_F.bifK 1 rfl K hK (fun c2 hK => ?_) (fun c2 hK => ?_)
  · obtain ⟨a0_n, ha0_n, ea0_n⟩ := am_mInN (N := 17) c2 (by decide)
    subst ea0_n
    try simp only [nI_clamp (show a0_n < 2147483648 by omega)] at hK
    show am_F _ _ 12 [.ref 88, .int (nI a0_n), am_un, am_un, am_un] [] (am_S f g) _
    refine am_F.ops (pc' := 16) (L' := [.ref 88, .int (nI a0_n), am_un, am_un, am_un]) (S' := [.int (f 88 3)]) (μ' := (am_S f g)) 2 rfl ?_
    refine am_F.iteK 1 rfl K hK (fun c3 hK => ?_) (fun c3 hK => ?_)
    · show am_F _ _ 19 [.ref 88, .int (nI a0_n), am_un, am_un, am_un] [] (am_S f g) _
      refine am_F.ops (pc' := 21) (L' := [.ref 88, .int (nI a0_n), am_un, am_un, am_un]) (S' := [.int (-5)]) (μ' := (am_S f g)) 1 rfl ?_
      refine am_F.mem (F' := (am_row (am_row (am_row (am_row (am_row (am_row (am_row (am_row f 88 (f 88)) 89 (f 89)) 91 (f 91)) 92 (f 92)) 93 (f 93)) 94 (f 94)) 96 (f 96)) 103 (f 103))) (G' := g) ?_ (by first | rfl | (funext a; by_cases z0 : a = 88; (subst z0; rfl); by_cases z1 : a = 89; (subst z1; rfl); by_cases z2 : a = 91; (subst z2; rfl); by_cases z3 : a = 92; (subst z3; rfl); by_cases z4 : a = 93; (subst z4; rfl); by_cases z5 : a = 94; (subst z5; rfl); by_cases z6 : a = 96; (subst z6; rfl); by_cases z7 : a = 103; (subst z7; rfl); simp only [am_ui, am_ul, am_row_ne z0, am_row_ne z1, am_row_ne z2, am_row_ne z3, am_row_ne z4, am_row_ne z5, am_row_ne z6, am_row_ne z7])) (by first | rfl | (funext a; by_cases z0 : a = 88; (subst z0; rfl); by_cases z1 : a = 89; (subst z1; rfl); by_cases z2 : a = 91; (subst z2; rfl); by_cases z3 : a = 92; (subst z3; rfl); by_cases z4 : a = 93; (subst z4; rfl); by_cases z5 : a = 94; (subst z5; rfl); by_cases z6 : a = 96; (subst z6; rfl); by_cases z7 : a = 103; (subst z7; rfl); simp only [am_ui, am_ul, am_row_ne z0, am_row_ne z1, am_row_ne z2, am_row_ne z3, am_row_ne z4, am_row_ne z5, am_row_ne z6, am_row_ne z7]))
      subst hKd
      have hQ := am_KO_s hK
      exact am_F.eq (am_F.ret rfl rfl) hQ
    · show am_F _ _ 22 [.ref 88, .int (nI a0_n), am_un, am_un, am_un] [] (am_S f g) _
      refine am_F.ops (pc' := 30) (L' := [.ref 88, .int (nI a0_n), am_un, am_un, am_un]) (S' := [.ref 91, .ref 89]) (μ' := (am_S f g)) 4 rfl ?_
      obtain ⟨y4, hy4⟩ : ∃ z, (fn_m_copiesSM f) = z := ⟨_, rfl⟩
      (try rw [hy4] at hK)
      refine am_F.call rfl rfl (x_m_copiesSM  f g ) (by first | decide | omega) ?_
      (try rw [hy4])
      refine am_F.mem (F' := (am_row f 91 y4)) (G' := g) ?_ (by first | rfl | (funext a; by_cases z0 : a = 91; (subst z0; rfl); simp only [am_ui, am_ul, am_row_ne z0])) (by first | rfl | (funext a; by_cases z0 : a = 91; (subst z0; rfl); simp only [am_ui, am_ul, am_row_ne z0]))
      show am_F _ _ 33 [.ref 88, .int (nI a0_n), am_un, am_un, am_un] [] (am_S (am_row f 91 y4) g) _
      refine am_F.ops (pc' := 41) (L' := [.ref 88, .int (nI a0_n), am_un, am_un, am_un]) (S' := [.ref 89, .ref 90]) (μ' := (am_S (am_row f 91 y4) g)) 4 rfl ?_
      obtain ⟨y5, hy5⟩ : ∃ z, (fn_m_copiesIS (am_row f 91 y4)) = z := ⟨_, rfl⟩
      (try rw [hy5] at hK)
      refine am_F.call rfl rfl (x_m_copiesIS  (am_row f 91 y4) g ) (by first | decide | omega) ?_
      (try rw [hy5])
      refine am_F.mem (F' := (am_row (am_row f 89 y5) 91 y4)) (G' := g) ?_ (by first | rfl | (funext a; by_cases z0 : a = 89; (subst z0; rfl); by_cases z1 : a = 91; (subst z1; rfl); simp only [am_ui, am_ul, am_row_ne z0, am_row_ne z1])) (by first | rfl | (funext a; by_cases z0 : a = 89; (subst z0; rfl); by_cases z1 : a = 91; (subst z1; rfl); simp only [am_ui, am_ul, am_row_ne z0, am_row_ne z1]))
      show am_F _ _ 44 [.ref 88, .int (nI a0_n), am_un, am_un, am_un] [] (am_S (am_row (am_row f 89 y5) 91 y4) g) _
      refine am_F.ops (pc' := 45) (L' := [.ref 88, .int (nI a0_n), am_un, am_un, am_un]) (S' := [.ref 88]) (μ' := (am_S (am_row (am_row f 89 y5) 91 y4) g)) 1 rfl ?_
      obtain ⟨y6, hy6, hK⟩ := am_ob_e hKn hK
      refine am_F.call rfl rfl (x_m_lattice  (am_row (am_row f 89 y5) 91 y4) g  y6 hy6) (by first | decide | omega) ?_
      refine am_F.mem (F' := (am_row (am_row (am_row f 89 y5) 91 y4) 92 y6)) (G' := g) ?_ (by first | rfl | (funext a; by_cases z0 : a = 89; (subst z0; rfl); by_cases z1 : a = 91; (subst z1; rfl); by_cases z2 : a = 92; (subst z2; rfl); simp only [am_ui, am_ul, am_row_ne z0, am_row_ne z1, am_row_ne z2])) (by first | rfl | (funext a; by_cases z0 : a = 89; (subst z0; rfl); by_cases z1 : a = 91; (subst z1; rfl); by_cases z2 : a = 92; (subst z2; rfl); simp only [am_ui, am_ul, am_row_ne z0, am_row_ne z1, am_row_ne z2]))
      show am_F _ _ 48 [.ref 88, .int (nI a0_n), am_un, am_un, am_un] [] (am_S (am_row (am_row (am_row f 89 y5) 91 y4) 92 y6) g) _
      refine am_F.ops (pc' := 49) (L' := [.ref 88, .int (nI a0_n), am_un, am_un, am_un]) (S' := [.ref 88]) (μ' := (am_S (am_row (am_row (am_row f 89 y5) 91 y4) 92 y6) g)) 1 rfl ?_
      obtain ⟨q7, hK⟩ := am_chk_e hKn hK
      obtain ⟨y8, hy8⟩ : ∃ z, (fn_m_holders_154 (am_row (am_row (am_row f 89 y5) 91 y4) 92 y6)) = z := ⟨_, rfl⟩
      (try rw [hy8] at hK)
      refine am_F.call rfl rfl (x_m_holders_154  (am_row (am_row (am_row f 89 y5) 91 y4) 92 y6) g (am_mOK_e (f := (am_row (am_row (am_row f 89 y5) 91 y4) 92 y6)) q7).1 (am_mOK_e (f := (am_row (am_row (am_row f 89 y5) 91 y4) 92 y6)) q7).2.1 (am_mOK_e (f := (am_row (am_row (am_row f 89 y5) 91 y4) 92 y6)) q7).2.2.1 (am_mOK_e (f := (am_row (am_row (am_row f 89 y5) 91 y4) 92 y6)) q7).2.2.2.1 (am_mOK_e (f := (am_row (am_row (am_row f 89 y5) 91 y4) 92 y6)) q7).2.2.2.2.1 (am_mOK_e (f := (am_row (am_row (am_row f 89 y5) 91 y4) 92 y6)) q7).2.2.2.2.2.1 (am_mOK_e (f := (am_row (am_row (am_row f 89 y5) 91 y4) 92 y6)) q7).2.2.2.2.2.2) (by first | decide | omega) ?_
      (try rw [hy8])
      refine am_F.mem (F' := (am_row (am_row (am_row (am_row (am_row (am_row f 89 y5) 91 y4) 92 y6) 93 y8.1) 94 y8.2.1) 96 y8.2.2)) (G' := g) ?_ (by first | rfl | (funext a; by_cases z0 : a = 89; (subst z0; rfl); by_cases z1 : a = 91; (subst z1; rfl); by_cases z2 : a = 92; (subst z2; rfl); by_cases z3 : a = 93; (subst z3; rfl); by_cases z4 : a = 94; (subst z4; rfl); by_cases z5 : a = 96; (subst z5; rfl); simp only [am_ui, am_ul, am_row_ne z0, am_row_ne z1, am_row_ne z2, am_row_ne z3, am_row_ne z4, am_row_ne z5])) (by first | rfl | (funext a; by_cases z0 : a = 89; (subst z0; rfl); by_cases z1 : a = 91; (subst z1; rfl); by_cases z2 : a = 92; (subst z2; rfl); by_cases z3 : a = 93; (subst z3; rfl); by_cases z4 : a = 94; (subst z4; rfl); by_cases z5 : a = 96; (subst z5; rfl); simp only [am_ui, am_ul, am_row_ne z0, am_row_ne z1, am_row_ne z2, am_row_ne z3, am_row_ne z4, am_row_ne z5]))
      show am_F _ _ 52 [.ref 88, .int (nI a0_n), am_un, am_un, am_un] [] (am_S (am_row (am_row (am_row (am_row (am_row (am_row f 89 y5) 91 y4) 92 y6) 93 y8.1) 94 y8.2.1) 96 y8.2.2) g) _
      refine am_F.ops (pc' := 54) (L' := [.ref 88, .int (nI a0_n), .int 0, am_un, am_un]) (S' := []) (μ' := (am_S (am_row (am_row (am_row (am_row (am_row (am_row f 89 y5) 91 y4) 92 y6) 93 y8.1) 94 y8.2.1) 96 y8.2.2) g)) 2 rfl ?_
      obtain ⟨z54, hz54, hK⟩ := am_ob_e hKn hK
      refine am_F.mem (F' := (am_row (am_row (am_row (am_row (am_row (am_row (am_row (am_row f 88 (f 88)) 89 y5) 91 y4) 92 y6) 93 y8.1) 94 y8.2.1) 96 y8.2.2) 103 (f 103))) (G' := g) ?_ (by first | rfl | (funext a; by_cases z0 : a = 88; (subst z0; rfl); by_cases z1 : a = 89; (subst z1; rfl); by_cases z2 : a = 91; (subst z2; rfl); by_cases z3 : a = 92; (subst z3; rfl); by_cases z4 : a = 93; (subst z4; rfl); by_cases z5 : a = 94; (subst z5; rfl); by_cases z6 : a = 96; (subst z6; rfl); by_cases z7 : a = 103; (subst z7; rfl); simp only [am_ui, am_ul, am_row_ne z0, am_row_ne z1, am_row_ne z2, am_row_ne z3, am_row_ne z4, am_row_ne z5, am_row_ne z6, am_row_ne z7])) (by first | rfl | (funext a; by_cases z0 : a = 88; (subst z0; rfl); by_cases z1 : a = 89; (subst z1; rfl); by_cases z2 : a = 91; (subst z2; rfl); by_cases z3 : a = 92; (subst z3; rfl); by_cases z4 : a = 93; (subst z4; rfl); by_cases z5 : a = 94; (subst z5; rfl); by_cases z6 : a = 96; (subst z6; rfl); by_cases z7 : a = 103; (subst z7; rfl); simp only [am_ui, am_ul, am_row_ne z0, am_row_ne z1, am_row_ne z2, am_row_ne z3, am_row_ne z4, am_row_ne z5, am_row_ne z6, am_row_ne z7]))
      show am_F _ _ 54 [.ref 88, .int (nI a0_n), .int (nI 0), am_un, am_un] [] (am_S (am_row (am_row (am_row (am_row (am_row (am_row (am_row (am_row f 88 (f 88)) 89 y5) 91 y4) 92 y6) 93 y8.1) 94 y8.2.1) 96 y8.2.2) 103 (f 103)) g) _
      refine lp_m_since_54 a0_n f g y4 y5 y6 y8 hmk hlC hlN hrC hrN hl0 hl5 hl2 ha0_n _ 2048 0 (f 88) (f 103)  (by omega) ?_
      rw [show am_forO (st_m_since_54 f y4 y5 y6 y8) 2048 0 (f 88, f 103) = (lf_m_since_54 f y4 y5 y6 y8) from rfl, hz54]
      rcases z54 with z54 | z
      · intro wc54
        show am_F _ _ 95 [.ref 88, .int (nI a0_n), wc54, am_un, am_un] [] (am_S (am_row (am_row (am_row (am_row (am_row (am_row (am_row (am_row f 88 z54.1) 89 y5) 91 y4) 92 y6) 93 y8.1) 94 y8.2.1) 96 y8.2.2) 103 z54.2) g) _
        (try simp only [Sum.elim_inl] at hK)
        refine am_F.ops (pc' := 103) (L' := [.ref 88, .int (nI a0_n), wc54, am_un, am_un]) (S' := [.ref 89, .ref 91]) (μ' := (am_S (am_row (am_row (am_row (am_row (am_row (am_row (am_row (am_row f 88 z54.1) 89 y5) 91 y4) 92 y6) 93 y8.1) 94 y8.2.1) 96 y8.2.2) 103 z54.2) g)) 4 rfl ?_
        obtain ⟨y13, hy13⟩ : ∃ z, (fn_m_copiesMS (am_row (am_row (am_row (am_row (am_row (am_row (am_row (am_row f 88 z54.1) 89 y5) 91 y4) 92 y6) 93 y8.1) 94 y8.2.1) 96 y8.2.2) 103 z54.2)) = z := ⟨_, rfl⟩
        (try rw [hy13] at hK)
        refine am_F.call rfl rfl (x_m_copiesMS  (am_row (am_row (am_row (am_row (am_row (am_row (am_row (am_row f 88 z54.1) 89 y5) 91 y4) 92 y6) 93 y8.1) 94 y8.2.1) 96 y8.2.2) 103 z54.2) g ) (by first | decide | omega) ?_
        (try rw [hy13])
        refine am_F.mem (F' := (am_row (am_row (am_row (am_row (am_row (am_row (am_row (am_row f 88 z54.1) 89 y13) 91 y4) 92 y6) 93 y8.1) 94 y8.2.1) 96 y8.2.2) 103 z54.2)) (G' := g) ?_ (by first | rfl | (funext a; by_cases z0 : a = 88; (subst z0; rfl); by_cases z1 : a = 89; (subst z1; rfl); by_cases z2 : a = 91; (subst z2; rfl); by_cases z3 : a = 92; (subst z3; rfl); by_cases z4 : a = 93; (subst z4; rfl); by_cases z5 : a = 94; (subst z5; rfl); by_cases z6 : a = 96; (subst z6; rfl); by_cases z7 : a = 103; (subst z7; rfl); simp only [am_ui, am_ul, am_row_ne z0, am_row_ne z1, am_row_ne z2, am_row_ne z3, am_row_ne z4, am_row_ne z5, am_row_ne z6, am_row_ne z7])) (by first | rfl | (funext a; by_cases z0 : a = 88; (subst z0; rfl); by_cases z1 : a = 89; (subst z1; rfl); by_cases z2 : a = 91; (subst z2; rfl); by_cases z3 : a = 92; (subst z3; rfl); by_cases z4 : a = 93; (subst z4; rfl); by_cases z5 : a = 94; (subst z5; rfl); by_cases z6 : a = 96; (subst z6; rfl); by_cases z7 : a = 103; (subst z7; rfl); simp only [am_ui, am_ul, am_row_ne z0, am_row_ne z1, am_row_ne z2, am_row_ne z3, am_row_ne z4, am_row_ne z5, am_row_ne z6, am_row_ne z7]))
        show am_F _ _ 106 [.ref 88, .int (nI a0_n), wc54, am_un, am_un] [] (am_S (am_row (am_row (am_row (am_row (am_row (am_row (am_row (am_row f 88 z54.1) 89 y13) 91 y4) 92 y6) 93 y8.1) 94 y8.2.1) 96 y8.2.2) 103 z54.2) g) _
        refine am_F.ops (pc' := 107) (L' := [.ref 88, .int (nI a0_n), wc54, am_un, am_un]) (S' := [.ref 88]) (μ' := (am_S (am_row (am_row (am_row (am_row (am_row (am_row (am_row (am_row f 88 z54.1) 89 y13) 91 y4) 92 y6) 93 y8.1) 94 y8.2.1) 96 y8.2.2) 103 z54.2) g)) 1 rfl ?_
        obtain ⟨y14, hy14, hK⟩ := am_ob_e hKn hK
        refine am_F.call rfl rfl (x_m_lattice  (am_row (am_row (am_row (am_row (am_row (am_row (am_row (am_row f 88 z54.1) 89 y13) 91 y4) 92 y6) 93 y8.1) 94 y8.2.1) 96 y8.2.2) 103 z54.2) g  y14 hy14) (by first | decide | omega) ?_
        refine am_F.mem (F' := (am_row (am_row (am_row (am_row (am_row (am_row (am_row (am_row f 88 z54.1) 89 y13) 91 y4) 92 y14) 93 y8.1) 94 y8.2.1) 96 y8.2.2) 103 z54.2)) (G' := g) ?_ (by first | rfl | (funext a; by_cases z0 : a = 88; (subst z0; rfl); by_cases z1 : a = 89; (subst z1; rfl); by_cases z2 : a = 91; (subst z2; rfl); by_cases z3 : a = 92; (subst z3; rfl); by_cases z4 : a = 93; (subst z4; rfl); by_cases z5 : a = 94; (subst z5; rfl); by_cases z6 : a = 96; (subst z6; rfl); by_cases z7 : a = 103; (subst z7; rfl); simp only [am_ui, am_ul, am_row_ne z0, am_row_ne z1, am_row_ne z2, am_row_ne z3, am_row_ne z4, am_row_ne z5, am_row_ne z6, am_row_ne z7])) (by first | rfl | (funext a; by_cases z0 : a = 88; (subst z0; rfl); by_cases z1 : a = 89; (subst z1; rfl); by_cases z2 : a = 91; (subst z2; rfl); by_cases z3 : a = 92; (subst z3; rfl); by_cases z4 : a = 93; (subst z4; rfl); by_cases z5 : a = 94; (subst z5; rfl); by_cases z6 : a = 96; (subst z6; rfl); by_cases z7 : a = 103; (subst z7; rfl); simp only [am_ui, am_ul, am_row_ne z0, am_row_ne z1, am_row_ne z2, am_row_ne z3, am_row_ne z4, am_row_ne z5, am_row_ne z6, am_row_ne z7]))
        show am_F _ _ 110 [.ref 88, .int (nI a0_n), wc54, am_un, am_un] [] (am_S (am_row (am_row (am_row (am_row (am_row (am_row (am_row (am_row f 88 z54.1) 89 y13) 91 y4) 92 y14) 93 y8.1) 94 y8.2.1) 96 y8.2.2) 103 z54.2) g) _
        refine am_F.ops (pc' := 111) (L' := [.ref 88, .int (nI a0_n), wc54, am_un, am_un]) (S' := [.ref 88]) (μ' := (am_S (am_row (am_row (am_row (am_row (am_row (am_row (am_row (am_row f 88 z54.1) 89 y13) 91 y4) 92 y14) 93 y8.1) 94 y8.2.1) 96 y8.2.2) 103 z54.2) g)) 1 rfl ?_
        obtain ⟨q15, hK⟩ := am_chk_e hKn hK
        obtain ⟨y16, hy16⟩ : ∃ z, (fn_m_holders_154 (am_row (am_row (am_row (am_row (am_row (am_row (am_row (am_row f 88 z54.1) 89 y13) 91 y4) 92 y14) 93 y8.1) 94 y8.2.1) 96 y8.2.2) 103 z54.2)) = z := ⟨_, rfl⟩
        (try rw [hy16] at hK)
        refine am_F.call rfl rfl (x_m_holders_154  (am_row (am_row (am_row (am_row (am_row (am_row (am_row (am_row f 88 z54.1) 89 y13) 91 y4) 92 y14) 93 y8.1) 94 y8.2.1) 96 y8.2.2) 103 z54.2) g (am_mOK_e (f := (am_row (am_row (am_row (am_row (am_row (am_row (am_row (am_row f 88 z54.1) 89 y13) 91 y4) 92 y14) 93 y8.1) 94 y8.2.1) 96 y8.2.2) 103 z54.2)) q15).1 (am_mOK_e (f := (am_row (am_row (am_row (am_row (am_row (am_row (am_row (am_row f 88 z54.1) 89 y13) 91 y4) 92 y14) 93 y8.1) 94 y8.2.1) 96 y8.2.2) 103 z54.2)) q15).2.1 (am_mOK_e (f := (am_row (am_row (am_row (am_row (am_row (am_row (am_row (am_row f 88 z54.1) 89 y13) 91 y4) 92 y14) 93 y8.1) 94 y8.2.1) 96 y8.2.2) 103 z54.2)) q15).2.2.1 (am_mOK_e (f := (am_row (am_row (am_row (am_row (am_row (am_row (am_row (am_row f 88 z54.1) 89 y13) 91 y4) 92 y14) 93 y8.1) 94 y8.2.1) 96 y8.2.2) 103 z54.2)) q15).2.2.2.1 (am_mOK_e (f := (am_row (am_row (am_row (am_row (am_row (am_row (am_row (am_row f 88 z54.1) 89 y13) 91 y4) 92 y14) 93 y8.1) 94 y8.2.1) 96 y8.2.2) 103 z54.2)) q15).2.2.2.2.1 (am_mOK_e (f := (am_row (am_row (am_row (am_row (am_row (am_row (am_row (am_row f 88 z54.1) 89 y13) 91 y4) 92 y14) 93 y8.1) 94 y8.2.1) 96 y8.2.2) 103 z54.2)) q15).2.2.2.2.2.1 (am_mOK_e (f := (am_row (am_row (am_row (am_row (am_row (am_row (am_row (am_row f 88 z54.1) 89 y13) 91 y4) 92 y14) 93 y8.1) 94 y8.2.1) 96 y8.2.2) 103 z54.2)) q15).2.2.2.2.2.2) (by first | decide | omega) ?_
        (try rw [hy16])
        refine am_F.mem (F' := (am_row (am_row (am_row (am_row (am_row (am_row (am_row (am_row f 88 z54.1) 89 y13) 91 y4) 92 y14) 93 y16.1) 94 y16.2.1) 96 y16.2.2) 103 z54.2)) (G' := g) ?_ (by first | rfl | (funext a; by_cases z0 : a = 88; (subst z0; rfl); by_cases z1 : a = 89; (subst z1; rfl); by_cases z2 : a = 91; (subst z2; rfl); by_cases z3 : a = 92; (subst z3; rfl); by_cases z4 : a = 93; (subst z4; rfl); by_cases z5 : a = 94; (subst z5; rfl); by_cases z6 : a = 96; (subst z6; rfl); by_cases z7 : a = 103; (subst z7; rfl); simp only [am_ui, am_ul, am_row_ne z0, am_row_ne z1, am_row_ne z2, am_row_ne z3, am_row_ne z4, am_row_ne z5, am_row_ne z6, am_row_ne z7])) (by first | rfl | (funext a; by_cases z0 : a = 88; (subst z0; rfl); by_cases z1 : a = 89; (subst z1; rfl); by_cases z2 : a = 91; (subst z2; rfl); by_cases z3 : a = 92; (subst z3; rfl); by_cases z4 : a = 93; (subst z4; rfl); by_cases z5 : a = 94; (subst z5; rfl); by_cases z6 : a = 96; (subst z6; rfl); by_cases z7 : a = 103; (subst z7; rfl); simp only [am_ui, am_ul, am_row_ne z0, am_row_ne z1, am_row_ne z2, am_row_ne z3, am_row_ne z4, am_row_ne z5, am_row_ne z6, am_row_ne z7]))
        show am_F _ _ 114 [.ref 88, .int (nI a0_n), wc54, am_un, am_un] [] (am_S (am_row (am_row (am_row (am_row (am_row (am_row (am_row (am_row f 88 z54.1) 89 y13) 91 y4) 92 y14) 93 y16.1) 94 y16.2.1) 96 y16.2.2) 103 z54.2) g) _
        refine am_F.ops (pc' := 118) (L' := [.ref 88, .int (nI a0_n), .int 0, .int 0, am_un]) (S' := []) (μ' := (am_S (am_row (am_row (am_row (am_row (am_row (am_row (am_row (am_row f 88 z54.1) 89 y13) 91 y4) 92 y14) 93 y16.1) 94 y16.2.1) 96 y16.2.2) 103 z54.2) g)) 4 rfl ?_
        obtain ⟨z118, hz118, hK⟩ := am_ob_e hKn hK
        show am_F _ _ 118 [.ref 88, .int (nI a0_n), .int 0, .int (nI 0), am_un] [] (am_S (am_row (am_row (am_row (am_row (am_row (am_row (am_row (am_row f 88 z54.1) 89 y13) 91 y4) 92 y14) 93 y16.1) 94 y16.2.1) 96 y16.2.2) 103 z54.2) g) _
        refine lp_m_since_118 a0_n f g y4 y5 y6 y8 z54 wc54 y13 y14 y16 hmk hlC hlN hrC hrN hl0 hl5 hl2 ha0_n _ 2048 0 0 z54.1 am_un (by omega) ?_
        rw [show am_forO (st_m_since_118 a0_n f y4 z54 y13 y14 y16) 2048 0 (0, z54.1) = (lf_m_since_118 a0_n f y4 z54 y13 y14 y16) from rfl, hz118]
        rcases z118 with z118 | z
        · intro wc118 w118_4
          show am_F _ _ 186 [.ref 88, .int (nI a0_n), .int z118.1, wc118, w118_4] [] (am_S (am_row (am_row (am_row (am_row (am_row (am_row (am_row (am_row f 88 z118.2) 89 y13) 91 y4) 92 y14) 93 y16.1) 94 y16.2.1) 96 y16.2.2) 103 z54.2) g) _
          (try simp only [Sum.elim_inl] at hK)
          refine am_F.ops (pc' := 187) (L' := [.ref 88, .int (nI a0_n), .int z118.1, wc118, w118_4]) (S' := [.int z118.1]) (μ' := (am_S (am_row (am_row (am_row (am_row (am_row (am_row (am_row (am_row f 88 z118.2) 89 y13) 91 y4) 92 y14) 93 y16.1) 94 y16.2.1) 96 y16.2.2) 103 z54.2) g)) 1 rfl ?_
          subst hKd
          have hQ := am_KO_s hK
          exact am_F.eq (am_F.ret rfl rfl) hQ
        · exact z.elim
      · exact z.elim
  · show am_F _ _ 10 [.ref 88, .int a0, am_un, am_un, am_un] [] (am_S f g) _
    refine am_F.ops (pc' := 11) (L' := [.ref 88, .int a0, am_un, am_un, am_un]) (S' := [.int (-1)]) (μ' := (am_S f g)) 1 rfl ?_
    refine am_F.mem (F' := (am_row (am_row (am_row (am_row (am_row (am_row (am_row (am_row f 88 (f 88)) 89 (f 89)) 91 (f 91)) 92 (f 92)) 93 (f 93)) 94 (f 94)) 96 (f 96)) 103 (f 103))) (G' := g) ?_ (by first | rfl | (funext a; by_cases z0 : a = 88; (subst z0; rfl); by_cases z1 : a = 89; (subst z1; rfl); by_cases z2 : a = 91; (subst z2; rfl); by_cases z3 : a = 92; (subst z3; rfl); by_cases z4 : a = 93; (subst z4; rfl); by_cases z5 : a = 94; (subst z5; rfl); by_cases z6 : a = 96; (subst z6; rfl); by_cases z7 : a = 103; (subst z7; rfl); simp only [am_ui, am_ul, am_row_ne z0, am_row_ne z1, am_row_ne z2, am_row_ne z3, am_row_ne z4, am_row_ne z5, am_row_ne z6, am_row_ne z7])) (by first | rfl | (funext a; by_cases z0 : a = 88; (subst z0; rfl); by_cases z1 : a = 89; (subst z1; rfl); by_cases z2 : a = 91; (subst z2; rfl); by_cases z3 : a = 92; (subst z3; rfl); by_cases z4 : a = 93; (subst z4; rfl); by_cases z5 : a = 94; (subst z5; rfl); by_cases z6 : a = 96; (subst z6; rfl); by_cases z7 : a = 103; (subst z7; rfl); simp only [am_ui, am_ul, am_row_ne z0, am_row_ne z1, am_row_ne z2, am_row_ne z3, am_row_ne z4, am_row_ne z5, am_row_ne z6, am_row_ne z7]))
    subst hKd
    have hQ := am_KO_s hK
    exact am_F.eq (am_F.ret rfl rfl) hQ
/-- AccessLatticeModel.may, with checks -/
noncomputable def fn_m_may (a0 : Int32) (a1 : Int32) (a2 : Int32) (f : Nat → Nat → Int32) : Option (Int32 × (Nat → Int32) × (Nat → Int32) × (Nat → Int32) × (Nat → Int32) × (Nat → Int32) × (Nat → Int32) × (Nat → Int32) × (Nat → Int32)) := (bif (fn_m_isAsk a0 a1 a2) then (am_ob (fn_m_answer a0 a1 a2 (am_row (am_row (am_row f 93 (fn_m_holders_154 f).1) 94 (fn_m_holders_154 f).2.1) 96 (fn_m_holders_154 f).2.2)) (fun (y4 : Int32 × (Nat → Int32)) => (am_ob (fn_m_books a0 a1 a2 y4.1 (am_row (am_row (am_row (am_row f 88 (upd y4.2 23 0)) 93 (fn_m_holders_154 f).1) 94 (fn_m_holders_154 f).2.1) 96 (fn_m_holders_154 f).2.2)) (fun (y5 : (Nat → Int32)) => (if y4.1 = 0 then (some (y4.1, upd y4.2 23 0, y5, (fn_m_holders_154 f).1, (fn_m_holders_154 f).2.1, f 95, (fn_m_holders_154 f).2.2, f 99, f 100)) else (am_chk (am_mOK y5) (am_ob (fn_m_groundsOf a0 (am_row (am_row (am_row (am_row (am_row f 88 (upd y4.2 23 0)) 89 y5) 93 (fn_m_holders_154 f).1) 94 (fn_m_holders_154 f).2.1) 96 (fn_m_holders_154 f).2.2)) (fun (y8 : (Nat → Int32) × (Nat → Int32) × (Nat → Int32) × (Nat → Int32)) => (am_chk (am_inb (y8.1 24) 30 = true) (if (fn_m_ruleAt (y8.1 24).toNatClampNeg 7 (am_row (am_row (am_row (am_row (am_row (am_row (am_row (am_row f 88 y8.1) 89 y5) 93 (fn_m_holders_154 f).1) 94 (fn_m_holders_154 f).2.1) 95 y8.2.1) 96 (fn_m_holders_154 f).2.2) 99 y8.2.2.1) 100 y8.2.2.2)) ≤ 0 then (some (y4.1, y8.1, y5, (fn_m_holders_154 f).1, (fn_m_holders_154 f).2.1, y8.2.1, (fn_m_holders_154 f).2.2, y8.2.2.1, y8.2.2.2)) else (am_chk (am_inb ((490 + (9 * (y8.1 24))) + 7) 3340 = true) (some (y4.1, y8.1, upd y5 (((490 + (9 * (y8.1 24))) + 7).toNatClampNeg) ((y5 (((490 + (9 * (y8.1 24))) + 7).toNatClampNeg)) - 1), (fn_m_holders_154 f).1, (fn_m_holders_154 f).2.1, y8.2.1, (fn_m_holders_154 f).2.2, y8.2.2.1, y8.2.2.2))))))))))))) else (some ((-1), f 88, f 89, f 93, f 94, f 95, f 96, f 99, f 100)))
theorem x_m_may (a0 : Int32) (a1 : Int32) (a2 : Int32) (f : Nat → Nat → Int32) (g : Nat → Nat → Int64) (hmk : am_mOK (f 89)) (z0 : Int32 × (Nat → Int32) × (Nat → Int32) × (Nat → Int32) × (Nat → Int32) × (Nat → Int32) × (Nat → Int32) × (Nat → Int32) × (Nat → Int32)) (hz0 : (fn_m_may a0 a1 a2 f) = some z0) : am_D 84 196 5 [.ref 88, .int a0, .int a1, .int a2] (am_S f g) (some (Value.int z0.1), am_S (am_row (am_row (am_row (am_row (am_row (am_row (am_row (am_row f 88 z0.2.1) 89 z0.2.2.1) 93 z0.2.2.2.1) 94 z0.2.2.2.2.1) 95 z0.2.2.2.2.2.1) 96 z0.2.2.2.2.2.2.1) 99 z0.2.2.2.2.2.2.2.1) 100 z0.2.2.2.2.2.2.2.2) g) := by
  obtain ⟨hlC, hlN, hrC, hrN, hl0, hl5, hl2⟩ := am_mOK_e hmk
  refine am_D.of (code := am_k_196) rfl (L0 := [.ref 88, .int a0, .int a1, .int a2, am_un]) rfl ?_
  generalize hres : (some (Value.int z0.1), am_S (am_row (am_row (am_row (am_row (am_row (am_row (am_row (am_row f 88 z0.2.1) 89 z0.2.2.1) 93 z0.2.2.2.1) 94 z0.2.2.2.2.1) 95 z0.2.2.2.2.2.1) 96 z0.2.2.2.2.2.2.1) 99 z0.2.2.2.2.2.2.2.1) 100 z0.2.2.2.2.2.2.2.2) g) = res
  obtain ⟨K, hKd⟩ : ∃ K : Option (Int32 × (Nat → Int32) × (Nat → Int32) × (Nat → Int32) × (Nat → Int32) × (Nat → Int32) × (Nat → Int32) × (Nat → Int32) × (Nat → Int32)) → Prop, K = am_KO (fun z => (some (Value.int z.1), am_S (am_row (am_row (am_row (am_row (am_row (am_row (am_row (am_row f 88 z.2.1) 89 z.2.2.1) 93 z.2.2.2.1) 94 z.2.2.2.2.1) 95 z.2.2.2.2.2.1) 96 z.2.2.2.2.2.2.1) 99 z.2.2.2.2.2.2.2.1) 100 z.2.2.2.2.2.2.2.2) g) = res) := ⟨_, rfl⟩
  have hK : K (fn_m_may a0 a1 a2 f) := by rw [hKd, hz0]; exact hres
  have hKn : ¬ K none := by rw [hKd]; exact id
  clear hres hz0
  unfold fn_m_may at hK
  refine am_F.ops (pc' := 3) (L' := [.ref 88, .int a0, .int a1, .int a2, am_un]) (S' := [.int a2, .int a1, .int a0]) (μ' := (am_S f g)) 3 rfl ?_
  refine am_F.call rfl rfl (x_m_isAsk a0 a1 a2 f g ) (by first | decide | omega) ?_
  show am_F _ _ 6 [.ref 88, .int a0, .int a1, .int a2, am_un] [.int (am_b (fn_m_isAsk a0 a1 a2))] (am_S f g) _
  refine am_F.bifK 1 rfl K hK (fun c2 hK => ?_) (fun c2 hK => ?_)
  · obtain ⟨a0_n, ha0_n, ea0_n⟩ := (am_mAsk c2).1
    obtain ⟨a1_n, ha1_n, ea1_n⟩ := (am_mAsk c2).2.1
    obtain ⟨a2_n, ha2_n, ea2_n⟩ := (am_mAsk c2).2.2
    subst ea0_n
    try simp only [nI_clamp (show a0_n < 2147483648 by omega)] at hK
    subst ea1_n
    try simp only [nI_clamp (show a1_n < 2147483648 by omega)] at hK
    subst ea2_n
    try simp only [nI_clamp (show a2_n < 2147483648 by omega)] at hK
    show am_F _ _ 11 [.ref 88, .int (nI a0_n), .int (nI a1_n), .int (nI a2_n), am_un] [] (am_S f g) _
    refine am_F.ops (pc' := 12) (L' := [.ref 88, .int (nI a0_n), .int (nI a1_n), .int (nI a2_n), am_un]) (S' := [.ref 88]) (μ' := (am_S f g)) 1 rfl ?_
    obtain ⟨y3, hy3⟩ : ∃ z, (fn_m_holders_154 f) = z := ⟨_, rfl⟩
    (try rw [hy3] at hK)
    refine am_F.call rfl rfl (x_m_holders_154  f g hlC hlN hrC hrN hl0 hl5 hl2) (by first | decide | omega) ?_
    (try rw [hy3])
    refine am_F.mem (F' := (am_row (am_row (am_row f 93 y3.1) 94 y3.2.1) 96 y3.2.2)) (G' := g) ?_ (by first | rfl | (funext a; by_cases z0 : a = 93; (subst z0; rfl); by_cases z1 : a = 94; (subst z1; rfl); by_cases z2 : a = 96; (subst z2; rfl); simp only [am_ui, am_ul, am_row_ne z0, am_row_ne z1, am_row_ne z2])) (by first | rfl | (funext a; by_cases z0 : a = 93; (subst z0; rfl); by_cases z1 : a = 94; (subst z1; rfl); by_cases z2 : a = 96; (subst z2; rfl); simp only [am_ui, am_ul, am_row_ne z0, am_row_ne z1, am_row_ne z2]))
    show am_F _ _ 15 [.ref 88, .int (nI a0_n), .int (nI a1_n), .int (nI a2_n), am_un] [] (am_S (am_row (am_row (am_row f 93 y3.1) 94 y3.2.1) 96 y3.2.2) g) _
    refine am_F.ops (pc' := 19) (L' := [.ref 88, .int (nI a0_n), .int (nI a1_n), .int (nI a2_n), am_un]) (S' := [.int (nI a2_n), .int (nI a1_n), .int (nI a0_n), .ref 88]) (μ' := (am_S (am_row (am_row (am_row f 93 y3.1) 94 y3.2.1) 96 y3.2.2) g)) 4 rfl ?_
    obtain ⟨y4, hy4, hK⟩ := am_ob_e hKn hK
    refine am_F.call rfl rfl (x_m_answer (nI a0_n) (nI a1_n) (nI a2_n) (am_row (am_row (am_row f 93 y3.1) 94 y3.2.1) 96 y3.2.2) g hmk y4 hy4) (by first | decide | omega) ?_
    refine am_F.mem (F' := (am_row (am_row (am_row (am_row f 88 y4.2) 93 y3.1) 94 y3.2.1) 96 y3.2.2)) (G' := g) ?_ (by first | rfl | (funext a; by_cases z0 : a = 88; (subst z0; rfl); by_cases z1 : a = 93; (subst z1; rfl); by_cases z2 : a = 94; (subst z2; rfl); by_cases z3 : a = 96; (subst z3; rfl); simp only [am_ui, am_ul, am_row_ne z0, am_row_ne z1, am_row_ne z2, am_row_ne z3])) (by first | rfl | (funext a; by_cases z0 : a = 88; (subst z0; rfl); by_cases z1 : a = 93; (subst z1; rfl); by_cases z2 : a = 94; (subst z2; rfl); by_cases z3 : a = 96; (subst z3; rfl); simp only [am_ui, am_ul, am_row_ne z0, am_row_ne z1, am_row_ne z2, am_row_ne z3]))
    show am_F _ _ 22 [.ref 88, .int (nI a0_n), .int (nI a1_n), .int (nI a2_n), am_un] [.int y4.1] (am_S (am_row (am_row (am_row (am_row f 88 y4.2) 93 y3.1) 94 y3.2.1) 96 y3.2.2) g) _
    refine am_F.ops (pc' := 26) (L' := [.ref 88, .int (nI a0_n), .int (nI a1_n), .int (nI a2_n), .int y4.1]) (S' := [.int 0, .ref 88]) (μ' := (am_S (am_row (am_row (am_row (am_row f 88 y4.2) 93 y3.1) 94 y3.2.1) 96 y3.2.2) g)) 3 rfl ?_
    refine am_F.pfi (F' := (am_row (am_row (am_row (am_row f 88 (upd y4.2 23 0)) 93 y3.1) 94 y3.2.1) 96 y3.2.2)) rfl rfl (by first | rfl | (funext a; by_cases z0 : a = 88; (subst z0; rfl); by_cases z1 : a = 93; (subst z1; rfl); by_cases z2 : a = 94; (subst z2; rfl); by_cases z3 : a = 96; (subst z3; rfl); simp only [am_ui, am_ul, am_row_ne z0, am_row_ne z1, am_row_ne z2, am_row_ne z3])) ?_
    refine am_F.ops (pc' := 35) (L' := [.ref 88, .int (nI a0_n), .int (nI a1_n), .int (nI a2_n), .int y4.1]) (S' := [.int y4.1, .int (nI a2_n), .int (nI a1_n), .int (nI a0_n), .ref 88]) (μ' := (am_S (am_row (am_row (am_row (am_row f 88 (upd y4.2 23 0)) 93 y3.1) 94 y3.2.1) 96 y3.2.2) g)) 5 rfl ?_
    obtain ⟨y5, hy5, hK⟩ := am_ob_e hKn hK
    refine am_F.call rfl rfl (x_m_books (nI a0_n) (nI a1_n) (nI a2_n) y4.1 (am_row (am_row (am_row (am_row f 88 (upd y4.2 23 0)) 93 y3.1) 94 y3.2.1) 96 y3.2.2) g  y5 hy5) (by first | decide | omega) ?_
    refine am_F.mem (F' := (am_row (am_row (am_row (am_row (am_row f 88 (upd y4.2 23 0)) 89 y5) 93 y3.1) 94 y3.2.1) 96 y3.2.2)) (G' := g) ?_ (by first | rfl | (funext a; by_cases z0 : a = 88; (subst z0; rfl); by_cases z1 : a = 89; (subst z1; rfl); by_cases z2 : a = 93; (subst z2; rfl); by_cases z3 : a = 94; (subst z3; rfl); by_cases z4 : a = 96; (subst z4; rfl); simp only [am_ui, am_ul, am_row_ne z0, am_row_ne z1, am_row_ne z2, am_row_ne z3, am_row_ne z4])) (by first | rfl | (funext a; by_cases z0 : a = 88; (subst z0; rfl); by_cases z1 : a = 89; (subst z1; rfl); by_cases z2 : a = 93; (subst z2; rfl); by_cases z3 : a = 94; (subst z3; rfl); by_cases z4 : a = 96; (subst z4; rfl); simp only [am_ui, am_ul, am_row_ne z0, am_row_ne z1, am_row_ne z2, am_row_ne z3, am_row_ne z4]))
    show am_F _ _ 38 [.ref 88, .int (nI a0_n), .int (nI a1_n), .int (nI a2_n), .int y4.1] [] (am_S (am_row (am_row (am_row (am_row (am_row f 88 (upd y4.2 23 0)) 89 y5) 93 y3.1) 94 y3.2.1) 96 y3.2.2) g) _
    refine am_F.ops (pc' := 40) (L' := [.ref 88, .int (nI a0_n), .int (nI a1_n), .int (nI a2_n), .int y4.1]) (S' := [.int y4.1]) (μ' := (am_S (am_row (am_row (am_row (am_row (am_row f 88 (upd y4.2 23 0)) 89 y5) 93 y3.1) 94 y3.2.1) 96 y3.2.2) g)) 1 rfl ?_
    refine am_F.iteK 1 rfl K hK (fun c6 hK => ?_) (fun c6 hK => ?_)
    · show am_F _ _ 43 [.ref 88, .int (nI a0_n), .int (nI a1_n), .int (nI a2_n), .int y4.1] [] (am_S (am_row (am_row (am_row (am_row (am_row f 88 (upd y4.2 23 0)) 89 y5) 93 y3.1) 94 y3.2.1) 96 y3.2.2) g) _
      refine am_F.ops (pc' := 45) (L' := [.ref 88, .int (nI a0_n), .int (nI a1_n), .int (nI a2_n), .int y4.1]) (S' := [.int y4.1]) (μ' := (am_S (am_row (am_row (am_row (am_row (am_row f 88 (upd y4.2 23 0)) 89 y5) 93 y3.1) 94 y3.2.1) 96 y3.2.2) g)) 1 rfl ?_
      refine am_F.mem (F' := (am_row (am_row (am_row (am_row (am_row (am_row (am_row (am_row f 88 (upd y4.2 23 0)) 89 y5) 93 y3.1) 94 y3.2.1) 95 (f 95)) 96 y3.2.2) 99 (f 99)) 100 (f 100))) (G' := g) ?_ (by first | rfl | (funext a; by_cases z0 : a = 88; (subst z0; rfl); by_cases z1 : a = 89; (subst z1; rfl); by_cases z2 : a = 93; (subst z2; rfl); by_cases z3 : a = 94; (subst z3; rfl); by_cases z4 : a = 95; (subst z4; rfl); by_cases z5 : a = 96; (subst z5; rfl); by_cases z6 : a = 99; (subst z6; rfl); by_cases z7 : a = 100; (subst z7; rfl); simp only [am_ui, am_ul, am_row_ne z0, am_row_ne z1, am_row_ne z2, am_row_ne z3, am_row_ne z4, am_row_ne z5, am_row_ne z6, am_row_ne z7])) (by first | rfl | (funext a; by_cases z0 : a = 88; (subst z0; rfl); by_cases z1 : a = 89; (subst z1; rfl); by_cases z2 : a = 93; (subst z2; rfl); by_cases z3 : a = 94; (subst z3; rfl); by_cases z4 : a = 95; (subst z4; rfl); by_cases z5 : a = 96; (subst z5; rfl); by_cases z6 : a = 99; (subst z6; rfl); by_cases z7 : a = 100; (subst z7; rfl); simp only [am_ui, am_ul, am_row_ne z0, am_row_ne z1, am_row_ne z2, am_row_ne z3, am_row_ne z4, am_row_ne z5, am_row_ne z6, am_row_ne z7]))
      subst hKd
      have hQ := am_KO_s hK
      exact am_F.eq (am_F.ret rfl rfl) hQ
    · show am_F _ _ 46 [.ref 88, .int (nI a0_n), .int (nI a1_n), .int (nI a2_n), .int y4.1] [] (am_S (am_row (am_row (am_row (am_row (am_row f 88 (upd y4.2 23 0)) 89 y5) 93 y3.1) 94 y3.2.1) 96 y3.2.2) g) _
      refine am_F.ops (pc' := 48) (L' := [.ref 88, .int (nI a0_n), .int (nI a1_n), .int (nI a2_n), .int y4.1]) (S' := [.int (nI a0_n), .ref 88]) (μ' := (am_S (am_row (am_row (am_row (am_row (am_row f 88 (upd y4.2 23 0)) 89 y5) 93 y3.1) 94 y3.2.1) 96 y3.2.2) g)) 2 rfl ?_
      obtain ⟨q7, hK⟩ := am_chk_e hKn hK
      obtain ⟨y8, hy8, hK⟩ := am_ob_e hKn hK
      refine am_F.call rfl rfl (x_m_groundsOf (nI a0_n) (am_row (am_row (am_row (am_row (am_row f 88 (upd y4.2 23 0)) 89 y5) 93 y3.1) 94 y3.2.1) 96 y3.2.2) g q7 y8 hy8) (by first | decide | omega) ?_
      refine am_F.mem (F' := (am_row (am_row (am_row (am_row (am_row (am_row (am_row (am_row f 88 y8.1) 89 y5) 93 y3.1) 94 y3.2.1) 95 y8.2.1) 96 y3.2.2) 99 y8.2.2.1) 100 y8.2.2.2)) (G' := g) ?_ (by first | rfl | (funext a; by_cases z0 : a = 88; (subst z0; rfl); by_cases z1 : a = 89; (subst z1; rfl); by_cases z2 : a = 93; (subst z2; rfl); by_cases z3 : a = 94; (subst z3; rfl); by_cases z4 : a = 95; (subst z4; rfl); by_cases z5 : a = 96; (subst z5; rfl); by_cases z6 : a = 99; (subst z6; rfl); by_cases z7 : a = 100; (subst z7; rfl); simp only [am_ui, am_ul, am_row_ne z0, am_row_ne z1, am_row_ne z2, am_row_ne z3, am_row_ne z4, am_row_ne z5, am_row_ne z6, am_row_ne z7])) (by first | rfl | (funext a; by_cases z0 : a = 88; (subst z0; rfl); by_cases z1 : a = 89; (subst z1; rfl); by_cases z2 : a = 93; (subst z2; rfl); by_cases z3 : a = 94; (subst z3; rfl); by_cases z4 : a = 95; (subst z4; rfl); by_cases z5 : a = 96; (subst z5; rfl); by_cases z6 : a = 99; (subst z6; rfl); by_cases z7 : a = 100; (subst z7; rfl); simp only [am_ui, am_ul, am_row_ne z0, am_row_ne z1, am_row_ne z2, am_row_ne z3, am_row_ne z4, am_row_ne z5, am_row_ne z6, am_row_ne z7]))
      show am_F _ _ 51 [.ref 88, .int (nI a0_n), .int (nI a1_n), .int (nI a2_n), .int y4.1] [] (am_S (am_row (am_row (am_row (am_row (am_row (am_row (am_row (am_row f 88 y8.1) 89 y5) 93 y3.1) 94 y3.2.1) 95 y8.2.1) 96 y3.2.2) 99 y8.2.2.1) 100 y8.2.2.2) g) _
      refine am_F.ops (pc' := 58) (L' := [.ref 88, .int (nI a0_n), .int (nI a1_n), .int (nI a2_n), .int y4.1]) (S' := [.int 7, .int (y8.1 24), .ref 88]) (μ' := (am_S (am_row (am_row (am_row (am_row (am_row (am_row (am_row (am_row f 88 y8.1) 89 y5) 93 y3.1) 94 y3.2.1) 95 y8.2.1) 96 y3.2.2) 99 y8.2.2.1) 100 y8.2.2.2) g)) 4 rfl ?_
      obtain ⟨q9, hK⟩ := am_chk_e hKn hK
      refine am_F.call rfl rfl (am_D.args (congrArg (fun (x9 : Int32) => ([.ref 88, .int x9, .int 7] : List Value)) (show (y8.1 24 : Int32) = nI (y8.1 24).toNatClampNeg from (am_inbQ q9).1)) (am_D.args (congrArg (fun (x9 : Int32) => ([.ref 88, .int (nI (y8.1 24).toNatClampNeg), .int x9] : List Value)) (show (7 : Int32) = nI 7 from rfl)) (x_m_ruleAt (y8.1 24).toNatClampNeg 7 (am_row (am_row (am_row (am_row (am_row (am_row (am_row (am_row f 88 y8.1) 89 y5) 93 y3.1) 94 y3.2.1) 95 y8.2.1) 96 y3.2.2) 99 y8.2.2.1) 100 y8.2.2.2) g (am_inbQ q9).2 (by omega)))) (by first | decide | omega) ?_
      show am_F _ _ 61 [.ref 88, .int (nI a0_n), .int (nI a1_n), .int (nI a2_n), .int y4.1] [.int (fn_m_ruleAt (y8.1 24).toNatClampNeg 7 (am_row (am_row (am_row (am_row (am_row (am_row (am_row (am_row f 88 y8.1) 89 y5) 93 y3.1) 94 y3.2.1) 95 y8.2.1) 96 y3.2.2) 99 y8.2.2.1) 100 y8.2.2.2))] (am_S (am_row (am_row (am_row (am_row (am_row (am_row (am_row (am_row f 88 y8.1) 89 y5) 93 y3.1) 94 y3.2.1) 95 y8.2.1) 96 y3.2.2) 99 y8.2.2.1) 100 y8.2.2.2) g) _
      refine am_F.iteK 1 rfl K hK (fun c12 hK => ?_) (fun c12 hK => ?_)
      · show am_F _ _ 87 [.ref 88, .int (nI a0_n), .int (nI a1_n), .int (nI a2_n), .int y4.1] [] (am_S (am_row (am_row (am_row (am_row (am_row (am_row (am_row (am_row f 88 y8.1) 89 y5) 93 y3.1) 94 y3.2.1) 95 y8.2.1) 96 y3.2.2) 99 y8.2.2.1) 100 y8.2.2.2) g) _
        refine am_F.ops (pc' := 89) (L' := [.ref 88, .int (nI a0_n), .int (nI a1_n), .int (nI a2_n), .int y4.1]) (S' := [.int y4.1]) (μ' := (am_S (am_row (am_row (am_row (am_row (am_row (am_row (am_row (am_row f 88 y8.1) 89 y5) 93 y3.1) 94 y3.2.1) 95 y8.2.1) 96 y3.2.2) 99 y8.2.2.1) 100 y8.2.2.2) g)) 1 rfl ?_
        subst hKd
        have hQ := am_KO_s hK
        exact am_F.eq (am_F.ret rfl rfl) hQ
      · show am_F _ _ 64 [.ref 88, .int (nI a0_n), .int (nI a1_n), .int (nI a2_n), .int y4.1] [] (am_S (am_row (am_row (am_row (am_row (am_row (am_row (am_row (am_row f 88 y8.1) 89 y5) 93 y3.1) 94 y3.2.1) 95 y8.2.1) 96 y3.2.2) 99 y8.2.2.1) 100 y8.2.2.2) g) _
        refine am_F.ops (pc' := 83) (L' := [.ref 88, .int (nI a0_n), .int (nI a1_n), .int (nI a2_n), .int y4.1]) (S' := [.int ((490 + (9 * (y8.1 24))) + 7), .ref 89, .int ((490 + (9 * (y8.1 24))) + 7), .ref 89]) (μ' := (am_S (am_row (am_row (am_row (am_row (am_row (am_row (am_row (am_row f 88 y8.1) 89 y5) 93 y3.1) 94 y3.2.1) 95 y8.2.1) 96 y3.2.2) 99 y8.2.2.1) 100 y8.2.2.2) g)) 11 rfl ?_
        obtain ⟨q13, hK⟩ := am_chk_e hKn hK
        refine am_F.ial (N := 3340) rfl rfl rfl q13 ?_
        show am_F _ _ 84 [.ref 88, .int (nI a0_n), .int (nI a1_n), .int (nI a2_n), .int y4.1] [.int (y5 (((490 + (9 * (y8.1 24))) + 7).toNatClampNeg)), .int ((490 + (9 * (y8.1 24))) + 7), .ref 89] (am_S (am_row (am_row (am_row (am_row (am_row (am_row (am_row (am_row f 88 y8.1) 89 y5) 93 y3.1) 94 y3.2.1) 95 y8.2.1) 96 y3.2.2) 99 y8.2.2.1) 100 y8.2.2.2) g) _
        refine am_F.ops (pc' := 86) (L' := [.ref 88, .int (nI a0_n), .int (nI a1_n), .int (nI a2_n), .int y4.1]) (S' := [.int ((y5 (((490 + (9 * (y8.1 24))) + 7).toNatClampNeg)) - 1), .int ((490 + (9 * (y8.1 24))) + 7), .ref 89]) (μ' := (am_S (am_row (am_row (am_row (am_row (am_row (am_row (am_row (am_row f 88 y8.1) 89 y5) 93 y3.1) 94 y3.2.1) 95 y8.2.1) 96 y3.2.2) 99 y8.2.2.1) 100 y8.2.2.2) g)) 2 rfl ?_
        refine am_F.ias (F' := (am_row (am_row (am_row (am_row (am_row (am_row (am_row (am_row f 88 y8.1) 89 (upd y5 (((490 + (9 * (y8.1 24))) + 7).toNatClampNeg) ((y5 (((490 + (9 * (y8.1 24))) + 7).toNatClampNeg)) - 1))) 93 y3.1) 94 y3.2.1) 95 y8.2.1) 96 y3.2.2) 99 y8.2.2.1) 100 y8.2.2.2)) (N := 3340) rfl rfl rfl q13 (by first | rfl | (funext a; by_cases z0 : a = 88; (subst z0; rfl); by_cases z1 : a = 89; (subst z1; rfl); by_cases z2 : a = 93; (subst z2; rfl); by_cases z3 : a = 94; (subst z3; rfl); by_cases z4 : a = 95; (subst z4; rfl); by_cases z5 : a = 96; (subst z5; rfl); by_cases z6 : a = 99; (subst z6; rfl); by_cases z7 : a = 100; (subst z7; rfl); simp only [am_ui, am_ul, am_row_ne z0, am_row_ne z1, am_row_ne z2, am_row_ne z3, am_row_ne z4, am_row_ne z5, am_row_ne z6, am_row_ne z7])) ?_
        refine am_F.ops (pc' := 89) (L' := [.ref 88, .int (nI a0_n), .int (nI a1_n), .int (nI a2_n), .int y4.1]) (S' := [.int y4.1]) (μ' := (am_S (am_row (am_row (am_row (am_row (am_row (am_row (am_row (am_row f 88 y8.1) 89 (upd y5 (((490 + (9 * (y8.1 24))) + 7).toNatClampNeg) ((y5 (((490 + (9 * (y8.1 24))) + 7).toNatClampNeg)) - 1))) 93 y3.1) 94 y3.2.1) 95 y8.2.1) 96 y3.2.2) 99 y8.2.2.1) 100 y8.2.2.2) g)) 1 rfl ?_
        subst hKd
        have hQ := am_KO_s hK
        exact am_F.eq (am_F.ret rfl rfl) hQ
  · show am_F _ _ 9 [.ref 88, .int a0, .int a1, .int a2, am_un] [] (am_S f g) _
    refine am_F.ops (pc' := 10) (L' := [.ref 88, .int a0, .int a1, .int a2, am_un]) (S' := [.int (-1)]) (μ' := (am_S f g)) 1 rfl ?_
    refine am_F.mem (F' := (am_row (am_row (am_row (am_row (am_row (am_row (am_row (am_row f 88 (f 88)) 89 (f 89)) 93 (f 93)) 94 (f 94)) 95 (f 95)) 96 (f 96)) 99 (f 99)) 100 (f 100))) (G' := g) ?_ (by first | rfl | (funext a; by_cases z0 : a = 88; (subst z0; rfl); by_cases z1 : a = 89; (subst z1; rfl); by_cases z2 : a = 93; (subst z2; rfl); by_cases z3 : a = 94; (subst z3; rfl); by_cases z4 : a = 95; (subst z4; rfl); by_cases z5 : a = 96; (subst z5; rfl); by_cases z6 : a = 99; (subst z6; rfl); by_cases z7 : a = 100; (subst z7; rfl); simp only [am_ui, am_ul, am_row_ne z0, am_row_ne z1, am_row_ne z2, am_row_ne z3, am_row_ne z4, am_row_ne z5, am_row_ne z6, am_row_ne z7])) (by first | rfl | (funext a; by_cases z0 : a = 88; (subst z0; rfl); by_cases z1 : a = 89; (subst z1; rfl); by_cases z2 : a = 93; (subst z2; rfl); by_cases z3 : a = 94; (subst z3; rfl); by_cases z4 : a = 95; (subst z4; rfl); by_cases z5 : a = 96; (subst z5; rfl); by_cases z6 : a = 99; (subst z6; rfl); by_cases z7 : a = 100; (subst z7; rfl); simp only [am_ui, am_ul, am_row_ne z0, am_row_ne z1, am_row_ne z2, am_row_ne z3, am_row_ne z4, am_row_ne z5, am_row_ne z6, am_row_ne z7]))
    subst hKd
    have hQ := am_KO_s hK
    exact am_F.eq (am_F.ret rfl rfl) hQ
/-- AccessLatticeModel.who, with checks -/
noncomputable def fn_m_who (a0 : Int32) (a1 : Int32) (a2 : Int32) (f : Nat → Nat → Int32) : Option (Int32 × (Nat → Int32) × (Nat → Int32) × (Nat → Int32) × (Nat → Int32)) := (bif (fn_m_isAsk 0 a0 a1) then (bif (fn_m_isIn a2 0 1) then (am_ob (fn_m_whoBy a0 a1 (if a2 = 0 then 1 else 2) f) (fun (y12 : Int32 × (Nat → Int32) × (Nat → Int32) × (Nat → Int32) × (Nat → Int32)) => (some (y12.1, y12.2.1, y12.2.2.1, y12.2.2.2.1, y12.2.2.2.2)))) else (some ((-1), f 88, f 93, f 94, f 96))) else (some ((-1), f 88, f 93, f 94, f 96)))
theorem x_m_who (a0 : Int32) (a1 : Int32) (a2 : Int32) (f : Nat → Nat → Int32) (g : Nat → Nat → Int64) (hmk : am_mOK (f 89)) (z0 : Int32 × (Nat → Int32) × (Nat → Int32) × (Nat → Int32) × (Nat → Int32)) (hz0 : (fn_m_who a0 a1 a2 f) = some z0) : am_D 85 210 4 [.ref 88, .int a0, .int a1, .int a2] (am_S f g) (some (Value.int z0.1), am_S (am_row (am_row (am_row (am_row f 88 z0.2.1) 93 z0.2.2.1) 94 z0.2.2.2.1) 96 z0.2.2.2.2) g) := by
  obtain ⟨hlC, hlN, hrC, hrN, hl0, hl5, hl2⟩ := am_mOK_e hmk
  refine am_D.of (code := am_k_210) rfl (L0 := [.ref 88, .int a0, .int a1, .int a2]) rfl ?_
  generalize hres : (some (Value.int z0.1), am_S (am_row (am_row (am_row (am_row f 88 z0.2.1) 93 z0.2.2.1) 94 z0.2.2.2.1) 96 z0.2.2.2.2) g) = res
  obtain ⟨K, hKd⟩ : ∃ K : Option (Int32 × (Nat → Int32) × (Nat → Int32) × (Nat → Int32) × (Nat → Int32)) → Prop, K = am_KO (fun z => (some (Value.int z.1), am_S (am_row (am_row (am_row (am_row f 88 z.2.1) 93 z.2.2.1) 94 z.2.2.2.1) 96 z.2.2.2.2) g) = res) := ⟨_, rfl⟩
  have hK : K (fn_m_who a0 a1 a2 f) := by rw [hKd, hz0]; exact hres
  have hKn : ¬ K none := by rw [hKd]; exact id
  clear hres hz0
  unfold fn_m_who at hK
  refine am_F.ops (pc' := 3) (L' := [.ref 88, .int a0, .int a1, .int a2]) (S' := [.int a1, .int a0, .int 0]) (μ' := (am_S f g)) 3 rfl ?_
  refine am_F.call rfl rfl (x_m_isAsk 0 a0 a1 f g ) (by first | decide | omega) ?_
  show am_F _ _ 6 [.ref 88, .int a0, .int a1, .int a2] [.int (am_b (fn_m_isAsk 0 a0 a1))] (am_S f g) _
  refine am_F.bifK 1 rfl K hK (fun c6 hK => ?_) (fun c6 hK => ?_)
  · obtain ⟨a0_n, ha0_n, ea0_n⟩ := (am_mAsk c6).2.1
    obtain ⟨a1_n, ha1_n, ea1_n⟩ := (am_mAsk c6).2.2
    subst ea0_n
    try simp only [nI_clamp (show a0_n < 2147483648 by omega)] at hK
    subst ea1_n
    try simp only [nI_clamp (show a1_n < 2147483648 by omega)] at hK
    show am_F _ _ 9 [.ref 88, .int (nI a0_n), .int (nI a1_n), .int a2] [] (am_S f g) _
    refine am_F.ops (pc' := 12) (L' := [.ref 88, .int (nI a0_n), .int (nI a1_n), .int a2]) (S' := [.int 1, .int 0, .int a2]) (μ' := (am_S f g)) 3 rfl ?_
    refine am_F.call rfl rfl (x_m_isIn a2 0 1 f g ) (by first | decide | omega) ?_
    show am_F _ _ 15 [.ref 88, .int (nI a0_n), .int (nI a1_n), .int a2] [.int (am_b (fn_m_isIn a2 0 1))] (am_S f g) _
    refine am_F.bifK 1 rfl K hK (fun c10 hK => ?_) (fun c10 hK => ?_)
    · obtain ⟨a2_n, ha2_n, ea2_n⟩ := am_mInN (N := 2) c10 (by decide)
      subst ea2_n
      try simp only [nI_clamp (show a2_n < 2147483648 by omega)] at hK
      show am_F _ _ 18 [.ref 88, .int (nI a0_n), .int (nI a1_n), .int (nI a2_n)] [] (am_S f g) _
      refine am_F.ops (pc' := 22) (L' := [.ref 88, .int (nI a0_n), .int (nI a1_n), .int (nI a2_n)]) (S' := [.int (nI a2_n), .int (nI a1_n), .int (nI a0_n), .ref 88]) (μ' := (am_S f g)) 4 rfl ?_
      refine am_F.to (am_To.ite (pc' := 30) (L2 := [.ref 88, .int (nI a0_n), .int (nI a1_n), .int (nI a2_n)]) (S2 := [.int (nI a1_n), .int (nI a0_n), .ref 88]) (μ2 := (am_S f g)) (a := 1) (b := 2) 1 rfl (fun c11 => ?_) (fun c11 => ?_)) ?_
      · intro res9 g9
        show am_F _ _ 25 [.ref 88, .int (nI a0_n), .int (nI a1_n), .int (nI a2_n)] [.int (nI a1_n), .int (nI a0_n), .ref 88] (am_S f g) _
        refine am_F.ops (pc' := 30) (L' := [.ref 88, .int (nI a0_n), .int (nI a1_n), .int (nI a2_n)]) (S' := [.int 1, .int (nI a1_n), .int (nI a0_n), .ref 88]) (μ' := (am_S f g)) 2 rfl ?_
        exact g9
      · intro res9 g9
        show am_F _ _ 29 [.ref 88, .int (nI a0_n), .int (nI a1_n), .int (nI a2_n)] [.int (nI a1_n), .int (nI a0_n), .ref 88] (am_S f g) _
        refine am_F.ops (pc' := 30) (L' := [.ref 88, .int (nI a0_n), .int (nI a1_n), .int (nI a2_n)]) (S' := [.int 2, .int (nI a1_n), .int (nI a0_n), .ref 88]) (μ' := (am_S f g)) 1 rfl ?_
        exact g9
      show am_F _ _ 30 [.ref 88, .int (nI a0_n), .int (nI a1_n), .int (nI a2_n)] [.int (if (nI a2_n) = 0 then 1 else 2), .int (nI a1_n), .int (nI a0_n), .ref 88] (am_S f g) _
      obtain ⟨y12, hy12, hK⟩ := am_ob_e hKn hK
      refine am_F.call rfl rfl (x_m_whoBy (nI a0_n) (nI a1_n) (if (nI a2_n) = 0 then 1 else 2) f g hmk y12 hy12) (by first | decide | omega) ?_
      refine am_F.mem (F' := (am_row (am_row (am_row (am_row f 88 y12.2.1) 93 y12.2.2.1) 94 y12.2.2.2.1) 96 y12.2.2.2.2)) (G' := g) ?_ (by first | rfl | (funext a; by_cases z0 : a = 88; (subst z0; rfl); by_cases z1 : a = 93; (subst z1; rfl); by_cases z2 : a = 94; (subst z2; rfl); by_cases z3 : a = 96; (subst z3; rfl); simp only [am_ui, am_ul, am_row_ne z0, am_row_ne z1, am_row_ne z2, am_row_ne z3])) (by first | rfl | (funext a; by_cases z0 : a = 88; (subst z0; rfl); by_cases z1 : a = 93; (subst z1; rfl); by_cases z2 : a = 94; (subst z2; rfl); by_cases z3 : a = 96; (subst z3; rfl); simp only [am_ui, am_ul, am_row_ne z0, am_row_ne z1, am_row_ne z2, am_row_ne z3]))
      show am_F _ _ 33 [.ref 88, .int (nI a0_n), .int (nI a1_n), .int (nI a2_n)] [.int y12.1] (am_S (am_row (am_row (am_row (am_row f 88 y12.2.1) 93 y12.2.2.1) 94 y12.2.2.2.1) 96 y12.2.2.2.2) g) _
      refine am_F.ops (pc' := 37) (L' := [.ref 88, .int (nI a0_n), .int (nI a1_n), .int (nI a2_n)]) (S' := [.int y12.1]) (μ' := (am_S (am_row (am_row (am_row (am_row f 88 y12.2.1) 93 y12.2.2.1) 94 y12.2.2.2.1) 96 y12.2.2.2.2) g)) 1 rfl ?_
      subst hKd
      have hQ := am_KO_s hK
      exact am_F.eq (am_F.ret rfl rfl) hQ
    · show am_F _ _ 36 [.ref 88, .int (nI a0_n), .int (nI a1_n), .int a2] [] (am_S f g) _
      refine am_F.ops (pc' := 37) (L' := [.ref 88, .int (nI a0_n), .int (nI a1_n), .int a2]) (S' := [.int (-1)]) (μ' := (am_S f g)) 1 rfl ?_
      refine am_F.mem (F' := (am_row (am_row (am_row (am_row f 88 (f 88)) 93 (f 93)) 94 (f 94)) 96 (f 96))) (G' := g) ?_ (by first | rfl | (funext a; by_cases z0 : a = 88; (subst z0; rfl); by_cases z1 : a = 93; (subst z1; rfl); by_cases z2 : a = 94; (subst z2; rfl); by_cases z3 : a = 96; (subst z3; rfl); simp only [am_ui, am_ul, am_row_ne z0, am_row_ne z1, am_row_ne z2, am_row_ne z3])) (by first | rfl | (funext a; by_cases z0 : a = 88; (subst z0; rfl); by_cases z1 : a = 93; (subst z1; rfl); by_cases z2 : a = 94; (subst z2; rfl); by_cases z3 : a = 96; (subst z3; rfl); simp only [am_ui, am_ul, am_row_ne z0, am_row_ne z1, am_row_ne z2, am_row_ne z3]))
      subst hKd
      have hQ := am_KO_s hK
      exact am_F.eq (am_F.ret rfl rfl) hQ
  · show am_F _ _ 36 [.ref 88, .int a0, .int a1, .int a2] [] (am_S f g) _
    refine am_F.ops (pc' := 37) (L' := [.ref 88, .int a0, .int a1, .int a2]) (S' := [.int (-1)]) (μ' := (am_S f g)) 1 rfl ?_
    refine am_F.mem (F' := (am_row (am_row (am_row (am_row f 88 (f 88)) 93 (f 93)) 94 (f 94)) 96 (f 96))) (G' := g) ?_ (by first | rfl | (funext a; by_cases z0 : a = 88; (subst z0; rfl); by_cases z1 : a = 93; (subst z1; rfl); by_cases z2 : a = 94; (subst z2; rfl); by_cases z3 : a = 96; (subst z3; rfl); simp only [am_ui, am_ul, am_row_ne z0, am_row_ne z1, am_row_ne z2, am_row_ne z3])) (by first | rfl | (funext a; by_cases z0 : a = 88; (subst z0; rfl); by_cases z1 : a = 93; (subst z1; rfl); by_cases z2 : a = 94; (subst z2; rfl); by_cases z3 : a = 96; (subst z3; rfl); simp only [am_ui, am_ul, am_row_ne z0, am_row_ne z1, am_row_ne z2, am_row_ne z3]))
    subst hKd
    have hQ := am_KO_s hK
    exact am_F.eq (am_F.ret rfl rfl) hQ
/-- AccessLatticeModel.until, with checks -/
noncomputable def st_m_until_21 (y3 : (Nat → Int32) × (Nat → Int32) × (Nat → Int32) × (Nat → Int32) × (Nat → Int32) × (Nat → Int32)) : Nat → Unit → Option (Unit ⊕ (Unit ⊕ Int32 × (Nat → Int32) × (Nat → Int32) × (Nat → Int32) × (Nat → Int32) × (Nat → Int32) × (Nat → Int32))) := fun i21 _ => (am_chk (i21 < 201) (if (y3.2.2.2.2.2 i21) = (y3.2.2.2.2.2 0) then (some (.inl ())) else (some (.inr (.inr ((y3.2.1 200) + (nI i21), y3.1, y3.2.1, y3.2.2.1, y3.2.2.2.1, y3.2.2.2.2.1, y3.2.2.2.2.2))))))
noncomputable def lf_m_until_21 (y3 : (Nat → Int32) × (Nat → Int32) × (Nat → Int32) × (Nat → Int32) × (Nat → Int32) × (Nat → Int32)) : Option (Unit ⊕ Int32 × (Nat → Int32) × (Nat → Int32) × (Nat → Int32) × (Nat → Int32) × (Nat → Int32) × (Nat → Int32)) := am_forO (st_m_until_21 y3) ((200 + 1) - 1) 1 ()
noncomputable def fn_m_until (a0 : Int32) (a1 : Int32) (a2 : Int32) (f : Nat → Nat → Int32) : Option (Int32 × (Nat → Int32) × (Nat → Int32) × (Nat → Int32) × (Nat → Int32) × (Nat → Int32) × (Nat → Int32)) := (bif (fn_m_isAsk a0 a1 a2) then (am_ob (fn_m_shows a0 a1 a2 f) (fun (y3 : (Nat → Int32) × (Nat → Int32) × (Nat → Int32) × (Nat → Int32) × (Nat → Int32) × (Nat → Int32)) => (am_ob (lf_m_until_21 y3) (fun zz => Sum.elim (fun (z21 : Unit) => (some ((-2), y3.1, y3.2.1, y3.2.2.1, y3.2.2.2.1, y3.2.2.2.2.1, y3.2.2.2.2.2))) (fun (z : Int32 × (Nat → Int32) × (Nat → Int32) × (Nat → Int32) × (Nat → Int32) × (Nat → Int32) × (Nat → Int32)) => (some z)) zz)))) else (some ((-1), f 88, f 89, f 93, f 94, f 96, f 104)))
theorem lp_m_until_21 (a0_n : Nat) (a1_n : Nat) (a2_n : Nat) (f : Nat → Nat → Int32) (g : Nat → Nat → Int64) (y3 : (Nat → Int32) × (Nat → Int32) × (Nat → Int32) × (Nat → Int32) × (Nat → Int32) × (Nat → Int32)) (hmk : am_mOK (f 89)) (hlC : f 89 201 = nI (f 89 201).toNatClampNeg) (hlN : (f 89 201).toNatClampNeg ≤ 40) (hrC : f 89 202 = nI (f 89 202).toNatClampNeg) (hrN : (f 89 202).toNatClampNeg ≤ 30) (hl0 : ∀ i, i < (f 89 201).toNatClampNeg → am_inb (fn_m_loanAt i 0 f) 16 = true) (hl5 : ∀ i, i < (f 89 201).toNatClampNeg → ¬ fn_m_loanAt i 5 f < 0 → am_inb (fn_m_loanAt i 5 f) 40 = true) (hl2 : ∀ i, i < (f 89 201).toNatClampNeg → am_inb (fn_m_loanAt i 2 f) 20 = true) (ha0_n : a0_n < 16) (ha1_n : a1_n < 8) (ha2_n : a2_n < 16) (res : Option Value × am_M) : ∀ (n i21 : Nat)  , i21 + n = (200 + 1) → am_KO (am_KX (fun (z : Unit) => ∀ (wc21 : Value), am_F 85 am_k_223 63 [.ref 88, .int (nI a0_n), .int (nI a1_n), .int (nI a2_n), wc21] [] (am_S (am_row (am_row (am_row (am_row (am_row (am_row f 88 y3.1) 89 y3.2.1) 93 y3.2.2.1) 94 y3.2.2.2.1) 96 y3.2.2.2.2.1) 104 y3.2.2.2.2.2) g) res) (fun (z : Int32 × (Nat → Int32) × (Nat → Int32) × (Nat → Int32) × (Nat → Int32) × (Nat → Int32) × (Nat → Int32)) => (some (Value.int z.1), am_S (am_row (am_row (am_row (am_row (am_row (am_row f 88 z.2.1) 89 z.2.2.1) 93 z.2.2.2.1) 94 z.2.2.2.2.1) 96 z.2.2.2.2.2.1) 104 z.2.2.2.2.2.2) g) = res)) (am_forO (st_m_until_21 y3) n i21 ()) → am_F 85 am_k_223 21 [.ref 88, .int (nI a0_n), .int (nI a1_n), .int (nI a2_n), .int (nI i21)] [] (am_S (am_row (am_row (am_row (am_row (am_row (am_row f 88 y3.1) 89 y3.2.1) 93 y3.2.2.1) 94 y3.2.2.2.1) 96 y3.2.2.2.2.1) 104 y3.2.2.2.2.2) g) res := by
  intro n
  induction n with
  | zero =>
    intro i21 hi hK
    refine am_F.pos 3 rfl (by show 200 < nI i21; rw [show (200 : Int32) = nI 200 from rfl]; exact nI_lt (by omega) (by omega)) ?_
    exact hK _
  | succ n ih =>
    intro i21 hi hK
    refine am_F.neg 3 rfl (by show ¬ 200 < nI i21; rw [show (200 : Int32) = nI 200 from rfl]; exact nI_nlt (by omega) (by omega)) ?_
    have hb21 : i21 < (200 + 1) := by omega
    show am_F _ _ 29 [.ref 88, .int (nI a0_n), .int (nI a1_n), .int (nI a2_n), .int (nI i21)] [] (am_S (am_row (am_row (am_row (am_row (am_row (am_row f 88 y3.1) 89 y3.2.1) 93 y3.2.2.1) 94 y3.2.2.2.1) 96 y3.2.2.2.2.1) 104 y3.2.2.2.2.2) g) _
    obtain ⟨K, hKd⟩ : ∃ K : Option (Unit ⊕ (Unit ⊕ Int32 × (Nat → Int32) × (Nat → Int32) × (Nat → Int32) × (Nat → Int32) × (Nat → Int32) × (Nat → Int32))) → Prop, K = fun s => am_KO (am_KX (fun (z : Unit) => ∀ (wc21 : Value), am_F 85 am_k_223 63 [.ref 88, .int (nI a0_n), .int (nI a1_n), .int (nI a2_n), wc21] [] (am_S (am_row (am_row (am_row (am_row (am_row (am_row f 88 y3.1) 89 y3.2.1) 93 y3.2.2.1) 94 y3.2.2.2.1) 96 y3.2.2.2.2.1) 104 y3.2.2.2.2.2) g) res) (fun (z : Int32 × (Nat → Int32) × (Nat → Int32) × (Nat → Int32) × (Nat → Int32) × (Nat → Int32) × (Nat → Int32)) => (some (Value.int z.1), am_S (am_row (am_row (am_row (am_row (am_row (am_row f 88 z.2.1) 89 z.2.2.1) 93 z.2.2.2.1) 94 z.2.2.2.2.1) 96 z.2.2.2.2.2.1) 104 z.2.2.2.2.2.2) g) = res)) (am_whn (fun z => am_forO (st_m_until_21 y3) n (i21 + 1) z) s) := ⟨_, rfl⟩
    have hK : K ((st_m_until_21 y3) i21 ()) := by rw [am_forO_s] at hK; rw [hKd]; with_reducible exact hK
    have hKn : ¬ K none := by rw [hKd]; exact id
    unfold st_m_until_21 at hK
    refine am_F.ops (pc' := 35) (L' := [.ref 88, .int (nI a0_n), .int (nI a1_n), .int (nI a2_n), .int (nI i21)]) (S' := [.int (nI i21), .ref 104]) (μ' := (am_S (am_row (am_row (am_row (am_row (am_row (am_row f 88 y3.1) 89 y3.2.1) 93 y3.2.2.1) 94 y3.2.2.2.1) 96 y3.2.2.2.2.1) 104 y3.2.2.2.2.2) g)) 3 rfl ?_
    obtain ⟨q4, hK⟩ := am_chk_e hKn hK
    refine am_F.ialE (m := i21) (N := 201) rfl rfl rfl rfl (by omega) (by decide) ?_
    show am_F _ _ 36 [.ref 88, .int (nI a0_n), .int (nI a1_n), .int (nI a2_n), .int (nI i21)] [.int (y3.2.2.2.2.2 i21)] (am_S (am_row (am_row (am_row (am_row (am_row (am_row f 88 y3.1) 89 y3.2.1) 93 y3.2.2.1) 94 y3.2.2.2.1) 96 y3.2.2.2.2.1) 104 y3.2.2.2.2.2) g) _
    refine am_F.ops (pc' := 42) (L' := [.ref 88, .int (nI a0_n), .int (nI a1_n), .int (nI a2_n), .int (nI i21)]) (S' := [.int (y3.2.2.2.2.2 0), .int (y3.2.2.2.2.2 i21)]) (μ' := (am_S (am_row (am_row (am_row (am_row (am_row (am_row f 88 y3.1) 89 y3.2.1) 93 y3.2.2.1) 94 y3.2.2.2.1) 96 y3.2.2.2.2.1) 104 y3.2.2.2.2.2) g)) 4 rfl ?_
    refine am_F.iteK 1 rfl K hK (fun c5 hK => ?_) (fun c5 hK => ?_)
    · show am_F _ _ 57 [.ref 88, .int (nI a0_n), .int (nI a1_n), .int (nI a2_n), .int (nI i21)] [] (am_S (am_row (am_row (am_row (am_row (am_row (am_row f 88 y3.1) 89 y3.2.1) 93 y3.2.2.1) 94 y3.2.2.2.1) 96 y3.2.2.2.2.1) 104 y3.2.2.2.2.2) g) _
      refine am_F.ops (pc' := 21) (L' := [.ref 88, .int (nI a0_n), .int (nI a1_n), .int (nI a2_n), .int ((nI i21) + 1)]) (S' := []) (μ' := (am_S (am_row (am_row (am_row (am_row (am_row (am_row f 88 y3.1) 89 y3.2.1) 93 y3.2.2.1) 94 y3.2.2.2.1) 96 y3.2.2.2.2.1) 104 y3.2.2.2.2.2) g)) 2 rfl ?_
      rw [nI_1 i21]
      subst hKd
      exact ih (i21 + 1)  (by omega) hK
    · show am_F _ _ 45 [.ref 88, .int (nI a0_n), .int (nI a1_n), .int (nI a2_n), .int (nI i21)] [] (am_S (am_row (am_row (am_row (am_row (am_row (am_row f 88 y3.1) 89 y3.2.1) 93 y3.2.2.1) 94 y3.2.2.2.1) 96 y3.2.2.2.2.1) 104 y3.2.2.2.2.2) g) _
      refine am_F.ops (pc' := 56) (L' := [.ref 88, .int (nI a0_n), .int (nI a1_n), .int (nI a2_n), .int (nI i21)]) (S' := [.int ((y3.2.1 200) + (nI i21))]) (μ' := (am_S (am_row (am_row (am_row (am_row (am_row (am_row f 88 y3.1) 89 y3.2.1) 93 y3.2.2.1) 94 y3.2.2.2.1) 96 y3.2.2.2.2.1) 104 y3.2.2.2.2.2) g)) 6 rfl ?_
      subst hKd
      have hQ := am_KO_r hK
      exact am_F.eq (am_F.ret rfl rfl) hQ
theorem x_m_until (a0 : Int32) (a1 : Int32) (a2 : Int32) (f : Nat → Nat → Int32) (g : Nat → Nat → Int64) (hmk : am_mOK (f 89)) (z0 : Int32 × (Nat → Int32) × (Nat → Int32) × (Nat → Int32) × (Nat → Int32) × (Nat → Int32) × (Nat → Int32)) (hz0 : (fn_m_until a0 a1 a2 f) = some z0) : am_D 85 223 5 [.ref 88, .int a0, .int a1, .int a2] (am_S f g) (some (Value.int z0.1), am_S (am_row (am_row (am_row (am_row (am_row (am_row f 88 z0.2.1) 89 z0.2.2.1) 93 z0.2.2.2.1) 94 z0.2.2.2.2.1) 96 z0.2.2.2.2.2.1) 104 z0.2.2.2.2.2.2) g) := by
  obtain ⟨hlC, hlN, hrC, hrN, hl0, hl5, hl2⟩ := am_mOK_e hmk
  refine am_D.of (code := am_k_223) rfl (L0 := [.ref 88, .int a0, .int a1, .int a2, am_un]) rfl ?_
  generalize hres : (some (Value.int z0.1), am_S (am_row (am_row (am_row (am_row (am_row (am_row f 88 z0.2.1) 89 z0.2.2.1) 93 z0.2.2.2.1) 94 z0.2.2.2.2.1) 96 z0.2.2.2.2.2.1) 104 z0.2.2.2.2.2.2) g) = res
  obtain ⟨K, hKd⟩ : ∃ K : Option (Int32 × (Nat → Int32) × (Nat → Int32) × (Nat → Int32) × (Nat → Int32) × (Nat → Int32) × (Nat → Int32)) → Prop, K = am_KO (fun z => (some (Value.int z.1), am_S (am_row (am_row (am_row (am_row (am_row (am_row f 88 z.2.1) 89 z.2.2.1) 93 z.2.2.2.1) 94 z.2.2.2.2.1) 96 z.2.2.2.2.2.1) 104 z.2.2.2.2.2.2) g) = res) := ⟨_, rfl⟩
  have hK : K (fn_m_until a0 a1 a2 f) := by rw [hKd, hz0]; exact hres
  have hKn : ¬ K none := by rw [hKd]; exact id
  clear hres hz0
  unfold fn_m_until at hK
  refine am_F.ops (pc' := 3) (L' := [.ref 88, .int a0, .int a1, .int a2, am_un]) (S' := [.int a2, .int a1, .int a0]) (μ' := (am_S f g)) 3 rfl ?_
  refine am_F.call rfl rfl (x_m_isAsk a0 a1 a2 f g ) (by first | decide | omega) ?_
  show am_F _ _ 6 [.ref 88, .int a0, .int a1, .int a2, am_un] [.int (am_b (fn_m_isAsk a0 a1 a2))] (am_S f g) _
  refine am_F.bifK 1 rfl K hK (fun c2 hK => ?_) (fun c2 hK => ?_)
  · obtain ⟨a0_n, ha0_n, ea0_n⟩ := (am_mAsk c2).1
    obtain ⟨a1_n, ha1_n, ea1_n⟩ := (am_mAsk c2).2.1
    obtain ⟨a2_n, ha2_n, ea2_n⟩ := (am_mAsk c2).2.2
    subst ea0_n
    try simp only [nI_clamp (show a0_n < 2147483648 by omega)] at hK
    subst ea1_n
    try simp only [nI_clamp (show a1_n < 2147483648 by omega)] at hK
    subst ea2_n
    try simp only [nI_clamp (show a2_n < 2147483648 by omega)] at hK
    show am_F _ _ 11 [.ref 88, .int (nI a0_n), .int (nI a1_n), .int (nI a2_n), am_un] [] (am_S f g) _
    refine am_F.ops (pc' := 15) (L' := [.ref 88, .int (nI a0_n), .int (nI a1_n), .int (nI a2_n), am_un]) (S' := [.int (nI a2_n), .int (nI a1_n), .int (nI a0_n), .ref 88]) (μ' := (am_S f g)) 4 rfl ?_
    obtain ⟨y3, hy3, hK⟩ := am_ob_e hKn hK
    refine am_F.call rfl rfl (x_m_shows (nI a0_n) (nI a1_n) (nI a2_n) f g hmk y3 hy3) (by first | decide | omega) ?_
    refine am_F.mem (F' := (am_row (am_row (am_row (am_row (am_row (am_row f 88 y3.1) 89 y3.2.1) 93 y3.2.2.1) 94 y3.2.2.2.1) 96 y3.2.2.2.2.1) 104 y3.2.2.2.2.2)) (G' := g) ?_ (by first | rfl | (funext a; by_cases z0 : a = 88; (subst z0; rfl); by_cases z1 : a = 89; (subst z1; rfl); by_cases z2 : a = 93; (subst z2; rfl); by_cases z3 : a = 94; (subst z3; rfl); by_cases z4 : a = 96; (subst z4; rfl); by_cases z5 : a = 104; (subst z5; rfl); simp only [am_ui, am_ul, am_row_ne z0, am_row_ne z1, am_row_ne z2, am_row_ne z3, am_row_ne z4, am_row_ne z5])) (by first | rfl | (funext a; by_cases z0 : a = 88; (subst z0; rfl); by_cases z1 : a = 89; (subst z1; rfl); by_cases z2 : a = 93; (subst z2; rfl); by_cases z3 : a = 94; (subst z3; rfl); by_cases z4 : a = 96; (subst z4; rfl); by_cases z5 : a = 104; (subst z5; rfl); simp only [am_ui, am_ul, am_row_ne z0, am_row_ne z1, am_row_ne z2, am_row_ne z3, am_row_ne z4, am_row_ne z5]))
    show am_F _ _ 18 [.ref 88, .int (nI a0_n), .int (nI a1_n), .int (nI a2_n), am_un] [] (am_S (am_row (am_row (am_row (am_row (am_row (am_row f 88 y3.1) 89 y3.2.1) 93 y3.2.2.1) 94 y3.2.2.2.1) 96 y3.2.2.2.2.1) 104 y3.2.2.2.2.2) g) _
    refine am_F.ops (pc' := 21) (L' := [.ref 88, .int (nI a0_n), .int (nI a1_n), .int (nI a2_n), .int 1]) (S' := []) (μ' := (am_S (am_row (am_row (am_row (am_row (am_row (am_row f 88 y3.1) 89 y3.2.1) 93 y3.2.2.1) 94 y3.2.2.2.1) 96 y3.2.2.2.2.1) 104 y3.2.2.2.2.2) g)) 2 rfl ?_
    obtain ⟨z21, hz21, hK⟩ := am_ob_e hKn hK
    show am_F _ _ 21 [.ref 88, .int (nI a0_n), .int (nI a1_n), .int (nI a2_n), .int (nI 1)] [] (am_S (am_row (am_row (am_row (am_row (am_row (am_row f 88 y3.1) 89 y3.2.1) 93 y3.2.2.1) 94 y3.2.2.2.1) 96 y3.2.2.2.2.1) 104 y3.2.2.2.2.2) g) _
    refine lp_m_until_21 a0_n a1_n a2_n f g y3 hmk hlC hlN hrC hrN hl0 hl5 hl2 ha0_n ha1_n ha2_n _ ((200 + 1) - 1) 1   (by omega) ?_
    rw [show am_forO (st_m_until_21 y3) ((200 + 1) - 1) 1 () = (lf_m_until_21 y3) from rfl, hz21]
    rcases z21 with z21 | z
    · intro wc21
      show am_F _ _ 63 [.ref 88, .int (nI a0_n), .int (nI a1_n), .int (nI a2_n), wc21] [] (am_S (am_row (am_row (am_row (am_row (am_row (am_row f 88 y3.1) 89 y3.2.1) 93 y3.2.2.1) 94 y3.2.2.2.1) 96 y3.2.2.2.2.1) 104 y3.2.2.2.2.2) g) _
      (try simp only [Sum.elim_inl] at hK)
      refine am_F.ops (pc' := 65) (L' := [.ref 88, .int (nI a0_n), .int (nI a1_n), .int (nI a2_n), wc21]) (S' := [.int (-2)]) (μ' := (am_S (am_row (am_row (am_row (am_row (am_row (am_row f 88 y3.1) 89 y3.2.1) 93 y3.2.2.1) 94 y3.2.2.2.1) 96 y3.2.2.2.2.1) 104 y3.2.2.2.2.2) g)) 1 rfl ?_
      subst hKd
      have hQ := am_KO_s hK
      exact am_F.eq (am_F.ret rfl rfl) hQ
    · subst hKd
      exact hK
  · show am_F _ _ 9 [.ref 88, .int a0, .int a1, .int a2, am_un] [] (am_S f g) _
    refine am_F.ops (pc' := 10) (L' := [.ref 88, .int a0, .int a1, .int a2, am_un]) (S' := [.int (-1)]) (μ' := (am_S f g)) 1 rfl ?_
    refine am_F.mem (F' := (am_row (am_row (am_row (am_row (am_row (am_row f 88 (f 88)) 89 (f 89)) 93 (f 93)) 94 (f 94)) 96 (f 96)) 104 (f 104))) (G' := g) ?_ (by first | rfl | (funext a; by_cases z0 : a = 88; (subst z0; rfl); by_cases z1 : a = 89; (subst z1; rfl); by_cases z2 : a = 93; (subst z2; rfl); by_cases z3 : a = 94; (subst z3; rfl); by_cases z4 : a = 96; (subst z4; rfl); by_cases z5 : a = 104; (subst z5; rfl); simp only [am_ui, am_ul, am_row_ne z0, am_row_ne z1, am_row_ne z2, am_row_ne z3, am_row_ne z4, am_row_ne z5])) (by first | rfl | (funext a; by_cases z0 : a = 88; (subst z0; rfl); by_cases z1 : a = 89; (subst z1; rfl); by_cases z2 : a = 93; (subst z2; rfl); by_cases z3 : a = 94; (subst z3; rfl); by_cases z4 : a = 96; (subst z4; rfl); by_cases z5 : a = 104; (subst z5; rfl); simp only [am_ui, am_ul, am_row_ne z0, am_row_ne z1, am_row_ne z2, am_row_ne z3, am_row_ne z4, am_row_ne z5]))
    subst hKd
    have hQ := am_KO_s hK
    exact am_F.eq (am_F.ret rfl rfl) hQ
/-- AccessLatticeModel.shadowed, with checks -/
noncomputable def st_m_shadowed_12 (a0_n : Nat) (f : Nat → Nat → Int32) : Nat → Unit → Option (Unit ⊕ (Unit ⊕ Int32)) := fun i12 _ => (am_ob (fn_m_shadows (nI i12) (nI a0_n) f) (fun (y3 : Bool) => (bif (y3) then (if (nI i12) < (nI a0_n) then (some (.inr (.inr (nI i12)))) else (am_ob (fn_m_shadows (nI a0_n) (nI i12) f) (fun (y6 : Bool) => (bif (y6) then (some (.inl ())) else (some (.inr (.inr (nI i12)))))))) else (some (.inl ())))))
noncomputable def lf_m_shadowed_12 (a0_n : Nat) (f : Nat → Nat → Int32) : Option (Unit ⊕ Int32) := am_forO (st_m_shadowed_12 a0_n f) ((f 89 202).toNatClampNeg) 0 ()
noncomputable def fn_m_shadowed (a0 : Int32) (f : Nat → Nat → Int32) : Option (Int32) := (bif (fn_m_isRule a0 f) then (am_ob (lf_m_shadowed_12 (a0.toNatClampNeg) f) (fun zz => Sum.elim (fun (z12 : Unit) => (some (-2))) (fun (z : Int32) => (some z)) zz)) else (some (-1)))
theorem lp_m_shadowed_12 (a0_n : Nat) (f : Nat → Nat → Int32) (g : Nat → Nat → Int64) (hmk : am_mOK (f 89)) (hlC : f 89 201 = nI (f 89 201).toNatClampNeg) (hlN : (f 89 201).toNatClampNeg ≤ 40) (hrC : f 89 202 = nI (f 89 202).toNatClampNeg) (hrN : (f 89 202).toNatClampNeg ≤ 30) (hl0 : ∀ i, i < (f 89 201).toNatClampNeg → am_inb (fn_m_loanAt i 0 f) 16 = true) (hl5 : ∀ i, i < (f 89 201).toNatClampNeg → ¬ fn_m_loanAt i 5 f < 0 → am_inb (fn_m_loanAt i 5 f) 40 = true) (hl2 : ∀ i, i < (f 89 201).toNatClampNeg → am_inb (fn_m_loanAt i 2 f) 20 = true) (ha0_n : a0_n < (f 89 202).toNatClampNeg) (res : Option Value × am_M) : ∀ (n i12 : Nat)  , i12 + n = (f 89 202).toNatClampNeg → am_KO (am_KX (fun (z : Unit) => ∀ (wc12 : Value), am_F 3 am_k_231 55 [.ref 88, .int (nI a0_n), wc12] [] (am_S f g) res) (fun (z : Int32) => (some (Value.int z), am_S f g) = res)) (am_forO (st_m_shadowed_12 a0_n f) n i12 ()) → am_F 3 am_k_231 12 [.ref 88, .int (nI a0_n), .int (nI i12)] [] (am_S f g) res := by
  intro n
  induction n with
  | zero =>
    intro i12 hi hK
    refine am_F.pos 6 rfl (by show (f 89 202) ≤ nI i12; rw [show (f 89 202 : Int32) = nI ((f 89 202).toNatClampNeg) from hrC]; exact nI_le (by omega) (by omega)) ?_
    exact hK _
  | succ n ih =>
    intro i12 hi hK
    refine am_F.neg 6 rfl (by show ¬ (f 89 202) ≤ nI i12; rw [show (f 89 202 : Int32) = nI ((f 89 202).toNatClampNeg) from hrC]; exact nI_ge (by omega) (by omega)) ?_
    have hb12 : i12 < (f 89 202).toNatClampNeg := by omega
    show am_F _ _ 24 [.ref 88, .int (nI a0_n), .int (nI i12)] [] (am_S f g) _
    obtain ⟨K, hKd⟩ : ∃ K : Option (Unit ⊕ (Unit ⊕ Int32)) → Prop, K = fun s => am_KO (am_KX (fun (z : Unit) => ∀ (wc12 : Value), am_F 3 am_k_231 55 [.ref 88, .int (nI a0_n), wc12] [] (am_S f g) res) (fun (z : Int32) => (some (Value.int z), am_S f g) = res)) (am_whn (fun z => am_forO (st_m_shadowed_12 a0_n f) n (i12 + 1) z) s) := ⟨_, rfl⟩
    have hK : K ((st_m_shadowed_12 a0_n f) i12 ()) := by rw [am_forO_s] at hK; rw [hKd]; with_reducible exact hK
    have hKn : ¬ K none := by rw [hKd]; exact id
    unfold st_m_shadowed_12 at hK
    refine am_F.ops (pc' := 27) (L' := [.ref 88, .int (nI a0_n), .int (nI i12)]) (S' := [.int (nI a0_n), .int (nI i12), .ref 88]) (μ' := (am_S f g)) 3 rfl ?_
    obtain ⟨y3, hy3, hK⟩ := am_ob_e hKn hK
    refine am_F.call rfl rfl (x_m_shadows (nI i12) (nI a0_n) f g  y3 hy3) (by first | decide | omega) ?_
    show am_F _ _ 30 [.ref 88, .int (nI a0_n), .int (nI i12)] [.int (am_b (y3))] (am_S f g) _
    refine am_F.bifK 1 rfl K hK (fun c4 hK => ?_) (fun c4 hK => ?_)
    · show am_F _ _ 33 [.ref 88, .int (nI a0_n), .int (nI i12)] [] (am_S f g) _
      refine am_F.ops (pc' := 35) (L' := [.ref 88, .int (nI a0_n), .int (nI i12)]) (S' := [.int (nI a0_n), .int (nI i12)]) (μ' := (am_S f g)) 2 rfl ?_
      refine am_F.iteK 1 rfl K hK (fun c5 hK => ?_) (fun c5 hK => ?_)
      · show am_F _ _ 47 [.ref 88, .int (nI a0_n), .int (nI i12)] [] (am_S f g) _
        refine am_F.ops (pc' := 48) (L' := [.ref 88, .int (nI a0_n), .int (nI i12)]) (S' := [.int (nI i12)]) (μ' := (am_S f g)) 1 rfl ?_
        subst hKd
        have hQ := am_KO_r hK
        exact am_F.eq (am_F.ret rfl rfl) hQ
      · show am_F _ _ 38 [.ref 88, .int (nI a0_n), .int (nI i12)] [] (am_S f g) _
        refine am_F.ops (pc' := 41) (L' := [.ref 88, .int (nI a0_n), .int (nI i12)]) (S' := [.int (nI i12), .int (nI a0_n), .ref 88]) (μ' := (am_S f g)) 3 rfl ?_
        obtain ⟨y6, hy6, hK⟩ := am_ob_e hKn hK
        refine am_F.call rfl rfl (x_m_shadows (nI a0_n) (nI i12) f g  y6 hy6) (by first | decide | omega) ?_
        show am_F _ _ 44 [.ref 88, .int (nI a0_n), .int (nI i12)] [.int (am_b (y6))] (am_S f g) _
        refine am_F.bifK 1 rfl K hK (fun c7 hK => ?_) (fun c7 hK => ?_)
        · show am_F _ _ 49 [.ref 88, .int (nI a0_n), .int (nI i12)] [] (am_S f g) _
          refine am_F.ops (pc' := 12) (L' := [.ref 88, .int (nI a0_n), .int ((nI i12) + 1)]) (S' := []) (μ' := (am_S f g)) 2 rfl ?_
          rw [nI_1 i12]
          subst hKd
          exact ih (i12 + 1)  (by omega) hK
        · show am_F _ _ 47 [.ref 88, .int (nI a0_n), .int (nI i12)] [] (am_S f g) _
          refine am_F.ops (pc' := 48) (L' := [.ref 88, .int (nI a0_n), .int (nI i12)]) (S' := [.int (nI i12)]) (μ' := (am_S f g)) 1 rfl ?_
          subst hKd
          have hQ := am_KO_r hK
          exact am_F.eq (am_F.ret rfl rfl) hQ
    · show am_F _ _ 49 [.ref 88, .int (nI a0_n), .int (nI i12)] [] (am_S f g) _
      refine am_F.ops (pc' := 12) (L' := [.ref 88, .int (nI a0_n), .int ((nI i12) + 1)]) (S' := []) (μ' := (am_S f g)) 2 rfl ?_
      rw [nI_1 i12]
      subst hKd
      exact ih (i12 + 1)  (by omega) hK
theorem x_m_shadowed (a0 : Int32) (f : Nat → Nat → Int32) (g : Nat → Nat → Int64) (hmk : am_mOK (f 89)) (z0 : Int32) (hz0 : (fn_m_shadowed a0 f) = some z0) : am_D 3 231 3 [.ref 88, .int a0] (am_S f g) (some (Value.int z0), am_S f g) := by
  obtain ⟨hlC, hlN, hrC, hrN, hl0, hl5, hl2⟩ := am_mOK_e hmk
  refine am_D.of (code := am_k_231) rfl (L0 := [.ref 88, .int a0, am_un]) rfl ?_
  generalize hres : (some (Value.int z0), am_S f g) = res
  obtain ⟨K, hKd⟩ : ∃ K : Option (Int32) → Prop, K = am_KO (fun z => (some (Value.int z), am_S f g) = res) := ⟨_, rfl⟩
  have hK : K (fn_m_shadowed a0 f) := by rw [hKd, hz0]; exact hres
  have hKn : ¬ K none := by rw [hKd]; exact id
  clear hres hz0
  unfold fn_m_shadowed at hK
  refine am_F.ops (pc' := 2) (L' := [.ref 88, .int a0, am_un]) (S' := [.int a0, .ref 88]) (μ' := (am_S f g)) 2 rfl ?_
  refine am_F.call rfl rfl (x_m_isRule a0 f g hrC hrN) (by first | decide | omega) ?_
  show am_F _ _ 5 [.ref 88, .int a0, am_un] [.int (am_b (fn_m_isRule a0 f))] (am_S f g) _
  refine am_F.bifK 1 rfl K hK (fun c2 hK => ?_) (fun c2 hK => ?_)
  · obtain ⟨a0_n, ha0_n, ea0_n⟩ := am_mRuleN hrC (by omega) c2
    subst ea0_n
    try simp only [nI_clamp (show a0_n < 2147483648 by omega)] at hK
    show am_F _ _ 10 [.ref 88, .int (nI a0_n), am_un] [] (am_S f g) _
    refine am_F.ops (pc' := 12) (L' := [.ref 88, .int (nI a0_n), .int 0]) (S' := []) (μ' := (am_S f g)) 2 rfl ?_
    obtain ⟨z12, hz12, hK⟩ := am_ob_e hKn hK
    show am_F _ _ 12 [.ref 88, .int (nI a0_n), .int (nI 0)] [] (am_S f g) _
    refine lp_m_shadowed_12 a0_n f g hmk hlC hlN hrC hrN hl0 hl5 hl2 ha0_n _ ((f 89 202).toNatClampNeg) 0   (by omega) ?_
    rw [show am_forO (st_m_shadowed_12 a0_n f) ((f 89 202).toNatClampNeg) 0 () = (lf_m_shadowed_12 a0_n f) from rfl, hz12]
    rcases z12 with z12 | z
    · intro wc12
      show am_F _ _ 55 [.ref 88, .int (nI a0_n), wc12] [] (am_S f g) _
      (try simp only [Sum.elim_inl] at hK)
      refine am_F.ops (pc' := 57) (L' := [.ref 88, .int (nI a0_n), wc12]) (S' := [.int (-2)]) (μ' := (am_S f g)) 1 rfl ?_
      subst hKd
      have hQ := am_KO_s hK
      exact am_F.eq (am_F.ret rfl rfl) hQ
    · subst hKd
      exact hK
  · show am_F _ _ 8 [.ref 88, .int a0, am_un] [] (am_S f g) _
    refine am_F.ops (pc' := 9) (L' := [.ref 88, .int a0, am_un]) (S' := [.int (-1)]) (μ' := (am_S f g)) 1 rfl ?_
    subst hKd
    have hQ := am_KO_s hK
    exact am_F.eq (am_F.ret rfl rfl) hQ
