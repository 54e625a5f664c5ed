/-! the class's calls, on -/
/-- AccessLattice.off -/
def fn_off (rule : Int32) (f : Nat → Nat → Int32) : Int32 × (Nat → Int32) := (bif (fn_isRule rule f) then ((fn_bitCount ((f 18 8) &&& ((1 <<< (rule &&& 31)) ^^^ (-1)))), upd (f 18) 8 ((f 18 8) &&& ((1 <<< (rule &&& 31)) ^^^ (-1)))) else ((-1), f 18))
theorem x_off (rule : Int32) (f : Nat → Nat → Int32) (g : Nat → Nat → Int64) (hRc : f 18 11 = nI (f 18 11).toNatClampNeg) (hRn : (f 18 11).toNatClampNeg ≤ 30) : am_D 2 65 2 [.ref 0, .int rule] (am_S f g) (some (Value.int ((fn_off rule f).1)), am_S (am_row f 18 ((fn_off rule f).2)) g) := by
  refine am_D.of (code := am_k_65) rfl (L0 := [.ref 0, .int rule]) rfl ?_
  generalize hres : (some (Value.int ((fn_off rule f).1)), am_S (am_row f 18 ((fn_off rule f).2)) g) = res
  obtain ⟨K, hKd⟩ : ∃ K : (Int32 × (Nat → Int32)) → Prop, K = fun z => (some (Value.int z.1), am_S (am_row f 18 z.2) g) = res := ⟨_, rfl⟩
  have hK : K (fn_off rule f) := by rw [hKd]; exact hres
  clear hres
  unfold fn_off at hK
  refine am_F.ops (pc' := 2) (L' := [.ref 0, .int rule]) (S' := [.int rule, .ref 0]) (μ' := (am_S f g)) 2 rfl ?_
  refine am_F.call rfl rfl (x_isRule rule f g hRc hRn) (by decide) ?_
  show am_F _ _ 5 [.ref 0, .int rule] [.int (am_b (fn_isRule rule f))] (am_S f g) _
  refine am_F.bifK 1 rfl K hK (fun c1 hK => ?_) (fun c1 hK => ?_)
  · obtain ⟨rule_n, hrule_n, erule_n⟩ := (am_iRule hRc (by omega) c1)
    subst erule_n
    try simp only [nI_clamp (show rule_n < 2147483648 by omega)] at hK
    show am_F _ _ 10 [.ref 0, .int (nI rule_n)] [] (am_S f g) _
    refine am_F.ops (pc' := 27) (L' := [.ref 0, .int (nI rule_n)]) (S' := [.int ((f 18 8) &&& ((1 <<< ((nI rule_n) &&& 31)) ^^^ (-1))), .ref 18]) (μ' := (am_S f g)) 11 rfl ?_
    refine am_F.pfi (F' := (am_row f 18 (upd (f 18) 8 ((f 18 8) &&& ((1 <<< ((nI rule_n) &&& 31)) ^^^ (-1)))))) rfl rfl (by first | rfl | (funext a; by_cases z0 : a = 18; (subst z0; rfl); simp only [am_ui, am_ul, am_row_ne z0])) ?_
    refine am_F.ops (pc' := 40) (L' := [.ref 0, .int (nI rule_n)]) (S' := [.int ((f 18 8) &&& ((1 <<< ((nI rule_n) &&& 31)) ^^^ (-1)))]) (μ' := (am_S (am_row f 18 (upd (f 18) 8 ((f 18 8) &&& ((1 <<< ((nI rule_n) &&& 31)) ^^^ (-1))))) g)) 4 rfl ?_
    refine am_F.call rfl rfl (x_bitCount ((f 18 8) &&& ((1 <<< ((nI rule_n) &&& 31)) ^^^ (-1))) (am_row f 18 (upd (f 18) 8 ((f 18 8) &&& ((1 <<< ((nI rule_n) &&& 31)) ^^^ (-1))))) g ) (by decide) ?_
    show am_F _ _ 43 [.ref 0, .int (nI rule_n)] [.int (fn_bitCount ((f 18 8) &&& ((1 <<< ((nI rule_n) &&& 31)) ^^^ (-1))))] (am_S (am_row f 18 (upd (f 18) 8 ((f 18 8) &&& ((1 <<< ((nI rule_n) &&& 31)) ^^^ (-1))))) g) _
    subst hKd
    exact am_F.eq (am_F.ret rfl rfl) hK
  · show am_F _ _ 8 [.ref 0, .int rule] [] (am_S f g) _
    refine am_F.ops (pc' := 9) (L' := [.ref 0, .int rule]) (S' := [.int (-1)]) (μ' := (am_S f g)) 1 rfl ?_
    refine am_F.mem (F' := (am_row f 18 (f 18))) (G' := g) ?_ (by first | rfl | (funext a; by_cases z0 : a = 18; (subst z0; rfl); simp only [am_ui, am_ul, am_row_ne z0])) (by first | rfl | (funext a; by_cases z0 : a = 18; (subst z0; rfl); simp only [am_ui, am_ul, am_row_ne z0]))
    subst hKd
    exact am_F.eq (am_F.ret rfl rfl) hK
/-- AccessLattice.of -/
def fn_of (rule : Int32) (what : Int32) (f : Nat → Nat → Int32) : Int32 := (bif (fn_isRule rule f) then (if what = 0 then am_b (bif (fn_has (f 18 9) rule) then true else false) else (if what = 1 then f 19 (rule.toNatClampNeg) else (if what = 2 then f 20 (rule.toNatClampNeg) else (if what = 3 then f 21 (rule.toNatClampNeg) else (if what = 4 then am_b (bif (fn_has (f 18 10) rule) then true else false) else (if what = 5 then f 22 (rule.toNatClampNeg) else (if what = 6 then f 23 (rule.toNatClampNeg) else (if what = 7 then am_b (if (f 25 (rule.toNatClampNeg)) ≤ 0 then false else true) else (-1))))))))) else (-1))
theorem x_of (rule : Int32) (what : Int32) (f : Nat → Nat → Int32) (g : Nat → Nat → Int64) (hRc : f 18 11 = nI (f 18 11).toNatClampNeg) (hRn : (f 18 11).toNatClampNeg ≤ 30) : am_D 2 67 4 [.ref 0, .int rule, .int what] (am_S f g) (some (Value.int (fn_of rule what f)), am_S f g) := by
  refine am_D.of (code := am_k_67) rfl (L0 := [.ref 0, .int rule, .int what, am_un]) rfl ?_
  generalize hres : (some (Value.int (fn_of rule what f)), am_S f g) = res
  obtain ⟨K, hKd⟩ : ∃ K : Int32 → Prop, K = fun z => (some (Value.int z), am_S f g) = res := ⟨_, rfl⟩
  have hK : K (fn_of rule what f) := by rw [hKd]; exact hres
  clear hres
  unfold fn_of at hK
  refine am_F.ops (pc' := 2) (L' := [.ref 0, .int rule, .int what, am_un]) (S' := [.int rule, .ref 0]) (μ' := (am_S f g)) 2 rfl ?_
  refine am_F.call rfl rfl (x_isRule rule f g hRc hRn) (by decide) ?_
  show am_F _ _ 5 [.ref 0, .int rule, .int what, am_un] [.int (am_b (fn_isRule rule f))] (am_S f g) _
  refine am_F.bifK 1 rfl K hK (fun c1 hK => ?_) (fun c1 hK => ?_)
  · obtain ⟨rule_n, hrule_n, erule_n⟩ := (am_iRule hRc (by omega) c1)
    subst erule_n
    try simp only [nI_clamp (show rule_n < 2147483648 by omega)] at hK
    show am_F _ _ 10 [.ref 0, .int (nI rule_n), .int what, am_un] [] (am_S f g) _
    refine am_F.ops (pc' := 19) (L' := [.ref 0, .int (nI rule_n), .int what, .ref 18]) (S' := [.int what]) (μ' := (am_S f g)) 5 rfl ?_
    refine am_F.ops (pc' := am_ltg [(0, 64), (1, 81), (2, 88), (3, 95), (4, 102), (5, 119), (6, 126), (7, 133)] 148 what) (L' := [.ref 0, .int (nI rule_n), .int what, .ref 18]) (S' := []) (μ' := (am_S f g)) 1 (am_tswE (tg := [64, 81, 88, 95, 102, 119, 126, 133]) (lo := 0) rfl rfl (by decide) (by decide)) ?_
    refine am_F.ltg K hK (fun c2 hK => ?_) (fun c2 hK => ?_)
    · show am_F _ _ 64 [.ref 0, .int (nI rule_n), .int what, .ref 18] [] (am_S f g) _
      refine am_F.ops (pc' := 69) (L' := [.ref 0, .int (nI rule_n), .int what, .ref 18]) (S' := [.int (nI rule_n), .int (f 18 9)]) (μ' := (am_S f g)) 3 rfl ?_
      refine am_F.call rfl rfl (x_has (f 18 9) (nI rule_n) f g ) (by decide) ?_
      show am_F _ _ 72 [.ref 0, .int (nI rule_n), .int what, .ref 18] [.int (am_b (fn_has (f 18 9) (nI rule_n)))] (am_S f g) _
      refine am_F.to (am_To.bifB (pc' := 80) (L2 := [.ref 0, .int (nI rule_n), .int what, .ref 18]) (S2 := []) (μ2 := (am_S f g)) (a := true) (b := false) 1 rfl (fun c3 => ?_) (fun c3 => ?_)) ?_
      · intro res9 g9
        show am_F _ _ 75 [.ref 0, .int (nI rule_n), .int what, .ref 18] [] (am_S f g) _
        refine am_F.ops (pc' := 80) (L' := [.ref 0, .int (nI rule_n), .int what, .ref 18]) (S' := [.int 1]) (μ' := (am_S f g)) 2 rfl ?_
        exact g9
      · intro res9 g9
        show am_F _ _ 79 [.ref 0, .int (nI rule_n), .int what, .ref 18] [] (am_S f g) _
        refine am_F.ops (pc' := 80) (L' := [.ref 0, .int (nI rule_n), .int what, .ref 18]) (S' := [.int 0]) (μ' := (am_S f g)) 1 rfl ?_
        exact g9
      show am_F _ _ 80 [.ref 0, .int (nI rule_n), .int what, .ref 18] [.int (am_b (bif (fn_has (f 18 9) (nI rule_n)) then true else false))] (am_S f g) _
      subst hKd
      exact am_F.eq (am_F.ret rfl rfl) hK
    · skip
      refine am_F.ltg K hK (fun c4 hK => ?_) (fun c4 hK => ?_)
      · show am_F _ _ 81 [.ref 0, .int (nI rule_n), .int what, .ref 18] [] (am_S f g) _
        refine am_F.ops (pc' := 86) (L' := [.ref 0, .int (nI rule_n), .int what, .ref 18]) (S' := [.int (nI rule_n), .ref 19]) (μ' := (am_S f g)) 3 rfl ?_
        refine am_F.ialE (m := rule_n) (N := 30) rfl rfl rfl rfl (by omega) (by decide) ?_
        show am_F _ _ 87 [.ref 0, .int (nI rule_n), .int what, .ref 18] [.int (f 19 rule_n)] (am_S f g) _
        subst hKd
        exact am_F.eq (am_F.ret rfl rfl) hK
      · skip
        refine am_F.ltg K hK (fun c5 hK => ?_) (fun c5 hK => ?_)
        · show am_F _ _ 88 [.ref 0, .int (nI rule_n), .int what, .ref 18] [] (am_S f g) _
          refine am_F.ops (pc' := 93) (L' := [.ref 0, .int (nI rule_n), .int what, .ref 18]) (S' := [.int (nI rule_n), .ref 20]) (μ' := (am_S f g)) 3 rfl ?_
          refine am_F.ialE (m := rule_n) (N := 30) rfl rfl rfl rfl (by omega) (by decide) ?_
          show am_F _ _ 94 [.ref 0, .int (nI rule_n), .int what, .ref 18] [.int (f 20 rule_n)] (am_S f g) _
          subst hKd
          exact am_F.eq (am_F.ret rfl rfl) hK
        · skip
          refine am_F.ltg K hK (fun c6 hK => ?_) (fun c6 hK => ?_)
          · show am_F _ _ 95 [.ref 0, .int (nI rule_n), .int what, .ref 18] [] (am_S f g) _
            refine am_F.ops (pc' := 100) (L' := [.ref 0, .int (nI rule_n), .int what, .ref 18]) (S' := [.int (nI rule_n), .ref 21]) (μ' := (am_S f g)) 3 rfl ?_
            refine am_F.ialE (m := rule_n) (N := 30) rfl rfl rfl rfl (by omega) (by decide) ?_
            show am_F _ _ 101 [.ref 0, .int (nI rule_n), .int what, .ref 18] [.int (f 21 rule_n)] (am_S f g) _
            subst hKd
            exact am_F.eq (am_F.ret rfl rfl) hK
          · skip
            refine am_F.ltg K hK (fun c7 hK => ?_) (fun c7 hK => ?_)
            · show am_F _ _ 102 [.ref 0, .int (nI rule_n), .int what, .ref 18] [] (am_S f g) _
              refine am_F.ops (pc' := 107) (L' := [.ref 0, .int (nI rule_n), .int what, .ref 18]) (S' := [.int (nI rule_n), .int (f 18 10)]) (μ' := (am_S f g)) 3 rfl ?_
              refine am_F.call rfl rfl (x_has (f 18 10) (nI rule_n) f g ) (by decide) ?_
              show am_F _ _ 110 [.ref 0, .int (nI rule_n), .int what, .ref 18] [.int (am_b (fn_has (f 18 10) (nI rule_n)))] (am_S f g) _
              refine am_F.to (am_To.bifB (pc' := 118) (L2 := [.ref 0, .int (nI rule_n), .int what, .ref 18]) (S2 := []) (μ2 := (am_S f g)) (a := true) (b := false) 1 rfl (fun c8 => ?_) (fun c8 => ?_)) ?_
              · intro res9 g9
                show am_F _ _ 113 [.ref 0, .int (nI rule_n), .int what, .ref 18] [] (am_S f g) _
                refine am_F.ops (pc' := 118) (L' := [.ref 0, .int (nI rule_n), .int what, .ref 18]) (S' := [.int 1]) (μ' := (am_S f g)) 2 rfl ?_
                exact g9
              · intro res9 g9
                show am_F _ _ 117 [.ref 0, .int (nI rule_n), .int what, .ref 18] [] (am_S f g) _
                refine am_F.ops (pc' := 118) (L' := [.ref 0, .int (nI rule_n), .int what, .ref 18]) (S' := [.int 0]) (μ' := (am_S f g)) 1 rfl ?_
                exact g9
              show am_F _ _ 118 [.ref 0, .int (nI rule_n), .int what, .ref 18] [.int (am_b (bif (fn_has (f 18 10) (nI rule_n)) then true else false))] (am_S f g) _
              subst hKd
              exact am_F.eq (am_F.ret rfl rfl) hK
            · skip
              refine am_F.ltg K hK (fun c9 hK => ?_) (fun c9 hK => ?_)
              · show am_F _ _ 119 [.ref 0, .int (nI rule_n), .int what, .ref 18] [] (am_S f g) _
                refine am_F.ops (pc' := 124) (L' := [.ref 0, .int (nI rule_n), .int what, .ref 18]) (S' := [.int (nI rule_n), .ref 22]) (μ' := (am_S f g)) 3 rfl ?_
                refine am_F.ialE (m := rule_n) (N := 30) rfl rfl rfl rfl (by omega) (by decide) ?_
                show am_F _ _ 125 [.ref 0, .int (nI rule_n), .int what, .ref 18] [.int (f 22 rule_n)] (am_S f g) _
                subst hKd
                exact am_F.eq (am_F.ret rfl rfl) hK
              · skip
                refine am_F.ltg K hK (fun c10 hK => ?_) (fun c10 hK => ?_)
                · show am_F _ _ 126 [.ref 0, .int (nI rule_n), .int what, .ref 18] [] (am_S f g) _
                  refine am_F.ops (pc' := 131) (L' := [.ref 0, .int (nI rule_n), .int what, .ref 18]) (S' := [.int (nI rule_n), .ref 23]) (μ' := (am_S f g)) 3 rfl ?_
                  refine am_F.ialE (m := rule_n) (N := 30) rfl rfl rfl rfl (by omega) (by decide) ?_
                  show am_F _ _ 132 [.ref 0, .int (nI rule_n), .int what, .ref 18] [.int (f 23 rule_n)] (am_S f g) _
                  subst hKd
                  exact am_F.eq (am_F.ret rfl rfl) hK
                · skip
                  refine am_F.ltg K hK (fun c11 hK => ?_) (fun c11 hK => ?_)
                  · show am_F _ _ 133 [.ref 0, .int (nI rule_n), .int what, .ref 18] [] (am_S f g) _
                    refine am_F.ops (pc' := 138) (L' := [.ref 0, .int (nI rule_n), .int what, .ref 18]) (S' := [.int (nI rule_n), .ref 25]) (μ' := (am_S f g)) 3 rfl ?_
                    refine am_F.ialE (m := rule_n) (N := 30) rfl rfl rfl rfl (by omega) (by decide) ?_
                    show am_F _ _ 139 [.ref 0, .int (nI rule_n), .int what, .ref 18] [.int (f 25 rule_n)] (am_S f g) _
                    refine am_F.to (am_To.iteB (pc' := 147) (L2 := [.ref 0, .int (nI rule_n), .int what, .ref 18]) (S2 := []) (μ2 := (am_S f g)) (a := false) (b := true) 1 rfl (fun c12 => ?_) (fun c12 => ?_)) ?_
                    · intro res9 g9
                      show am_F _ _ 146 [.ref 0, .int (nI rule_n), .int what, .ref 18] [] (am_S f g) _
                      refine am_F.ops (pc' := 147) (L' := [.ref 0, .int (nI rule_n), .int what, .ref 18]) (S' := [.int 0]) (μ' := (am_S f g)) 1 rfl ?_
                      exact g9
                    · intro res9 g9
                      show am_F _ _ 142 [.ref 0, .int (nI rule_n), .int what, .ref 18] [] (am_S f g) _
                      refine am_F.ops (pc' := 147) (L' := [.ref 0, .int (nI rule_n), .int what, .ref 18]) (S' := [.int 1]) (μ' := (am_S f g)) 2 rfl ?_
                      exact g9
                    show am_F _ _ 147 [.ref 0, .int (nI rule_n), .int what, .ref 18] [.int (am_b (if (f 25 rule_n) ≤ 0 then false else true))] (am_S f g) _
                    subst hKd
                    exact am_F.eq (am_F.ret rfl rfl) hK
                  · skip
                    show am_F _ _ 148 [.ref 0, .int (nI rule_n), .int what, .ref 18] [] (am_S f g) _
                    refine am_F.ops (pc' := 149) (L' := [.ref 0, .int (nI rule_n), .int what, .ref 18]) (S' := [.int (-1)]) (μ' := (am_S f g)) 1 rfl ?_
                    subst hKd
                    exact am_F.eq (am_F.ret rfl rfl) hK
  · show am_F _ _ 8 [.ref 0, .int rule, .int what, am_un] [] (am_S f g) _
    refine am_F.ops (pc' := 9) (L' := [.ref 0, .int rule, .int what, am_un]) (S' := [.int (-1)]) (μ' := (am_S f g)) 1 rfl ?_
    subst hKd
    exact am_F.eq (am_F.ret rfl rfl) hK
/-- AccessLattice.uses -/
def fn_uses (rule : Int32) (n : Int32) (f : Nat → Nat → Int32) : Int32 × (Nat → Int32) := (bif (fn_isRule rule f) then (if n = (-1) then (1, upd (f 24) (rule.toNatClampNeg) n) else (bif (fn_between n 1 99) then (1, upd (f 24) (rule.toNatClampNeg) n) else ((-1), f 24))) else ((-1), f 24))
theorem x_uses (rule : Int32) (n : Int32) (f : Nat → Nat → Int32) (g : Nat → Nat → Int64) (hRc : f 18 11 = nI (f 18 11).toNatClampNeg) (hRn : (f 18 11).toNatClampNeg ≤ 30) : am_D 2 68 3 [.ref 0, .int rule, .int n] (am_S f g) (some (Value.int ((fn_uses rule n f).1)), am_S (am_row f 24 ((fn_uses rule n f).2)) g) := by
  refine am_D.of (code := am_k_68) rfl (L0 := [.ref 0, .int rule, .int n]) rfl ?_
  generalize hres : (some (Value.int ((fn_uses rule n f).1)), am_S (am_row f 24 ((fn_uses rule n f).2)) g) = res
  obtain ⟨K, hKd⟩ : ∃ K : (Int32 × (Nat → Int32)) → Prop, K = fun z => (some (Value.int z.1), am_S (am_row f 24 z.2) g) = res := ⟨_, rfl⟩
  have hK : K (fn_uses rule n f) := by rw [hKd]; exact hres
  clear hres
  unfold fn_uses at hK
  refine am_F.ops (pc' := 2) (L' := [.ref 0, .int rule, .int n]) (S' := [.int rule, .ref 0]) (μ' := (am_S f g)) 2 rfl ?_
  refine am_F.call rfl rfl (x_isRule rule f g hRc hRn) (by decide) ?_
  show am_F _ _ 5 [.ref 0, .int rule, .int n] [.int (am_b (fn_isRule rule f))] (am_S f g) _
  refine am_F.bifK 1 rfl K hK (fun c1 hK => ?_) (fun c1 hK => ?_)
  · obtain ⟨rule_n, hrule_n, erule_n⟩ := (am_iRule hRc (by omega) c1)
    subst erule_n
    try simp only [nI_clamp (show rule_n < 2147483648 by omega)] at hK
    show am_F _ _ 8 [.ref 0, .int (nI rule_n), .int n] [] (am_S f g) _
    refine am_F.ops (pc' := 10) (L' := [.ref 0, .int (nI rule_n), .int n]) (S' := [.int (-1), .int n]) (μ' := (am_S f g)) 2 rfl ?_
    refine am_F.iteK 1 rfl K hK (fun c2 hK => ?_) (fun c2 hK => ?_)
    · show am_F _ _ 25 [.ref 0, .int (nI rule_n), .int n] [] (am_S f g) _
      refine am_F.ops (pc' := 37) (L' := [.ref 0, .int (nI rule_n), .int n]) (S' := [.int n, .int (nI rule_n), .ref 24]) (μ' := (am_S f g)) 6 rfl ?_
      refine am_F.iasE (F' := (am_row f 24 (upd (f 24) rule_n n))) (m := rule_n) (N := 30) rfl rfl rfl rfl (by omega) (by decide) (by first | rfl | (funext a; by_cases z0 : a = 24; (subst z0; rfl); simp only [am_ui, am_ul, am_row_ne z0])) ?_
      refine am_F.ops (pc' := 39) (L' := [.ref 0, .int (nI rule_n), .int n]) (S' := [.int 1]) (μ' := (am_S (am_row f 24 (upd (f 24) rule_n n)) g)) 1 rfl ?_
      subst hKd
      exact am_F.eq (am_F.ret rfl rfl) hK
    · show am_F _ _ 13 [.ref 0, .int (nI rule_n), .int n] [] (am_S f g) _
      refine am_F.ops (pc' := 17) (L' := [.ref 0, .int (nI rule_n), .int n]) (S' := [.int 99, .int 1, .int n]) (μ' := (am_S f g)) 3 rfl ?_
      refine am_F.call rfl rfl (x_between n 1 99 f g ) (by decide) ?_
      show am_F _ _ 20 [.ref 0, .int (nI rule_n), .int n] [.int (am_b (fn_between n 1 99))] (am_S f g) _
      refine am_F.bifK 1 rfl K hK (fun c3 hK => ?_) (fun c3 hK => ?_)
      · show am_F _ _ 25 [.ref 0, .int (nI rule_n), .int n] [] (am_S f g) _
        refine am_F.ops (pc' := 37) (L' := [.ref 0, .int (nI rule_n), .int n]) (S' := [.int n, .int (nI rule_n), .ref 24]) (μ' := (am_S f g)) 6 rfl ?_
        refine am_F.iasE (F' := (am_row f 24 (upd (f 24) rule_n n))) (m := rule_n) (N := 30) rfl rfl rfl rfl (by omega) (by decide) (by first | rfl | (funext a; by_cases z0 : a = 24; (subst z0; rfl); simp only [am_ui, am_ul, am_row_ne z0])) ?_
        refine am_F.ops (pc' := 39) (L' := [.ref 0, .int (nI rule_n), .int n]) (S' := [.int 1]) (μ' := (am_S (am_row f 24 (upd (f 24) rule_n n)) g)) 1 rfl ?_
        subst hKd
        exact am_F.eq (am_F.ret rfl rfl) hK
      · show am_F _ _ 23 [.ref 0, .int (nI rule_n), .int n] [] (am_S f g) _
        refine am_F.ops (pc' := 24) (L' := [.ref 0, .int (nI rule_n), .int n]) (S' := [.int (-1)]) (μ' := (am_S f g)) 1 rfl ?_
        refine am_F.mem (F' := (am_row f 24 (f 24))) (G' := g) ?_ (by first | rfl | (funext a; by_cases z0 : a = 24; (subst z0; rfl); simp only [am_ui, am_ul, am_row_ne z0])) (by first | rfl | (funext a; by_cases z0 : a = 24; (subst z0; rfl); simp only [am_ui, am_ul, am_row_ne z0]))
        subst hKd
        exact am_F.eq (am_F.ret rfl rfl) hK
  · show am_F _ _ 23 [.ref 0, .int rule, .int n] [] (am_S f g) _
    refine am_F.ops (pc' := 24) (L' := [.ref 0, .int rule, .int n]) (S' := [.int (-1)]) (μ' := (am_S f g)) 1 rfl ?_
    refine am_F.mem (F' := (am_row f 24 (f 24))) (G' := g) ?_ (by first | rfl | (funext a; by_cases z0 : a = 24; (subst z0; rfl); simp only [am_ui, am_ul, am_row_ne z0])) (by first | rfl | (funext a; by_cases z0 : a = 24; (subst z0; rfl); simp only [am_ui, am_ul, am_row_ne z0]))
    subst hKd
    exact am_F.eq (am_F.ret rfl rfl) hK
/-- AccessLattice.left -/
def fn_left (rule : Int32) (f : Nat → Nat → Int32) : Int32 := (bif (fn_isRule rule f) then (if 0 ≤ (f 24 (rule.toNatClampNeg)) then f 24 (rule.toNatClampNeg) else (-2)) else (-1))
theorem x_left (rule : Int32) (f : Nat → Nat → Int32) (g : Nat → Nat → Int64) (hRc : f 18 11 = nI (f 18 11).toNatClampNeg) (hRn : (f 18 11).toNatClampNeg ≤ 30) : am_D 2 69 3 [.ref 0, .int rule] (am_S f g) (some (Value.int (fn_left rule f)), am_S f g) := by
  refine am_D.of (code := am_k_69) rfl (L0 := [.ref 0, .int rule, am_un]) rfl ?_
  generalize hres : (some (Value.int (fn_left rule f)), am_S f g) = res
  obtain ⟨K, hKd⟩ : ∃ K : Int32 → Prop, K = fun z => (some (Value.int z), am_S f g) = res := ⟨_, rfl⟩
  have hK : K (fn_left rule f) := by rw [hKd]; exact hres
  clear hres
  unfold fn_left at hK
  refine am_F.ops (pc' := 2) (L' := [.ref 0, .int rule, am_un]) (S' := [.int rule, .ref 0]) (μ' := (am_S f g)) 2 rfl ?_
  refine am_F.call rfl rfl (x_isRule rule f g hRc hRn) (by decide) ?_
  show am_F _ _ 5 [.ref 0, .int rule, am_un] [.int (am_b (fn_isRule rule f))] (am_S f g) _
  refine am_F.bifK 1 rfl K hK (fun c1 hK => ?_) (fun c1 hK => ?_)
  · obtain ⟨rule_n, hrule_n, erule_n⟩ := (am_iRule hRc (by omega) c1)
    subst erule_n
    try simp only [nI_clamp (show rule_n < 2147483648 by omega)] at hK
    show am_F _ _ 10 [.ref 0, .int (nI rule_n), am_un] [] (am_S f g) _
    refine am_F.ops (pc' := 21) (L' := [.ref 0, .int (nI rule_n), am_un]) (S' := [.int (nI rule_n), .ref 24]) (μ' := (am_S f g)) 5 rfl ?_
    refine am_F.ialE (m := rule_n) (N := 30) rfl rfl rfl rfl (by omega) (by decide) ?_
    show am_F _ _ 22 [.ref 0, .int (nI rule_n), am_un] [.int (f 24 rule_n)] (am_S f g) _
    refine am_F.ops (pc' := 24) (L' := [.ref 0, .int (nI rule_n), .int (f 24 rule_n)]) (S' := [.int (f 24 rule_n)]) (μ' := (am_S f g)) 2 rfl ?_
    refine am_F.to (am_To.ite (pc' := 33) (L2 := [.ref 0, .int (nI rule_n), .int (f 24 rule_n)]) (S2 := []) (μ2 := (am_S f g)) (a := f 24 rule_n) (b := (-2)) 1 rfl (fun c2 => ?_) (fun c2 => ?_)) ?_
    · intro res9 g9
      show am_F _ _ 32 [.ref 0, .int (nI rule_n), .int (f 24 rule_n)] [] (am_S f g) _
      refine am_F.ops (pc' := 33) (L' := [.ref 0, .int (nI rule_n), .int (f 24 rule_n)]) (S' := [.int (f 24 rule_n)]) (μ' := (am_S f g)) 1 rfl ?_
      exact g9
    · intro res9 g9
      show am_F _ _ 27 [.ref 0, .int (nI rule_n), .int (f 24 rule_n)] [] (am_S f g) _
      refine am_F.ops (pc' := 33) (L' := [.ref 0, .int (nI rule_n), .int (f 24 rule_n)]) (S' := [.int (-2)]) (μ' := (am_S f g)) 2 rfl ?_
      exact g9
    show am_F _ _ 33 [.ref 0, .int (nI rule_n), .int (f 24 rule_n)] [.int (if 0 ≤ (f 24 rule_n) then f 24 rule_n else (-2))] (am_S f g) _
    subst hKd
    exact am_F.eq (am_F.ret rfl rfl) hK
  · show am_F _ _ 8 [.ref 0, .int rule, am_un] [] (am_S f g) _
    refine am_F.ops (pc' := 9) (L' := [.ref 0, .int rule, am_un]) (S' := [.int (-1)]) (μ' := (am_S f g)) 1 rfl ?_
    subst hKd
    exact am_F.eq (am_F.ret rfl rfl) hK
theorem am_inbL {x y : Int32} {n : Nat} (h0 : ¬ x < 0) (h1 : x < y) (hy : y.toInt = (n : Int)) : am_inb x n = true := by
  rw [Int32.lt_iff_toInt_lt] at h0
  rw [Int32.lt_iff_toInt_lt, hy] at h1
  have : (0 : Int32).toInt = 0 := rfl
  exact am_inbI (by omega) h1
/-- AccessLattice.why -/
def fn_why (i : Int32) (what : Int32) (f : Nat → Nat → Int32) : Int32 := (if i < 0 then (-1) else (bif (fn_within01 what) then (if (f 83 2) ≤ i then (-2) else (if i < 62 then (if what = 0 then f 84 i.toNatClampNeg else f 85 i.toNatClampNeg) else (-2))) else (-1)))
theorem x_why (i : Int32) (what : Int32) (f : Nat → Nat → Int32) (g : Nat → Nat → Int64)  : am_D 1 96 3 [.ref 0, .int i, .int what] (am_S f g) (some (Value.int (fn_why i what f)), am_S f g) := by
  refine am_D.of (code := am_k_96) rfl (L0 := [.ref 0, .int i, .int what]) rfl ?_
  generalize hres : (some (Value.int (fn_why i what f)), am_S f g) = res
  obtain ⟨K, hKd⟩ : ∃ K : Int32 → Prop, K = fun z => (some (Value.int z), am_S f g) = res := ⟨_, rfl⟩
  have hK : K (fn_why i what f) := by rw [hKd]; exact hres
  clear hres
  unfold fn_why at hK
  refine am_F.ops (pc' := 1) (L' := [.ref 0, .int i, .int what]) (S' := [.int i]) (μ' := (am_S f g)) 1 rfl ?_
  refine am_F.iteK 1 rfl K hK (fun c1 hK => ?_) (fun c1 hK => ?_)
  · show am_F _ _ 11 [.ref 0, .int i, .int what] [] (am_S f g) _
    refine am_F.ops (pc' := 12) (L' := [.ref 0, .int i, .int what]) (S' := [.int (-1)]) (μ' := (am_S f g)) 1 rfl ?_
    subst hKd
    exact am_F.eq (am_F.ret rfl rfl) hK
  · show am_F _ _ 4 [.ref 0, .int i, .int what] [] (am_S f g) _
    refine am_F.ops (pc' := 5) (L' := [.ref 0, .int i, .int what]) (S' := [.int what]) (μ' := (am_S f g)) 1 rfl ?_
    refine am_F.call rfl rfl (x_within01 what f g ) (by decide) ?_
    show am_F _ _ 8 [.ref 0, .int i, .int what] [.int (am_b (fn_within01 what))] (am_S f g) _
    refine am_F.bifK 1 rfl K hK (fun c2 hK => ?_) (fun c2 hK => ?_)
    · show am_F _ _ 13 [.ref 0, .int i, .int what] [] (am_S f g) _
      refine am_F.ops (pc' := 21) (L' := [.ref 0, .int i, .int what]) (S' := [.int (f 83 2), .int i]) (μ' := (am_S f g)) 4 rfl ?_
      refine am_F.iteK 1 rfl K hK (fun c3 hK => ?_) (fun c3 hK => ?_)
      · show am_F _ _ 36 [.ref 0, .int i, .int what] [] (am_S f g) _
        refine am_F.ops (pc' := 38) (L' := [.ref 0, .int i, .int what]) (S' := [.int (-2)]) (μ' := (am_S f g)) 1 rfl ?_
        subst hKd
        exact am_F.eq (am_F.ret rfl rfl) hK
      · show am_F _ _ 24 [.ref 0, .int i, .int what] [] (am_S f g) _
        refine am_F.ops (pc' := 33) (L' := [.ref 0, .int i, .int what]) (S' := [.int 62, .int i]) (μ' := (am_S f g)) 5 rfl ?_
        refine am_F.iteK 1 rfl K hK (fun c4 hK => ?_) (fun c4 hK => ?_)
        · show am_F _ _ 39 [.ref 0, .int i, .int what] [] (am_S f g) _
          refine am_F.ops (pc' := 40) (L' := [.ref 0, .int i, .int what]) (S' := [.int what]) (μ' := (am_S f g)) 1 rfl ?_
          refine am_F.to (am_To.ite (pc' := 64) (L2 := [.ref 0, .int i, .int what]) (S2 := []) (μ2 := (am_S f g)) (a := f 84 i.toNatClampNeg) (b := f 85 i.toNatClampNeg) 1 rfl (fun c5 => ?_) (fun c5 => ?_)) ?_
          · intro res9 g9
            show am_F _ _ 43 [.ref 0, .int i, .int what] [] (am_S f g) _
            refine am_F.ops (pc' := 51) (L' := [.ref 0, .int i, .int what]) (S' := [.int i, .ref 84]) (μ' := (am_S f g)) 4 rfl ?_
            refine am_F.ial (N := 62) rfl rfl rfl (am_inbL (y := 62) (by assumption) (by assumption) rfl) ?_
            show am_F _ _ 52 [.ref 0, .int i, .int what] [.int (f 84 i.toNatClampNeg)] (am_S f g) _
            refine am_F.ops (pc' := 64) (L' := [.ref 0, .int i, .int what]) (S' := [.int (f 84 i.toNatClampNeg)]) (μ' := (am_S f g)) 1 rfl ?_
            exact g9
          · intro res9 g9
            show am_F _ _ 55 [.ref 0, .int i, .int what] [] (am_S f g) _
            refine am_F.ops (pc' := 63) (L' := [.ref 0, .int i, .int what]) (S' := [.int i, .ref 85]) (μ' := (am_S f g)) 4 rfl ?_
            refine am_F.ial (N := 62) rfl rfl rfl (am_inbL (y := 62) (by assumption) (by assumption) rfl) ?_
            show am_F _ _ 64 [.ref 0, .int i, .int what] [.int (f 85 i.toNatClampNeg)] (am_S f g) _
            exact g9
          show am_F _ _ 64 [.ref 0, .int i, .int what] [.int (if what = 0 then f 84 i.toNatClampNeg else f 85 i.toNatClampNeg)] (am_S f g) _
          subst hKd
          exact am_F.eq (am_F.ret rfl rfl) hK
        · show am_F _ _ 36 [.ref 0, .int i, .int what] [] (am_S f g) _
          refine am_F.ops (pc' := 38) (L' := [.ref 0, .int i, .int what]) (S' := [.int (-2)]) (μ' := (am_S f g)) 1 rfl ?_
          subst hKd
          exact am_F.eq (am_F.ret rfl rfl) hK
    · show am_F _ _ 11 [.ref 0, .int i, .int what] [] (am_S f g) _
      refine am_F.ops (pc' := 12) (L' := [.ref 0, .int i, .int what]) (S' := [.int (-1)]) (μ' := (am_S f g)) 1 rfl ?_
      subst hKd
      exact am_F.eq (am_F.ret rfl rfl) hK
/-- AccessLattice.who -/
def fn_who (act : Int32) (thing : Int32) (way : Int32) (f : Nat → Nat → Int32) (g : Nat → Nat → Int64) : Int32 × (Nat → Int32) × (Nat → Int32) × (Nat → Int32) × (Nat → Int32) × (Nat → Int32) × (Nat → Int64) := (bif (fn_isAct act) then (bif (fn_isThing thing) then (bif (fn_within01 way) then ((fn_usersWith (if way = 0 then 1 else 2) act (thing.toNatClampNeg) (am_row (am_row (am_row f 1 (fn_settle (f 2 12) f g).1) 34 (fn_settle (f 2 12) f g).2.1) 35 (fn_settle (f 2 12) f g).2.2.1)).1, (fn_settle (f 2 12) f g).1, (fn_settle (f 2 12) f g).2.1, (fn_settle (f 2 12) f g).2.2.1, (fn_usersWith (if way = 0 then 1 else 2) act (thing.toNatClampNeg) (am_row (am_row (am_row f 1 (fn_settle (f 2 12) f g).1) 34 (fn_settle (f 2 12) f g).2.1) 35 (fn_settle (f 2 12) f g).2.2.1)).2.1, (fn_usersWith (if way = 0 then 1 else 2) act (thing.toNatClampNeg) (am_row (am_row (am_row f 1 (fn_settle (f 2 12) f g).1) 34 (fn_settle (f 2 12) f g).2.1) 35 (fn_settle (f 2 12) f g).2.2.1)).2.2, (fn_settle (f 2 12) f g).2.2.2) else ((-1), f 1, f 34, f 35, f 36, f 37, g 1)) else ((-1), f 1, f 34, f 35, f 36, f 37, g 1)) else ((-1), f 1, f 34, f 35, f 36, f 37, g 1))
theorem x_who (act : Int32) (thing : Int32) (way : Int32) (f : Nat → Nat → Int32) (g : Nat → Nat → Int64) (hLc : f 11 7 = nI (f 11 7).toNatClampNeg) (hLn : (f 11 7).toNatClampNeg ≤ 40) (hLf : ∀ i, i < (f 11 7).toNatClampNeg → am_inb (f 12 i) 16 = true) (hLt : ∀ i, i < (f 11 7).toNatClampNeg → am_inb (f 13 i) 16 = true) (hLr : ∀ i, i < (f 11 7).toNatClampNeg → am_inb (f 14 i) 20 = true) (hRc : f 18 11 = nI (f 18 11).toNatClampNeg) (hRn : (f 18 11).toNatClampNeg ≤ 30) (hRr : ∀ i, i < (f 18 11).toNatClampNeg → am_inb (f 19 i) 20 = true) (hPa : ∀ t, t < 16 → (f 29 t).toInt < 16) (hCs : ∀ i, i < (f 18 11).toNatClampNeg → f 25 i = nI (f 25 i).toNatClampNeg ∧ (f 25 i).toNatClampNeg ≤ 80) : am_D 6 97 4 [.ref 0, .int act, .int thing, .int way] (am_S f g) (some (Value.int ((fn_who act thing way f g).1)), am_S (am_row (am_row (am_row (am_row (am_row f 1 ((fn_who act thing way f g).2.1)) 34 ((fn_who act thing way f g).2.2.1)) 35 ((fn_who act thing way f g).2.2.2.1)) 36 ((fn_who act thing way f g).2.2.2.2.1)) 37 ((fn_who act thing way f g).2.2.2.2.2.1)) (am_row g 1 ((fn_who act thing way f g).2.2.2.2.2.2))) := by
  refine am_D.of (code := am_k_97) rfl (L0 := [.ref 0, .int act, .int thing, .int way]) rfl ?_
  generalize hres : (some (Value.int ((fn_who act thing way f g).1)), am_S (am_row (am_row (am_row (am_row (am_row f 1 ((fn_who act thing way f g).2.1)) 34 ((fn_who act thing way f g).2.2.1)) 35 ((fn_who act thing way f g).2.2.2.1)) 36 ((fn_who act thing way f g).2.2.2.2.1)) 37 ((fn_who act thing way f g).2.2.2.2.2.1)) (am_row g 1 ((fn_who act thing way f g).2.2.2.2.2.2))) = res
  obtain ⟨K, hKd⟩ : ∃ K : (Int32 × (Nat → Int32) × (Nat → Int32) × (Nat → Int32) × (Nat → Int32) × (Nat → Int32) × (Nat → Int64)) → Prop, K = fun z => (some (Value.int z.1), am_S (am_row (am_row (am_row (am_row (am_row f 1 z.2.1) 34 z.2.2.1) 35 z.2.2.2.1) 36 z.2.2.2.2.1) 37 z.2.2.2.2.2.1) (am_row g 1 z.2.2.2.2.2.2)) = res := ⟨_, rfl⟩
  have hK : K (fn_who act thing way f g) := by rw [hKd]; exact hres
  clear hres
  unfold fn_who at hK
  refine am_F.ops (pc' := 1) (L' := [.ref 0, .int act, .int thing, .int way]) (S' := [.int act]) (μ' := (am_S f g)) 1 rfl ?_
  refine am_F.call rfl rfl (x_isAct act f g ) (by decide) ?_
  show am_F _ _ 4 [.ref 0, .int act, .int thing, .int way] [.int (am_b (fn_isAct act))] (am_S f g) _
  refine am_F.bifK 1 rfl K hK (fun c1 hK => ?_) (fun c1 hK => ?_)
  · obtain ⟨act_n, hact_n, eact_n⟩ := am_iAct c1
    subst eact_n
    try simp only [nI_clamp (show act_n < 2147483648 by omega)] at hK
    show am_F _ _ 7 [.ref 0, .int (nI act_n), .int thing, .int way] [] (am_S f g) _
    refine am_F.ops (pc' := 8) (L' := [.ref 0, .int (nI act_n), .int thing, .int way]) (S' := [.int thing]) (μ' := (am_S f g)) 1 rfl ?_
    refine am_F.call rfl rfl (x_isThing thing f g ) (by decide) ?_
    show am_F _ _ 11 [.ref 0, .int (nI act_n), .int thing, .int way] [.int (am_b (fn_isThing thing))] (am_S f g) _
    refine am_F.bifK 1 rfl K hK (fun c2 hK => ?_) (fun c2 hK => ?_)
    · obtain ⟨thing_n, hthing_n, ething_n⟩ := am_iThing c2
      subst ething_n
      try simp only [nI_clamp (show thing_n < 2147483648 by omega)] at hK
      show am_F _ _ 14 [.ref 0, .int (nI act_n), .int (nI thing_n), .int way] [] (am_S f g) _
      refine am_F.ops (pc' := 15) (L' := [.ref 0, .int (nI act_n), .int (nI thing_n), .int way]) (S' := [.int way]) (μ' := (am_S f g)) 1 rfl ?_
      refine am_F.call rfl rfl (x_within01 way f g ) (by decide) ?_
      show am_F _ _ 18 [.ref 0, .int (nI act_n), .int (nI thing_n), .int way] [.int (am_b (fn_within01 way))] (am_S f g) _
      refine am_F.bifK 1 rfl K hK (fun c3 hK => ?_) (fun c3 hK => ?_)
      · show am_F _ _ 23 [.ref 0, .int (nI act_n), .int (nI thing_n), .int way] [] (am_S f g) _
        refine am_F.ops (pc' := 34) (L' := [.ref 0, .int (nI act_n), .int (nI thing_n), .int way]) (S' := [.int (f 2 12), .ref 1]) (μ' := (am_S f g)) 5 rfl ?_
        refine am_F.call rfl rfl (x_settle (f 2 12) f g hLc hLn hLf hLt hLr hRc hRn) (by decide) ?_
        obtain ⟨y4, hy4⟩ : ∃ z, (fn_settle (f 2 12) f g) = z := ⟨_, rfl⟩
        (try rw [hy4] at hK)
        (try rw [hy4])
        refine am_F.mem (F' := (am_row (am_row (am_row f 1 y4.1) 34 y4.2.1) 35 y4.2.2.1)) (G' := (am_row g 1 y4.2.2.2)) ?_ (by first | rfl | (funext a; by_cases z0 : a = 1; (subst z0; rfl); by_cases z1 : a = 34; (subst z1; rfl); by_cases z2 : a = 35; (subst z2; rfl); simp only [am_ui, am_ul, am_row_ne z0, am_row_ne z1, am_row_ne z2])) (by first | rfl | (funext a; by_cases z0 : a = 1; (subst z0; rfl); by_cases z1 : a = 34; (subst z1; rfl); by_cases z2 : a = 35; (subst z2; rfl); simp only [am_ui, am_ul, am_row_ne z0, am_row_ne z1, am_row_ne z2]))
        show am_F _ _ 37 [.ref 0, .int (nI act_n), .int (nI thing_n), .int way] [] (am_S (am_row (am_row (am_row f 1 y4.1) 34 y4.2.1) 35 y4.2.2.1) (am_row g 1 y4.2.2.2)) _
        refine am_F.ops (pc' := 42) (L' := [.ref 0, .int (nI act_n), .int (nI thing_n), .int way]) (S' := [.int way, .ref 1]) (μ' := (am_S (am_row (am_row (am_row f 1 y4.1) 34 y4.2.1) 35 y4.2.2.1) (am_row g 1 y4.2.2.2))) 3 rfl ?_
        refine am_F.to (am_To.ite (pc' := 50) (L2 := [.ref 0, .int (nI act_n), .int (nI thing_n), .int way]) (S2 := [.ref 1]) (μ2 := (am_S (am_row (am_row (am_row f 1 y4.1) 34 y4.2.1) 35 y4.2.2.1) (am_row g 1 y4.2.2.2))) (a := 1) (b := 2) 1 rfl (fun c5 => ?_) (fun c5 => ?_)) ?_
        · intro res9 g9
          show am_F _ _ 45 [.ref 0, .int (nI act_n), .int (nI thing_n), .int way] [.ref 1] (am_S (am_row (am_row (am_row f 1 y4.1) 34 y4.2.1) 35 y4.2.2.1) (am_row g 1 y4.2.2.2)) _
          refine am_F.ops (pc' := 50) (L' := [.ref 0, .int (nI act_n), .int (nI thing_n), .int way]) (S' := [.int 1, .ref 1]) (μ' := (am_S (am_row (am_row (am_row f 1 y4.1) 34 y4.2.1) 35 y4.2.2.1) (am_row g 1 y4.2.2.2))) 2 rfl ?_
          exact g9
        · intro res9 g9
          show am_F _ _ 49 [.ref 0, .int (nI act_n), .int (nI thing_n), .int way] [.ref 1] (am_S (am_row (am_row (am_row f 1 y4.1) 34 y4.2.1) 35 y4.2.2.1) (am_row g 1 y4.2.2.2)) _
          refine am_F.ops (pc' := 50) (L' := [.ref 0, .int (nI act_n), .int (nI thing_n), .int way]) (S' := [.int 2, .ref 1]) (μ' := (am_S (am_row (am_row (am_row f 1 y4.1) 34 y4.2.1) 35 y4.2.2.1) (am_row g 1 y4.2.2.2))) 1 rfl ?_
          exact g9
        show am_F _ _ 50 [.ref 0, .int (nI act_n), .int (nI thing_n), .int way] [.int (if way = 0 then 1 else 2), .ref 1] (am_S (am_row (am_row (am_row f 1 y4.1) 34 y4.2.1) 35 y4.2.2.1) (am_row g 1 y4.2.2.2)) _
        refine am_F.ops (pc' := 52) (L' := [.ref 0, .int (nI act_n), .int (nI thing_n), .int way]) (S' := [.int (nI thing_n), .int (nI act_n), .int (if way = 0 then 1 else 2), .ref 1]) (μ' := (am_S (am_row (am_row (am_row f 1 y4.1) 34 y4.2.1) 35 y4.2.2.1) (am_row g 1 y4.2.2.2))) 2 rfl ?_
        refine am_F.call rfl rfl (x_usersWith (if way = 0 then 1 else 2) (nI act_n) thing_n (am_row (am_row (am_row f 1 y4.1) 34 y4.2.1) 35 y4.2.2.1) (am_row g 1 y4.2.2.2) hRc hRn hPa hCs (by omega)) (by decide) ?_
        obtain ⟨y6, hy6⟩ : ∃ z, (fn_usersWith (if way = 0 then 1 else 2) (nI act_n) thing_n (am_row (am_row (am_row f 1 y4.1) 34 y4.2.1) 35 y4.2.2.1)) = z := ⟨_, rfl⟩
        (try rw [hy6] at hK)
        (try rw [hy6])
        refine am_F.mem (F' := (am_row (am_row (am_row (am_row (am_row f 1 y4.1) 34 y4.2.1) 35 y4.2.2.1) 36 y6.2.1) 37 y6.2.2)) (G' := (am_row g 1 y4.2.2.2)) ?_ (by first | rfl | (funext a; by_cases z0 : a = 1; (subst z0; rfl); by_cases z1 : a = 34; (subst z1; rfl); by_cases z2 : a = 35; (subst z2; rfl); by_cases z3 : a = 36; (subst z3; rfl); by_cases z4 : a = 37; (subst z4; rfl); simp only [am_ui, am_ul, am_row_ne z0, am_row_ne z1, am_row_ne z2, am_row_ne z3, am_row_ne z4])) (by first | rfl | (funext a; by_cases z0 : a = 1; (subst z0; rfl); by_cases z1 : a = 34; (subst z1; rfl); by_cases z2 : a = 35; (subst z2; rfl); by_cases z3 : a = 36; (subst z3; rfl); by_cases z4 : a = 37; (subst z4; rfl); simp only [am_ui, am_ul, am_row_ne z0, am_row_ne z1, am_row_ne z2, am_row_ne z3, am_row_ne z4]))
        show am_F _ _ 55 [.ref 0, .int (nI act_n), .int (nI thing_n), .int way] [.int y6.1] (am_S (am_row (am_row (am_row (am_row (am_row f 1 y4.1) 34 y4.2.1) 35 y4.2.2.1) 36 y6.2.1) 37 y6.2.2) (am_row g 1 y4.2.2.2)) _
        subst hKd
        exact am_F.eq (am_F.ret rfl rfl) hK
      · show am_F _ _ 21 [.ref 0, .int (nI act_n), .int (nI thing_n), .int way] [] (am_S f g) _
        refine am_F.ops (pc' := 22) (L' := [.ref 0, .int (nI act_n), .int (nI thing_n), .int way]) (S' := [.int (-1)]) (μ' := (am_S f g)) 1 rfl ?_
        refine am_F.mem (F' := (am_row (am_row (am_row (am_row (am_row f 1 (f 1)) 34 (f 34)) 35 (f 35)) 36 (f 36)) 37 (f 37))) (G' := (am_row g 1 (g 1))) ?_ (by first | rfl | (funext a; by_cases z0 : a = 1; (subst z0; rfl); by_cases z1 : a = 34; (subst z1; rfl); by_cases z2 : a = 35; (subst z2; rfl); by_cases z3 : a = 36; (subst z3; rfl); by_cases z4 : a = 37; (subst z4; rfl); simp only [am_ui, am_ul, am_row_ne z0, am_row_ne z1, am_row_ne z2, am_row_ne z3, am_row_ne z4])) (by first | rfl | (funext a; by_cases z0 : a = 1; (subst z0; rfl); by_cases z1 : a = 34; (subst z1; rfl); by_cases z2 : a = 35; (subst z2; rfl); by_cases z3 : a = 36; (subst z3; rfl); by_cases z4 : a = 37; (subst z4; rfl); simp only [am_ui, am_ul, am_row_ne z0, am_row_ne z1, am_row_ne z2, am_row_ne z3, am_row_ne z4]))
        subst hKd
        exact am_F.eq (am_F.ret rfl rfl) hK
    · show am_F _ _ 21 [.ref 0, .int (nI act_n), .int thing, .int way] [] (am_S f g) _
      refine am_F.ops (pc' := 22) (L' := [.ref 0, .int (nI act_n), .int thing, .int way]) (S' := [.int (-1)]) (μ' := (am_S f g)) 1 rfl ?_
      refine am_F.mem (F' := (am_row (am_row (am_row (am_row (am_row f 1 (f 1)) 34 (f 34)) 35 (f 35)) 36 (f 36)) 37 (f 37))) (G' := (am_row g 1 (g 1))) ?_ (by first | rfl | (funext a; by_cases z0 : a = 1; (subst z0; rfl); by_cases z1 : a = 34; (subst z1; rfl); by_cases z2 : a = 35; (subst z2; rfl); by_cases z3 : a = 36; (subst z3; rfl); by_cases z4 : a = 37; (subst z4; rfl); simp only [am_ui, am_ul, am_row_ne z0, am_row_ne z1, am_row_ne z2, am_row_ne z3, am_row_ne z4])) (by first | rfl | (funext a; by_cases z0 : a = 1; (subst z0; rfl); by_cases z1 : a = 34; (subst z1; rfl); by_cases z2 : a = 35; (subst z2; rfl); by_cases z3 : a = 36; (subst z3; rfl); by_cases z4 : a = 37; (subst z4; rfl); simp only [am_ui, am_ul, am_row_ne z0, am_row_ne z1, am_row_ne z2, am_row_ne z3, am_row_ne z4]))
      subst hKd
      exact am_F.eq (am_F.ret rfl rfl) hK
  · show am_F _ _ 21 [.ref 0, .int act, .int thing, .int way] [] (am_S f g) _
    refine am_F.ops (pc' := 22) (L' := [.ref 0, .int act, .int thing, .int way]) (S' := [.int (-1)]) (μ' := (am_S f g)) 1 rfl ?_
    refine am_F.mem (F' := (am_row (am_row (am_row (am_row (am_row f 1 (f 1)) 34 (f 34)) 35 (f 35)) 36 (f 36)) 37 (f 37))) (G' := (am_row g 1 (g 1))) ?_ (by first | rfl | (funext a; by_cases z0 : a = 1; (subst z0; rfl); by_cases z1 : a = 34; (subst z1; rfl); by_cases z2 : a = 35; (subst z2; rfl); by_cases z3 : a = 36; (subst z3; rfl); by_cases z4 : a = 37; (subst z4; rfl); simp only [am_ui, am_ul, am_row_ne z0, am_row_ne z1, am_row_ne z2, am_row_ne z3, am_row_ne z4])) (by first | rfl | (funext a; by_cases z0 : a = 1; (subst z0; rfl); by_cases z1 : a = 34; (subst z1; rfl); by_cases z2 : a = 35; (subst z2; rfl); by_cases z3 : a = 36; (subst z3; rfl); by_cases z4 : a = 37; (subst z4; rfl); simp only [am_ui, am_ul, am_row_ne z0, am_row_ne z1, am_row_ne z2, am_row_ne z3, am_row_ne z4]))
    subst hKd
    exact am_F.eq (am_F.ret rfl rfl) hK
/-- AccessLattice.where -/
def st_where_35 (user_n : Nat) (act_n : Nat) (f : Nat → Nat → Int32) (y3 : (Nat → Int32) × (Nat → Int32) × (Nat → Int32) × (Nat → Int64)) : Nat → Int32 × (Nat → Int32) × (Nat → Int32) → Int32 × (Nat → Int32) × (Nat → Int32) := fun i35 z => match z with
  | (a35_3, r35_36, r35_37) => (if (fn_answer user_n (nI act_n) i35 (am_row (am_row (am_row (am_row (am_row f 1 y3.1) 34 y3.2.1) 35 y3.2.2.1) 36 r35_36) 37 r35_37)).1 = 1 then (a35_3 ||| (1 <<< ((nI i35) &&& 31)), (fn_answer user_n (nI act_n) i35 (am_row (am_row (am_row (am_row (am_row f 1 y3.1) 34 y3.2.1) 35 y3.2.2.1) 36 r35_36) 37 r35_37)).2.1, (fn_answer user_n (nI act_n) i35 (am_row (am_row (am_row (am_row (am_row f 1 y3.1) 34 y3.2.1) 35 y3.2.2.1) 36 r35_36) 37 r35_37)).2.2) else (a35_3, (fn_answer user_n (nI act_n) i35 (am_row (am_row (am_row (am_row (am_row f 1 y3.1) 34 y3.2.1) 35 y3.2.2.1) 36 r35_36) 37 r35_37)).2.1, (fn_answer user_n (nI act_n) i35 (am_row (am_row (am_row (am_row (am_row f 1 y3.1) 34 y3.2.1) 35 y3.2.2.1) 36 r35_36) 37 r35_37)).2.2))
def lf_where_35 (user_n : Nat) (act_n : Nat) (f : Nat → Nat → Int32) (y3 : (Nat → Int32) × (Nat → Int32) × (Nat → Int32) × (Nat → Int64)) : Int32 × (Nat → Int32) × (Nat → Int32) := am_for (st_where_35 user_n act_n f y3) 16 0 (0, f 36, f 37)
def fn_where (user : Int32) (act : Int32) (f : Nat → Nat → Int32) (g : Nat → Nat → Int64) : Int32 × (Nat → Int32) × (Nat → Int32) × (Nat → Int32) × (Nat → Int32) × (Nat → Int32) × (Nat → Int64) := (bif (fn_isUser user) then (bif (fn_isAct act) then ((lf_where_35 (user.toNatClampNeg) (act.toNatClampNeg) f (fn_settle (f 2 12) f g)).1, (fn_settle (f 2 12) f g).1, (fn_settle (f 2 12) f g).2.1, (fn_settle (f 2 12) f g).2.2.1, (lf_where_35 (user.toNatClampNeg) (act.toNatClampNeg) f (fn_settle (f 2 12) f g)).2.1, (lf_where_35 (user.toNatClampNeg) (act.toNatClampNeg) f (fn_settle (f 2 12) f g)).2.2, (fn_settle (f 2 12) f g).2.2.2) else ((-1), f 1, f 34, f 35, f 36, f 37, g 1)) else ((-1), f 1, f 34, f 35, f 36, f 37, g 1))
theorem lp_where_35 (user_n : Nat) (act_n : Nat) (f : Nat → Nat → Int32) (g : Nat → Nat → Int64) (y3 : (Nat → Int32) × (Nat → Int32) × (Nat → Int32) × (Nat → Int64)) (hLc : f 11 7 = nI (f 11 7).toNatClampNeg) (hLn : (f 11 7).toNatClampNeg ≤ 40) (hLf : ∀ i, i < (f 11 7).toNatClampNeg → am_inb (f 12 i) 16 = true) (hLt : ∀ i, i < (f 11 7).toNatClampNeg → am_inb (f 13 i) 16 = true) (hLr : ∀ i, i < (f 11 7).toNatClampNeg → am_inb (f 14 i) 20 = true) (hRc : f 18 11 = nI (f 18 11).toNatClampNeg) (hRn : (f 18 11).toNatClampNeg ≤ 30) (hRr : ∀ i, i < (f 18 11).toNatClampNeg → am_inb (f 19 i) 20 = true) (hPa : ∀ t, t < 16 → (f 29 t).toInt < 16) (hCs : ∀ i, i < (f 18 11).toNatClampNeg → f 25 i = nI (f 25 i).toNatClampNeg ∧ (f 25 i).toNatClampNeg ≤ 80) (huser_n : user_n < 16) (hact_n : act_n < 8) (res : Option Value × am_M) : ∀ (n i35 : Nat) (a35_3 : Int32) (r35_36 : Nat → Int32) (r35_37 : Nat → Int32) , i35 + n = 16 → (fun (z : Int32 × (Nat → Int32) × (Nat → Int32)) => ∀ (wc : Value), am_F 6 am_k_99 70 [.ref 0, .int (nI user_n), .int (nI act_n), .int z.1, wc] [] (am_S (am_row (am_row (am_row (am_row (am_row f 1 y3.1) 34 y3.2.1) 35 y3.2.2.1) 36 z.2.1) 37 z.2.2) (am_row g 1 y3.2.2.2)) res) (am_for (st_where_35 user_n act_n f y3) n i35 (a35_3, r35_36, r35_37)) → am_F 6 am_k_99 35 [.ref 0, .int (nI user_n), .int (nI act_n), .int a35_3, .int (nI i35)] [] (am_S (am_row (am_row (am_row (am_row (am_row f 1 y3.1) 34 y3.2.1) 35 y3.2.2.1) 36 r35_36) 37 r35_37) (am_row g 1 y3.2.2.2)) res := by
  intro n
  induction n with
  | zero =>
    intro i35 a35_3 r35_36 r35_37 hi hK
    refine am_F.pos 3 rfl (by show 16 ≤ nI i35; rw [show (16 : Int32) = nI 16 from rfl]; exact nI_le (by omega) (by omega)) ?_
    exact hK _
  | succ n ih =>
    intro i35 a35_3 r35_36 r35_37 hi hK
    refine am_F.neg 3 rfl (by show ¬ 16 ≤ nI i35; rw [show (16 : Int32) = nI 16 from rfl]; exact nI_ge (by omega) (by omega)) ?_
    have hb35 : i35 < 16 := by omega
    show am_F _ _ 42 [.ref 0, .int (nI user_n), .int (nI act_n), .int a35_3, .int (nI i35)] [] (am_S (am_row (am_row (am_row (am_row (am_row f 1 y3.1) 34 y3.2.1) 35 y3.2.2.1) 36 r35_36) 37 r35_37) (am_row g 1 y3.2.2.2)) _
    obtain ⟨K, hKd⟩ : ∃ K : (Int32 × (Nat → Int32) × (Nat → Int32)) → Prop, K = fun s => (fun (z : Int32 × (Nat → Int32) × (Nat → Int32)) => ∀ (wc : Value), am_F 6 am_k_99 70 [.ref 0, .int (nI user_n), .int (nI act_n), .int z.1, wc] [] (am_S (am_row (am_row (am_row (am_row (am_row f 1 y3.1) 34 y3.2.1) 35 y3.2.2.1) 36 z.2.1) 37 z.2.2) (am_row g 1 y3.2.2.2)) res) (am_for (st_where_35 user_n act_n f y3) n (i35 + 1) s) := ⟨_, rfl⟩
    have hK : K ((st_where_35 user_n act_n f y3) i35 (a35_3, r35_36, r35_37)) := by rw [hKd]; exact hK
    unfold st_where_35 at hK
    simp only at hK
    refine am_F.ops (pc' := 50) (L' := [.ref 0, .int (nI user_n), .int (nI act_n), .int a35_3, .int (nI i35)]) (S' := [.int (nI i35), .int (nI act_n), .int (nI user_n), .ref 1]) (μ' := (am_S (am_row (am_row (am_row (am_row (am_row f 1 y3.1) 34 y3.2.1) 35 y3.2.2.1) 36 r35_36) 37 r35_37) (am_row g 1 y3.2.2.2))) 5 rfl ?_
    refine am_F.call rfl rfl (x_answer user_n (nI act_n) i35 (am_row (am_row (am_row (am_row (am_row f 1 y3.1) 34 y3.2.1) 35 y3.2.2.1) 36 r35_36) 37 r35_37) (am_row g 1 y3.2.2.2) hRc hRn hPa hCs (by omega) (by omega)) (by decide) ?_
    obtain ⟨y7, hy7⟩ : ∃ z, (fn_answer user_n (nI act_n) i35 (am_row (am_row (am_row (am_row (am_row f 1 y3.1) 34 y3.2.1) 35 y3.2.2.1) 36 r35_36) 37 r35_37)) = z := ⟨_, rfl⟩
    (try rw [hy7] at hK)
    (try rw [hy7])
    refine am_F.mem (F' := (am_row (am_row (am_row (am_row (am_row f 1 y3.1) 34 y3.2.1) 35 y3.2.2.1) 36 y7.2.1) 37 y7.2.2)) (G' := (am_row g 1 y3.2.2.2)) ?_ (by first | rfl | (funext a; by_cases z0 : a = 1; (subst z0; rfl); by_cases z1 : a = 34; (subst z1; rfl); by_cases z2 : a = 35; (subst z2; rfl); by_cases z3 : a = 36; (subst z3; rfl); by_cases z4 : a = 37; (subst z4; rfl); simp only [am_ui, am_ul, am_row_ne z0, am_row_ne z1, am_row_ne z2, am_row_ne z3, am_row_ne z4])) (by first | rfl | (funext a; by_cases z0 : a = 1; (subst z0; rfl); by_cases z1 : a = 34; (subst z1; rfl); by_cases z2 : a = 35; (subst z2; rfl); by_cases z3 : a = 36; (subst z3; rfl); by_cases z4 : a = 37; (subst z4; rfl); simp only [am_ui, am_ul, am_row_ne z0, am_row_ne z1, am_row_ne z2, am_row_ne z3, am_row_ne z4]))
    show am_F _ _ 53 [.ref 0, .int (nI user_n), .int (nI act_n), .int a35_3, .int (nI i35)] [.int y7.1] (am_S (am_row (am_row (am_row (am_row (am_row f 1 y3.1) 34 y3.2.1) 35 y3.2.2.1) 36 y7.2.1) 37 y7.2.2) (am_row g 1 y3.2.2.2)) _
    refine am_F.ops (pc' := 54) (L' := [.ref 0, .int (nI user_n), .int (nI act_n), .int a35_3, .int (nI i35)]) (S' := [.int 1, .int y7.1]) (μ' := (am_S (am_row (am_row (am_row (am_row (am_row f 1 y3.1) 34 y3.2.1) 35 y3.2.2.1) 36 y7.2.1) 37 y7.2.2) (am_row g 1 y3.2.2.2))) 1 rfl ?_
    refine am_F.iteK 1 rfl K hK (fun c9 hK => ?_) (fun c9 hK => ?_)
    · show am_F _ _ 57 [.ref 0, .int (nI user_n), .int (nI act_n), .int a35_3, .int (nI i35)] [] (am_S (am_row (am_row (am_row (am_row (am_row f 1 y3.1) 34 y3.2.1) 35 y3.2.2.1) 36 y7.2.1) 37 y7.2.2) (am_row g 1 y3.2.2.2)) _
      refine am_F.ops (pc' := 35) (L' := [.ref 0, .int (nI user_n), .int (nI act_n), .int (a35_3 ||| (1 <<< ((nI i35) &&& 31))), .int ((nI i35) + 1)]) (S' := []) (μ' := (am_S (am_row (am_row (am_row (am_row (am_row f 1 y3.1) 34 y3.2.1) 35 y3.2.2.1) 36 y7.2.1) 37 y7.2.2) (am_row g 1 y3.2.2.2))) 8 rfl ?_
      rw [nI_1 i35]
      subst hKd
      exact ih (i35 + 1) (a35_3 ||| (1 <<< ((nI i35) &&& 31))) y7.2.1 y7.2.2 (by omega)  hK
    · show am_F _ _ 64 [.ref 0, .int (nI user_n), .int (nI act_n), .int a35_3, .int (nI i35)] [] (am_S (am_row (am_row (am_row (am_row (am_row f 1 y3.1) 34 y3.2.1) 35 y3.2.2.1) 36 y7.2.1) 37 y7.2.2) (am_row g 1 y3.2.2.2)) _
      refine am_F.ops (pc' := 35) (L' := [.ref 0, .int (nI user_n), .int (nI act_n), .int a35_3, .int ((nI i35) + 1)]) (S' := []) (μ' := (am_S (am_row (am_row (am_row (am_row (am_row f 1 y3.1) 34 y3.2.1) 35 y3.2.2.1) 36 y7.2.1) 37 y7.2.2) (am_row g 1 y3.2.2.2))) 2 rfl ?_
      rw [nI_1 i35]
      subst hKd
      exact ih (i35 + 1) a35_3 y7.2.1 y7.2.2 (by omega)  hK
theorem x_where (user : Int32) (act : Int32) (f : Nat → Nat → Int32) (g : Nat → Nat → Int64) (hLc : f 11 7 = nI (f 11 7).toNatClampNeg) (hLn : (f 11 7).toNatClampNeg ≤ 40) (hLf : ∀ i, i < (f 11 7).toNatClampNeg → am_inb (f 12 i) 16 = true) (hLt : ∀ i, i < (f 11 7).toNatClampNeg → am_inb (f 13 i) 16 = true) (hLr : ∀ i, i < (f 11 7).toNatClampNeg → am_inb (f 14 i) 20 = true) (hRc : f 18 11 = nI (f 18 11).toNatClampNeg) (hRn : (f 18 11).toNatClampNeg ≤ 30) (hRr : ∀ i, i < (f 18 11).toNatClampNeg → am_inb (f 19 i) 20 = true) (hPa : ∀ t, t < 16 → (f 29 t).toInt < 16) (hCs : ∀ i, i < (f 18 11).toNatClampNeg → f 25 i = nI (f 25 i).toNatClampNeg ∧ (f 25 i).toNatClampNeg ≤ 80) : am_D 6 99 5 [.ref 0, .int user, .int act] (am_S f g) (some (Value.int ((fn_where user act f g).1)), am_S (am_row (am_row (am_row (am_row (am_row f 1 ((fn_where user act f g).2.1)) 34 ((fn_where user act f g).2.2.1)) 35 ((fn_where user act f g).2.2.2.1)) 36 ((fn_where user act f g).2.2.2.2.1)) 37 ((fn_where user act f g).2.2.2.2.2.1)) (am_row g 1 ((fn_where user act f g).2.2.2.2.2.2))) := by
  refine am_D.of (code := am_k_99) rfl (L0 := [.ref 0, .int user, .int act, am_un, am_un]) rfl ?_
  generalize hres : (some (Value.int ((fn_where user act f g).1)), am_S (am_row (am_row (am_row (am_row (am_row f 1 ((fn_where user act f g).2.1)) 34 ((fn_where user act f g).2.2.1)) 35 ((fn_where user act f g).2.2.2.1)) 36 ((fn_where user act f g).2.2.2.2.1)) 37 ((fn_where user act f g).2.2.2.2.2.1)) (am_row g 1 ((fn_where user act f g).2.2.2.2.2.2))) = res
  obtain ⟨K, hKd⟩ : ∃ K : (Int32 × (Nat → Int32) × (Nat → Int32) × (Nat → Int32) × (Nat → Int32) × (Nat → Int32) × (Nat → Int64)) → Prop, K = fun z => (some (Value.int z.1), am_S (am_row (am_row (am_row (am_row (am_row f 1 z.2.1) 34 z.2.2.1) 35 z.2.2.2.1) 36 z.2.2.2.2.1) 37 z.2.2.2.2.2.1) (am_row g 1 z.2.2.2.2.2.2)) = res := ⟨_, rfl⟩
  have hK : K (fn_where user act f g) := by rw [hKd]; exact hres
  clear hres
  unfold fn_where at hK
  refine am_F.ops (pc' := 1) (L' := [.ref 0, .int user, .int act, am_un, am_un]) (S' := [.int user]) (μ' := (am_S f g)) 1 rfl ?_
  refine am_F.call rfl rfl (x_isUser user f g ) (by decide) ?_
  show am_F _ _ 4 [.ref 0, .int user, .int act, am_un, am_un] [.int (am_b (fn_isUser user))] (am_S f g) _
  refine am_F.bifK 1 rfl K hK (fun c1 hK => ?_) (fun c1 hK => ?_)
  · obtain ⟨user_n, huser_n, euser_n⟩ := am_iUser c1
    subst euser_n
    try simp only [nI_clamp (show user_n < 2147483648 by omega)] at hK
    show am_F _ _ 7 [.ref 0, .int (nI user_n), .int act, am_un, am_un] [] (am_S f g) _
    refine am_F.ops (pc' := 8) (L' := [.ref 0, .int (nI user_n), .int act, am_un, am_un]) (S' := [.int act]) (μ' := (am_S f g)) 1 rfl ?_
    refine am_F.call rfl rfl (x_isAct act f g ) (by decide) ?_
    show am_F _ _ 11 [.ref 0, .int (nI user_n), .int act, am_un, am_un] [.int (am_b (fn_isAct act))] (am_S f g) _
    refine am_F.bifK 1 rfl K hK (fun c2 hK => ?_) (fun c2 hK => ?_)
    · obtain ⟨act_n, hact_n, eact_n⟩ := am_iAct c2
      subst eact_n
      try simp only [nI_clamp (show act_n < 2147483648 by omega)] at hK
      show am_F _ _ 16 [.ref 0, .int (nI user_n), .int (nI act_n), am_un, am_un] [] (am_S f g) _
      refine am_F.ops (pc' := 27) (L' := [.ref 0, .int (nI user_n), .int (nI act_n), am_un, am_un]) (S' := [.int (f 2 12), .ref 1]) (μ' := (am_S f g)) 5 rfl ?_
      refine am_F.call rfl rfl (x_settle (f 2 12) f g hLc hLn hLf hLt hLr hRc hRn) (by decide) ?_
      obtain ⟨y3, hy3⟩ : ∃ z, (fn_settle (f 2 12) f g) = z := ⟨_, rfl⟩
      (try rw [hy3] at hK)
      (try rw [hy3])
      refine am_F.mem (F' := (am_row (am_row (am_row f 1 y3.1) 34 y3.2.1) 35 y3.2.2.1)) (G' := (am_row g 1 y3.2.2.2)) ?_ (by first | rfl | (funext a; by_cases z0 : a = 1; (subst z0; rfl); by_cases z1 : a = 34; (subst z1; rfl); by_cases z2 : a = 35; (subst z2; rfl); simp only [am_ui, am_ul, am_row_ne z0, am_row_ne z1, am_row_ne z2])) (by first | rfl | (funext a; by_cases z0 : a = 1; (subst z0; rfl); by_cases z1 : a = 34; (subst z1; rfl); by_cases z2 : a = 35; (subst z2; rfl); simp only [am_ui, am_ul, am_row_ne z0, am_row_ne z1, am_row_ne z2]))
      show am_F _ _ 30 [.ref 0, .int (nI user_n), .int (nI act_n), am_un, am_un] [] (am_S (am_row (am_row (am_row f 1 y3.1) 34 y3.2.1) 35 y3.2.2.1) (am_row g 1 y3.2.2.2)) _
      refine am_F.ops (pc' := 35) (L' := [.ref 0, .int (nI user_n), .int (nI act_n), .int 0, .int 0]) (S' := []) (μ' := (am_S (am_row (am_row (am_row f 1 y3.1) 34 y3.2.1) 35 y3.2.2.1) (am_row g 1 y3.2.2.2))) 4 rfl ?_
      refine am_F.mem (F' := (am_row (am_row (am_row (am_row (am_row f 1 y3.1) 34 y3.2.1) 35 y3.2.2.1) 36 (f 36)) 37 (f 37))) (G' := (am_row g 1 y3.2.2.2)) ?_ (by first | rfl | (funext a; by_cases z0 : a = 1; (subst z0; rfl); by_cases z1 : a = 34; (subst z1; rfl); by_cases z2 : a = 35; (subst z2; rfl); by_cases z3 : a = 36; (subst z3; rfl); by_cases z4 : a = 37; (subst z4; rfl); simp only [am_ui, am_ul, am_row_ne z0, am_row_ne z1, am_row_ne z2, am_row_ne z3, am_row_ne z4])) (by first | rfl | (funext a; by_cases z0 : a = 1; (subst z0; rfl); by_cases z1 : a = 34; (subst z1; rfl); by_cases z2 : a = 35; (subst z2; rfl); by_cases z3 : a = 36; (subst z3; rfl); by_cases z4 : a = 37; (subst z4; rfl); simp only [am_ui, am_ul, am_row_ne z0, am_row_ne z1, am_row_ne z2, am_row_ne z3, am_row_ne z4]))
      show am_F _ _ 35 [.ref 0, .int (nI user_n), .int (nI act_n), .int 0, .int (nI 0)] [] (am_S (am_row (am_row (am_row (am_row (am_row f 1 y3.1) 34 y3.2.1) 35 y3.2.2.1) 36 (f 36)) 37 (f 37)) (am_row g 1 y3.2.2.2)) _
      refine lp_where_35 user_n act_n f g y3 hLc hLn hLf hLt hLr hRc hRn hRr hPa hCs huser_n hact_n _ 16 0 0 (f 36) (f 37)  (by omega)  ?_
      rw [show am_for (st_where_35 user_n act_n f y3) 16 0 (0, f 36, f 37) = (lf_where_35 user_n act_n f y3) from rfl]
      generalize (lf_where_35 user_n act_n f y3) = z35_10 at hK ⊢
      intro wc
      show am_F _ _ 70 [.ref 0, .int (nI user_n), .int (nI act_n), .int z35_10.1, wc] [] (am_S (am_row (am_row (am_row (am_row (am_row f 1 y3.1) 34 y3.2.1) 35 y3.2.2.1) 36 z35_10.2.1) 37 z35_10.2.2) (am_row g 1 y3.2.2.2)) _
      refine am_F.ops (pc' := 71) (L' := [.ref 0, .int (nI user_n), .int (nI act_n), .int z35_10.1, wc]) (S' := [.int z35_10.1]) (μ' := (am_S (am_row (am_row (am_row (am_row (am_row f 1 y3.1) 34 y3.2.1) 35 y3.2.2.1) 36 z35_10.2.1) 37 z35_10.2.2) (am_row g 1 y3.2.2.2))) 1 rfl ?_
      subst hKd
      exact am_F.eq (am_F.ret rfl rfl) hK
    · show am_F _ _ 14 [.ref 0, .int (nI user_n), .int act, am_un, am_un] [] (am_S f g) _
      refine am_F.ops (pc' := 15) (L' := [.ref 0, .int (nI user_n), .int act, am_un, am_un]) (S' := [.int (-1)]) (μ' := (am_S f g)) 1 rfl ?_
      refine am_F.mem (F' := (am_row (am_row (am_row (am_row (am_row f 1 (f 1)) 34 (f 34)) 35 (f 35)) 36 (f 36)) 37 (f 37))) (G' := (am_row g 1 (g 1))) ?_ (by first | rfl | (funext a; by_cases z0 : a = 1; (subst z0; rfl); by_cases z1 : a = 34; (subst z1; rfl); by_cases z2 : a = 35; (subst z2; rfl); by_cases z3 : a = 36; (subst z3; rfl); by_cases z4 : a = 37; (subst z4; rfl); simp only [am_ui, am_ul, am_row_ne z0, am_row_ne z1, am_row_ne z2, am_row_ne z3, am_row_ne z4])) (by first | rfl | (funext a; by_cases z0 : a = 1; (subst z0; rfl); by_cases z1 : a = 34; (subst z1; rfl); by_cases z2 : a = 35; (subst z2; rfl); by_cases z3 : a = 36; (subst z3; rfl); by_cases z4 : a = 37; (subst z4; rfl); simp only [am_ui, am_ul, am_row_ne z0, am_row_ne z1, am_row_ne z2, am_row_ne z3, am_row_ne z4]))
      subst hKd
      exact am_F.eq (am_F.ret rfl rfl) hK
  · show am_F _ _ 14 [.ref 0, .int user, .int act, am_un, am_un] [] (am_S f g) _
    refine am_F.ops (pc' := 15) (L' := [.ref 0, .int user, .int act, am_un, am_un]) (S' := [.int (-1)]) (μ' := (am_S f g)) 1 rfl ?_
    refine am_F.mem (F' := (am_row (am_row (am_row (am_row (am_row f 1 (f 1)) 34 (f 34)) 35 (f 35)) 36 (f 36)) 37 (f 37))) (G' := (am_row g 1 (g 1))) ?_ (by first | rfl | (funext a; by_cases z0 : a = 1; (subst z0; rfl); by_cases z1 : a = 34; (subst z1; rfl); by_cases z2 : a = 35; (subst z2; rfl); by_cases z3 : a = 36; (subst z3; rfl); by_cases z4 : a = 37; (subst z4; rfl); simp only [am_ui, am_ul, am_row_ne z0, am_row_ne z1, am_row_ne z2, am_row_ne z3, am_row_ne z4])) (by first | rfl | (funext a; by_cases z0 : a = 1; (subst z0; rfl); by_cases z1 : a = 34; (subst z1; rfl); by_cases z2 : a = 35; (subst z2; rfl); by_cases z3 : a = 36; (subst z3; rfl); by_cases z4 : a = 37; (subst z4; rfl); simp only [am_ui, am_ul, am_row_ne z0, am_row_ne z1, am_row_ne z2, am_row_ne z3, am_row_ne z4]))
    subst hKd
    exact am_F.eq (am_F.ret rfl rfl) hK
