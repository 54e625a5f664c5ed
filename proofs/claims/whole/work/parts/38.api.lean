/-! the class's calls (wip/whole/m6.py) -/
/-- AccessLattice.isLoan -/
def fn_isLoan (v : Int32) (f : Nat → Nat → Int32) : Bool := (fn_between v 0 ((f 11 7) - 1))
theorem x_isLoan (v : Int32) (f : Nat → Nat → Int32) (g : Nat → Nat → Int64) (hLc : f 11 7 = nI (f 11 7).toNatClampNeg) (hLn : (f 11 7).toNatClampNeg ≤ 40) : am_D 1 41 2 [.ref 0, .int v] (am_S f g) (some (Value.int (am_b (fn_isLoan v f))), am_S f g) := by
  refine am_D.of (code := am_k_41) rfl (L0 := [.ref 0, .int v]) rfl ?_
  generalize hres : (some (Value.int (am_b (fn_isLoan v f))), am_S f g) = res
  obtain ⟨K, hKd⟩ : ∃ K : Bool → Prop, K = fun z => (some (Value.int (am_b z)), am_S f g) = res := ⟨_, rfl⟩
  have hK : K (fn_isLoan v f) := by rw [hKd]; exact hres
  clear hres
  unfold fn_isLoan at hK
  refine am_F.ops (pc' := 14) (L' := [.ref 0, .int v]) (S' := [.int ((f 11 7) - 1), .int 0, .int v]) (μ' := (am_S f g)) 8 rfl ?_
  refine am_F.call rfl rfl (x_between v 0 ((f 11 7) - 1) f g ) (by decide) ?_
  show am_F _ _ 17 [.ref 0, .int v] [.int (am_b (fn_between v 0 ((f 11 7) - 1)))] (am_S f g) _
  subst hKd
  exact am_F.eq (am_F.ret rfl (am_retB _ _)) hK
/-- AccessLattice.isRule -/
def fn_isRule (v : Int32) (f : Nat → Nat → Int32) : Bool := (bif (fn_between v 0 ((f 18 11) - 1)) then (bif (fn_has (f 18 8) v) then true else false) else false)
theorem x_isRule (v : Int32) (f : Nat → Nat → Int32) (g : Nat → Nat → Int64) (hRc : f 18 11 = nI (f 18 11).toNatClampNeg) (hRn : (f 18 11).toNatClampNeg ≤ 30) : am_D 1 66 2 [.ref 0, .int v] (am_S f g) (some (Value.int (am_b (fn_isRule v f))), am_S f g) := by
  refine am_D.of (code := am_k_66) rfl (L0 := [.ref 0, .int v]) rfl ?_
  generalize hres : (some (Value.int (am_b (fn_isRule v f))), am_S f g) = res
  obtain ⟨K, hKd⟩ : ∃ K : Bool → Prop, K = fun z => (some (Value.int (am_b z)), am_S f g) = res := ⟨_, rfl⟩
  have hK : K (fn_isRule v f) := by rw [hKd]; exact hres
  clear hres
  unfold fn_isRule at hK
  refine am_F.ops (pc' := 14) (L' := [.ref 0, .int v]) (S' := [.int ((f 18 11) - 1), .int 0, .int v]) (μ' := (am_S f g)) 8 rfl ?_
  refine am_F.call rfl rfl (x_between v 0 ((f 18 11) - 1) f g ) (by decide) ?_
  show am_F _ _ 17 [.ref 0, .int v] [.int (am_b (fn_between v 0 ((f 18 11) - 1)))] (am_S f g) _
  refine am_F.to (am_To.bifB (pc' := 42) (L2 := [.ref 0, .int v]) (S2 := []) (μ2 := (am_S f g)) (a := (bif (fn_has (f 18 8) v) then true else false)) (b := false) 1 rfl (fun c1 => ?_) (fun c1 => ?_)) ?_
  · intro res9 g9
    show am_F _ _ 20 [.ref 0, .int v] [] (am_S f g) _
    refine am_F.ops (pc' := 31) (L' := [.ref 0, .int v]) (S' := [.int v, .int (f 18 8)]) (μ' := (am_S f g)) 5 rfl ?_
    refine am_F.call rfl rfl (x_has (f 18 8) v f g ) (by decide) ?_
    show am_F _ _ 34 [.ref 0, .int v] [.int (am_b (fn_has (f 18 8) v))] (am_S f g) _
    refine am_F.to (am_To.bifB (pc' := 42) (L2 := [.ref 0, .int v]) (S2 := []) (μ2 := (am_S f g)) (a := true) (b := false) 1 rfl (fun c2 => ?_) (fun c2 => ?_)) g9
    · intro res9 g9
      show am_F _ _ 37 [.ref 0, .int v] [] (am_S f g) _
      refine am_F.ops (pc' := 42) (L' := [.ref 0, .int v]) (S' := [.int 1]) (μ' := (am_S f g)) 2 rfl ?_
      exact g9
    · intro res9 g9
      show am_F _ _ 41 [.ref 0, .int v] [] (am_S f g) _
      refine am_F.ops (pc' := 42) (L' := [.ref 0, .int v]) (S' := [.int 0]) (μ' := (am_S f g)) 1 rfl ?_
      exact g9
  · intro res9 g9
    show am_F _ _ 41 [.ref 0, .int v] [] (am_S f g) _
    refine am_F.ops (pc' := 42) (L' := [.ref 0, .int v]) (S' := [.int 0]) (μ' := (am_S f g)) 1 rfl ?_
    exact g9
  show am_F _ _ 42 [.ref 0, .int v] [.int (am_b (bif (fn_between v 0 ((f 18 11) - 1)) then (bif (fn_has (f 18 8) v) then true else false) else false))] (am_S f g) _
  subst hKd
  exact am_F.eq (am_F.ret rfl (am_retB _ _)) hK
theorem am_iRule {v : Int32} {f : Nat → Nat → Int32} {n : Nat} (hRc : f 18 11 = nI n) (hn : n ≤ 65536) (h : fn_isRule v f = true) : ∃ j : Nat, j < n ∧ v = nI j := by
  unfold fn_isRule at h
  cases h1 : fn_between v 0 (f 18 11 - 1) with
  | true => exact am_btwM h1 hRc hn
  | false => rw [h1] at h; cases h
theorem am_iLoan {v : Int32} {f : Nat → Nat → Int32} {n : Nat} (hLc : f 11 7 = nI n) (hn : n ≤ 65536) (h : fn_isLoan v f = true) : ∃ j : Nat, j < n ∧ v = nI j := by
  unfold fn_isLoan at h
  exact am_btwM h hLc hn
theorem am_btwP {v lo hi : Int32} {N : Nat} (h : fn_between v lo hi = true) (h0 : ¬ v < 0) (hN : hi.toInt = (N : Int) - 1) : ∃ n : Nat, n < N ∧ v = nI n := by
  obtain ⟨-, h2⟩ := am_btw h
  rw [Int32.le_iff_toInt_le] at h2
  obtain ⟨j, h3, h4⟩ := nI_of h0
  refine ⟨j, ?_, h4⟩
  rw [h4, nI_toInt h3] at h2
  omega
/-- AccessLattice.attribute -/
def fn_attribute (side : Int32) (of : Int32) (k : Int32) (v : Int32) (f : Nat → Nat → Int32) : Int32 × (Nat → Int32) × (Nat → Int32) := (bif (fn_within01 side) then (bif (fn_isThing of) then (bif (fn_between k 0 3) then (bif (fn_between v 0 99) then (if side = 0 then (f 27 (((of.toNatClampNeg) * 4) + (k.toNatClampNeg)), upd (f 27) (((of.toNatClampNeg) * 4) + (k.toNatClampNeg)) v, f 28) else (f 28 (((of.toNatClampNeg) * 4) + (k.toNatClampNeg)), f 27, upd (f 28) (((of.toNatClampNeg) * 4) + (k.toNatClampNeg)) v)) else ((-1), f 27, f 28)) else ((-1), f 27, f 28)) else ((-1), f 27, f 28)) else ((-1), f 27, f 28))
theorem x_attribute (side : Int32) (of : Int32) (k : Int32) (v : Int32) (f : Nat → Nat → Int32) (g : Nat → Nat → Int64)  : am_D 2 12 8 [.ref 0, .int side, .int of, .int k, .int v] (am_S f g) (some (Value.int ((fn_attribute side of k v f).1)), am_S (am_row (am_row f 27 ((fn_attribute side of k v f).2.1)) 28 ((fn_attribute side of k v f).2.2)) g) := by
  refine am_D.of (code := am_k_12) rfl (L0 := [.ref 0, .int side, .int of, .int k, .int v, am_un, am_un, am_un]) rfl ?_
  generalize hres : (some (Value.int ((fn_attribute side of k v f).1)), am_S (am_row (am_row f 27 ((fn_attribute side of k v f).2.1)) 28 ((fn_attribute side of k v f).2.2)) g) = res
  obtain ⟨K, hKd⟩ : ∃ K : (Int32 × (Nat → Int32) × (Nat → Int32)) → Prop, K = fun z => (some (Value.int z.1), am_S (am_row (am_row f 27 z.2.1) 28 z.2.2) g) = res := ⟨_, rfl⟩
  have hK : K (fn_attribute side of k v f) := by rw [hKd]; exact hres
  clear hres
  unfold fn_attribute at hK
  refine am_F.ops (pc' := 1) (L' := [.ref 0, .int side, .int of, .int k, .int v, am_un, am_un, am_un]) (S' := [.int side]) (μ' := (am_S f g)) 1 rfl ?_
  refine am_F.call rfl rfl (x_within01 side f g ) (by decide) ?_
  show am_F _ _ 4 [.ref 0, .int side, .int of, .int k, .int v, am_un, am_un, am_un] [.int (am_b (fn_within01 side))] (am_S f g) _
  refine am_F.bifK 1 rfl K hK (fun c1 hK => ?_) (fun c1 hK => ?_)
  · show am_F _ _ 7 [.ref 0, .int side, .int of, .int k, .int v, am_un, am_un, am_un] [] (am_S f g) _
    refine am_F.ops (pc' := 8) (L' := [.ref 0, .int side, .int of, .int k, .int v, am_un, am_un, am_un]) (S' := [.int of]) (μ' := (am_S f g)) 1 rfl ?_
    refine am_F.call rfl rfl (x_isThing of f g ) (by decide) ?_
    show am_F _ _ 11 [.ref 0, .int side, .int of, .int k, .int v, am_un, am_un, am_un] [.int (am_b (fn_isThing of))] (am_S f g) _
    refine am_F.bifK 1 rfl K hK (fun c2 hK => ?_) (fun c2 hK => ?_)
    · obtain ⟨of_n, hof_n, eof_n⟩ := am_isThing c2
      subst eof_n
      try simp only [nI_clamp (show of_n < 2147483648 by omega)] at hK
      show am_F _ _ 14 [.ref 0, .int side, .int (nI of_n), .int k, .int v, am_un, am_un, am_un] [] (am_S f g) _
      refine am_F.ops (pc' := 17) (L' := [.ref 0, .int side, .int (nI of_n), .int k, .int v, am_un, am_un, am_un]) (S' := [.int 3, .int 0, .int k]) (μ' := (am_S f g)) 3 rfl ?_
      refine am_F.call rfl rfl (x_between k 0 3 f g ) (by decide) ?_
      show am_F _ _ 20 [.ref 0, .int side, .int (nI of_n), .int k, .int v, am_un, am_un, am_un] [.int (am_b (fn_between k 0 3))] (am_S f g) _
      refine am_F.bifK 1 rfl K hK (fun c3 hK => ?_) (fun c3 hK => ?_)
      · obtain ⟨k_n, hk_n, ek_n⟩ := am_btwN c3 (by decide)
        subst ek_n
        try simp only [nI_clamp (show k_n < 2147483648 by omega)] at hK
        show am_F _ _ 23 [.ref 0, .int side, .int (nI of_n), .int (nI k_n), .int v, am_un, am_un, am_un] [] (am_S f g) _
        refine am_F.ops (pc' := 28) (L' := [.ref 0, .int side, .int (nI of_n), .int (nI k_n), .int v, am_un, am_un, am_un]) (S' := [.int 99, .int 0, .int v]) (μ' := (am_S f g)) 3 rfl ?_
        refine am_F.call rfl rfl (x_between v 0 99 f g ) (by decide) ?_
        show am_F _ _ 31 [.ref 0, .int side, .int (nI of_n), .int (nI k_n), .int v, am_un, am_un, am_un] [.int (am_b (fn_between v 0 99))] (am_S f g) _
        refine am_F.bifK 1 rfl K hK (fun c4 hK => ?_) (fun c4 hK => ?_)
        · obtain ⟨v_n, hv_n, ev_n⟩ := am_btwN c4 (by decide)
          subst ev_n
          try simp only [nI_clamp (show v_n < 2147483648 by omega)] at hK
          show am_F _ _ 36 [.ref 0, .int side, .int (nI of_n), .int (nI k_n), .int (nI v_n), am_un, am_un, am_un] [] (am_S f g) _
          refine am_F.ops (pc' := 37) (L' := [.ref 0, .int side, .int (nI of_n), .int (nI k_n), .int (nI v_n), am_un, am_un, am_un]) (S' := [.int side]) (μ' := (am_S f g)) 1 rfl ?_
          refine am_F.iteK 1 rfl K hK (fun c6 hK => ?_) (fun c6 hK => ?_)
          · show am_F _ _ 40 [.ref 0, .int side, .int (nI of_n), .int (nI k_n), .int (nI v_n), am_un, am_un, am_un] [] (am_S f g) _
            refine am_F.ops (pc' := 70) (L' := [.ref 0, .int side, .int (nI of_n), .int (nI k_n), .int (nI v_n), .ref 27, .int (((nI of_n) * 4) + (nI k_n)), am_un]) (S' := [.int (((nI of_n) * 4) + (nI k_n)), .ref 27]) (μ' := (am_S f g)) 13 rfl ?_
            refine am_F.ialE (m := ((of_n * 4) + k_n)) (N := 64) rfl rfl rfl (am_addE (am_mulE rfl rfl) rfl) (by omega) (by decide) ?_
            show am_F _ _ 71 [.ref 0, .int side, .int (nI of_n), .int (nI k_n), .int (nI v_n), .ref 27, .int (((nI of_n) * 4) + (nI k_n)), am_un] [.int (f 27 ((of_n * 4) + k_n))] (am_S f g) _
            refine am_F.ops (pc' := 79) (L' := [.ref 0, .int side, .int (nI of_n), .int (nI k_n), .int (nI v_n), .ref 27, .int (((nI of_n) * 4) + (nI k_n)), .int (f 27 ((of_n * 4) + k_n))]) (S' := [.int (nI v_n), .int (((nI of_n) * 4) + (nI k_n)), .ref 27]) (μ' := (am_S f g)) 4 rfl ?_
            refine am_F.iasE (F' := (am_row f 27 (upd (f 27) ((of_n * 4) + k_n) (nI v_n)))) (m := ((of_n * 4) + k_n)) (N := 64) rfl rfl rfl (am_addE (am_mulE rfl rfl) rfl) (by omega) (by decide) (by first | rfl | (funext a; by_cases z0 : a = 27; (subst z0; rfl); simp only [am_ui, am_ul, am_row_ne z0])) ?_
            refine am_F.ops (pc' := 82) (L' := [.ref 0, .int side, .int (nI of_n), .int (nI k_n), .int (nI v_n), .ref 27, .int (((nI of_n) * 4) + (nI k_n)), .int (f 27 ((of_n * 4) + k_n))]) (S' := [.int (f 27 ((of_n * 4) + k_n))]) (μ' := (am_S (am_row f 27 (upd (f 27) ((of_n * 4) + k_n) (nI v_n))) g)) 1 rfl ?_
            refine am_F.mem (F' := (am_row (am_row f 27 (upd (f 27) ((of_n * 4) + k_n) (nI v_n))) 28 (f 28))) (G' := g) ?_ (by first | rfl | (funext a; by_cases z0 : a = 27; (subst z0; rfl); by_cases z1 : a = 28; (subst z1; rfl); simp only [am_ui, am_ul, am_row_ne z0, am_row_ne z1])) (by first | rfl | (funext a; by_cases z0 : a = 27; (subst z0; rfl); by_cases z1 : a = 28; (subst z1; rfl); simp only [am_ui, am_ul, am_row_ne z0, am_row_ne z1]))
            subst hKd
            exact am_F.eq (am_F.ret rfl rfl) hK
          · show am_F _ _ 50 [.ref 0, .int side, .int (nI of_n), .int (nI k_n), .int (nI v_n), am_un, am_un, am_un] [] (am_S f g) _
            refine am_F.ops (pc' := 70) (L' := [.ref 0, .int side, .int (nI of_n), .int (nI k_n), .int (nI v_n), .ref 28, .int (((nI of_n) * 4) + (nI k_n)), am_un]) (S' := [.int (((nI of_n) * 4) + (nI k_n)), .ref 28]) (μ' := (am_S f g)) 12 rfl ?_
            refine am_F.ialE (m := ((of_n * 4) + k_n)) (N := 64) rfl rfl rfl (am_addE (am_mulE rfl rfl) rfl) (by omega) (by decide) ?_
            show am_F _ _ 71 [.ref 0, .int side, .int (nI of_n), .int (nI k_n), .int (nI v_n), .ref 28, .int (((nI of_n) * 4) + (nI k_n)), am_un] [.int (f 28 ((of_n * 4) + k_n))] (am_S f g) _
            refine am_F.ops (pc' := 79) (L' := [.ref 0, .int side, .int (nI of_n), .int (nI k_n), .int (nI v_n), .ref 28, .int (((nI of_n) * 4) + (nI k_n)), .int (f 28 ((of_n * 4) + k_n))]) (S' := [.int (nI v_n), .int (((nI of_n) * 4) + (nI k_n)), .ref 28]) (μ' := (am_S f g)) 4 rfl ?_
            refine am_F.iasE (F' := (am_row f 28 (upd (f 28) ((of_n * 4) + k_n) (nI v_n)))) (m := ((of_n * 4) + k_n)) (N := 64) rfl rfl rfl (am_addE (am_mulE rfl rfl) rfl) (by omega) (by decide) (by first | rfl | (funext a; by_cases z0 : a = 28; (subst z0; rfl); simp only [am_ui, am_ul, am_row_ne z0])) ?_
            refine am_F.ops (pc' := 82) (L' := [.ref 0, .int side, .int (nI of_n), .int (nI k_n), .int (nI v_n), .ref 28, .int (((nI of_n) * 4) + (nI k_n)), .int (f 28 ((of_n * 4) + k_n))]) (S' := [.int (f 28 ((of_n * 4) + k_n))]) (μ' := (am_S (am_row f 28 (upd (f 28) ((of_n * 4) + k_n) (nI v_n))) g)) 1 rfl ?_
            refine am_F.mem (F' := (am_row (am_row f 27 (f 27)) 28 (upd (f 28) ((of_n * 4) + k_n) (nI v_n)))) (G' := g) ?_ (by first | rfl | (funext a; by_cases z0 : a = 27; (subst z0; rfl); by_cases z1 : a = 28; (subst z1; rfl); simp only [am_ui, am_ul, am_row_ne z0, am_row_ne z1])) (by first | rfl | (funext a; by_cases z0 : a = 27; (subst z0; rfl); by_cases z1 : a = 28; (subst z1; rfl); simp only [am_ui, am_ul, am_row_ne z0, am_row_ne z1]))
            subst hKd
            exact am_F.eq (am_F.ret rfl rfl) hK
        · show am_F _ _ 34 [.ref 0, .int side, .int (nI of_n), .int (nI k_n), .int v, am_un, am_un, am_un] [] (am_S f g) _
          refine am_F.ops (pc' := 35) (L' := [.ref 0, .int side, .int (nI of_n), .int (nI k_n), .int v, am_un, am_un, am_un]) (S' := [.int (-1)]) (μ' := (am_S f g)) 1 rfl ?_
          refine am_F.mem (F' := (am_row (am_row f 27 (f 27)) 28 (f 28))) (G' := g) ?_ (by first | rfl | (funext a; by_cases z0 : a = 27; (subst z0; rfl); by_cases z1 : a = 28; (subst z1; rfl); simp only [am_ui, am_ul, am_row_ne z0, am_row_ne z1])) (by first | rfl | (funext a; by_cases z0 : a = 27; (subst z0; rfl); by_cases z1 : a = 28; (subst z1; rfl); simp only [am_ui, am_ul, am_row_ne z0, am_row_ne z1]))
          subst hKd
          exact am_F.eq (am_F.ret rfl rfl) hK
      · show am_F _ _ 34 [.ref 0, .int side, .int (nI of_n), .int k, .int v, am_un, am_un, am_un] [] (am_S f g) _
        refine am_F.ops (pc' := 35) (L' := [.ref 0, .int side, .int (nI of_n), .int k, .int v, am_un, am_un, am_un]) (S' := [.int (-1)]) (μ' := (am_S f g)) 1 rfl ?_
        refine am_F.mem (F' := (am_row (am_row f 27 (f 27)) 28 (f 28))) (G' := g) ?_ (by first | rfl | (funext a; by_cases z0 : a = 27; (subst z0; rfl); by_cases z1 : a = 28; (subst z1; rfl); simp only [am_ui, am_ul, am_row_ne z0, am_row_ne z1])) (by first | rfl | (funext a; by_cases z0 : a = 27; (subst z0; rfl); by_cases z1 : a = 28; (subst z1; rfl); simp only [am_ui, am_ul, am_row_ne z0, am_row_ne z1]))
        subst hKd
        exact am_F.eq (am_F.ret rfl rfl) hK
    · show am_F _ _ 34 [.ref 0, .int side, .int of, .int k, .int v, am_un, am_un, am_un] [] (am_S f g) _
      refine am_F.ops (pc' := 35) (L' := [.ref 0, .int side, .int of, .int k, .int v, am_un, am_un, am_un]) (S' := [.int (-1)]) (μ' := (am_S f g)) 1 rfl ?_
      refine am_F.mem (F' := (am_row (am_row f 27 (f 27)) 28 (f 28))) (G' := g) ?_ (by first | rfl | (funext a; by_cases z0 : a = 27; (subst z0; rfl); by_cases z1 : a = 28; (subst z1; rfl); simp only [am_ui, am_ul, am_row_ne z0, am_row_ne z1])) (by first | rfl | (funext a; by_cases z0 : a = 27; (subst z0; rfl); by_cases z1 : a = 28; (subst z1; rfl); simp only [am_ui, am_ul, am_row_ne z0, am_row_ne z1]))
      subst hKd
      exact am_F.eq (am_F.ret rfl rfl) hK
  · show am_F _ _ 34 [.ref 0, .int side, .int of, .int k, .int v, am_un, am_un, am_un] [] (am_S f g) _
    refine am_F.ops (pc' := 35) (L' := [.ref 0, .int side, .int of, .int k, .int v, am_un, am_un, am_un]) (S' := [.int (-1)]) (μ' := (am_S f g)) 1 rfl ?_
    refine am_F.mem (F' := (am_row (am_row f 27 (f 27)) 28 (f 28))) (G' := g) ?_ (by first | rfl | (funext a; by_cases z0 : a = 27; (subst z0; rfl); by_cases z1 : a = 28; (subst z1; rfl); simp only [am_ui, am_ul, am_row_ne z0, am_row_ne z1])) (by first | rfl | (funext a; by_cases z0 : a = 27; (subst z0; rfl); by_cases z1 : a = 28; (subst z1; rfl); simp only [am_ui, am_ul, am_row_ne z0, am_row_ne z1]))
    subst hKd
    exact am_F.eq (am_F.ret rfl rfl) hK
/-- AccessLattice.within -/
def fn_within (thing : Int32) (other : Int32) (f : Nat → Nat → Int32) : Int32 × (Nat → Int32) := (bif (fn_isThing thing) then (bif (fn_between other (-1) 15) then (if other < 0 then (f 29 (thing.toNatClampNeg), upd (f 29) (thing.toNatClampNeg) other) else (if (fn_stepsUp (other.toNatClampNeg) thing f) < 0 then (f 29 (thing.toNatClampNeg), upd (f 29) (thing.toNatClampNeg) other) else ((-4), f 29))) else ((-1), f 29)) else ((-1), f 29))
theorem x_within (thing : Int32) (other : Int32) (f : Nat → Nat → Int32) (g : Nat → Nat → Int64) (hPa : ∀ t, t < 16 → (f 29 t).toInt < 16) : am_D 2 16 4 [.ref 0, .int thing, .int other] (am_S f g) (some (Value.int ((fn_within thing other f).1)), am_S (am_row f 29 ((fn_within thing other f).2)) g) := by
  refine am_D.of (code := am_k_16) rfl (L0 := [.ref 0, .int thing, .int other, am_un]) rfl ?_
  generalize hres : (some (Value.int ((fn_within thing other f).1)), am_S (am_row f 29 ((fn_within thing other f).2)) g) = res
  obtain ⟨K, hKd⟩ : ∃ K : (Int32 × (Nat → Int32)) → Prop, K = fun z => (some (Value.int z.1), am_S (am_row f 29 z.2) g) = res := ⟨_, rfl⟩
  have hK : K (fn_within thing other f) := by rw [hKd]; exact hres
  clear hres
  unfold fn_within at hK
  refine am_F.ops (pc' := 1) (L' := [.ref 0, .int thing, .int other, am_un]) (S' := [.int thing]) (μ' := (am_S f g)) 1 rfl ?_
  refine am_F.call rfl rfl (x_isThing thing f g ) (by decide) ?_
  show am_F _ _ 4 [.ref 0, .int thing, .int other, am_un] [.int (am_b (fn_isThing thing))] (am_S f g) _
  refine am_F.bifK 1 rfl K hK (fun c1 hK => ?_) (fun c1 hK => ?_)
  · obtain ⟨thing_n, hthing_n, ething_n⟩ := am_isThing c1
    subst ething_n
    try simp only [nI_clamp (show thing_n < 2147483648 by omega)] at hK
    show am_F _ _ 7 [.ref 0, .int (nI thing_n), .int other, am_un] [] (am_S f g) _
    refine am_F.ops (pc' := 11) (L' := [.ref 0, .int (nI thing_n), .int other, am_un]) (S' := [.int 15, .int (-1), .int other]) (μ' := (am_S f g)) 3 rfl ?_
    refine am_F.call rfl rfl (x_between other (-1) 15 f g ) (by decide) ?_
    show am_F _ _ 14 [.ref 0, .int (nI thing_n), .int other, am_un] [.int (am_b (fn_between other (-1) 15))] (am_S f g) _
    refine am_F.bifK 1 rfl K hK (fun c2 hK => ?_) (fun c2 hK => ?_)
    · show am_F _ _ 19 [.ref 0, .int (nI thing_n), .int other, am_un] [] (am_S f g) _
      refine am_F.ops (pc' := 20) (L' := [.ref 0, .int (nI thing_n), .int other, am_un]) (S' := [.int other]) (μ' := (am_S f g)) 1 rfl ?_
      refine am_F.iteK 1 rfl K hK (fun c3 hK => ?_) (fun c3 hK => ?_)
      · show am_F _ _ 38 [.ref 0, .int (nI thing_n), .int other, am_un] [] (am_S f g) _
        refine am_F.ops (pc' := 46) (L' := [.ref 0, .int (nI thing_n), .int other, am_un]) (S' := [.int (nI thing_n), .ref 29]) (μ' := (am_S f g)) 4 rfl ?_
        refine am_F.ialE (m := thing_n) (N := 16) rfl rfl rfl rfl (by omega) (by decide) ?_
        show am_F _ _ 47 [.ref 0, .int (nI thing_n), .int other, am_un] [.int (f 29 thing_n)] (am_S f g) _
        refine am_F.ops (pc' := 57) (L' := [.ref 0, .int (nI thing_n), .int other, .int (f 29 thing_n)]) (S' := [.int other, .int (nI thing_n), .ref 29]) (μ' := (am_S f g)) 6 rfl ?_
        refine am_F.iasE (F' := (am_row f 29 (upd (f 29) thing_n other))) (m := thing_n) (N := 16) rfl rfl rfl rfl (by omega) (by decide) (by first | rfl | (funext a; by_cases z0 : a = 29; (subst z0; rfl); simp only [am_ui, am_ul, am_row_ne z0])) ?_
        refine am_F.ops (pc' := 59) (L' := [.ref 0, .int (nI thing_n), .int other, .int (f 29 thing_n)]) (S' := [.int (f 29 thing_n)]) (μ' := (am_S (am_row f 29 (upd (f 29) thing_n other)) g)) 1 rfl ?_
        subst hKd
        exact am_F.eq (am_F.ret rfl rfl) hK
      · show am_F _ _ 23 [.ref 0, .int (nI thing_n), .int other, am_un] [] (am_S f g) _
        obtain ⟨other_n, hother_n, eother_n⟩ := am_btwP (by assumption) (by assumption) (by decide)
        subst eother_n
        try simp only [nI_clamp (show other_n < 2147483648 by omega)] at hK
        show am_F _ _ 23 [.ref 0, .int (nI thing_n), .int (nI other_n), am_un] [] (am_S f g) _
        refine am_F.ops (pc' := 29) (L' := [.ref 0, .int (nI thing_n), .int (nI other_n), am_un]) (S' := [.int (nI thing_n), .int (nI other_n), .ref 2]) (μ' := (am_S f g)) 4 rfl ?_
        refine am_F.call rfl rfl (x_stepsUp other_n (nI thing_n) f g hPa (by omega)) (by decide) ?_
        show am_F _ _ 32 [.ref 0, .int (nI thing_n), .int (nI other_n), am_un] [.int (fn_stepsUp other_n (nI thing_n) f)] (am_S f g) _
        refine am_F.iteK 1 rfl K hK (fun c4 hK => ?_) (fun c4 hK => ?_)
        · show am_F _ _ 38 [.ref 0, .int (nI thing_n), .int (nI other_n), am_un] [] (am_S f g) _
          refine am_F.ops (pc' := 46) (L' := [.ref 0, .int (nI thing_n), .int (nI other_n), am_un]) (S' := [.int (nI thing_n), .ref 29]) (μ' := (am_S f g)) 4 rfl ?_
          refine am_F.ialE (m := thing_n) (N := 16) rfl rfl rfl rfl (by omega) (by decide) ?_
          show am_F _ _ 47 [.ref 0, .int (nI thing_n), .int (nI other_n), am_un] [.int (f 29 thing_n)] (am_S f g) _
          refine am_F.ops (pc' := 57) (L' := [.ref 0, .int (nI thing_n), .int (nI other_n), .int (f 29 thing_n)]) (S' := [.int (nI other_n), .int (nI thing_n), .ref 29]) (μ' := (am_S f g)) 6 rfl ?_
          refine am_F.iasE (F' := (am_row f 29 (upd (f 29) thing_n (nI other_n)))) (m := thing_n) (N := 16) rfl rfl rfl rfl (by omega) (by decide) (by first | rfl | (funext a; by_cases z0 : a = 29; (subst z0; rfl); simp only [am_ui, am_ul, am_row_ne z0])) ?_
          refine am_F.ops (pc' := 59) (L' := [.ref 0, .int (nI thing_n), .int (nI other_n), .int (f 29 thing_n)]) (S' := [.int (f 29 thing_n)]) (μ' := (am_S (am_row f 29 (upd (f 29) thing_n (nI other_n))) g)) 1 rfl ?_
          subst hKd
          exact am_F.eq (am_F.ret rfl rfl) hK
        · show am_F _ _ 35 [.ref 0, .int (nI thing_n), .int (nI other_n), am_un] [] (am_S f g) _
          refine am_F.ops (pc' := 37) (L' := [.ref 0, .int (nI thing_n), .int (nI other_n), am_un]) (S' := [.int (-4)]) (μ' := (am_S f g)) 1 rfl ?_
          refine am_F.mem (F' := (am_row f 29 (f 29))) (G' := g) ?_ (by first | rfl | (funext a; by_cases z0 : a = 29; (subst z0; rfl); simp only [am_ui, am_ul, am_row_ne z0])) (by first | rfl | (funext a; by_cases z0 : a = 29; (subst z0; rfl); simp only [am_ui, am_ul, am_row_ne z0]))
          subst hKd
          exact am_F.eq (am_F.ret rfl rfl) hK
    · show am_F _ _ 17 [.ref 0, .int (nI thing_n), .int other, am_un] [] (am_S f g) _
      refine am_F.ops (pc' := 18) (L' := [.ref 0, .int (nI thing_n), .int other, am_un]) (S' := [.int (-1)]) (μ' := (am_S f g)) 1 rfl ?_
      refine am_F.mem (F' := (am_row f 29 (f 29))) (G' := g) ?_ (by first | rfl | (funext a; by_cases z0 : a = 29; (subst z0; rfl); simp only [am_ui, am_ul, am_row_ne z0])) (by first | rfl | (funext a; by_cases z0 : a = 29; (subst z0; rfl); simp only [am_ui, am_ul, am_row_ne z0]))
      subst hKd
      exact am_F.eq (am_F.ret rfl rfl) hK
  · show am_F _ _ 17 [.ref 0, .int thing, .int other, am_un] [] (am_S f g) _
    refine am_F.ops (pc' := 18) (L' := [.ref 0, .int thing, .int other, am_un]) (S' := [.int (-1)]) (μ' := (am_S f g)) 1 rfl ?_
    refine am_F.mem (F' := (am_row f 29 (f 29))) (G' := g) ?_ (by first | rfl | (funext a; by_cases z0 : a = 29; (subst z0; rfl); simp only [am_ui, am_ul, am_row_ne z0])) (by first | rfl | (funext a; by_cases z0 : a = 29; (subst z0; rfl); simp only [am_ui, am_ul, am_row_ne z0]))
    subst hKd
    exact am_F.eq (am_F.ret rfl rfl) hK
/-- AccessLattice.addSenior -/
def fn_addSenior (role : Nat) (other : Nat) (f : Nat → Nat → Int32) (g : Nat → Nat → Int64) : Int32 × (Nat → Int32) × (Nat → Int32) × (Nat → Int32) × (Nat → Int32) × (Nat → Int32) × (Nat → Int32) × (Nat → Int32) × (Nat → Int32) × (Nat → Int64) := (bif (fn_has (f 4 role) (nI other)) then ((-2), f 1, f 3, f 4, f 5, f 6, f 7, f 34, f 35, g 1) else (if (f 3 7) < 40 then (bif (fn_has (f 6 other) (nI role)) then ((-4), f 1, f 3, f 4, f 5, f 6, f 7, f 34, f 35, g 1) else (bif ((fn_someBarred (am_row (am_row (am_row (am_row (am_row f 3 (fn_put role other true f).1) 4 (fn_put role other true f).2.1) 5 (fn_put role other true f).2.2.1) 6 (fn_put role other true f).2.2.2.1) 7 (fn_put role other true f).2.2.2.2) g).1) then ((-6), (fn_someBarred (am_row (am_row (am_row (am_row (am_row f 3 (fn_put role other true f).1) 4 (fn_put role other true f).2.1) 5 (fn_put role other true f).2.2.1) 6 (fn_put role other true f).2.2.2.1) 7 (fn_put role other true f).2.2.2.2) g).2.1, (fn_put role other false (am_row (am_row (am_row (am_row (am_row (am_row (am_row (am_row f 1 (fn_someBarred (am_row (am_row (am_row (am_row (am_row f 3 (fn_put role other true f).1) 4 (fn_put role other true f).2.1) 5 (fn_put role other true f).2.2.1) 6 (fn_put role other true f).2.2.2.1) 7 (fn_put role other true f).2.2.2.2) g).2.1) 3 (fn_put role other true f).1) 4 (fn_put role other true f).2.1) 5 (fn_put role other true f).2.2.1) 6 (fn_put role other true f).2.2.2.1) 7 (fn_put role other true f).2.2.2.2) 34 (fn_someBarred (am_row (am_row (am_row (am_row (am_row f 3 (fn_put role other true f).1) 4 (fn_put role other true f).2.1) 5 (fn_put role other true f).2.2.1) 6 (fn_put role other true f).2.2.2.1) 7 (fn_put role other true f).2.2.2.2) g).2.2.1) 35 (fn_someBarred (am_row (am_row (am_row (am_row (am_row f 3 (fn_put role other true f).1) 4 (fn_put role other true f).2.1) 5 (fn_put role other true f).2.2.1) 6 (fn_put role other true f).2.2.2.1) 7 (fn_put role other true f).2.2.2.2) g).2.2.2.1)).1, (fn_put role other false (am_row (am_row (am_row (am_row (am_row (am_row (am_row (am_row f 1 (fn_someBarred (am_row (am_row (am_row (am_row (am_row f 3 (fn_put role other true f).1) 4 (fn_put role other true f).2.1) 5 (fn_put role other true f).2.2.1) 6 (fn_put role other true f).2.2.2.1) 7 (fn_put role other true f).2.2.2.2) g).2.1) 3 (fn_put role other true f).1) 4 (fn_put role other true f).2.1) 5 (fn_put role other true f).2.2.1) 6 (fn_put role other true f).2.2.2.1) 7 (fn_put role other true f).2.2.2.2) 34 (fn_someBarred (am_row (am_row (am_row (am_row (am_row f 3 (fn_put role other true f).1) 4 (fn_put role other true f).2.1) 5 (fn_put role other true f).2.2.1) 6 (fn_put role other true f).2.2.2.1) 7 (fn_put role other true f).2.2.2.2) g).2.2.1) 35 (fn_someBarred (am_row (am_row (am_row (am_row (am_row f 3 (fn_put role other true f).1) 4 (fn_put role other true f).2.1) 5 (fn_put role other true f).2.2.1) 6 (fn_put role other true f).2.2.2.1) 7 (fn_put role other true f).2.2.2.2) g).2.2.2.1)).2.1, (fn_put role other false (am_row (am_row (am_row (am_row (am_row (am_row (am_row (am_row f 1 (fn_someBarred (am_row (am_row (am_row (am_row (am_row f 3 (fn_put role other true f).1) 4 (fn_put role other true f).2.1) 5 (fn_put role other true f).2.2.1) 6 (fn_put role other true f).2.2.2.1) 7 (fn_put role other true f).2.2.2.2) g).2.1) 3 (fn_put role other true f).1) 4 (fn_put role other true f).2.1) 5 (fn_put role other true f).2.2.1) 6 (fn_put role other true f).2.2.2.1) 7 (fn_put role other true f).2.2.2.2) 34 (fn_someBarred (am_row (am_row (am_row (am_row (am_row f 3 (fn_put role other true f).1) 4 (fn_put role other true f).2.1) 5 (fn_put role other true f).2.2.1) 6 (fn_put role other true f).2.2.2.1) 7 (fn_put role other true f).2.2.2.2) g).2.2.1) 35 (fn_someBarred (am_row (am_row (am_row (am_row (am_row f 3 (fn_put role other true f).1) 4 (fn_put role other true f).2.1) 5 (fn_put role other true f).2.2.1) 6 (fn_put role other true f).2.2.2.1) 7 (fn_put role other true f).2.2.2.2) g).2.2.2.1)).2.2.1, (fn_put role other false (am_row (am_row (am_row (am_row (am_row (am_row (am_row (am_row f 1 (fn_someBarred (am_row (am_row (am_row (am_row (am_row f 3 (fn_put role other true f).1) 4 (fn_put role other true f).2.1) 5 (fn_put role other true f).2.2.1) 6 (fn_put role other true f).2.2.2.1) 7 (fn_put role other true f).2.2.2.2) g).2.1) 3 (fn_put role other true f).1) 4 (fn_put role other true f).2.1) 5 (fn_put role other true f).2.2.1) 6 (fn_put role other true f).2.2.2.1) 7 (fn_put role other true f).2.2.2.2) 34 (fn_someBarred (am_row (am_row (am_row (am_row (am_row f 3 (fn_put role other true f).1) 4 (fn_put role other true f).2.1) 5 (fn_put role other true f).2.2.1) 6 (fn_put role other true f).2.2.2.1) 7 (fn_put role other true f).2.2.2.2) g).2.2.1) 35 (fn_someBarred (am_row (am_row (am_row (am_row (am_row f 3 (fn_put role other true f).1) 4 (fn_put role other true f).2.1) 5 (fn_put role other true f).2.2.1) 6 (fn_put role other true f).2.2.2.1) 7 (fn_put role other true f).2.2.2.2) g).2.2.2.1)).2.2.2.1, (fn_put role other false (am_row (am_row (am_row (am_row (am_row (am_row (am_row (am_row f 1 (fn_someBarred (am_row (am_row (am_row (am_row (am_row f 3 (fn_put role other true f).1) 4 (fn_put role other true f).2.1) 5 (fn_put role other true f).2.2.1) 6 (fn_put role other true f).2.2.2.1) 7 (fn_put role other true f).2.2.2.2) g).2.1) 3 (fn_put role other true f).1) 4 (fn_put role other true f).2.1) 5 (fn_put role other true f).2.2.1) 6 (fn_put role other true f).2.2.2.1) 7 (fn_put role other true f).2.2.2.2) 34 (fn_someBarred (am_row (am_row (am_row (am_row (am_row f 3 (fn_put role other true f).1) 4 (fn_put role other true f).2.1) 5 (fn_put role other true f).2.2.1) 6 (fn_put role other true f).2.2.2.1) 7 (fn_put role other true f).2.2.2.2) g).2.2.1) 35 (fn_someBarred (am_row (am_row (am_row (am_row (am_row f 3 (fn_put role other true f).1) 4 (fn_put role other true f).2.1) 5 (fn_put role other true f).2.2.1) 6 (fn_put role other true f).2.2.2.1) 7 (fn_put role other true f).2.2.2.2) g).2.2.2.1)).2.2.2.2, (fn_someBarred (am_row (am_row (am_row (am_row (am_row f 3 (fn_put role other true f).1) 4 (fn_put role other true f).2.1) 5 (fn_put role other true f).2.2.1) 6 (fn_put role other true f).2.2.2.1) 7 (fn_put role other true f).2.2.2.2) g).2.2.1, (fn_someBarred (am_row (am_row (am_row (am_row (am_row f 3 (fn_put role other true f).1) 4 (fn_put role other true f).2.1) 5 (fn_put role other true f).2.2.1) 6 (fn_put role other true f).2.2.2.1) 7 (fn_put role other true f).2.2.2.2) g).2.2.2.1, (fn_someBarred (am_row (am_row (am_row (am_row (am_row f 3 (fn_put role other true f).1) 4 (fn_put role other true f).2.1) 5 (fn_put role other true f).2.2.1) 6 (fn_put role other true f).2.2.2.1) 7 (fn_put role other true f).2.2.2.2) g).2.2.2.2) else ((fn_put role other true f).1 7, (fn_someBarred (am_row (am_row (am_row (am_row (am_row f 3 (fn_put role other true f).1) 4 (fn_put role other true f).2.1) 5 (fn_put role other true f).2.2.1) 6 (fn_put role other true f).2.2.2.1) 7 (fn_put role other true f).2.2.2.2) g).2.1, (fn_put role other true f).1, (fn_put role other true f).2.1, (fn_put role other true f).2.2.1, (fn_put role other true f).2.2.2.1, (fn_put role other true f).2.2.2.2, (fn_someBarred (am_row (am_row (am_row (am_row (am_row f 3 (fn_put role other true f).1) 4 (fn_put role other true f).2.1) 5 (fn_put role other true f).2.2.1) 6 (fn_put role other true f).2.2.2.1) 7 (fn_put role other true f).2.2.2.2) g).2.2.1, (fn_someBarred (am_row (am_row (am_row (am_row (am_row f 3 (fn_put role other true f).1) 4 (fn_put role other true f).2.1) 5 (fn_put role other true f).2.2.1) 6 (fn_put role other true f).2.2.2.1) 7 (fn_put role other true f).2.2.2.2) g).2.2.2.1, (fn_someBarred (am_row (am_row (am_row (am_row (am_row f 3 (fn_put role other true f).1) 4 (fn_put role other true f).2.1) 5 (fn_put role other true f).2.2.1) 6 (fn_put role other true f).2.2.2.1) 7 (fn_put role other true f).2.2.2.2) g).2.2.2.2))) else ((-3), f 1, f 3, f 4, f 5, f 6, f 7, f 34, f 35, g 1)))
theorem x_addSenior (role : Nat) (other : Nat) (f : Nat → Nat → Int32) (g : Nat → Nat → Int64) (hLc : f 11 7 = nI (f 11 7).toNatClampNeg) (hLn : (f 11 7).toNatClampNeg ≤ 40) (hLf : ∀ i, i < (f 11 7).toNatClampNeg → am_inb (f 12 i) 16 = true) (hLt : ∀ i, i < (f 11 7).toNatClampNeg → am_inb (f 13 i) 16 = true) (hLr : ∀ i, i < (f 11 7).toNatClampNeg → am_inb (f 14 i) 20 = true) (hRc : f 18 11 = nI (f 18 11).toNatClampNeg) (hRn : (f 18 11).toNatClampNeg ≤ 30) (hrole : role < 20) (hother : other < 20) : am_D 5 20 4 [.ref 0, .int (nI role), .int (nI other)] (am_S f g) (some (Value.int ((fn_addSenior role other f g).1)), am_S (am_row (am_row (am_row (am_row (am_row (am_row (am_row (am_row f 1 ((fn_addSenior role other f g).2.1)) 3 ((fn_addSenior role other f g).2.2.1)) 4 ((fn_addSenior role other f g).2.2.2.1)) 5 ((fn_addSenior role other f g).2.2.2.2.1)) 6 ((fn_addSenior role other f g).2.2.2.2.2.1)) 7 ((fn_addSenior role other f g).2.2.2.2.2.2.1)) 34 ((fn_addSenior role other f g).2.2.2.2.2.2.2.1)) 35 ((fn_addSenior role other f g).2.2.2.2.2.2.2.2.1)) (am_row g 1 ((fn_addSenior role other f g).2.2.2.2.2.2.2.2.2))) := by
  refine am_D.of (code := am_k_20) rfl (L0 := [.ref 0, .int (nI role), .int (nI other), am_un]) rfl ?_
  generalize hres : (some (Value.int ((fn_addSenior role other f g).1)), am_S (am_row (am_row (am_row (am_row (am_row (am_row (am_row (am_row f 1 ((fn_addSenior role other f g).2.1)) 3 ((fn_addSenior role other f g).2.2.1)) 4 ((fn_addSenior role other f g).2.2.2.1)) 5 ((fn_addSenior role other f g).2.2.2.2.1)) 6 ((fn_addSenior role other f g).2.2.2.2.2.1)) 7 ((fn_addSenior role other f g).2.2.2.2.2.2.1)) 34 ((fn_addSenior role other f g).2.2.2.2.2.2.2.1)) 35 ((fn_addSenior role other f g).2.2.2.2.2.2.2.2.1)) (am_row g 1 ((fn_addSenior role other f g).2.2.2.2.2.2.2.2.2))) = res
  obtain ⟨K, hKd⟩ : ∃ K : (Int32 × (Nat → Int32) × (Nat → Int32) × (Nat → Int32) × (Nat → Int32) × (Nat → Int32) × (Nat → Int32) × (Nat → Int32) × (Nat → Int32) × (Nat → Int64)) → Prop, K = fun z => (some (Value.int z.1), am_S (am_row (am_row (am_row (am_row (am_row (am_row (am_row (am_row f 1 z.2.1) 3 z.2.2.1) 4 z.2.2.2.1) 5 z.2.2.2.2.1) 6 z.2.2.2.2.2.1) 7 z.2.2.2.2.2.2.1) 34 z.2.2.2.2.2.2.2.1) 35 z.2.2.2.2.2.2.2.2.1) (am_row g 1 z.2.2.2.2.2.2.2.2.2)) = res := ⟨_, rfl⟩
  have hK : K (fn_addSenior role other f g) := by rw [hKd]; exact hres
  clear hres
  unfold fn_addSenior at hK
  refine am_F.ops (pc' := 13) (L' := [.ref 0, .int (nI role), .int (nI other), .ref 3]) (S' := [.int (nI role), .ref 4]) (μ' := (am_S f g)) 7 rfl ?_
  refine am_F.ialE (m := role) (N := 20) rfl rfl rfl rfl (by omega) (by decide) ?_
  show am_F _ _ 14 [.ref 0, .int (nI role), .int (nI other), .ref 3] [.int (f 4 role)] (am_S f g) _
  refine am_F.ops (pc' := 15) (L' := [.ref 0, .int (nI role), .int (nI other), .ref 3]) (S' := [.int (nI other), .int (f 4 role)]) (μ' := (am_S f g)) 1 rfl ?_
  refine am_F.call rfl rfl (x_has (f 4 role) (nI other) f g ) (by decide) ?_
  show am_F _ _ 18 [.ref 0, .int (nI role), .int (nI other), .ref 3] [.int (am_b (fn_has (f 4 role) (nI other)))] (am_S f g) _
  refine am_F.bifK 1 rfl K hK (fun c1 hK => ?_) (fun c1 hK => ?_)
  · show am_F _ _ 21 [.ref 0, .int (nI role), .int (nI other), .ref 3] [] (am_S f g) _
    refine am_F.ops (pc' := 23) (L' := [.ref 0, .int (nI role), .int (nI other), .ref 3]) (S' := [.int (-2)]) (μ' := (am_S f g)) 1 rfl ?_
    refine am_F.mem (F' := (am_row (am_row (am_row (am_row (am_row (am_row (am_row (am_row f 1 (f 1)) 3 (f 3)) 4 (f 4)) 5 (f 5)) 6 (f 6)) 7 (f 7)) 34 (f 34)) 35 (f 35))) (G' := (am_row g 1 (g 1))) ?_ (by first | rfl | (funext a; by_cases z0 : a = 1; (subst z0; rfl); by_cases z1 : a = 3; (subst z1; rfl); by_cases z2 : a = 4; (subst z2; rfl); by_cases z3 : a = 5; (subst z3; rfl); by_cases z4 : a = 6; (subst z4; rfl); by_cases z5 : a = 7; (subst z5; rfl); by_cases z6 : a = 34; (subst z6; rfl); by_cases z7 : a = 35; (subst z7; rfl); simp only [am_ui, am_ul, am_row_ne z0, am_row_ne z1, am_row_ne z2, am_row_ne z3, am_row_ne z4, am_row_ne z5, am_row_ne z6, am_row_ne z7])) (by first | rfl | (funext a; by_cases z0 : a = 1; (subst z0; rfl); by_cases z1 : a = 3; (subst z1; rfl); by_cases z2 : a = 4; (subst z2; rfl); by_cases z3 : a = 5; (subst z3; rfl); by_cases z4 : a = 6; (subst z4; rfl); by_cases z5 : a = 7; (subst z5; rfl); by_cases z6 : a = 34; (subst z6; rfl); by_cases z7 : a = 35; (subst z7; rfl); simp only [am_ui, am_ul, am_row_ne z0, am_row_ne z1, am_row_ne z2, am_row_ne z3, am_row_ne z4, am_row_ne z5, am_row_ne z6, am_row_ne z7]))
    subst hKd
    exact am_F.eq (am_F.ret rfl rfl) hK
  · show am_F _ _ 24 [.ref 0, .int (nI role), .int (nI other), .ref 3] [] (am_S f g) _
    refine am_F.ops (pc' := 30) (L' := [.ref 0, .int (nI role), .int (nI other), .ref 3]) (S' := [.int 40, .int (f 3 7)]) (μ' := (am_S f g)) 3 rfl ?_
    refine am_F.iteK 1 rfl K hK (fun c2 hK => ?_) (fun c2 hK => ?_)
    · show am_F _ _ 36 [.ref 0, .int (nI role), .int (nI other), .ref 3] [] (am_S f g) _
      refine am_F.ops (pc' := 41) (L' := [.ref 0, .int (nI role), .int (nI other), .ref 3]) (S' := [.int (nI other), .ref 6]) (μ' := (am_S f g)) 3 rfl ?_
      refine am_F.ialE (m := other) (N := 20) rfl rfl rfl rfl (by omega) (by decide) ?_
      show am_F _ _ 42 [.ref 0, .int (nI role), .int (nI other), .ref 3] [.int (f 6 other)] (am_S f g) _
      refine am_F.ops (pc' := 43) (L' := [.ref 0, .int (nI role), .int (nI other), .ref 3]) (S' := [.int (nI role), .int (f 6 other)]) (μ' := (am_S f g)) 1 rfl ?_
      refine am_F.call rfl rfl (x_has (f 6 other) (nI role) f g ) (by decide) ?_
      show am_F _ _ 46 [.ref 0, .int (nI role), .int (nI other), .ref 3] [.int (am_b (fn_has (f 6 other) (nI role)))] (am_S f g) _
      refine am_F.bifK 1 rfl K hK (fun c3 hK => ?_) (fun c3 hK => ?_)
      · show am_F _ _ 49 [.ref 0, .int (nI role), .int (nI other), .ref 3] [] (am_S f g) _
        refine am_F.ops (pc' := 51) (L' := [.ref 0, .int (nI role), .int (nI other), .ref 3]) (S' := [.int (-4)]) (μ' := (am_S f g)) 1 rfl ?_
        refine am_F.mem (F' := (am_row (am_row (am_row (am_row (am_row (am_row (am_row (am_row f 1 (f 1)) 3 (f 3)) 4 (f 4)) 5 (f 5)) 6 (f 6)) 7 (f 7)) 34 (f 34)) 35 (f 35))) (G' := (am_row g 1 (g 1))) ?_ (by first | rfl | (funext a; by_cases z0 : a = 1; (subst z0; rfl); by_cases z1 : a = 3; (subst z1; rfl); by_cases z2 : a = 4; (subst z2; rfl); by_cases z3 : a = 5; (subst z3; rfl); by_cases z4 : a = 6; (subst z4; rfl); by_cases z5 : a = 7; (subst z5; rfl); by_cases z6 : a = 34; (subst z6; rfl); by_cases z7 : a = 35; (subst z7; rfl); simp only [am_ui, am_ul, am_row_ne z0, am_row_ne z1, am_row_ne z2, am_row_ne z3, am_row_ne z4, am_row_ne z5, am_row_ne z6, am_row_ne z7])) (by first | rfl | (funext a; by_cases z0 : a = 1; (subst z0; rfl); by_cases z1 : a = 3; (subst z1; rfl); by_cases z2 : a = 4; (subst z2; rfl); by_cases z3 : a = 5; (subst z3; rfl); by_cases z4 : a = 6; (subst z4; rfl); by_cases z5 : a = 7; (subst z5; rfl); by_cases z6 : a = 34; (subst z6; rfl); by_cases z7 : a = 35; (subst z7; rfl); simp only [am_ui, am_ul, am_row_ne z0, am_row_ne z1, am_row_ne z2, am_row_ne z3, am_row_ne z4, am_row_ne z5, am_row_ne z6, am_row_ne z7]))
        subst hKd
        exact am_F.eq (am_F.ret rfl rfl) hK
      · show am_F _ _ 52 [.ref 0, .int (nI role), .int (nI other), .ref 3] [] (am_S f g) _
        refine am_F.ops (pc' := 56) (L' := [.ref 0, .int (nI role), .int (nI other), .ref 3]) (S' := [.int 1, .int (nI other), .int (nI role), .ref 3]) (μ' := (am_S f g)) 4 rfl ?_
        refine am_F.call rfl rfl (x_put role other true f g (by omega) (by omega)) (by decide) ?_
        obtain ⟨y4, hy4⟩ : ∃ z, (fn_put role other true f) = z := ⟨_, rfl⟩
        (try rw [hy4] at hK)
        (try rw [hy4])
        refine am_F.mem (F' := (am_row (am_row (am_row (am_row (am_row f 3 y4.1) 4 y4.2.1) 5 y4.2.2.1) 6 y4.2.2.2.1) 7 y4.2.2.2.2)) (G' := g) ?_ (by first | rfl | (funext a; by_cases z0 : a = 3; (subst z0; rfl); by_cases z1 : a = 4; (subst z1; rfl); by_cases z2 : a = 5; (subst z2; rfl); by_cases z3 : a = 6; (subst z3; rfl); by_cases z4 : a = 7; (subst z4; rfl); simp only [am_ui, am_ul, am_row_ne z0, am_row_ne z1, am_row_ne z2, am_row_ne z3, am_row_ne z4])) (by first | rfl | (funext a; by_cases z0 : a = 3; (subst z0; rfl); by_cases z1 : a = 4; (subst z1; rfl); by_cases z2 : a = 5; (subst z2; rfl); by_cases z3 : a = 6; (subst z3; rfl); by_cases z4 : a = 7; (subst z4; rfl); simp only [am_ui, am_ul, am_row_ne z0, am_row_ne z1, am_row_ne z2, am_row_ne z3, am_row_ne z4]))
        show am_F _ _ 59 [.ref 0, .int (nI role), .int (nI other), .ref 3] [] (am_S (am_row (am_row (am_row (am_row (am_row f 3 y4.1) 4 y4.2.1) 5 y4.2.2.1) 6 y4.2.2.2.1) 7 y4.2.2.2.2) g) _
        refine am_F.ops (pc' := 63) (L' := [.ref 0, .int (nI role), .int (nI other), .ref 3]) (S' := [.ref 1]) (μ' := (am_S (am_row (am_row (am_row (am_row (am_row f 3 y4.1) 4 y4.2.1) 5 y4.2.2.1) 6 y4.2.2.2.1) 7 y4.2.2.2.2) g)) 2 rfl ?_
        refine am_F.call rfl rfl (x_someBarred  (am_row (am_row (am_row (am_row (am_row f 3 y4.1) 4 y4.2.1) 5 y4.2.2.1) 6 y4.2.2.2.1) 7 y4.2.2.2.2) g hLc hLn hLf hLt hLr hRc hRn) (by decide) ?_
        obtain ⟨y5, hy5⟩ : ∃ z, (fn_someBarred (am_row (am_row (am_row (am_row (am_row f 3 y4.1) 4 y4.2.1) 5 y4.2.2.1) 6 y4.2.2.2.1) 7 y4.2.2.2.2) g) = z := ⟨_, rfl⟩
        (try rw [hy5] at hK)
        (try rw [hy5])
        refine am_F.mem (F' := (am_row (am_row (am_row (am_row (am_row (am_row (am_row (am_row f 1 y5.2.1) 3 y4.1) 4 y4.2.1) 5 y4.2.2.1) 6 y4.2.2.2.1) 7 y4.2.2.2.2) 34 y5.2.2.1) 35 y5.2.2.2.1)) (G' := (am_row g 1 y5.2.2.2.2)) ?_ (by first | rfl | (funext a; by_cases z0 : a = 1; (subst z0; rfl); by_cases z1 : a = 3; (subst z1; rfl); by_cases z2 : a = 4; (subst z2; rfl); by_cases z3 : a = 5; (subst z3; rfl); by_cases z4 : a = 6; (subst z4; rfl); by_cases z5 : a = 7; (subst z5; rfl); by_cases z6 : a = 34; (subst z6; rfl); by_cases z7 : a = 35; (subst z7; rfl); simp only [am_ui, am_ul, am_row_ne z0, am_row_ne z1, am_row_ne z2, am_row_ne z3, am_row_ne z4, am_row_ne z5, am_row_ne z6, am_row_ne z7])) (by first | rfl | (funext a; by_cases z0 : a = 1; (subst z0; rfl); by_cases z1 : a = 3; (subst z1; rfl); by_cases z2 : a = 4; (subst z2; rfl); by_cases z3 : a = 5; (subst z3; rfl); by_cases z4 : a = 6; (subst z4; rfl); by_cases z5 : a = 7; (subst z5; rfl); by_cases z6 : a = 34; (subst z6; rfl); by_cases z7 : a = 35; (subst z7; rfl); simp only [am_ui, am_ul, am_row_ne z0, am_row_ne z1, am_row_ne z2, am_row_ne z3, am_row_ne z4, am_row_ne z5, am_row_ne z6, am_row_ne z7]))
        show am_F _ _ 66 [.ref 0, .int (nI role), .int (nI other), .ref 3] [.int (am_b (y5.1))] (am_S (am_row (am_row (am_row (am_row (am_row (am_row (am_row (am_row f 1 y5.2.1) 3 y4.1) 4 y4.2.1) 5 y4.2.2.1) 6 y4.2.2.2.1) 7 y4.2.2.2.2) 34 y5.2.2.1) 35 y5.2.2.2.1) (am_row g 1 y5.2.2.2.2)) _
        refine am_F.bifK 1 rfl K hK (fun c6 hK => ?_) (fun c6 hK => ?_)
        · show am_F _ _ 69 [.ref 0, .int (nI role), .int (nI other), .ref 3] [] (am_S (am_row (am_row (am_row (am_row (am_row (am_row (am_row (am_row f 1 y5.2.1) 3 y4.1) 4 y4.2.1) 5 y4.2.2.1) 6 y4.2.2.2.1) 7 y4.2.2.2.2) 34 y5.2.2.1) 35 y5.2.2.2.1) (am_row g 1 y5.2.2.2.2)) _
          refine am_F.ops (pc' := 73) (L' := [.ref 0, .int (nI role), .int (nI other), .ref 3]) (S' := [.int 0, .int (nI other), .int (nI role), .ref 3]) (μ' := (am_S (am_row (am_row (am_row (am_row (am_row (am_row (am_row (am_row f 1 y5.2.1) 3 y4.1) 4 y4.2.1) 5 y4.2.2.1) 6 y4.2.2.2.1) 7 y4.2.2.2.2) 34 y5.2.2.1) 35 y5.2.2.2.1) (am_row g 1 y5.2.2.2.2))) 4 rfl ?_
          refine am_F.call rfl rfl (x_put role other false (am_row (am_row (am_row (am_row (am_row (am_row (am_row (am_row f 1 y5.2.1) 3 y4.1) 4 y4.2.1) 5 y4.2.2.1) 6 y4.2.2.2.1) 7 y4.2.2.2.2) 34 y5.2.2.1) 35 y5.2.2.2.1) (am_row g 1 y5.2.2.2.2) (by omega) (by omega)) (by decide) ?_
          obtain ⟨y7, hy7⟩ : ∃ z, (fn_put role other false (am_row (am_row (am_row (am_row (am_row (am_row (am_row (am_row f 1 y5.2.1) 3 y4.1) 4 y4.2.1) 5 y4.2.2.1) 6 y4.2.2.2.1) 7 y4.2.2.2.2) 34 y5.2.2.1) 35 y5.2.2.2.1)) = z := ⟨_, rfl⟩
          (try rw [hy7] at hK)
          (try rw [hy7])
          refine am_F.mem (F' := (am_row (am_row (am_row (am_row (am_row (am_row (am_row (am_row f 1 y5.2.1) 3 y7.1) 4 y7.2.1) 5 y7.2.2.1) 6 y7.2.2.2.1) 7 y7.2.2.2.2) 34 y5.2.2.1) 35 y5.2.2.2.1)) (G' := (am_row g 1 y5.2.2.2.2)) ?_ (by first | rfl | (funext a; by_cases z0 : a = 1; (subst z0; rfl); by_cases z1 : a = 3; (subst z1; rfl); by_cases z2 : a = 4; (subst z2; rfl); by_cases z3 : a = 5; (subst z3; rfl); by_cases z4 : a = 6; (subst z4; rfl); by_cases z5 : a = 7; (subst z5; rfl); by_cases z6 : a = 34; (subst z6; rfl); by_cases z7 : a = 35; (subst z7; rfl); simp only [am_ui, am_ul, am_row_ne z0, am_row_ne z1, am_row_ne z2, am_row_ne z3, am_row_ne z4, am_row_ne z5, am_row_ne z6, am_row_ne z7])) (by first | rfl | (funext a; by_cases z0 : a = 1; (subst z0; rfl); by_cases z1 : a = 3; (subst z1; rfl); by_cases z2 : a = 4; (subst z2; rfl); by_cases z3 : a = 5; (subst z3; rfl); by_cases z4 : a = 6; (subst z4; rfl); by_cases z5 : a = 7; (subst z5; rfl); by_cases z6 : a = 34; (subst z6; rfl); by_cases z7 : a = 35; (subst z7; rfl); simp only [am_ui, am_ul, am_row_ne z0, am_row_ne z1, am_row_ne z2, am_row_ne z3, am_row_ne z4, am_row_ne z5, am_row_ne z6, am_row_ne z7]))
          show am_F _ _ 76 [.ref 0, .int (nI role), .int (nI other), .ref 3] [] (am_S (am_row (am_row (am_row (am_row (am_row (am_row (am_row (am_row f 1 y5.2.1) 3 y7.1) 4 y7.2.1) 5 y7.2.2.1) 6 y7.2.2.2.1) 7 y7.2.2.2.2) 34 y5.2.2.1) 35 y5.2.2.2.1) (am_row g 1 y5.2.2.2.2)) _
          refine am_F.ops (pc' := 78) (L' := [.ref 0, .int (nI role), .int (nI other), .ref 3]) (S' := [.int (-6)]) (μ' := (am_S (am_row (am_row (am_row (am_row (am_row (am_row (am_row (am_row f 1 y5.2.1) 3 y7.1) 4 y7.2.1) 5 y7.2.2.1) 6 y7.2.2.2.1) 7 y7.2.2.2.2) 34 y5.2.2.1) 35 y5.2.2.2.1) (am_row g 1 y5.2.2.2.2))) 1 rfl ?_
          subst hKd
          exact am_F.eq (am_F.ret rfl rfl) hK
        · show am_F _ _ 79 [.ref 0, .int (nI role), .int (nI other), .ref 3] [] (am_S (am_row (am_row (am_row (am_row (am_row (am_row (am_row (am_row f 1 y5.2.1) 3 y4.1) 4 y4.2.1) 5 y4.2.2.1) 6 y4.2.2.2.1) 7 y4.2.2.2.2) 34 y5.2.2.1) 35 y5.2.2.2.1) (am_row g 1 y5.2.2.2.2)) _
          refine am_F.ops (pc' := 83) (L' := [.ref 0, .int (nI role), .int (nI other), .ref 3]) (S' := [.int (y4.1 7)]) (μ' := (am_S (am_row (am_row (am_row (am_row (am_row (am_row (am_row (am_row f 1 y5.2.1) 3 y4.1) 4 y4.2.1) 5 y4.2.2.1) 6 y4.2.2.2.1) 7 y4.2.2.2.2) 34 y5.2.2.1) 35 y5.2.2.2.1) (am_row g 1 y5.2.2.2.2))) 2 rfl ?_
          subst hKd
          exact am_F.eq (am_F.ret rfl rfl) hK
    · show am_F _ _ 33 [.ref 0, .int (nI role), .int (nI other), .ref 3] [] (am_S f g) _
      refine am_F.ops (pc' := 35) (L' := [.ref 0, .int (nI role), .int (nI other), .ref 3]) (S' := [.int (-3)]) (μ' := (am_S f g)) 1 rfl ?_
      refine am_F.mem (F' := (am_row (am_row (am_row (am_row (am_row (am_row (am_row (am_row f 1 (f 1)) 3 (f 3)) 4 (f 4)) 5 (f 5)) 6 (f 6)) 7 (f 7)) 34 (f 34)) 35 (f 35))) (G' := (am_row g 1 (g 1))) ?_ (by first | rfl | (funext a; by_cases z0 : a = 1; (subst z0; rfl); by_cases z1 : a = 3; (subst z1; rfl); by_cases z2 : a = 4; (subst z2; rfl); by_cases z3 : a = 5; (subst z3; rfl); by_cases z4 : a = 6; (subst z4; rfl); by_cases z5 : a = 7; (subst z5; rfl); by_cases z6 : a = 34; (subst z6; rfl); by_cases z7 : a = 35; (subst z7; rfl); simp only [am_ui, am_ul, am_row_ne z0, am_row_ne z1, am_row_ne z2, am_row_ne z3, am_row_ne z4, am_row_ne z5, am_row_ne z6, am_row_ne z7])) (by first | rfl | (funext a; by_cases z0 : a = 1; (subst z0; rfl); by_cases z1 : a = 3; (subst z1; rfl); by_cases z2 : a = 4; (subst z2; rfl); by_cases z3 : a = 5; (subst z3; rfl); by_cases z4 : a = 6; (subst z4; rfl); by_cases z5 : a = 7; (subst z5; rfl); by_cases z6 : a = 34; (subst z6; rfl); by_cases z7 : a = 35; (subst z7; rfl); simp only [am_ui, am_ul, am_row_ne z0, am_row_ne z1, am_row_ne z2, am_row_ne z3, am_row_ne z4, am_row_ne z5, am_row_ne z6, am_row_ne z7]))
      subst hKd
      exact am_F.eq (am_F.ret rfl rfl) hK
/-- AccessLattice.senior -/
def fn_senior (role : Int32) (other : Int32) (on : Int32) (f : Nat → Nat → Int32) (g : Nat → Nat → Int64) : Int32 × (Nat → Int32) × (Nat → Int32) × (Nat → Int32) × (Nat → Int32) × (Nat → Int32) × (Nat → Int32) × (Nat → Int32) × (Nat → Int32) × (Nat → Int64) := (bif (fn_isRole role) then (bif (fn_isRole other) then (bif (fn_within01 on) then (if on = 1 then ((fn_addSenior (role.toNatClampNeg) (other.toNatClampNeg) f g).1, (fn_addSenior (role.toNatClampNeg) (other.toNatClampNeg) f g).2.1, (fn_addSenior (role.toNatClampNeg) (other.toNatClampNeg) f g).2.2.1, (fn_addSenior (role.toNatClampNeg) (other.toNatClampNeg) f g).2.2.2.1, (fn_addSenior (role.toNatClampNeg) (other.toNatClampNeg) f g).2.2.2.2.1, (fn_addSenior (role.toNatClampNeg) (other.toNatClampNeg) f g).2.2.2.2.2.1, (fn_addSenior (role.toNatClampNeg) (other.toNatClampNeg) f g).2.2.2.2.2.2.1, (fn_addSenior (role.toNatClampNeg) (other.toNatClampNeg) f g).2.2.2.2.2.2.2.1, (fn_addSenior (role.toNatClampNeg) (other.toNatClampNeg) f g).2.2.2.2.2.2.2.2.1, (fn_addSenior (role.toNatClampNeg) (other.toNatClampNeg) f g).2.2.2.2.2.2.2.2.2) else (bif (fn_has (f 4 (role.toNatClampNeg)) other) then ((fn_put (role.toNatClampNeg) (other.toNatClampNeg) false f).1 7, f 1, (fn_put (role.toNatClampNeg) (other.toNatClampNeg) false f).1, (fn_put (role.toNatClampNeg) (other.toNatClampNeg) false f).2.1, (fn_put (role.toNatClampNeg) (other.toNatClampNeg) false f).2.2.1, (fn_put (role.toNatClampNeg) (other.toNatClampNeg) false f).2.2.2.1, (fn_put (role.toNatClampNeg) (other.toNatClampNeg) false f).2.2.2.2, f 34, f 35, g 1) else ((-2), f 1, f 3, f 4, f 5, f 6, f 7, f 34, f 35, g 1))) else ((-1), f 1, f 3, f 4, f 5, f 6, f 7, f 34, f 35, g 1)) else ((-1), f 1, f 3, f 4, f 5, f 6, f 7, f 34, f 35, g 1)) else ((-1), f 1, f 3, f 4, f 5, f 6, f 7, f 34, f 35, g 1))
theorem x_senior (role : Int32) (other : Int32) (on : Int32) (f : Nat → Nat → Int32) (g : Nat → Nat → Int64) (hLc : f 11 7 = nI (f 11 7).toNatClampNeg) (hLn : (f 11 7).toNatClampNeg ≤ 40) (hLf : ∀ i, i < (f 11 7).toNatClampNeg → am_inb (f 12 i) 16 = true) (hLt : ∀ i, i < (f 11 7).toNatClampNeg → am_inb (f 13 i) 16 = true) (hLr : ∀ i, i < (f 11 7).toNatClampNeg → am_inb (f 14 i) 20 = true) (hRc : f 18 11 = nI (f 18 11).toNatClampNeg) (hRn : (f 18 11).toNatClampNeg ≤ 30) : am_D 6 18 4 [.ref 0, .int role, .int other, .int on] (am_S f g) (some (Value.int ((fn_senior role other on f g).1)), am_S (am_row (am_row (am_row (am_row (am_row (am_row (am_row (am_row f 1 ((fn_senior role other on f g).2.1)) 3 ((fn_senior role other on f g).2.2.1)) 4 ((fn_senior role other on f g).2.2.2.1)) 5 ((fn_senior role other on f g).2.2.2.2.1)) 6 ((fn_senior role other on f g).2.2.2.2.2.1)) 7 ((fn_senior role other on f g).2.2.2.2.2.2.1)) 34 ((fn_senior role other on f g).2.2.2.2.2.2.2.1)) 35 ((fn_senior role other on f g).2.2.2.2.2.2.2.2.1)) (am_row g 1 ((fn_senior role other on f g).2.2.2.2.2.2.2.2.2))) := by
  refine am_D.of (code := am_k_18) rfl (L0 := [.ref 0, .int role, .int other, .int on]) rfl ?_
  generalize hres : (some (Value.int ((fn_senior role other on f g).1)), am_S (am_row (am_row (am_row (am_row (am_row (am_row (am_row (am_row f 1 ((fn_senior role other on f g).2.1)) 3 ((fn_senior role other on f g).2.2.1)) 4 ((fn_senior role other on f g).2.2.2.1)) 5 ((fn_senior role other on f g).2.2.2.2.1)) 6 ((fn_senior role other on f g).2.2.2.2.2.1)) 7 ((fn_senior role other on f g).2.2.2.2.2.2.1)) 34 ((fn_senior role other on f g).2.2.2.2.2.2.2.1)) 35 ((fn_senior role other on f g).2.2.2.2.2.2.2.2.1)) (am_row g 1 ((fn_senior role other on f g).2.2.2.2.2.2.2.2.2))) = res
  obtain ⟨K, hKd⟩ : ∃ K : (Int32 × (Nat → Int32) × (Nat → Int32) × (Nat → Int32) × (Nat → Int32) × (Nat → Int32) × (Nat → Int32) × (Nat → Int32) × (Nat → Int32) × (Nat → Int64)) → Prop, K = fun z => (some (Value.int z.1), am_S (am_row (am_row (am_row (am_row (am_row (am_row (am_row (am_row f 1 z.2.1) 3 z.2.2.1) 4 z.2.2.2.1) 5 z.2.2.2.2.1) 6 z.2.2.2.2.2.1) 7 z.2.2.2.2.2.2.1) 34 z.2.2.2.2.2.2.2.1) 35 z.2.2.2.2.2.2.2.2.1) (am_row g 1 z.2.2.2.2.2.2.2.2.2)) = res := ⟨_, rfl⟩
  have hK : K (fn_senior role other on f g) := by rw [hKd]; exact hres
  clear hres
  unfold fn_senior at hK
  refine am_F.ops (pc' := 1) (L' := [.ref 0, .int role, .int other, .int on]) (S' := [.int role]) (μ' := (am_S f g)) 1 rfl ?_
  refine am_F.call rfl rfl (x_isRole role f g ) (by decide) ?_
  show am_F _ _ 4 [.ref 0, .int role, .int other, .int on] [.int (am_b (fn_isRole role))] (am_S f g) _
  refine am_F.bifK 1 rfl K hK (fun c1 hK => ?_) (fun c1 hK => ?_)
  · obtain ⟨role_n, hrole_n, erole_n⟩ := am_isRole c1
    subst erole_n
    try simp only [nI_clamp (show role_n < 2147483648 by omega)] at hK
    show am_F _ _ 7 [.ref 0, .int (nI role_n), .int other, .int on] [] (am_S f g) _
    refine am_F.ops (pc' := 8) (L' := [.ref 0, .int (nI role_n), .int other, .int on]) (S' := [.int other]) (μ' := (am_S f g)) 1 rfl ?_
    refine am_F.call rfl rfl (x_isRole other f g ) (by decide) ?_
    show am_F _ _ 11 [.ref 0, .int (nI role_n), .int other, .int on] [.int (am_b (fn_isRole other))] (am_S f g) _
    refine am_F.bifK 1 rfl K hK (fun c2 hK => ?_) (fun c2 hK => ?_)
    · obtain ⟨other_n, hother_n, eother_n⟩ := am_isRole c2
      subst eother_n
      try simp only [nI_clamp (show other_n < 2147483648 by omega)] at hK
      show am_F _ _ 14 [.ref 0, .int (nI role_n), .int (nI other_n), .int on] [] (am_S f g) _
      refine am_F.ops (pc' := 15) (L' := [.ref 0, .int (nI role_n), .int (nI other_n), .int on]) (S' := [.int on]) (μ' := (am_S f g)) 1 rfl ?_
      refine am_F.call rfl rfl (x_within01 on f g ) (by decide) ?_
      show am_F _ _ 18 [.ref 0, .int (nI role_n), .int (nI other_n), .int on] [.int (am_b (fn_within01 on))] (am_S f g) _
      refine am_F.bifK 1 rfl K hK (fun c3 hK => ?_) (fun c3 hK => ?_)
      · show am_F _ _ 23 [.ref 0, .int (nI role_n), .int (nI other_n), .int on] [] (am_S f g) _
        refine am_F.ops (pc' := 25) (L' := [.ref 0, .int (nI role_n), .int (nI other_n), .int on]) (S' := [.int 1, .int on]) (μ' := (am_S f g)) 2 rfl ?_
        refine am_F.iteK 1 rfl K hK (fun c4 hK => ?_) (fun c4 hK => ?_)
        · show am_F _ _ 28 [.ref 0, .int (nI role_n), .int (nI other_n), .int on] [] (am_S f g) _
          refine am_F.ops (pc' := 31) (L' := [.ref 0, .int (nI role_n), .int (nI other_n), .int on]) (S' := [.int (nI other_n), .int (nI role_n), .ref 0]) (μ' := (am_S f g)) 3 rfl ?_
          refine am_F.call rfl rfl (x_addSenior role_n other_n f g hLc hLn hLf hLt hLr hRc hRn (by omega) (by omega)) (by decide) ?_
          obtain ⟨y5, hy5⟩ : ∃ z, (fn_addSenior role_n other_n f g) = z := ⟨_, rfl⟩
          (try rw [hy5] at hK)
          (try rw [hy5])
          refine am_F.mem (F' := (am_row (am_row (am_row (am_row (am_row (am_row (am_row (am_row f 1 y5.2.1) 3 y5.2.2.1) 4 y5.2.2.2.1) 5 y5.2.2.2.2.1) 6 y5.2.2.2.2.2.1) 7 y5.2.2.2.2.2.2.1) 34 y5.2.2.2.2.2.2.2.1) 35 y5.2.2.2.2.2.2.2.2.1)) (G' := (am_row g 1 y5.2.2.2.2.2.2.2.2.2)) ?_ (by first | rfl | (funext a; by_cases z0 : a = 1; (subst z0; rfl); by_cases z1 : a = 3; (subst z1; rfl); by_cases z2 : a = 4; (subst z2; rfl); by_cases z3 : a = 5; (subst z3; rfl); by_cases z4 : a = 6; (subst z4; rfl); by_cases z5 : a = 7; (subst z5; rfl); by_cases z6 : a = 34; (subst z6; rfl); by_cases z7 : a = 35; (subst z7; rfl); simp only [am_ui, am_ul, am_row_ne z0, am_row_ne z1, am_row_ne z2, am_row_ne z3, am_row_ne z4, am_row_ne z5, am_row_ne z6, am_row_ne z7])) (by first | rfl | (funext a; by_cases z0 : a = 1; (subst z0; rfl); by_cases z1 : a = 3; (subst z1; rfl); by_cases z2 : a = 4; (subst z2; rfl); by_cases z3 : a = 5; (subst z3; rfl); by_cases z4 : a = 6; (subst z4; rfl); by_cases z5 : a = 7; (subst z5; rfl); by_cases z6 : a = 34; (subst z6; rfl); by_cases z7 : a = 35; (subst z7; rfl); simp only [am_ui, am_ul, am_row_ne z0, am_row_ne z1, am_row_ne z2, am_row_ne z3, am_row_ne z4, am_row_ne z5, am_row_ne z6, am_row_ne z7]))
          show am_F _ _ 34 [.ref 0, .int (nI role_n), .int (nI other_n), .int on] [.int y5.1] (am_S (am_row (am_row (am_row (am_row (am_row (am_row (am_row (am_row f 1 y5.2.1) 3 y5.2.2.1) 4 y5.2.2.2.1) 5 y5.2.2.2.2.1) 6 y5.2.2.2.2.2.1) 7 y5.2.2.2.2.2.2.1) 34 y5.2.2.2.2.2.2.2.1) 35 y5.2.2.2.2.2.2.2.2.1) (am_row g 1 y5.2.2.2.2.2.2.2.2.2)) _
          subst hKd
          exact am_F.eq (am_F.ret rfl rfl) hK
        · show am_F _ _ 35 [.ref 0, .int (nI role_n), .int (nI other_n), .int on] [] (am_S f g) _
          refine am_F.ops (pc' := 46) (L' := [.ref 0, .int (nI role_n), .int (nI other_n), .int on]) (S' := [.int (nI role_n), .ref 4]) (μ' := (am_S f g)) 5 rfl ?_
          refine am_F.ialE (m := role_n) (N := 20) rfl rfl rfl rfl (by omega) (by decide) ?_
          show am_F _ _ 47 [.ref 0, .int (nI role_n), .int (nI other_n), .int on] [.int (f 4 role_n)] (am_S f g) _
          refine am_F.ops (pc' := 48) (L' := [.ref 0, .int (nI role_n), .int (nI other_n), .int on]) (S' := [.int (nI other_n), .int (f 4 role_n)]) (μ' := (am_S f g)) 1 rfl ?_
          refine am_F.call rfl rfl (x_has (f 4 role_n) (nI other_n) f g ) (by decide) ?_
          show am_F _ _ 51 [.ref 0, .int (nI role_n), .int (nI other_n), .int on] [.int (am_b (fn_has (f 4 role_n) (nI other_n)))] (am_S f g) _
          refine am_F.bifK 1 rfl K hK (fun c6 hK => ?_) (fun c6 hK => ?_)
          · show am_F _ _ 57 [.ref 0, .int (nI role_n), .int (nI other_n), .int on] [] (am_S f g) _
            refine am_F.ops (pc' := 67) (L' := [.ref 0, .int (nI role_n), .int (nI other_n), .int on]) (S' := [.int 0, .int (nI other_n), .int (nI role_n), .ref 3]) (μ' := (am_S f g)) 6 rfl ?_
            refine am_F.call rfl rfl (x_put role_n other_n false f g (by omega) (by omega)) (by decide) ?_
            obtain ⟨y7, hy7⟩ : ∃ z, (fn_put role_n other_n false f) = z := ⟨_, rfl⟩
            (try rw [hy7] at hK)
            (try rw [hy7])
            refine am_F.mem (F' := (am_row (am_row (am_row (am_row (am_row f 3 y7.1) 4 y7.2.1) 5 y7.2.2.1) 6 y7.2.2.2.1) 7 y7.2.2.2.2)) (G' := g) ?_ (by first | rfl | (funext a; by_cases z0 : a = 3; (subst z0; rfl); by_cases z1 : a = 4; (subst z1; rfl); by_cases z2 : a = 5; (subst z2; rfl); by_cases z3 : a = 6; (subst z3; rfl); by_cases z4 : a = 7; (subst z4; rfl); simp only [am_ui, am_ul, am_row_ne z0, am_row_ne z1, am_row_ne z2, am_row_ne z3, am_row_ne z4])) (by first | rfl | (funext a; by_cases z0 : a = 3; (subst z0; rfl); by_cases z1 : a = 4; (subst z1; rfl); by_cases z2 : a = 5; (subst z2; rfl); by_cases z3 : a = 6; (subst z3; rfl); by_cases z4 : a = 7; (subst z4; rfl); simp only [am_ui, am_ul, am_row_ne z0, am_row_ne z1, am_row_ne z2, am_row_ne z3, am_row_ne z4]))
            show am_F _ _ 70 [.ref 0, .int (nI role_n), .int (nI other_n), .int on] [] (am_S (am_row (am_row (am_row (am_row (am_row f 3 y7.1) 4 y7.2.1) 5 y7.2.2.1) 6 y7.2.2.2.1) 7 y7.2.2.2.2) g) _
            refine am_F.ops (pc' := 80) (L' := [.ref 0, .int (nI role_n), .int (nI other_n), .int on]) (S' := [.int (y7.1 7)]) (μ' := (am_S (am_row (am_row (am_row (am_row (am_row f 3 y7.1) 4 y7.2.1) 5 y7.2.2.1) 6 y7.2.2.2.1) 7 y7.2.2.2.2) g)) 4 rfl ?_
            refine am_F.mem (F' := (am_row (am_row (am_row (am_row (am_row (am_row (am_row (am_row f 1 (f 1)) 3 y7.1) 4 y7.2.1) 5 y7.2.2.1) 6 y7.2.2.2.1) 7 y7.2.2.2.2) 34 (f 34)) 35 (f 35))) (G' := (am_row g 1 (g 1))) ?_ (by first | rfl | (funext a; by_cases z0 : a = 1; (subst z0; rfl); by_cases z1 : a = 3; (subst z1; rfl); by_cases z2 : a = 4; (subst z2; rfl); by_cases z3 : a = 5; (subst z3; rfl); by_cases z4 : a = 6; (subst z4; rfl); by_cases z5 : a = 7; (subst z5; rfl); by_cases z6 : a = 34; (subst z6; rfl); by_cases z7 : a = 35; (subst z7; rfl); simp only [am_ui, am_ul, am_row_ne z0, am_row_ne z1, am_row_ne z2, am_row_ne z3, am_row_ne z4, am_row_ne z5, am_row_ne z6, am_row_ne z7])) (by first | rfl | (funext a; by_cases z0 : a = 1; (subst z0; rfl); by_cases z1 : a = 3; (subst z1; rfl); by_cases z2 : a = 4; (subst z2; rfl); by_cases z3 : a = 5; (subst z3; rfl); by_cases z4 : a = 6; (subst z4; rfl); by_cases z5 : a = 7; (subst z5; rfl); by_cases z6 : a = 34; (subst z6; rfl); by_cases z7 : a = 35; (subst z7; rfl); simp only [am_ui, am_ul, am_row_ne z0, am_row_ne z1, am_row_ne z2, am_row_ne z3, am_row_ne z4, am_row_ne z5, am_row_ne z6, am_row_ne z7]))
            subst hKd
            exact am_F.eq (am_F.ret rfl rfl) hK
          · show am_F _ _ 54 [.ref 0, .int (nI role_n), .int (nI other_n), .int on] [] (am_S f g) _
            refine am_F.ops (pc' := 56) (L' := [.ref 0, .int (nI role_n), .int (nI other_n), .int on]) (S' := [.int (-2)]) (μ' := (am_S f g)) 1 rfl ?_
            refine am_F.mem (F' := (am_row (am_row (am_row (am_row (am_row (am_row (am_row (am_row f 1 (f 1)) 3 (f 3)) 4 (f 4)) 5 (f 5)) 6 (f 6)) 7 (f 7)) 34 (f 34)) 35 (f 35))) (G' := (am_row g 1 (g 1))) ?_ (by first | rfl | (funext a; by_cases z0 : a = 1; (subst z0; rfl); by_cases z1 : a = 3; (subst z1; rfl); by_cases z2 : a = 4; (subst z2; rfl); by_cases z3 : a = 5; (subst z3; rfl); by_cases z4 : a = 6; (subst z4; rfl); by_cases z5 : a = 7; (subst z5; rfl); by_cases z6 : a = 34; (subst z6; rfl); by_cases z7 : a = 35; (subst z7; rfl); simp only [am_ui, am_ul, am_row_ne z0, am_row_ne z1, am_row_ne z2, am_row_ne z3, am_row_ne z4, am_row_ne z5, am_row_ne z6, am_row_ne z7])) (by first | rfl | (funext a; by_cases z0 : a = 1; (subst z0; rfl); by_cases z1 : a = 3; (subst z1; rfl); by_cases z2 : a = 4; (subst z2; rfl); by_cases z3 : a = 5; (subst z3; rfl); by_cases z4 : a = 6; (subst z4; rfl); by_cases z5 : a = 7; (subst z5; rfl); by_cases z6 : a = 34; (subst z6; rfl); by_cases z7 : a = 35; (subst z7; rfl); simp only [am_ui, am_ul, am_row_ne z0, am_row_ne z1, am_row_ne z2, am_row_ne z3, am_row_ne z4, am_row_ne z5, am_row_ne z6, am_row_ne z7]))
            subst hKd
            exact am_F.eq (am_F.ret rfl rfl) hK
      · show am_F _ _ 21 [.ref 0, .int (nI role_n), .int (nI other_n), .int on] [] (am_S f g) _
        refine am_F.ops (pc' := 22) (L' := [.ref 0, .int (nI role_n), .int (nI other_n), .int on]) (S' := [.int (-1)]) (μ' := (am_S f g)) 1 rfl ?_
        refine am_F.mem (F' := (am_row (am_row (am_row (am_row (am_row (am_row (am_row (am_row f 1 (f 1)) 3 (f 3)) 4 (f 4)) 5 (f 5)) 6 (f 6)) 7 (f 7)) 34 (f 34)) 35 (f 35))) (G' := (am_row g 1 (g 1))) ?_ (by first | rfl | (funext a; by_cases z0 : a = 1; (subst z0; rfl); by_cases z1 : a = 3; (subst z1; rfl); by_cases z2 : a = 4; (subst z2; rfl); by_cases z3 : a = 5; (subst z3; rfl); by_cases z4 : a = 6; (subst z4; rfl); by_cases z5 : a = 7; (subst z5; rfl); by_cases z6 : a = 34; (subst z6; rfl); by_cases z7 : a = 35; (subst z7; rfl); simp only [am_ui, am_ul, am_row_ne z0, am_row_ne z1, am_row_ne z2, am_row_ne z3, am_row_ne z4, am_row_ne z5, am_row_ne z6, am_row_ne z7])) (by first | rfl | (funext a; by_cases z0 : a = 1; (subst z0; rfl); by_cases z1 : a = 3; (subst z1; rfl); by_cases z2 : a = 4; (subst z2; rfl); by_cases z3 : a = 5; (subst z3; rfl); by_cases z4 : a = 6; (subst z4; rfl); by_cases z5 : a = 7; (subst z5; rfl); by_cases z6 : a = 34; (subst z6; rfl); by_cases z7 : a = 35; (subst z7; rfl); simp only [am_ui, am_ul, am_row_ne z0, am_row_ne z1, am_row_ne z2, am_row_ne z3, am_row_ne z4, am_row_ne z5, am_row_ne z6, am_row_ne z7]))
        subst hKd
        exact am_F.eq (am_F.ret rfl rfl) hK
    · show am_F _ _ 21 [.ref 0, .int (nI role_n), .int other, .int on] [] (am_S f g) _
      refine am_F.ops (pc' := 22) (L' := [.ref 0, .int (nI role_n), .int other, .int on]) (S' := [.int (-1)]) (μ' := (am_S f g)) 1 rfl ?_
      refine am_F.mem (F' := (am_row (am_row (am_row (am_row (am_row (am_row (am_row (am_row f 1 (f 1)) 3 (f 3)) 4 (f 4)) 5 (f 5)) 6 (f 6)) 7 (f 7)) 34 (f 34)) 35 (f 35))) (G' := (am_row g 1 (g 1))) ?_ (by first | rfl | (funext a; by_cases z0 : a = 1; (subst z0; rfl); by_cases z1 : a = 3; (subst z1; rfl); by_cases z2 : a = 4; (subst z2; rfl); by_cases z3 : a = 5; (subst z3; rfl); by_cases z4 : a = 6; (subst z4; rfl); by_cases z5 : a = 7; (subst z5; rfl); by_cases z6 : a = 34; (subst z6; rfl); by_cases z7 : a = 35; (subst z7; rfl); simp only [am_ui, am_ul, am_row_ne z0, am_row_ne z1, am_row_ne z2, am_row_ne z3, am_row_ne z4, am_row_ne z5, am_row_ne z6, am_row_ne z7])) (by first | rfl | (funext a; by_cases z0 : a = 1; (subst z0; rfl); by_cases z1 : a = 3; (subst z1; rfl); by_cases z2 : a = 4; (subst z2; rfl); by_cases z3 : a = 5; (subst z3; rfl); by_cases z4 : a = 6; (subst z4; rfl); by_cases z5 : a = 7; (subst z5; rfl); by_cases z6 : a = 34; (subst z6; rfl); by_cases z7 : a = 35; (subst z7; rfl); simp only [am_ui, am_ul, am_row_ne z0, am_row_ne z1, am_row_ne z2, am_row_ne z3, am_row_ne z4, am_row_ne z5, am_row_ne z6, am_row_ne z7]))
      subst hKd
      exact am_F.eq (am_F.ret rfl rfl) hK
  · show am_F _ _ 21 [.ref 0, .int role, .int other, .int on] [] (am_S f g) _
    refine am_F.ops (pc' := 22) (L' := [.ref 0, .int role, .int other, .int on]) (S' := [.int (-1)]) (μ' := (am_S f g)) 1 rfl ?_
    refine am_F.mem (F' := (am_row (am_row (am_row (am_row (am_row (am_row (am_row (am_row f 1 (f 1)) 3 (f 3)) 4 (f 4)) 5 (f 5)) 6 (f 6)) 7 (f 7)) 34 (f 34)) 35 (f 35))) (G' := (am_row g 1 (g 1))) ?_ (by first | rfl | (funext a; by_cases z0 : a = 1; (subst z0; rfl); by_cases z1 : a = 3; (subst z1; rfl); by_cases z2 : a = 4; (subst z2; rfl); by_cases z3 : a = 5; (subst z3; rfl); by_cases z4 : a = 6; (subst z4; rfl); by_cases z5 : a = 7; (subst z5; rfl); by_cases z6 : a = 34; (subst z6; rfl); by_cases z7 : a = 35; (subst z7; rfl); simp only [am_ui, am_ul, am_row_ne z0, am_row_ne z1, am_row_ne z2, am_row_ne z3, am_row_ne z4, am_row_ne z5, am_row_ne z6, am_row_ne z7])) (by first | rfl | (funext a; by_cases z0 : a = 1; (subst z0; rfl); by_cases z1 : a = 3; (subst z1; rfl); by_cases z2 : a = 4; (subst z2; rfl); by_cases z3 : a = 5; (subst z3; rfl); by_cases z4 : a = 6; (subst z4; rfl); by_cases z5 : a = 7; (subst z5; rfl); by_cases z6 : a = 34; (subst z6; rfl); by_cases z7 : a = 35; (subst z7; rfl); simp only [am_ui, am_ul, am_row_ne z0, am_row_ne z1, am_row_ne z2, am_row_ne z3, am_row_ne z4, am_row_ne z5, am_row_ne z6, am_row_ne z7]))
    subst hKd
    exact am_F.eq (am_F.ret rfl rfl) hK
/-- AccessLattice.assign -/
def fn_assign (user : Int32) (role : Int32) (on : Int32) (f : Nat → Nat → Int32) (g : Nat → Nat → Int64) : Int32 × (Nat → Int32) × (Nat → Int32) × (Nat → Int32) × (Nat → Int32) × (Nat → Int64) := (bif (fn_isUser user) then (bif (fn_isRole role) then (bif (fn_within01 on) then (if am_b (fn_has (f 30 (user.toNatClampNeg)) role) = am_b (if on = 1 then true else false) then ((-2), f 1, f 30, f 34, f 35, g 1) else (if on = 1 then (bif ((fn_someBarred (am_row f 30 (upd (f 30) (user.toNatClampNeg) ((f 30 (user.toNatClampNeg)) ^^^ (1 <<< (role &&& 31))))) g).1) then ((-6), (fn_someBarred (am_row f 30 (upd (f 30) (user.toNatClampNeg) ((f 30 (user.toNatClampNeg)) ^^^ (1 <<< (role &&& 31))))) g).2.1, upd (upd (f 30) (user.toNatClampNeg) ((f 30 (user.toNatClampNeg)) ^^^ (1 <<< (role &&& 31)))) (user.toNatClampNeg) (f 30 (user.toNatClampNeg)), (fn_someBarred (am_row f 30 (upd (f 30) (user.toNatClampNeg) ((f 30 (user.toNatClampNeg)) ^^^ (1 <<< (role &&& 31))))) g).2.2.1, (fn_someBarred (am_row f 30 (upd (f 30) (user.toNatClampNeg) ((f 30 (user.toNatClampNeg)) ^^^ (1 <<< (role &&& 31))))) g).2.2.2.1, (fn_someBarred (am_row f 30 (upd (f 30) (user.toNatClampNeg) ((f 30 (user.toNatClampNeg)) ^^^ (1 <<< (role &&& 31))))) g).2.2.2.2) else ((fn_bitCount ((f 30 (user.toNatClampNeg)) ^^^ (1 <<< (role &&& 31)))), (fn_someBarred (am_row f 30 (upd (f 30) (user.toNatClampNeg) ((f 30 (user.toNatClampNeg)) ^^^ (1 <<< (role &&& 31))))) g).2.1, upd (f 30) (user.toNatClampNeg) ((f 30 (user.toNatClampNeg)) ^^^ (1 <<< (role &&& 31))), (fn_someBarred (am_row f 30 (upd (f 30) (user.toNatClampNeg) ((f 30 (user.toNatClampNeg)) ^^^ (1 <<< (role &&& 31))))) g).2.2.1, (fn_someBarred (am_row f 30 (upd (f 30) (user.toNatClampNeg) ((f 30 (user.toNatClampNeg)) ^^^ (1 <<< (role &&& 31))))) g).2.2.2.1, (fn_someBarred (am_row f 30 (upd (f 30) (user.toNatClampNeg) ((f 30 (user.toNatClampNeg)) ^^^ (1 <<< (role &&& 31))))) g).2.2.2.2)) else ((fn_bitCount ((f 30 (user.toNatClampNeg)) ^^^ (1 <<< (role &&& 31)))), f 1, upd (f 30) (user.toNatClampNeg) ((f 30 (user.toNatClampNeg)) ^^^ (1 <<< (role &&& 31))), f 34, f 35, g 1))) else ((-1), f 1, f 30, f 34, f 35, g 1)) else ((-1), f 1, f 30, f 34, f 35, g 1)) else ((-1), f 1, f 30, f 34, f 35, g 1))
theorem x_assign (user : Int32) (role : Int32) (on : Int32) (f : Nat → Nat → Int32) (g : Nat → Nat → Int64) (hLc : f 11 7 = nI (f 11 7).toNatClampNeg) (hLn : (f 11 7).toNatClampNeg ≤ 40) (hLf : ∀ i, i < (f 11 7).toNatClampNeg → am_inb (f 12 i) 16 = true) (hLt : ∀ i, i < (f 11 7).toNatClampNeg → am_inb (f 13 i) 16 = true) (hLr : ∀ i, i < (f 11 7).toNatClampNeg → am_inb (f 14 i) 20 = true) (hRc : f 18 11 = nI (f 18 11).toNatClampNeg) (hRn : (f 18 11).toNatClampNeg ≤ 30) : am_D 5 31 5 [.ref 0, .int user, .int role, .int on] (am_S f g) (some (Value.int ((fn_assign user role on f g).1)), am_S (am_row (am_row (am_row (am_row f 1 ((fn_assign user role on f g).2.1)) 30 ((fn_assign user role on f g).2.2.1)) 34 ((fn_assign user role on f g).2.2.2.1)) 35 ((fn_assign user role on f g).2.2.2.2.1)) (am_row g 1 ((fn_assign user role on f g).2.2.2.2.2))) := by
  refine am_D.of (code := am_k_31) rfl (L0 := [.ref 0, .int user, .int role, .int on, am_un]) rfl ?_
  generalize hres : (some (Value.int ((fn_assign user role on f g).1)), am_S (am_row (am_row (am_row (am_row f 1 ((fn_assign user role on f g).2.1)) 30 ((fn_assign user role on f g).2.2.1)) 34 ((fn_assign user role on f g).2.2.2.1)) 35 ((fn_assign user role on f g).2.2.2.2.1)) (am_row g 1 ((fn_assign user role on f g).2.2.2.2.2))) = res
  obtain ⟨K, hKd⟩ : ∃ K : (Int32 × (Nat → Int32) × (Nat → Int32) × (Nat → Int32) × (Nat → Int32) × (Nat → Int64)) → Prop, K = fun z => (some (Value.int z.1), am_S (am_row (am_row (am_row (am_row f 1 z.2.1) 30 z.2.2.1) 34 z.2.2.2.1) 35 z.2.2.2.2.1) (am_row g 1 z.2.2.2.2.2)) = res := ⟨_, rfl⟩
  have hK : K (fn_assign user role on f g) := by rw [hKd]; exact hres
  clear hres
  unfold fn_assign at hK
  refine am_F.ops (pc' := 1) (L' := [.ref 0, .int user, .int role, .int on, am_un]) (S' := [.int user]) (μ' := (am_S f g)) 1 rfl ?_
  refine am_F.call rfl rfl (x_isUser user f g ) (by decide) ?_
  show am_F _ _ 4 [.ref 0, .int user, .int role, .int on, am_un] [.int (am_b (fn_isUser user))] (am_S f g) _
  refine am_F.bifK 1 rfl K hK (fun c1 hK => ?_) (fun c1 hK => ?_)
  · obtain ⟨user_n, huser_n, euser_n⟩ := am_isUser c1
    subst euser_n
    try simp only [nI_clamp (show user_n < 2147483648 by omega)] at hK
    show am_F _ _ 7 [.ref 0, .int (nI user_n), .int role, .int on, am_un] [] (am_S f g) _
    refine am_F.ops (pc' := 8) (L' := [.ref 0, .int (nI user_n), .int role, .int on, am_un]) (S' := [.int role]) (μ' := (am_S f g)) 1 rfl ?_
    refine am_F.call rfl rfl (x_isRole role f g ) (by decide) ?_
    show am_F _ _ 11 [.ref 0, .int (nI user_n), .int role, .int on, am_un] [.int (am_b (fn_isRole role))] (am_S f g) _
    refine am_F.bifK 1 rfl K hK (fun c2 hK => ?_) (fun c2 hK => ?_)
    · obtain ⟨role_n, hrole_n, erole_n⟩ := am_isRole c2
      subst erole_n
      try simp only [nI_clamp (show role_n < 2147483648 by omega)] at hK
      show am_F _ _ 14 [.ref 0, .int (nI user_n), .int (nI role_n), .int on, am_un] [] (am_S f g) _
      refine am_F.ops (pc' := 15) (L' := [.ref 0, .int (nI user_n), .int (nI role_n), .int on, am_un]) (S' := [.int on]) (μ' := (am_S f g)) 1 rfl ?_
      refine am_F.call rfl rfl (x_within01 on f g ) (by decide) ?_
      show am_F _ _ 18 [.ref 0, .int (nI user_n), .int (nI role_n), .int on, am_un] [.int (am_b (fn_within01 on))] (am_S f g) _
      refine am_F.bifK 1 rfl K hK (fun c3 hK => ?_) (fun c3 hK => ?_)
      · show am_F _ _ 23 [.ref 0, .int (nI user_n), .int (nI role_n), .int on, am_un] [] (am_S f g) _
        refine am_F.ops (pc' := 31) (L' := [.ref 0, .int (nI user_n), .int (nI role_n), .int on, am_un]) (S' := [.int (nI user_n), .ref 30]) (μ' := (am_S f g)) 4 rfl ?_
        refine am_F.ialE (m := user_n) (N := 16) rfl rfl rfl rfl (by omega) (by decide) ?_
        show am_F _ _ 32 [.ref 0, .int (nI user_n), .int (nI role_n), .int on, am_un] [.int (f 30 user_n)] (am_S f g) _
        refine am_F.ops (pc' := 37) (L' := [.ref 0, .int (nI user_n), .int (nI role_n), .int on, .int (f 30 user_n)]) (S' := [.int (nI role_n), .int (f 30 user_n)]) (μ' := (am_S f g)) 3 rfl ?_
        refine am_F.call rfl rfl (x_has (f 30 user_n) (nI role_n) f g ) (by decide) ?_
        show am_F _ _ 40 [.ref 0, .int (nI user_n), .int (nI role_n), .int on, .int (f 30 user_n)] [.int (am_b (fn_has (f 30 user_n) (nI role_n)))] (am_S f g) _
        refine am_F.ops (pc' := 42) (L' := [.ref 0, .int (nI user_n), .int (nI role_n), .int on, .int (f 30 user_n)]) (S' := [.int 1, .int on, .int (am_b (fn_has (f 30 user_n) (nI role_n)))]) (μ' := (am_S f g)) 2 rfl ?_
        refine am_F.to (am_To.iteB (pc' := 50) (L2 := [.ref 0, .int (nI user_n), .int (nI role_n), .int on, .int (f 30 user_n)]) (S2 := [.int (am_b (fn_has (f 30 user_n) (nI role_n)))]) (μ2 := (am_S f g)) (a := true) (b := false) 1 rfl (fun c4 => ?_) (fun c4 => ?_)) ?_
        · intro res9 g9
          show am_F _ _ 45 [.ref 0, .int (nI user_n), .int (nI role_n), .int on, .int (f 30 user_n)] [.int (am_b (fn_has (f 30 user_n) (nI role_n)))] (am_S f g) _
          refine am_F.ops (pc' := 50) (L' := [.ref 0, .int (nI user_n), .int (nI role_n), .int on, .int (f 30 user_n)]) (S' := [.int 1, .int (am_b (fn_has (f 30 user_n) (nI role_n)))]) (μ' := (am_S f g)) 2 rfl ?_
          exact g9
        · intro res9 g9
          show am_F _ _ 49 [.ref 0, .int (nI user_n), .int (nI role_n), .int on, .int (f 30 user_n)] [.int (am_b (fn_has (f 30 user_n) (nI role_n)))] (am_S f g) _
          refine am_F.ops (pc' := 50) (L' := [.ref 0, .int (nI user_n), .int (nI role_n), .int on, .int (f 30 user_n)]) (S' := [.int 0, .int (am_b (fn_has (f 30 user_n) (nI role_n)))]) (μ' := (am_S f g)) 1 rfl ?_
          exact g9
        show am_F _ _ 50 [.ref 0, .int (nI user_n), .int (nI role_n), .int on, .int (f 30 user_n)] [.int (am_b (if on = 1 then true else false)), .int (am_b (fn_has (f 30 user_n) (nI role_n)))] (am_S f g) _
        refine am_F.iteK 1 rfl K hK (fun c5 hK => ?_) (fun c5 hK => ?_)
        · show am_F _ _ 53 [.ref 0, .int (nI user_n), .int (nI role_n), .int on, .int (f 30 user_n)] [] (am_S f g) _
          refine am_F.ops (pc' := 55) (L' := [.ref 0, .int (nI user_n), .int (nI role_n), .int on, .int (f 30 user_n)]) (S' := [.int (-2)]) (μ' := (am_S f g)) 1 rfl ?_
          refine am_F.mem (F' := (am_row (am_row (am_row (am_row f 1 (f 1)) 30 (f 30)) 34 (f 34)) 35 (f 35))) (G' := (am_row g 1 (g 1))) ?_ (by first | rfl | (funext a; by_cases z0 : a = 1; (subst z0; rfl); by_cases z1 : a = 30; (subst z1; rfl); by_cases z2 : a = 34; (subst z2; rfl); by_cases z3 : a = 35; (subst z3; rfl); simp only [am_ui, am_ul, am_row_ne z0, am_row_ne z1, am_row_ne z2, am_row_ne z3])) (by first | rfl | (funext a; by_cases z0 : a = 1; (subst z0; rfl); by_cases z1 : a = 30; (subst z1; rfl); by_cases z2 : a = 34; (subst z2; rfl); by_cases z3 : a = 35; (subst z3; rfl); simp only [am_ui, am_ul, am_row_ne z0, am_row_ne z1, am_row_ne z2, am_row_ne z3]))
          subst hKd
          exact am_F.eq (am_F.ret rfl rfl) hK
        · show am_F _ _ 56 [.ref 0, .int (nI user_n), .int (nI role_n), .int on, .int (f 30 user_n)] [] (am_S f g) _
          refine am_F.ops (pc' := 70) (L' := [.ref 0, .int (nI user_n), .int (nI role_n), .int on, .int (f 30 user_n)]) (S' := [.int ((f 30 user_n) ^^^ (1 <<< ((nI role_n) &&& 31))), .int (nI user_n), .ref 30]) (μ' := (am_S f g)) 9 rfl ?_
          refine am_F.iasE (F' := (am_row f 30 (upd (f 30) user_n ((f 30 user_n) ^^^ (1 <<< ((nI role_n) &&& 31)))))) (m := user_n) (N := 16) rfl rfl rfl rfl (by omega) (by decide) (by first | rfl | (funext a; by_cases z0 : a = 30; (subst z0; rfl); simp only [am_ui, am_ul, am_row_ne z0])) ?_
          refine am_F.ops (pc' := 73) (L' := [.ref 0, .int (nI user_n), .int (nI role_n), .int on, .int (f 30 user_n)]) (S' := [.int 1, .int on]) (μ' := (am_S (am_row f 30 (upd (f 30) user_n ((f 30 user_n) ^^^ (1 <<< ((nI role_n) &&& 31))))) g)) 2 rfl ?_
          refine am_F.iteK 1 rfl K hK (fun c6 hK => ?_) (fun c6 hK => ?_)
          · show am_F _ _ 76 [.ref 0, .int (nI user_n), .int (nI role_n), .int on, .int (f 30 user_n)] [] (am_S (am_row f 30 (upd (f 30) user_n ((f 30 user_n) ^^^ (1 <<< ((nI role_n) &&& 31))))) g) _
            refine am_F.ops (pc' := 80) (L' := [.ref 0, .int (nI user_n), .int (nI role_n), .int on, .int (f 30 user_n)]) (S' := [.ref 1]) (μ' := (am_S (am_row f 30 (upd (f 30) user_n ((f 30 user_n) ^^^ (1 <<< ((nI role_n) &&& 31))))) g)) 2 rfl ?_
            refine am_F.call rfl rfl (x_someBarred  (am_row f 30 (upd (f 30) user_n ((f 30 user_n) ^^^ (1 <<< ((nI role_n) &&& 31))))) g hLc hLn hLf hLt hLr hRc hRn) (by decide) ?_
            obtain ⟨y7, hy7⟩ : ∃ z, (fn_someBarred (am_row f 30 (upd (f 30) user_n ((f 30 user_n) ^^^ (1 <<< ((nI role_n) &&& 31))))) g) = z := ⟨_, rfl⟩
            (try rw [hy7] at hK)
            (try rw [hy7])
            refine am_F.mem (F' := (am_row (am_row (am_row (am_row f 1 y7.2.1) 30 (upd (f 30) user_n ((f 30 user_n) ^^^ (1 <<< ((nI role_n) &&& 31))))) 34 y7.2.2.1) 35 y7.2.2.2.1)) (G' := (am_row g 1 y7.2.2.2.2)) ?_ (by first | rfl | (funext a; by_cases z0 : a = 1; (subst z0; rfl); by_cases z1 : a = 30; (subst z1; rfl); by_cases z2 : a = 34; (subst z2; rfl); by_cases z3 : a = 35; (subst z3; rfl); simp only [am_ui, am_ul, am_row_ne z0, am_row_ne z1, am_row_ne z2, am_row_ne z3])) (by first | rfl | (funext a; by_cases z0 : a = 1; (subst z0; rfl); by_cases z1 : a = 30; (subst z1; rfl); by_cases z2 : a = 34; (subst z2; rfl); by_cases z3 : a = 35; (subst z3; rfl); simp only [am_ui, am_ul, am_row_ne z0, am_row_ne z1, am_row_ne z2, am_row_ne z3]))
            show am_F _ _ 83 [.ref 0, .int (nI user_n), .int (nI role_n), .int on, .int (f 30 user_n)] [.int (am_b (y7.1))] (am_S (am_row (am_row (am_row (am_row f 1 y7.2.1) 30 (upd (f 30) user_n ((f 30 user_n) ^^^ (1 <<< ((nI role_n) &&& 31))))) 34 y7.2.2.1) 35 y7.2.2.2.1) (am_row g 1 y7.2.2.2.2)) _
            refine am_F.bifK 1 rfl K hK (fun c8 hK => ?_) (fun c8 hK => ?_)
            · show am_F _ _ 86 [.ref 0, .int (nI user_n), .int (nI role_n), .int on, .int (f 30 user_n)] [] (am_S (am_row (am_row (am_row (am_row f 1 y7.2.1) 30 (upd (f 30) user_n ((f 30 user_n) ^^^ (1 <<< ((nI role_n) &&& 31))))) 34 y7.2.2.1) 35 y7.2.2.2.1) (am_row g 1 y7.2.2.2.2)) _
              refine am_F.ops (pc' := 96) (L' := [.ref 0, .int (nI user_n), .int (nI role_n), .int on, .int (f 30 user_n)]) (S' := [.int (f 30 user_n), .int (nI user_n), .ref 30]) (μ' := (am_S (am_row (am_row (am_row (am_row f 1 y7.2.1) 30 (upd (f 30) user_n ((f 30 user_n) ^^^ (1 <<< ((nI role_n) &&& 31))))) 34 y7.2.2.1) 35 y7.2.2.2.1) (am_row g 1 y7.2.2.2.2))) 5 rfl ?_
              refine am_F.iasE (F' := (am_row (am_row (am_row (am_row f 1 y7.2.1) 30 (upd (upd (f 30) user_n ((f 30 user_n) ^^^ (1 <<< ((nI role_n) &&& 31)))) user_n (f 30 user_n))) 34 y7.2.2.1) 35 y7.2.2.2.1)) (m := user_n) (N := 16) rfl rfl rfl rfl (by omega) (by decide) (by first | rfl | (funext a; by_cases z0 : a = 1; (subst z0; rfl); by_cases z1 : a = 30; (subst z1; rfl); by_cases z2 : a = 34; (subst z2; rfl); by_cases z3 : a = 35; (subst z3; rfl); simp only [am_ui, am_ul, am_row_ne z0, am_row_ne z1, am_row_ne z2, am_row_ne z3])) ?_
              refine am_F.ops (pc' := 99) (L' := [.ref 0, .int (nI user_n), .int (nI role_n), .int on, .int (f 30 user_n)]) (S' := [.int (-6)]) (μ' := (am_S (am_row (am_row (am_row (am_row f 1 y7.2.1) 30 (upd (upd (f 30) user_n ((f 30 user_n) ^^^ (1 <<< ((nI role_n) &&& 31)))) user_n (f 30 user_n))) 34 y7.2.2.1) 35 y7.2.2.2.1) (am_row g 1 y7.2.2.2.2))) 1 rfl ?_
              subst hKd
              exact am_F.eq (am_F.ret rfl rfl) hK
            · show am_F _ _ 100 [.ref 0, .int (nI user_n), .int (nI role_n), .int on, .int (f 30 user_n)] [] (am_S (am_row (am_row (am_row (am_row f 1 y7.2.1) 30 (upd (f 30) user_n ((f 30 user_n) ^^^ (1 <<< ((nI role_n) &&& 31))))) 34 y7.2.2.1) 35 y7.2.2.2.1) (am_row g 1 y7.2.2.2.2)) _
              refine am_F.ops (pc' := 108) (L' := [.ref 0, .int (nI user_n), .int (nI role_n), .int on, .int (f 30 user_n)]) (S' := [.int (nI user_n), .ref 30]) (μ' := (am_S (am_row (am_row (am_row (am_row f 1 y7.2.1) 30 (upd (f 30) user_n ((f 30 user_n) ^^^ (1 <<< ((nI role_n) &&& 31))))) 34 y7.2.2.1) 35 y7.2.2.2.1) (am_row g 1 y7.2.2.2.2))) 4 rfl ?_
              refine am_F.ialE (m := user_n) (N := 16) rfl rfl rfl rfl (by omega) (by decide) ?_
              show am_F _ _ 109 [.ref 0, .int (nI user_n), .int (nI role_n), .int on, .int (f 30 user_n)] [.int ((f 30 user_n) ^^^ (1 <<< ((nI role_n) &&& 31)))] (am_S (am_row (am_row (am_row (am_row f 1 y7.2.1) 30 (upd (f 30) user_n ((f 30 user_n) ^^^ (1 <<< ((nI role_n) &&& 31))))) 34 y7.2.2.1) 35 y7.2.2.2.1) (am_row g 1 y7.2.2.2.2)) _
              refine am_F.call rfl rfl (x_bitCount ((f 30 user_n) ^^^ (1 <<< ((nI role_n) &&& 31))) (am_row (am_row (am_row (am_row f 1 y7.2.1) 30 (upd (f 30) user_n ((f 30 user_n) ^^^ (1 <<< ((nI role_n) &&& 31))))) 34 y7.2.2.1) 35 y7.2.2.2.1) (am_row g 1 y7.2.2.2.2) ) (by decide) ?_
              show am_F _ _ 112 [.ref 0, .int (nI user_n), .int (nI role_n), .int on, .int (f 30 user_n)] [.int (fn_bitCount ((f 30 user_n) ^^^ (1 <<< ((nI role_n) &&& 31))))] (am_S (am_row (am_row (am_row (am_row f 1 y7.2.1) 30 (upd (f 30) user_n ((f 30 user_n) ^^^ (1 <<< ((nI role_n) &&& 31))))) 34 y7.2.2.1) 35 y7.2.2.2.1) (am_row g 1 y7.2.2.2.2)) _
              subst hKd
              exact am_F.eq (am_F.ret rfl rfl) hK
          · show am_F _ _ 100 [.ref 0, .int (nI user_n), .int (nI role_n), .int on, .int (f 30 user_n)] [] (am_S (am_row f 30 (upd (f 30) user_n ((f 30 user_n) ^^^ (1 <<< ((nI role_n) &&& 31))))) g) _
            refine am_F.ops (pc' := 108) (L' := [.ref 0, .int (nI user_n), .int (nI role_n), .int on, .int (f 30 user_n)]) (S' := [.int (nI user_n), .ref 30]) (μ' := (am_S (am_row f 30 (upd (f 30) user_n ((f 30 user_n) ^^^ (1 <<< ((nI role_n) &&& 31))))) g)) 4 rfl ?_
            refine am_F.ialE (m := user_n) (N := 16) rfl rfl rfl rfl (by omega) (by decide) ?_
            show am_F _ _ 109 [.ref 0, .int (nI user_n), .int (nI role_n), .int on, .int (f 30 user_n)] [.int ((f 30 user_n) ^^^ (1 <<< ((nI role_n) &&& 31)))] (am_S (am_row f 30 (upd (f 30) user_n ((f 30 user_n) ^^^ (1 <<< ((nI role_n) &&& 31))))) g) _
            refine am_F.call rfl rfl (x_bitCount ((f 30 user_n) ^^^ (1 <<< ((nI role_n) &&& 31))) (am_row f 30 (upd (f 30) user_n ((f 30 user_n) ^^^ (1 <<< ((nI role_n) &&& 31))))) g ) (by decide) ?_
            show am_F _ _ 112 [.ref 0, .int (nI user_n), .int (nI role_n), .int on, .int (f 30 user_n)] [.int (fn_bitCount ((f 30 user_n) ^^^ (1 <<< ((nI role_n) &&& 31))))] (am_S (am_row f 30 (upd (f 30) user_n ((f 30 user_n) ^^^ (1 <<< ((nI role_n) &&& 31))))) g) _
            refine am_F.mem (F' := (am_row (am_row (am_row (am_row f 1 (f 1)) 30 (upd (f 30) user_n ((f 30 user_n) ^^^ (1 <<< ((nI role_n) &&& 31))))) 34 (f 34)) 35 (f 35))) (G' := (am_row g 1 (g 1))) ?_ (by first | rfl | (funext a; by_cases z0 : a = 1; (subst z0; rfl); by_cases z1 : a = 30; (subst z1; rfl); by_cases z2 : a = 34; (subst z2; rfl); by_cases z3 : a = 35; (subst z3; rfl); simp only [am_ui, am_ul, am_row_ne z0, am_row_ne z1, am_row_ne z2, am_row_ne z3])) (by first | rfl | (funext a; by_cases z0 : a = 1; (subst z0; rfl); by_cases z1 : a = 30; (subst z1; rfl); by_cases z2 : a = 34; (subst z2; rfl); by_cases z3 : a = 35; (subst z3; rfl); simp only [am_ui, am_ul, am_row_ne z0, am_row_ne z1, am_row_ne z2, am_row_ne z3]))
            subst hKd
            exact am_F.eq (am_F.ret rfl rfl) hK
      · show am_F _ _ 21 [.ref 0, .int (nI user_n), .int (nI role_n), .int on, am_un] [] (am_S f g) _
        refine am_F.ops (pc' := 22) (L' := [.ref 0, .int (nI user_n), .int (nI role_n), .int on, am_un]) (S' := [.int (-1)]) (μ' := (am_S f g)) 1 rfl ?_
        refine am_F.mem (F' := (am_row (am_row (am_row (am_row f 1 (f 1)) 30 (f 30)) 34 (f 34)) 35 (f 35))) (G' := (am_row g 1 (g 1))) ?_ (by first | rfl | (funext a; by_cases z0 : a = 1; (subst z0; rfl); by_cases z1 : a = 30; (subst z1; rfl); by_cases z2 : a = 34; (subst z2; rfl); by_cases z3 : a = 35; (subst z3; rfl); simp only [am_ui, am_ul, am_row_ne z0, am_row_ne z1, am_row_ne z2, am_row_ne z3])) (by first | rfl | (funext a; by_cases z0 : a = 1; (subst z0; rfl); by_cases z1 : a = 30; (subst z1; rfl); by_cases z2 : a = 34; (subst z2; rfl); by_cases z3 : a = 35; (subst z3; rfl); simp only [am_ui, am_ul, am_row_ne z0, am_row_ne z1, am_row_ne z2, am_row_ne z3]))
        subst hKd
        exact am_F.eq (am_F.ret rfl rfl) hK
    · show am_F _ _ 21 [.ref 0, .int (nI user_n), .int role, .int on, am_un] [] (am_S f g) _
      refine am_F.ops (pc' := 22) (L' := [.ref 0, .int (nI user_n), .int role, .int on, am_un]) (S' := [.int (-1)]) (μ' := (am_S f g)) 1 rfl ?_
      refine am_F.mem (F' := (am_row (am_row (am_row (am_row f 1 (f 1)) 30 (f 30)) 34 (f 34)) 35 (f 35))) (G' := (am_row g 1 (g 1))) ?_ (by first | rfl | (funext a; by_cases z0 : a = 1; (subst z0; rfl); by_cases z1 : a = 30; (subst z1; rfl); by_cases z2 : a = 34; (subst z2; rfl); by_cases z3 : a = 35; (subst z3; rfl); simp only [am_ui, am_ul, am_row_ne z0, am_row_ne z1, am_row_ne z2, am_row_ne z3])) (by first | rfl | (funext a; by_cases z0 : a = 1; (subst z0; rfl); by_cases z1 : a = 30; (subst z1; rfl); by_cases z2 : a = 34; (subst z2; rfl); by_cases z3 : a = 35; (subst z3; rfl); simp only [am_ui, am_ul, am_row_ne z0, am_row_ne z1, am_row_ne z2, am_row_ne z3]))
      subst hKd
      exact am_F.eq (am_F.ret rfl rfl) hK
  · show am_F _ _ 21 [.ref 0, .int user, .int role, .int on, am_un] [] (am_S f g) _
    refine am_F.ops (pc' := 22) (L' := [.ref 0, .int user, .int role, .int on, am_un]) (S' := [.int (-1)]) (μ' := (am_S f g)) 1 rfl ?_
    refine am_F.mem (F' := (am_row (am_row (am_row (am_row f 1 (f 1)) 30 (f 30)) 34 (f 34)) 35 (f 35))) (G' := (am_row g 1 (g 1))) ?_ (by first | rfl | (funext a; by_cases z0 : a = 1; (subst z0; rfl); by_cases z1 : a = 30; (subst z1; rfl); by_cases z2 : a = 34; (subst z2; rfl); by_cases z3 : a = 35; (subst z3; rfl); simp only [am_ui, am_ul, am_row_ne z0, am_row_ne z1, am_row_ne z2, am_row_ne z3])) (by first | rfl | (funext a; by_cases z0 : a = 1; (subst z0; rfl); by_cases z1 : a = 30; (subst z1; rfl); by_cases z2 : a = 34; (subst z2; rfl); by_cases z3 : a = 35; (subst z3; rfl); simp only [am_ui, am_ul, am_row_ne z0, am_row_ne z1, am_row_ne z2, am_row_ne z3]))
    subst hKd
    exact am_F.eq (am_F.ret rfl rfl) hK
/-- AccessLattice.exclude -/
def fn_exclude (a : Int32) (b : Int32) (on : Int32) (f : Nat → Nat → Int32) (g : Nat → Nat → Int64) : Int32 × (Nat → Int32) × (Nat → Int32) × (Nat → Int32) × (Nat → Int32) × (Nat → Int32) × (Nat → Int64) := (bif (fn_isRole a) then (bif (fn_isRole b) then (if a = b then ((-1), f 1, f 2, f 31, f 34, f 35, g 1) else (bif (fn_within01 on) then (if am_b (fn_has (f 31 (a.toNatClampNeg)) b) = am_b (if on = 1 then true else false) then ((-2), f 1, f 2, f 31, f 34, f 35, g 1) else (if on = 1 then (if (f 2 10) < 10 then (if on = 1 then (bif ((fn_someBarred (am_row (am_row f 2 (fn_toggleBarred (a.toNatClampNeg) (b.toNatClampNeg) f).1) 31 (fn_toggleBarred (a.toNatClampNeg) (b.toNatClampNeg) f).2) g).1) then ((-6), (fn_someBarred (am_row (am_row f 2 (fn_toggleBarred (a.toNatClampNeg) (b.toNatClampNeg) f).1) 31 (fn_toggleBarred (a.toNatClampNeg) (b.toNatClampNeg) f).2) g).2.1, (fn_toggleBarred (a.toNatClampNeg) (b.toNatClampNeg) (am_row (am_row (am_row (am_row (am_row f 1 (fn_someBarred (am_row (am_row f 2 (fn_toggleBarred (a.toNatClampNeg) (b.toNatClampNeg) f).1) 31 (fn_toggleBarred (a.toNatClampNeg) (b.toNatClampNeg) f).2) g).2.1) 2 (fn_toggleBarred (a.toNatClampNeg) (b.toNatClampNeg) f).1) 31 (fn_toggleBarred (a.toNatClampNeg) (b.toNatClampNeg) f).2) 34 (fn_someBarred (am_row (am_row f 2 (fn_toggleBarred (a.toNatClampNeg) (b.toNatClampNeg) f).1) 31 (fn_toggleBarred (a.toNatClampNeg) (b.toNatClampNeg) f).2) g).2.2.1) 35 (fn_someBarred (am_row (am_row f 2 (fn_toggleBarred (a.toNatClampNeg) (b.toNatClampNeg) f).1) 31 (fn_toggleBarred (a.toNatClampNeg) (b.toNatClampNeg) f).2) g).2.2.2.1)).1, (fn_toggleBarred (a.toNatClampNeg) (b.toNatClampNeg) (am_row (am_row (am_row (am_row (am_row f 1 (fn_someBarred (am_row (am_row f 2 (fn_toggleBarred (a.toNatClampNeg) (b.toNatClampNeg) f).1) 31 (fn_toggleBarred (a.toNatClampNeg) (b.toNatClampNeg) f).2) g).2.1) 2 (fn_toggleBarred (a.toNatClampNeg) (b.toNatClampNeg) f).1) 31 (fn_toggleBarred (a.toNatClampNeg) (b.toNatClampNeg) f).2) 34 (fn_someBarred (am_row (am_row f 2 (fn_toggleBarred (a.toNatClampNeg) (b.toNatClampNeg) f).1) 31 (fn_toggleBarred (a.toNatClampNeg) (b.toNatClampNeg) f).2) g).2.2.1) 35 (fn_someBarred (am_row (am_row f 2 (fn_toggleBarred (a.toNatClampNeg) (b.toNatClampNeg) f).1) 31 (fn_toggleBarred (a.toNatClampNeg) (b.toNatClampNeg) f).2) g).2.2.2.1)).2, (fn_someBarred (am_row (am_row f 2 (fn_toggleBarred (a.toNatClampNeg) (b.toNatClampNeg) f).1) 31 (fn_toggleBarred (a.toNatClampNeg) (b.toNatClampNeg) f).2) g).2.2.1, (fn_someBarred (am_row (am_row f 2 (fn_toggleBarred (a.toNatClampNeg) (b.toNatClampNeg) f).1) 31 (fn_toggleBarred (a.toNatClampNeg) (b.toNatClampNeg) f).2) g).2.2.2.1, (fn_someBarred (am_row (am_row f 2 (fn_toggleBarred (a.toNatClampNeg) (b.toNatClampNeg) f).1) 31 (fn_toggleBarred (a.toNatClampNeg) (b.toNatClampNeg) f).2) g).2.2.2.2) else ((fn_toggleBarred (a.toNatClampNeg) (b.toNatClampNeg) f).1 10, (fn_someBarred (am_row (am_row f 2 (fn_toggleBarred (a.toNatClampNeg) (b.toNatClampNeg) f).1) 31 (fn_toggleBarred (a.toNatClampNeg) (b.toNatClampNeg) f).2) g).2.1, (fn_toggleBarred (a.toNatClampNeg) (b.toNatClampNeg) f).1, (fn_toggleBarred (a.toNatClampNeg) (b.toNatClampNeg) f).2, (fn_someBarred (am_row (am_row f 2 (fn_toggleBarred (a.toNatClampNeg) (b.toNatClampNeg) f).1) 31 (fn_toggleBarred (a.toNatClampNeg) (b.toNatClampNeg) f).2) g).2.2.1, (fn_someBarred (am_row (am_row f 2 (fn_toggleBarred (a.toNatClampNeg) (b.toNatClampNeg) f).1) 31 (fn_toggleBarred (a.toNatClampNeg) (b.toNatClampNeg) f).2) g).2.2.2.1, (fn_someBarred (am_row (am_row f 2 (fn_toggleBarred (a.toNatClampNeg) (b.toNatClampNeg) f).1) 31 (fn_toggleBarred (a.toNatClampNeg) (b.toNatClampNeg) f).2) g).2.2.2.2)) else ((fn_toggleBarred (a.toNatClampNeg) (b.toNatClampNeg) f).1 10, f 1, (fn_toggleBarred (a.toNatClampNeg) (b.toNatClampNeg) f).1, (fn_toggleBarred (a.toNatClampNeg) (b.toNatClampNeg) f).2, f 34, f 35, g 1)) else ((-3), f 1, f 2, f 31, f 34, f 35, g 1)) else (if on = 1 then (bif ((fn_someBarred (am_row (am_row f 2 (fn_toggleBarred (a.toNatClampNeg) (b.toNatClampNeg) f).1) 31 (fn_toggleBarred (a.toNatClampNeg) (b.toNatClampNeg) f).2) g).1) then ((-6), (fn_someBarred (am_row (am_row f 2 (fn_toggleBarred (a.toNatClampNeg) (b.toNatClampNeg) f).1) 31 (fn_toggleBarred (a.toNatClampNeg) (b.toNatClampNeg) f).2) g).2.1, (fn_toggleBarred (a.toNatClampNeg) (b.toNatClampNeg) (am_row (am_row (am_row (am_row (am_row f 1 (fn_someBarred (am_row (am_row f 2 (fn_toggleBarred (a.toNatClampNeg) (b.toNatClampNeg) f).1) 31 (fn_toggleBarred (a.toNatClampNeg) (b.toNatClampNeg) f).2) g).2.1) 2 (fn_toggleBarred (a.toNatClampNeg) (b.toNatClampNeg) f).1) 31 (fn_toggleBarred (a.toNatClampNeg) (b.toNatClampNeg) f).2) 34 (fn_someBarred (am_row (am_row f 2 (fn_toggleBarred (a.toNatClampNeg) (b.toNatClampNeg) f).1) 31 (fn_toggleBarred (a.toNatClampNeg) (b.toNatClampNeg) f).2) g).2.2.1) 35 (fn_someBarred (am_row (am_row f 2 (fn_toggleBarred (a.toNatClampNeg) (b.toNatClampNeg) f).1) 31 (fn_toggleBarred (a.toNatClampNeg) (b.toNatClampNeg) f).2) g).2.2.2.1)).1, (fn_toggleBarred (a.toNatClampNeg) (b.toNatClampNeg) (am_row (am_row (am_row (am_row (am_row f 1 (fn_someBarred (am_row (am_row f 2 (fn_toggleBarred (a.toNatClampNeg) (b.toNatClampNeg) f).1) 31 (fn_toggleBarred (a.toNatClampNeg) (b.toNatClampNeg) f).2) g).2.1) 2 (fn_toggleBarred (a.toNatClampNeg) (b.toNatClampNeg) f).1) 31 (fn_toggleBarred (a.toNatClampNeg) (b.toNatClampNeg) f).2) 34 (fn_someBarred (am_row (am_row f 2 (fn_toggleBarred (a.toNatClampNeg) (b.toNatClampNeg) f).1) 31 (fn_toggleBarred (a.toNatClampNeg) (b.toNatClampNeg) f).2) g).2.2.1) 35 (fn_someBarred (am_row (am_row f 2 (fn_toggleBarred (a.toNatClampNeg) (b.toNatClampNeg) f).1) 31 (fn_toggleBarred (a.toNatClampNeg) (b.toNatClampNeg) f).2) g).2.2.2.1)).2, (fn_someBarred (am_row (am_row f 2 (fn_toggleBarred (a.toNatClampNeg) (b.toNatClampNeg) f).1) 31 (fn_toggleBarred (a.toNatClampNeg) (b.toNatClampNeg) f).2) g).2.2.1, (fn_someBarred (am_row (am_row f 2 (fn_toggleBarred (a.toNatClampNeg) (b.toNatClampNeg) f).1) 31 (fn_toggleBarred (a.toNatClampNeg) (b.toNatClampNeg) f).2) g).2.2.2.1, (fn_someBarred (am_row (am_row f 2 (fn_toggleBarred (a.toNatClampNeg) (b.toNatClampNeg) f).1) 31 (fn_toggleBarred (a.toNatClampNeg) (b.toNatClampNeg) f).2) g).2.2.2.2) else ((fn_toggleBarred (a.toNatClampNeg) (b.toNatClampNeg) f).1 10, (fn_someBarred (am_row (am_row f 2 (fn_toggleBarred (a.toNatClampNeg) (b.toNatClampNeg) f).1) 31 (fn_toggleBarred (a.toNatClampNeg) (b.toNatClampNeg) f).2) g).2.1, (fn_toggleBarred (a.toNatClampNeg) (b.toNatClampNeg) f).1, (fn_toggleBarred (a.toNatClampNeg) (b.toNatClampNeg) f).2, (fn_someBarred (am_row (am_row f 2 (fn_toggleBarred (a.toNatClampNeg) (b.toNatClampNeg) f).1) 31 (fn_toggleBarred (a.toNatClampNeg) (b.toNatClampNeg) f).2) g).2.2.1, (fn_someBarred (am_row (am_row f 2 (fn_toggleBarred (a.toNatClampNeg) (b.toNatClampNeg) f).1) 31 (fn_toggleBarred (a.toNatClampNeg) (b.toNatClampNeg) f).2) g).2.2.2.1, (fn_someBarred (am_row (am_row f 2 (fn_toggleBarred (a.toNatClampNeg) (b.toNatClampNeg) f).1) 31 (fn_toggleBarred (a.toNatClampNeg) (b.toNatClampNeg) f).2) g).2.2.2.2)) else ((fn_toggleBarred (a.toNatClampNeg) (b.toNatClampNeg) f).1 10, f 1, (fn_toggleBarred (a.toNatClampNeg) (b.toNatClampNeg) f).1, (fn_toggleBarred (a.toNatClampNeg) (b.toNatClampNeg) f).2, f 34, f 35, g 1)))) else ((-1), f 1, f 2, f 31, f 34, f 35, g 1))) else ((-1), f 1, f 2, f 31, f 34, f 35, g 1)) else ((-1), f 1, f 2, f 31, f 34, f 35, g 1))
theorem x_exclude (a : Int32) (b : Int32) (on : Int32) (f : Nat → Nat → Int32) (g : Nat → Nat → Int64) (hLc : f 11 7 = nI (f 11 7).toNatClampNeg) (hLn : (f 11 7).toNatClampNeg ≤ 40) (hLf : ∀ i, i < (f 11 7).toNatClampNeg → am_inb (f 12 i) 16 = true) (hLt : ∀ i, i < (f 11 7).toNatClampNeg → am_inb (f 13 i) 16 = true) (hLr : ∀ i, i < (f 11 7).toNatClampNeg → am_inb (f 14 i) 20 = true) (hRc : f 18 11 = nI (f 18 11).toNatClampNeg) (hRn : (f 18 11).toNatClampNeg ≤ 30) : am_D 5 34 4 [.ref 0, .int a, .int b, .int on] (am_S f g) (some (Value.int ((fn_exclude a b on f g).1)), am_S (am_row (am_row (am_row (am_row (am_row f 1 ((fn_exclude a b on f g).2.1)) 2 ((fn_exclude a b on f g).2.2.1)) 31 ((fn_exclude a b on f g).2.2.2.1)) 34 ((fn_exclude a b on f g).2.2.2.2.1)) 35 ((fn_exclude a b on f g).2.2.2.2.2.1)) (am_row g 1 ((fn_exclude a b on f g).2.2.2.2.2.2))) := by
  refine am_D.of (code := am_k_34) rfl (L0 := [.ref 0, .int a, .int b, .int on]) rfl ?_
  generalize hres : (some (Value.int ((fn_exclude a b on f g).1)), am_S (am_row (am_row (am_row (am_row (am_row f 1 ((fn_exclude a b on f g).2.1)) 2 ((fn_exclude a b on f g).2.2.1)) 31 ((fn_exclude a b on f g).2.2.2.1)) 34 ((fn_exclude a b on f g).2.2.2.2.1)) 35 ((fn_exclude a b on f g).2.2.2.2.2.1)) (am_row g 1 ((fn_exclude a b on f g).2.2.2.2.2.2))) = res
  obtain ⟨K, hKd⟩ : ∃ K : (Int32 × (Nat → Int32) × (Nat → Int32) × (Nat → Int32) × (Nat → Int32) × (Nat → Int32) × (Nat → Int64)) → Prop, K = fun z => (some (Value.int z.1), am_S (am_row (am_row (am_row (am_row (am_row f 1 z.2.1) 2 z.2.2.1) 31 z.2.2.2.1) 34 z.2.2.2.2.1) 35 z.2.2.2.2.2.1) (am_row g 1 z.2.2.2.2.2.2)) = res := ⟨_, rfl⟩
  have hK : K (fn_exclude a b on f g) := by rw [hKd]; exact hres
  clear hres
  unfold fn_exclude at hK
  refine am_F.ops (pc' := 1) (L' := [.ref 0, .int a, .int b, .int on]) (S' := [.int a]) (μ' := (am_S f g)) 1 rfl ?_
  refine am_F.call rfl rfl (x_isRole a f g ) (by decide) ?_
  show am_F _ _ 4 [.ref 0, .int a, .int b, .int on] [.int (am_b (fn_isRole a))] (am_S f g) _
  refine am_F.bifK 1 rfl K hK (fun c1 hK => ?_) (fun c1 hK => ?_)
  · obtain ⟨a_n, ha_n, ea_n⟩ := am_isRole c1
    subst ea_n
    try simp only [nI_clamp (show a_n < 2147483648 by omega)] at hK
    show am_F _ _ 7 [.ref 0, .int (nI a_n), .int b, .int on] [] (am_S f g) _
    refine am_F.ops (pc' := 8) (L' := [.ref 0, .int (nI a_n), .int b, .int on]) (S' := [.int b]) (μ' := (am_S f g)) 1 rfl ?_
    refine am_F.call rfl rfl (x_isRole b f g ) (by decide) ?_
    show am_F _ _ 11 [.ref 0, .int (nI a_n), .int b, .int on] [.int (am_b (fn_isRole b))] (am_S f g) _
    refine am_F.bifK 1 rfl K hK (fun c2 hK => ?_) (fun c2 hK => ?_)
    · obtain ⟨b_n, hb_n, eb_n⟩ := am_isRole c2
      subst eb_n
      try simp only [nI_clamp (show b_n < 2147483648 by omega)] at hK
      show am_F _ _ 14 [.ref 0, .int (nI a_n), .int (nI b_n), .int on] [] (am_S f g) _
      refine am_F.ops (pc' := 16) (L' := [.ref 0, .int (nI a_n), .int (nI b_n), .int on]) (S' := [.int (nI b_n), .int (nI a_n)]) (μ' := (am_S f g)) 2 rfl ?_
      refine am_F.iteK 1 rfl K hK (fun c3 hK => ?_) (fun c3 hK => ?_)
      · show am_F _ _ 26 [.ref 0, .int (nI a_n), .int (nI b_n), .int on] [] (am_S f g) _
        refine am_F.ops (pc' := 27) (L' := [.ref 0, .int (nI a_n), .int (nI b_n), .int on]) (S' := [.int (-1)]) (μ' := (am_S f g)) 1 rfl ?_
        refine am_F.mem (F' := (am_row (am_row (am_row (am_row (am_row f 1 (f 1)) 2 (f 2)) 31 (f 31)) 34 (f 34)) 35 (f 35))) (G' := (am_row g 1 (g 1))) ?_ (by first | rfl | (funext a; by_cases z0 : a = 1; (subst z0; rfl); by_cases z1 : a = 2; (subst z1; rfl); by_cases z2 : a = 31; (subst z2; rfl); by_cases z3 : a = 34; (subst z3; rfl); by_cases z4 : a = 35; (subst z4; rfl); simp only [am_ui, am_ul, am_row_ne z0, am_row_ne z1, am_row_ne z2, am_row_ne z3, am_row_ne z4])) (by first | rfl | (funext a; by_cases z0 : a = 1; (subst z0; rfl); by_cases z1 : a = 2; (subst z1; rfl); by_cases z2 : a = 31; (subst z2; rfl); by_cases z3 : a = 34; (subst z3; rfl); by_cases z4 : a = 35; (subst z4; rfl); simp only [am_ui, am_ul, am_row_ne z0, am_row_ne z1, am_row_ne z2, am_row_ne z3, am_row_ne z4]))
        subst hKd
        exact am_F.eq (am_F.ret rfl rfl) hK
      · show am_F _ _ 19 [.ref 0, .int (nI a_n), .int (nI b_n), .int on] [] (am_S f g) _
        refine am_F.ops (pc' := 20) (L' := [.ref 0, .int (nI a_n), .int (nI b_n), .int on]) (S' := [.int on]) (μ' := (am_S f g)) 1 rfl ?_
        refine am_F.call rfl rfl (x_within01 on f g ) (by decide) ?_
        show am_F _ _ 23 [.ref 0, .int (nI a_n), .int (nI b_n), .int on] [.int (am_b (fn_within01 on))] (am_S f g) _
        refine am_F.bifK 1 rfl K hK (fun c4 hK => ?_) (fun c4 hK => ?_)
        · show am_F _ _ 28 [.ref 0, .int (nI a_n), .int (nI b_n), .int on] [] (am_S f g) _
          refine am_F.ops (pc' := 36) (L' := [.ref 0, .int (nI a_n), .int (nI b_n), .int on]) (S' := [.int (nI a_n), .ref 31]) (μ' := (am_S f g)) 4 rfl ?_
          refine am_F.ialE (m := a_n) (N := 20) rfl rfl rfl rfl (by omega) (by decide) ?_
          show am_F _ _ 37 [.ref 0, .int (nI a_n), .int (nI b_n), .int on] [.int (f 31 a_n)] (am_S f g) _
          refine am_F.ops (pc' := 38) (L' := [.ref 0, .int (nI a_n), .int (nI b_n), .int on]) (S' := [.int (nI b_n), .int (f 31 a_n)]) (μ' := (am_S f g)) 1 rfl ?_
          refine am_F.call rfl rfl (x_has (f 31 a_n) (nI b_n) f g ) (by decide) ?_
          show am_F _ _ 41 [.ref 0, .int (nI a_n), .int (nI b_n), .int on] [.int (am_b (fn_has (f 31 a_n) (nI b_n)))] (am_S f g) _
          refine am_F.ops (pc' := 43) (L' := [.ref 0, .int (nI a_n), .int (nI b_n), .int on]) (S' := [.int 1, .int on, .int (am_b (fn_has (f 31 a_n) (nI b_n)))]) (μ' := (am_S f g)) 2 rfl ?_
          refine am_F.to (am_To.iteB (pc' := 51) (L2 := [.ref 0, .int (nI a_n), .int (nI b_n), .int on]) (S2 := [.int (am_b (fn_has (f 31 a_n) (nI b_n)))]) (μ2 := (am_S f g)) (a := true) (b := false) 1 rfl (fun c5 => ?_) (fun c5 => ?_)) ?_
          · intro res9 g9
            show am_F _ _ 46 [.ref 0, .int (nI a_n), .int (nI b_n), .int on] [.int (am_b (fn_has (f 31 a_n) (nI b_n)))] (am_S f g) _
            refine am_F.ops (pc' := 51) (L' := [.ref 0, .int (nI a_n), .int (nI b_n), .int on]) (S' := [.int 1, .int (am_b (fn_has (f 31 a_n) (nI b_n)))]) (μ' := (am_S f g)) 2 rfl ?_
            exact g9
          · intro res9 g9
            show am_F _ _ 50 [.ref 0, .int (nI a_n), .int (nI b_n), .int on] [.int (am_b (fn_has (f 31 a_n) (nI b_n)))] (am_S f g) _
            refine am_F.ops (pc' := 51) (L' := [.ref 0, .int (nI a_n), .int (nI b_n), .int on]) (S' := [.int 0, .int (am_b (fn_has (f 31 a_n) (nI b_n)))]) (μ' := (am_S f g)) 1 rfl ?_
            exact g9
          show am_F _ _ 51 [.ref 0, .int (nI a_n), .int (nI b_n), .int on] [.int (am_b (if on = 1 then true else false)), .int (am_b (fn_has (f 31 a_n) (nI b_n)))] (am_S f g) _
          refine am_F.iteK 1 rfl K hK (fun c6 hK => ?_) (fun c6 hK => ?_)
          · show am_F _ _ 54 [.ref 0, .int (nI a_n), .int (nI b_n), .int on] [] (am_S f g) _
            refine am_F.ops (pc' := 56) (L' := [.ref 0, .int (nI a_n), .int (nI b_n), .int on]) (S' := [.int (-2)]) (μ' := (am_S f g)) 1 rfl ?_
            refine am_F.mem (F' := (am_row (am_row (am_row (am_row (am_row f 1 (f 1)) 2 (f 2)) 31 (f 31)) 34 (f 34)) 35 (f 35))) (G' := (am_row g 1 (g 1))) ?_ (by first | rfl | (funext a; by_cases z0 : a = 1; (subst z0; rfl); by_cases z1 : a = 2; (subst z1; rfl); by_cases z2 : a = 31; (subst z2; rfl); by_cases z3 : a = 34; (subst z3; rfl); by_cases z4 : a = 35; (subst z4; rfl); simp only [am_ui, am_ul, am_row_ne z0, am_row_ne z1, am_row_ne z2, am_row_ne z3, am_row_ne z4])) (by first | rfl | (funext a; by_cases z0 : a = 1; (subst z0; rfl); by_cases z1 : a = 2; (subst z1; rfl); by_cases z2 : a = 31; (subst z2; rfl); by_cases z3 : a = 34; (subst z3; rfl); by_cases z4 : a = 35; (subst z4; rfl); simp only [am_ui, am_ul, am_row_ne z0, am_row_ne z1, am_row_ne z2, am_row_ne z3, am_row_ne z4]))
            subst hKd
            exact am_F.eq (am_F.ret rfl rfl) hK
          · show am_F _ _ 57 [.ref 0, .int (nI a_n), .int (nI b_n), .int on] [] (am_S f g) _
            refine am_F.ops (pc' := 59) (L' := [.ref 0, .int (nI a_n), .int (nI b_n), .int on]) (S' := [.int 1, .int on]) (μ' := (am_S f g)) 2 rfl ?_
            refine am_F.iteK 1 rfl K hK (fun c7 hK => ?_) (fun c7 hK => ?_)
            · show am_F _ _ 62 [.ref 0, .int (nI a_n), .int (nI b_n), .int on] [] (am_S f g) _
              refine am_F.ops (pc' := 71) (L' := [.ref 0, .int (nI a_n), .int (nI b_n), .int on]) (S' := [.int 10, .int (f 2 10)]) (μ' := (am_S f g)) 4 rfl ?_
              refine am_F.iteK 1 rfl K hK (fun c8 hK => ?_) (fun c8 hK => ?_)
              · show am_F _ _ 77 [.ref 0, .int (nI a_n), .int (nI b_n), .int on] [] (am_S f g) _
                refine am_F.ops (pc' := 83) (L' := [.ref 0, .int (nI a_n), .int (nI b_n), .int on]) (S' := [.int (nI b_n), .int (nI a_n), .ref 2]) (μ' := (am_S f g)) 4 rfl ?_
                refine am_F.call rfl rfl (x_toggleBarred a_n b_n f g (by omega) (by omega)) (by decide) ?_
                obtain ⟨y9, hy9⟩ : ∃ z, (fn_toggleBarred a_n b_n f) = z := ⟨_, rfl⟩
                (try rw [hy9] at hK)
                (try rw [hy9])
                refine am_F.mem (F' := (am_row (am_row f 2 y9.1) 31 y9.2)) (G' := g) ?_ (by first | rfl | (funext a; by_cases z0 : a = 2; (subst z0; rfl); by_cases z1 : a = 31; (subst z1; rfl); simp only [am_ui, am_ul, am_row_ne z0, am_row_ne z1])) (by first | rfl | (funext a; by_cases z0 : a = 2; (subst z0; rfl); by_cases z1 : a = 31; (subst z1; rfl); simp only [am_ui, am_ul, am_row_ne z0, am_row_ne z1]))
                show am_F _ _ 86 [.ref 0, .int (nI a_n), .int (nI b_n), .int on] [] (am_S (am_row (am_row f 2 y9.1) 31 y9.2) g) _
                refine am_F.ops (pc' := 88) (L' := [.ref 0, .int (nI a_n), .int (nI b_n), .int on]) (S' := [.int 1, .int on]) (μ' := (am_S (am_row (am_row f 2 y9.1) 31 y9.2) g)) 2 rfl ?_
                refine am_F.iteK 1 rfl K hK (fun c10 hK => ?_) (fun c10 hK => ?_)
                · show am_F _ _ 91 [.ref 0, .int (nI a_n), .int (nI b_n), .int on] [] (am_S (am_row (am_row f 2 y9.1) 31 y9.2) g) _
                  refine am_F.ops (pc' := 95) (L' := [.ref 0, .int (nI a_n), .int (nI b_n), .int on]) (S' := [.ref 1]) (μ' := (am_S (am_row (am_row f 2 y9.1) 31 y9.2) g)) 2 rfl ?_
                  refine am_F.call rfl rfl (x_someBarred  (am_row (am_row f 2 y9.1) 31 y9.2) g hLc hLn hLf hLt hLr hRc hRn) (by decide) ?_
                  obtain ⟨y11, hy11⟩ : ∃ z, (fn_someBarred (am_row (am_row f 2 y9.1) 31 y9.2) g) = z := ⟨_, rfl⟩
                  (try rw [hy11] at hK)
                  (try rw [hy11])
                  refine am_F.mem (F' := (am_row (am_row (am_row (am_row (am_row f 1 y11.2.1) 2 y9.1) 31 y9.2) 34 y11.2.2.1) 35 y11.2.2.2.1)) (G' := (am_row g 1 y11.2.2.2.2)) ?_ (by first | rfl | (funext a; by_cases z0 : a = 1; (subst z0; rfl); by_cases z1 : a = 2; (subst z1; rfl); by_cases z2 : a = 31; (subst z2; rfl); by_cases z3 : a = 34; (subst z3; rfl); by_cases z4 : a = 35; (subst z4; rfl); simp only [am_ui, am_ul, am_row_ne z0, am_row_ne z1, am_row_ne z2, am_row_ne z3, am_row_ne z4])) (by first | rfl | (funext a; by_cases z0 : a = 1; (subst z0; rfl); by_cases z1 : a = 2; (subst z1; rfl); by_cases z2 : a = 31; (subst z2; rfl); by_cases z3 : a = 34; (subst z3; rfl); by_cases z4 : a = 35; (subst z4; rfl); simp only [am_ui, am_ul, am_row_ne z0, am_row_ne z1, am_row_ne z2, am_row_ne z3, am_row_ne z4]))
                  show am_F _ _ 98 [.ref 0, .int (nI a_n), .int (nI b_n), .int on] [.int (am_b (y11.1))] (am_S (am_row (am_row (am_row (am_row (am_row f 1 y11.2.1) 2 y9.1) 31 y9.2) 34 y11.2.2.1) 35 y11.2.2.2.1) (am_row g 1 y11.2.2.2.2)) _
                  refine am_F.bifK 1 rfl K hK (fun c12 hK => ?_) (fun c12 hK => ?_)
                  · show am_F _ _ 101 [.ref 0, .int (nI a_n), .int (nI b_n), .int on] [] (am_S (am_row (am_row (am_row (am_row (am_row f 1 y11.2.1) 2 y9.1) 31 y9.2) 34 y11.2.2.1) 35 y11.2.2.2.1) (am_row g 1 y11.2.2.2.2)) _
                    refine am_F.ops (pc' := 107) (L' := [.ref 0, .int (nI a_n), .int (nI b_n), .int on]) (S' := [.int (nI b_n), .int (nI a_n), .ref 2]) (μ' := (am_S (am_row (am_row (am_row (am_row (am_row f 1 y11.2.1) 2 y9.1) 31 y9.2) 34 y11.2.2.1) 35 y11.2.2.2.1) (am_row g 1 y11.2.2.2.2))) 4 rfl ?_
                    refine am_F.call rfl rfl (x_toggleBarred a_n b_n (am_row (am_row (am_row (am_row (am_row f 1 y11.2.1) 2 y9.1) 31 y9.2) 34 y11.2.2.1) 35 y11.2.2.2.1) (am_row g 1 y11.2.2.2.2) (by omega) (by omega)) (by decide) ?_
                    obtain ⟨y13, hy13⟩ : ∃ z, (fn_toggleBarred a_n b_n (am_row (am_row (am_row (am_row (am_row f 1 y11.2.1) 2 y9.1) 31 y9.2) 34 y11.2.2.1) 35 y11.2.2.2.1)) = z := ⟨_, rfl⟩
                    (try rw [hy13] at hK)
                    (try rw [hy13])
                    refine am_F.mem (F' := (am_row (am_row (am_row (am_row (am_row f 1 y11.2.1) 2 y13.1) 31 y13.2) 34 y11.2.2.1) 35 y11.2.2.2.1)) (G' := (am_row g 1 y11.2.2.2.2)) ?_ (by first | rfl | (funext a; by_cases z0 : a = 1; (subst z0; rfl); by_cases z1 : a = 2; (subst z1; rfl); by_cases z2 : a = 31; (subst z2; rfl); by_cases z3 : a = 34; (subst z3; rfl); by_cases z4 : a = 35; (subst z4; rfl); simp only [am_ui, am_ul, am_row_ne z0, am_row_ne z1, am_row_ne z2, am_row_ne z3, am_row_ne z4])) (by first | rfl | (funext a; by_cases z0 : a = 1; (subst z0; rfl); by_cases z1 : a = 2; (subst z1; rfl); by_cases z2 : a = 31; (subst z2; rfl); by_cases z3 : a = 34; (subst z3; rfl); by_cases z4 : a = 35; (subst z4; rfl); simp only [am_ui, am_ul, am_row_ne z0, am_row_ne z1, am_row_ne z2, am_row_ne z3, am_row_ne z4]))
                    show am_F _ _ 110 [.ref 0, .int (nI a_n), .int (nI b_n), .int on] [] (am_S (am_row (am_row (am_row (am_row (am_row f 1 y11.2.1) 2 y13.1) 31 y13.2) 34 y11.2.2.1) 35 y11.2.2.2.1) (am_row g 1 y11.2.2.2.2)) _
                    refine am_F.ops (pc' := 112) (L' := [.ref 0, .int (nI a_n), .int (nI b_n), .int on]) (S' := [.int (-6)]) (μ' := (am_S (am_row (am_row (am_row (am_row (am_row f 1 y11.2.1) 2 y13.1) 31 y13.2) 34 y11.2.2.1) 35 y11.2.2.2.1) (am_row g 1 y11.2.2.2.2))) 1 rfl ?_
                    subst hKd
                    exact am_F.eq (am_F.ret rfl rfl) hK
                  · show am_F _ _ 113 [.ref 0, .int (nI a_n), .int (nI b_n), .int on] [] (am_S (am_row (am_row (am_row (am_row (am_row f 1 y11.2.1) 2 y9.1) 31 y9.2) 34 y11.2.2.1) 35 y11.2.2.2.1) (am_row g 1 y11.2.2.2.2)) _
                    refine am_F.ops (pc' := 120) (L' := [.ref 0, .int (nI a_n), .int (nI b_n), .int on]) (S' := [.int (y9.1 10)]) (μ' := (am_S (am_row (am_row (am_row (am_row (am_row f 1 y11.2.1) 2 y9.1) 31 y9.2) 34 y11.2.2.1) 35 y11.2.2.2.1) (am_row g 1 y11.2.2.2.2))) 3 rfl ?_
                    subst hKd
                    exact am_F.eq (am_F.ret rfl rfl) hK
                · show am_F _ _ 113 [.ref 0, .int (nI a_n), .int (nI b_n), .int on] [] (am_S (am_row (am_row f 2 y9.1) 31 y9.2) g) _
                  refine am_F.ops (pc' := 120) (L' := [.ref 0, .int (nI a_n), .int (nI b_n), .int on]) (S' := [.int (y9.1 10)]) (μ' := (am_S (am_row (am_row f 2 y9.1) 31 y9.2) g)) 3 rfl ?_
                  refine am_F.mem (F' := (am_row (am_row (am_row (am_row (am_row f 1 (f 1)) 2 y9.1) 31 y9.2) 34 (f 34)) 35 (f 35))) (G' := (am_row g 1 (g 1))) ?_ (by first | rfl | (funext a; by_cases z0 : a = 1; (subst z0; rfl); by_cases z1 : a = 2; (subst z1; rfl); by_cases z2 : a = 31; (subst z2; rfl); by_cases z3 : a = 34; (subst z3; rfl); by_cases z4 : a = 35; (subst z4; rfl); simp only [am_ui, am_ul, am_row_ne z0, am_row_ne z1, am_row_ne z2, am_row_ne z3, am_row_ne z4])) (by first | rfl | (funext a; by_cases z0 : a = 1; (subst z0; rfl); by_cases z1 : a = 2; (subst z1; rfl); by_cases z2 : a = 31; (subst z2; rfl); by_cases z3 : a = 34; (subst z3; rfl); by_cases z4 : a = 35; (subst z4; rfl); simp only [am_ui, am_ul, am_row_ne z0, am_row_ne z1, am_row_ne z2, am_row_ne z3, am_row_ne z4]))
                  subst hKd
                  exact am_F.eq (am_F.ret rfl rfl) hK
              · show am_F _ _ 74 [.ref 0, .int (nI a_n), .int (nI b_n), .int on] [] (am_S f g) _
                refine am_F.ops (pc' := 76) (L' := [.ref 0, .int (nI a_n), .int (nI b_n), .int on]) (S' := [.int (-3)]) (μ' := (am_S f g)) 1 rfl ?_
                refine am_F.mem (F' := (am_row (am_row (am_row (am_row (am_row f 1 (f 1)) 2 (f 2)) 31 (f 31)) 34 (f 34)) 35 (f 35))) (G' := (am_row g 1 (g 1))) ?_ (by first | rfl | (funext a; by_cases z0 : a = 1; (subst z0; rfl); by_cases z1 : a = 2; (subst z1; rfl); by_cases z2 : a = 31; (subst z2; rfl); by_cases z3 : a = 34; (subst z3; rfl); by_cases z4 : a = 35; (subst z4; rfl); simp only [am_ui, am_ul, am_row_ne z0, am_row_ne z1, am_row_ne z2, am_row_ne z3, am_row_ne z4])) (by first | rfl | (funext a; by_cases z0 : a = 1; (subst z0; rfl); by_cases z1 : a = 2; (subst z1; rfl); by_cases z2 : a = 31; (subst z2; rfl); by_cases z3 : a = 34; (subst z3; rfl); by_cases z4 : a = 35; (subst z4; rfl); simp only [am_ui, am_ul, am_row_ne z0, am_row_ne z1, am_row_ne z2, am_row_ne z3, am_row_ne z4]))
                subst hKd
                exact am_F.eq (am_F.ret rfl rfl) hK
            · show am_F _ _ 77 [.ref 0, .int (nI a_n), .int (nI b_n), .int on] [] (am_S f g) _
              refine am_F.ops (pc' := 83) (L' := [.ref 0, .int (nI a_n), .int (nI b_n), .int on]) (S' := [.int (nI b_n), .int (nI a_n), .ref 2]) (μ' := (am_S f g)) 4 rfl ?_
              refine am_F.call rfl rfl (x_toggleBarred a_n b_n f g (by omega) (by omega)) (by decide) ?_
              obtain ⟨y14, hy14⟩ : ∃ z, (fn_toggleBarred a_n b_n f) = z := ⟨_, rfl⟩
              (try rw [hy14] at hK)
              (try rw [hy14])
              refine am_F.mem (F' := (am_row (am_row f 2 y14.1) 31 y14.2)) (G' := g) ?_ (by first | rfl | (funext a; by_cases z0 : a = 2; (subst z0; rfl); by_cases z1 : a = 31; (subst z1; rfl); simp only [am_ui, am_ul, am_row_ne z0, am_row_ne z1])) (by first | rfl | (funext a; by_cases z0 : a = 2; (subst z0; rfl); by_cases z1 : a = 31; (subst z1; rfl); simp only [am_ui, am_ul, am_row_ne z0, am_row_ne z1]))
              show am_F _ _ 86 [.ref 0, .int (nI a_n), .int (nI b_n), .int on] [] (am_S (am_row (am_row f 2 y14.1) 31 y14.2) g) _
              refine am_F.ops (pc' := 88) (L' := [.ref 0, .int (nI a_n), .int (nI b_n), .int on]) (S' := [.int 1, .int on]) (μ' := (am_S (am_row (am_row f 2 y14.1) 31 y14.2) g)) 2 rfl ?_
              refine am_F.iteK 1 rfl K hK (fun c15 hK => ?_) (fun c15 hK => ?_)
              · show am_F _ _ 91 [.ref 0, .int (nI a_n), .int (nI b_n), .int on] [] (am_S (am_row (am_row f 2 y14.1) 31 y14.2) g) _
                refine am_F.ops (pc' := 95) (L' := [.ref 0, .int (nI a_n), .int (nI b_n), .int on]) (S' := [.ref 1]) (μ' := (am_S (am_row (am_row f 2 y14.1) 31 y14.2) g)) 2 rfl ?_
                refine am_F.call rfl rfl (x_someBarred  (am_row (am_row f 2 y14.1) 31 y14.2) g hLc hLn hLf hLt hLr hRc hRn) (by decide) ?_
                obtain ⟨y16, hy16⟩ : ∃ z, (fn_someBarred (am_row (am_row f 2 y14.1) 31 y14.2) g) = z := ⟨_, rfl⟩
                (try rw [hy16] at hK)
                (try rw [hy16])
                refine am_F.mem (F' := (am_row (am_row (am_row (am_row (am_row f 1 y16.2.1) 2 y14.1) 31 y14.2) 34 y16.2.2.1) 35 y16.2.2.2.1)) (G' := (am_row g 1 y16.2.2.2.2)) ?_ (by first | rfl | (funext a; by_cases z0 : a = 1; (subst z0; rfl); by_cases z1 : a = 2; (subst z1; rfl); by_cases z2 : a = 31; (subst z2; rfl); by_cases z3 : a = 34; (subst z3; rfl); by_cases z4 : a = 35; (subst z4; rfl); simp only [am_ui, am_ul, am_row_ne z0, am_row_ne z1, am_row_ne z2, am_row_ne z3, am_row_ne z4])) (by first | rfl | (funext a; by_cases z0 : a = 1; (subst z0; rfl); by_cases z1 : a = 2; (subst z1; rfl); by_cases z2 : a = 31; (subst z2; rfl); by_cases z3 : a = 34; (subst z3; rfl); by_cases z4 : a = 35; (subst z4; rfl); simp only [am_ui, am_ul, am_row_ne z0, am_row_ne z1, am_row_ne z2, am_row_ne z3, am_row_ne z4]))
                show am_F _ _ 98 [.ref 0, .int (nI a_n), .int (nI b_n), .int on] [.int (am_b (y16.1))] (am_S (am_row (am_row (am_row (am_row (am_row f 1 y16.2.1) 2 y14.1) 31 y14.2) 34 y16.2.2.1) 35 y16.2.2.2.1) (am_row g 1 y16.2.2.2.2)) _
                refine am_F.bifK 1 rfl K hK (fun c17 hK => ?_) (fun c17 hK => ?_)
                · show am_F _ _ 101 [.ref 0, .int (nI a_n), .int (nI b_n), .int on] [] (am_S (am_row (am_row (am_row (am_row (am_row f 1 y16.2.1) 2 y14.1) 31 y14.2) 34 y16.2.2.1) 35 y16.2.2.2.1) (am_row g 1 y16.2.2.2.2)) _
                  refine am_F.ops (pc' := 107) (L' := [.ref 0, .int (nI a_n), .int (nI b_n), .int on]) (S' := [.int (nI b_n), .int (nI a_n), .ref 2]) (μ' := (am_S (am_row (am_row (am_row (am_row (am_row f 1 y16.2.1) 2 y14.1) 31 y14.2) 34 y16.2.2.1) 35 y16.2.2.2.1) (am_row g 1 y16.2.2.2.2))) 4 rfl ?_
                  refine am_F.call rfl rfl (x_toggleBarred a_n b_n (am_row (am_row (am_row (am_row (am_row f 1 y16.2.1) 2 y14.1) 31 y14.2) 34 y16.2.2.1) 35 y16.2.2.2.1) (am_row g 1 y16.2.2.2.2) (by omega) (by omega)) (by decide) ?_
                  obtain ⟨y18, hy18⟩ : ∃ z, (fn_toggleBarred a_n b_n (am_row (am_row (am_row (am_row (am_row f 1 y16.2.1) 2 y14.1) 31 y14.2) 34 y16.2.2.1) 35 y16.2.2.2.1)) = z := ⟨_, rfl⟩
                  (try rw [hy18] at hK)
                  (try rw [hy18])
                  refine am_F.mem (F' := (am_row (am_row (am_row (am_row (am_row f 1 y16.2.1) 2 y18.1) 31 y18.2) 34 y16.2.2.1) 35 y16.2.2.2.1)) (G' := (am_row g 1 y16.2.2.2.2)) ?_ (by first | rfl | (funext a; by_cases z0 : a = 1; (subst z0; rfl); by_cases z1 : a = 2; (subst z1; rfl); by_cases z2 : a = 31; (subst z2; rfl); by_cases z3 : a = 34; (subst z3; rfl); by_cases z4 : a = 35; (subst z4; rfl); simp only [am_ui, am_ul, am_row_ne z0, am_row_ne z1, am_row_ne z2, am_row_ne z3, am_row_ne z4])) (by first | rfl | (funext a; by_cases z0 : a = 1; (subst z0; rfl); by_cases z1 : a = 2; (subst z1; rfl); by_cases z2 : a = 31; (subst z2; rfl); by_cases z3 : a = 34; (subst z3; rfl); by_cases z4 : a = 35; (subst z4; rfl); simp only [am_ui, am_ul, am_row_ne z0, am_row_ne z1, am_row_ne z2, am_row_ne z3, am_row_ne z4]))
                  show am_F _ _ 110 [.ref 0, .int (nI a_n), .int (nI b_n), .int on] [] (am_S (am_row (am_row (am_row (am_row (am_row f 1 y16.2.1) 2 y18.1) 31 y18.2) 34 y16.2.2.1) 35 y16.2.2.2.1) (am_row g 1 y16.2.2.2.2)) _
                  refine am_F.ops (pc' := 112) (L' := [.ref 0, .int (nI a_n), .int (nI b_n), .int on]) (S' := [.int (-6)]) (μ' := (am_S (am_row (am_row (am_row (am_row (am_row f 1 y16.2.1) 2 y18.1) 31 y18.2) 34 y16.2.2.1) 35 y16.2.2.2.1) (am_row g 1 y16.2.2.2.2))) 1 rfl ?_
                  subst hKd
                  exact am_F.eq (am_F.ret rfl rfl) hK
                · show am_F _ _ 113 [.ref 0, .int (nI a_n), .int (nI b_n), .int on] [] (am_S (am_row (am_row (am_row (am_row (am_row f 1 y16.2.1) 2 y14.1) 31 y14.2) 34 y16.2.2.1) 35 y16.2.2.2.1) (am_row g 1 y16.2.2.2.2)) _
                  refine am_F.ops (pc' := 120) (L' := [.ref 0, .int (nI a_n), .int (nI b_n), .int on]) (S' := [.int (y14.1 10)]) (μ' := (am_S (am_row (am_row (am_row (am_row (am_row f 1 y16.2.1) 2 y14.1) 31 y14.2) 34 y16.2.2.1) 35 y16.2.2.2.1) (am_row g 1 y16.2.2.2.2))) 3 rfl ?_
                  subst hKd
                  exact am_F.eq (am_F.ret rfl rfl) hK
              · show am_F _ _ 113 [.ref 0, .int (nI a_n), .int (nI b_n), .int on] [] (am_S (am_row (am_row f 2 y14.1) 31 y14.2) g) _
                refine am_F.ops (pc' := 120) (L' := [.ref 0, .int (nI a_n), .int (nI b_n), .int on]) (S' := [.int (y14.1 10)]) (μ' := (am_S (am_row (am_row f 2 y14.1) 31 y14.2) g)) 3 rfl ?_
                refine am_F.mem (F' := (am_row (am_row (am_row (am_row (am_row f 1 (f 1)) 2 y14.1) 31 y14.2) 34 (f 34)) 35 (f 35))) (G' := (am_row g 1 (g 1))) ?_ (by first | rfl | (funext a; by_cases z0 : a = 1; (subst z0; rfl); by_cases z1 : a = 2; (subst z1; rfl); by_cases z2 : a = 31; (subst z2; rfl); by_cases z3 : a = 34; (subst z3; rfl); by_cases z4 : a = 35; (subst z4; rfl); simp only [am_ui, am_ul, am_row_ne z0, am_row_ne z1, am_row_ne z2, am_row_ne z3, am_row_ne z4])) (by first | rfl | (funext a; by_cases z0 : a = 1; (subst z0; rfl); by_cases z1 : a = 2; (subst z1; rfl); by_cases z2 : a = 31; (subst z2; rfl); by_cases z3 : a = 34; (subst z3; rfl); by_cases z4 : a = 35; (subst z4; rfl); simp only [am_ui, am_ul, am_row_ne z0, am_row_ne z1, am_row_ne z2, am_row_ne z3, am_row_ne z4]))
                subst hKd
                exact am_F.eq (am_F.ret rfl rfl) hK
        · show am_F _ _ 26 [.ref 0, .int (nI a_n), .int (nI b_n), .int on] [] (am_S f g) _
          refine am_F.ops (pc' := 27) (L' := [.ref 0, .int (nI a_n), .int (nI b_n), .int on]) (S' := [.int (-1)]) (μ' := (am_S f g)) 1 rfl ?_
          refine am_F.mem (F' := (am_row (am_row (am_row (am_row (am_row f 1 (f 1)) 2 (f 2)) 31 (f 31)) 34 (f 34)) 35 (f 35))) (G' := (am_row g 1 (g 1))) ?_ (by first | rfl | (funext a; by_cases z0 : a = 1; (subst z0; rfl); by_cases z1 : a = 2; (subst z1; rfl); by_cases z2 : a = 31; (subst z2; rfl); by_cases z3 : a = 34; (subst z3; rfl); by_cases z4 : a = 35; (subst z4; rfl); simp only [am_ui, am_ul, am_row_ne z0, am_row_ne z1, am_row_ne z2, am_row_ne z3, am_row_ne z4])) (by first | rfl | (funext a; by_cases z0 : a = 1; (subst z0; rfl); by_cases z1 : a = 2; (subst z1; rfl); by_cases z2 : a = 31; (subst z2; rfl); by_cases z3 : a = 34; (subst z3; rfl); by_cases z4 : a = 35; (subst z4; rfl); simp only [am_ui, am_ul, am_row_ne z0, am_row_ne z1, am_row_ne z2, am_row_ne z3, am_row_ne z4]))
          subst hKd
          exact am_F.eq (am_F.ret rfl rfl) hK
    · show am_F _ _ 26 [.ref 0, .int (nI a_n), .int b, .int on] [] (am_S f g) _
      refine am_F.ops (pc' := 27) (L' := [.ref 0, .int (nI a_n), .int b, .int on]) (S' := [.int (-1)]) (μ' := (am_S f g)) 1 rfl ?_
      refine am_F.mem (F' := (am_row (am_row (am_row (am_row (am_row f 1 (f 1)) 2 (f 2)) 31 (f 31)) 34 (f 34)) 35 (f 35))) (G' := (am_row g 1 (g 1))) ?_ (by first | rfl | (funext a; by_cases z0 : a = 1; (subst z0; rfl); by_cases z1 : a = 2; (subst z1; rfl); by_cases z2 : a = 31; (subst z2; rfl); by_cases z3 : a = 34; (subst z3; rfl); by_cases z4 : a = 35; (subst z4; rfl); simp only [am_ui, am_ul, am_row_ne z0, am_row_ne z1, am_row_ne z2, am_row_ne z3, am_row_ne z4])) (by first | rfl | (funext a; by_cases z0 : a = 1; (subst z0; rfl); by_cases z1 : a = 2; (subst z1; rfl); by_cases z2 : a = 31; (subst z2; rfl); by_cases z3 : a = 34; (subst z3; rfl); by_cases z4 : a = 35; (subst z4; rfl); simp only [am_ui, am_ul, am_row_ne z0, am_row_ne z1, am_row_ne z2, am_row_ne z3, am_row_ne z4]))
      subst hKd
      exact am_F.eq (am_F.ret rfl rfl) hK
  · show am_F _ _ 26 [.ref 0, .int a, .int b, .int on] [] (am_S f g) _
    refine am_F.ops (pc' := 27) (L' := [.ref 0, .int a, .int b, .int on]) (S' := [.int (-1)]) (μ' := (am_S f g)) 1 rfl ?_
    refine am_F.mem (F' := (am_row (am_row (am_row (am_row (am_row f 1 (f 1)) 2 (f 2)) 31 (f 31)) 34 (f 34)) 35 (f 35))) (G' := (am_row g 1 (g 1))) ?_ (by first | rfl | (funext a; by_cases z0 : a = 1; (subst z0; rfl); by_cases z1 : a = 2; (subst z1; rfl); by_cases z2 : a = 31; (subst z2; rfl); by_cases z3 : a = 34; (subst z3; rfl); by_cases z4 : a = 35; (subst z4; rfl); simp only [am_ui, am_ul, am_row_ne z0, am_row_ne z1, am_row_ne z2, am_row_ne z3, am_row_ne z4])) (by first | rfl | (funext a; by_cases z0 : a = 1; (subst z0; rfl); by_cases z1 : a = 2; (subst z1; rfl); by_cases z2 : a = 31; (subst z2; rfl); by_cases z3 : a = 34; (subst z3; rfl); by_cases z4 : a = 35; (subst z4; rfl); simp only [am_ui, am_ul, am_row_ne z0, am_row_ne z1, am_row_ne z2, am_row_ne z3, am_row_ne z4]))
    subst hKd
    exact am_F.eq (am_F.ret rfl rfl) hK
/-- AccessLattice.step -/
def fn_step (n : Int32) (f : Nat → Nat → Int32) : Int32 × (Nat → Int32) := (bif (fn_between n 1 500) then (if ((f 2 12) + n) ≤ 9999 then ((f 2 12) + n, upd (f 2) 12 ((f 2 12) + n)) else ((-3), f 2)) else ((-1), f 2))
theorem x_step (n : Int32) (f : Nat → Nat → Int32) (g : Nat → Nat → Int64)  : am_D 1 36 2 [.ref 0, .int n] (am_S f g) (some (Value.int ((fn_step n f).1)), am_S (am_row f 2 ((fn_step n f).2)) g) := by
  refine am_D.of (code := am_k_36) rfl (L0 := [.ref 0, .int n]) rfl ?_
  generalize hres : (some (Value.int ((fn_step n f).1)), am_S (am_row f 2 ((fn_step n f).2)) g) = res
  obtain ⟨K, hKd⟩ : ∃ K : (Int32 × (Nat → Int32)) → Prop, K = fun z => (some (Value.int z.1), am_S (am_row f 2 z.2) g) = res := ⟨_, rfl⟩
  have hK : K (fn_step n f) := by rw [hKd]; exact hres
  clear hres
  unfold fn_step at hK
  refine am_F.ops (pc' := 5) (L' := [.ref 0, .int n]) (S' := [.int 500, .int 1, .int n]) (μ' := (am_S f g)) 3 rfl ?_
  refine am_F.call rfl rfl (x_between n 1 500 f g ) (by decide) ?_
  show am_F _ _ 8 [.ref 0, .int n] [.int (am_b (fn_between n 1 500))] (am_S f g) _
  refine am_F.bifK 1 rfl K hK (fun c1 hK => ?_) (fun c1 hK => ?_)
  · show am_F _ _ 13 [.ref 0, .int n] [] (am_S f g) _
    refine am_F.ops (pc' := 25) (L' := [.ref 0, .int n]) (S' := [.int 9999, .int ((f 2 12) + n)]) (μ' := (am_S f g)) 6 rfl ?_
    refine am_F.iteK 1 rfl K hK (fun c2 hK => ?_) (fun c2 hK => ?_)
    · show am_F _ _ 31 [.ref 0, .int n] [] (am_S f g) _
      refine am_F.ops (pc' := 41) (L' := [.ref 0, .int n]) (S' := [.int ((f 2 12) + n), .ref 2]) (μ' := (am_S f g)) 6 rfl ?_
      refine am_F.pfi (F' := (am_row f 2 (upd (f 2) 12 ((f 2 12) + n)))) rfl rfl (by first | rfl | (funext a; by_cases z0 : a = 2; (subst z0; rfl); simp only [am_ui, am_ul, am_row_ne z0])) ?_
      refine am_F.ops (pc' := 51) (L' := [.ref 0, .int n]) (S' := [.int ((f 2 12) + n)]) (μ' := (am_S (am_row f 2 (upd (f 2) 12 ((f 2 12) + n))) g)) 3 rfl ?_
      subst hKd
      exact am_F.eq (am_F.ret rfl rfl) hK
    · show am_F _ _ 28 [.ref 0, .int n] [] (am_S f g) _
      refine am_F.ops (pc' := 30) (L' := [.ref 0, .int n]) (S' := [.int (-3)]) (μ' := (am_S f g)) 1 rfl ?_
      refine am_F.mem (F' := (am_row f 2 (f 2))) (G' := g) ?_ (by first | rfl | (funext a; by_cases z0 : a = 2; (subst z0; rfl); simp only [am_ui, am_ul, am_row_ne z0])) (by first | rfl | (funext a; by_cases z0 : a = 2; (subst z0; rfl); simp only [am_ui, am_ul, am_row_ne z0]))
      subst hKd
      exact am_F.eq (am_F.ret rfl rfl) hK
  · show am_F _ _ 11 [.ref 0, .int n] [] (am_S f g) _
    refine am_F.ops (pc' := 12) (L' := [.ref 0, .int n]) (S' := [.int (-1)]) (μ' := (am_S f g)) 1 rfl ?_
    refine am_F.mem (F' := (am_row f 2 (f 2))) (G' := g) ?_ (by first | rfl | (funext a; by_cases z0 : a = 2; (subst z0; rfl); simp only [am_ui, am_ul, am_row_ne z0])) (by first | rfl | (funext a; by_cases z0 : a = 2; (subst z0; rfl); simp only [am_ui, am_ul, am_row_ne z0]))
    subst hKd
    exact am_F.eq (am_F.ret rfl rfl) hK
/-- AccessLattice.takeBack -/
def fn_takeBack (loan : Int32) (f : Nat → Nat → Int32) (g : Nat → Nat → Int64) : Int32 × (Nat → Int32) × (Nat → Int32) × (Nat → Int32) × (Nat → Int64) × (Nat → Int64) := (bif (fn_isLoan loan f) then (bif (fn_isStanding loan (am_row g 1 (fn_settle (f 2 12) f g).2.2.2)) then ((fn_bitCountL ((fn_settle (f 2 12) f g).2.2.2 5)) - (fn_bitCountL ((fn_settle (f 2 12) (am_row (am_row (am_row f 1 (fn_settle (f 2 12) f g).1) 34 (fn_settle (f 2 12) f g).2.1) 35 (fn_settle (f 2 12) f g).2.2.1) (am_row (am_row g 1 (fn_settle (f 2 12) f g).2.2.2) 11 (vp_updL (g 11) 6 ((g 11 6) ||| ((1 : Int64) <<< (loan.toInt64 &&& 63)))))).2.2.2 5)), (fn_settle (f 2 12) (am_row (am_row (am_row f 1 (fn_settle (f 2 12) f g).1) 34 (fn_settle (f 2 12) f g).2.1) 35 (fn_settle (f 2 12) f g).2.2.1) (am_row (am_row g 1 (fn_settle (f 2 12) f g).2.2.2) 11 (vp_updL (g 11) 6 ((g 11 6) ||| ((1 : Int64) <<< (loan.toInt64 &&& 63)))))).1, (fn_settle (f 2 12) (am_row (am_row (am_row f 1 (fn_settle (f 2 12) f g).1) 34 (fn_settle (f 2 12) f g).2.1) 35 (fn_settle (f 2 12) f g).2.2.1) (am_row (am_row g 1 (fn_settle (f 2 12) f g).2.2.2) 11 (vp_updL (g 11) 6 ((g 11 6) ||| ((1 : Int64) <<< (loan.toInt64 &&& 63)))))).2.1, (fn_settle (f 2 12) (am_row (am_row (am_row f 1 (fn_settle (f 2 12) f g).1) 34 (fn_settle (f 2 12) f g).2.1) 35 (fn_settle (f 2 12) f g).2.2.1) (am_row (am_row g 1 (fn_settle (f 2 12) f g).2.2.2) 11 (vp_updL (g 11) 6 ((g 11 6) ||| ((1 : Int64) <<< (loan.toInt64 &&& 63)))))).2.2.1, (fn_settle (f 2 12) (am_row (am_row (am_row f 1 (fn_settle (f 2 12) f g).1) 34 (fn_settle (f 2 12) f g).2.1) 35 (fn_settle (f 2 12) f g).2.2.1) (am_row (am_row g 1 (fn_settle (f 2 12) f g).2.2.2) 11 (vp_updL (g 11) 6 ((g 11 6) ||| ((1 : Int64) <<< (loan.toInt64 &&& 63)))))).2.2.2, vp_updL (g 11) 6 ((g 11 6) ||| ((1 : Int64) <<< (loan.toInt64 &&& 63)))) else ((-5), (fn_settle (f 2 12) f g).1, (fn_settle (f 2 12) f g).2.1, (fn_settle (f 2 12) f g).2.2.1, (fn_settle (f 2 12) f g).2.2.2, g 11)) else ((-1), f 1, f 34, f 35, g 1, g 11))
theorem x_takeBack (loan : Int32) (f : Nat → Nat → Int32) (g : Nat → Nat → Int64) (hLc : f 11 7 = nI (f 11 7).toNatClampNeg) (hLn : (f 11 7).toNatClampNeg ≤ 40) (hLf : ∀ i, i < (f 11 7).toNatClampNeg → am_inb (f 12 i) 16 = true) (hLt : ∀ i, i < (f 11 7).toNatClampNeg → am_inb (f 13 i) 16 = true) (hLr : ∀ i, i < (f 11 7).toNatClampNeg → am_inb (f 14 i) 20 = true) (hRc : f 18 11 = nI (f 18 11).toNatClampNeg) (hRn : (f 18 11).toNatClampNeg ≤ 30) : am_D 4 40 3 [.ref 0, .int loan] (am_S f g) (some (Value.int ((fn_takeBack loan f g).1)), am_S (am_row (am_row (am_row f 1 ((fn_takeBack loan f g).2.1)) 34 ((fn_takeBack loan f g).2.2.1)) 35 ((fn_takeBack loan f g).2.2.2.1)) (am_row (am_row g 1 ((fn_takeBack loan f g).2.2.2.2.1)) 11 ((fn_takeBack loan f g).2.2.2.2.2))) := by
  refine am_D.of (code := am_k_40) rfl (L0 := [.ref 0, .int loan, am_un]) rfl ?_
  generalize hres : (some (Value.int ((fn_takeBack loan f g).1)), am_S (am_row (am_row (am_row f 1 ((fn_takeBack loan f g).2.1)) 34 ((fn_takeBack loan f g).2.2.1)) 35 ((fn_takeBack loan f g).2.2.2.1)) (am_row (am_row g 1 ((fn_takeBack loan f g).2.2.2.2.1)) 11 ((fn_takeBack loan f g).2.2.2.2.2))) = res
  obtain ⟨K, hKd⟩ : ∃ K : (Int32 × (Nat → Int32) × (Nat → Int32) × (Nat → Int32) × (Nat → Int64) × (Nat → Int64)) → Prop, K = fun z => (some (Value.int z.1), am_S (am_row (am_row (am_row f 1 z.2.1) 34 z.2.2.1) 35 z.2.2.2.1) (am_row (am_row g 1 z.2.2.2.2.1) 11 z.2.2.2.2.2)) = res := ⟨_, rfl⟩
  have hK : K (fn_takeBack loan f g) := by rw [hKd]; exact hres
  clear hres
  unfold fn_takeBack at hK
  refine am_F.ops (pc' := 2) (L' := [.ref 0, .int loan, am_un]) (S' := [.int loan, .ref 0]) (μ' := (am_S f g)) 2 rfl ?_
  refine am_F.call rfl rfl (x_isLoan loan f g hLc hLn) (by decide) ?_
  show am_F _ _ 5 [.ref 0, .int loan, am_un] [.int (am_b (fn_isLoan loan f))] (am_S f g) _
  refine am_F.bifK 1 rfl K hK (fun c1 hK => ?_) (fun c1 hK => ?_)
  · obtain ⟨loan_n, hloan_n, eloan_n⟩ := (am_iLoan hLc (by omega) c1)
    subst eloan_n
    try simp only [nI_clamp (show loan_n < 2147483648 by omega)] at hK
    show am_F _ _ 10 [.ref 0, .int (nI loan_n), am_un] [] (am_S f g) _
    refine am_F.ops (pc' := 21) (L' := [.ref 0, .int (nI loan_n), am_un]) (S' := [.int (f 2 12), .ref 1]) (μ' := (am_S f g)) 5 rfl ?_
    refine am_F.call rfl rfl (x_settle (f 2 12) f g hLc hLn hLf hLt hLr hRc hRn) (by decide) ?_
    obtain ⟨y2, hy2⟩ : ∃ z, (fn_settle (f 2 12) f g) = z := ⟨_, rfl⟩
    (try rw [hy2] at hK)
    (try rw [hy2])
    refine am_F.mem (F' := (am_row (am_row (am_row f 1 y2.1) 34 y2.2.1) 35 y2.2.2.1)) (G' := (am_row g 1 y2.2.2.2)) ?_ (by first | rfl | (funext a; by_cases z0 : a = 1; (subst z0; rfl); by_cases z1 : a = 34; (subst z1; rfl); by_cases z2 : a = 35; (subst z2; rfl); simp only [am_ui, am_ul, am_row_ne z0, am_row_ne z1, am_row_ne z2])) (by first | rfl | (funext a; by_cases z0 : a = 1; (subst z0; rfl); by_cases z1 : a = 34; (subst z1; rfl); by_cases z2 : a = 35; (subst z2; rfl); simp only [am_ui, am_ul, am_row_ne z0, am_row_ne z1, am_row_ne z2]))
    show am_F _ _ 24 [.ref 0, .int (nI loan_n), am_un] [] (am_S (am_row (am_row (am_row f 1 y2.1) 34 y2.2.1) 35 y2.2.2.1) (am_row g 1 y2.2.2.2)) _
    refine am_F.ops (pc' := 29) (L' := [.ref 0, .int (nI loan_n), am_un]) (S' := [.int (nI loan_n), .ref 1]) (μ' := (am_S (am_row (am_row (am_row f 1 y2.1) 34 y2.2.1) 35 y2.2.2.1) (am_row g 1 y2.2.2.2))) 3 rfl ?_
    refine am_F.call rfl rfl (x_isStanding (nI loan_n) (am_row (am_row (am_row f 1 y2.1) 34 y2.2.1) 35 y2.2.2.1) (am_row g 1 y2.2.2.2) ) (by decide) ?_
    show am_F _ _ 32 [.ref 0, .int (nI loan_n), am_un] [.int (am_b (fn_isStanding (nI loan_n) (am_row g 1 y2.2.2.2)))] (am_S (am_row (am_row (am_row f 1 y2.1) 34 y2.2.1) 35 y2.2.2.1) (am_row g 1 y2.2.2.2)) _
    refine am_F.bifK 1 rfl K hK (fun c3 hK => ?_) (fun c3 hK => ?_)
    · show am_F _ _ 38 [.ref 0, .int (nI loan_n), am_un] [] (am_S (am_row (am_row (am_row f 1 y2.1) 34 y2.2.1) 35 y2.2.2.1) (am_row g 1 y2.2.2.2)) _
      refine am_F.ops (pc' := 45) (L' := [.ref 0, .int (nI loan_n), am_un]) (S' := [.long (y2.2.2.2 5)]) (μ' := (am_S (am_row (am_row (am_row f 1 y2.1) 34 y2.2.1) 35 y2.2.2.1) (am_row g 1 y2.2.2.2))) 3 rfl ?_
      refine am_F.call rfl rfl (x_bitCountL (y2.2.2.2 5) (am_row (am_row (am_row f 1 y2.1) 34 y2.2.1) 35 y2.2.2.1) (am_row g 1 y2.2.2.2) ) (by decide) ?_
      show am_F _ _ 48 [.ref 0, .int (nI loan_n), am_un] [.int (fn_bitCountL (y2.2.2.2 5))] (am_S (am_row (am_row (am_row f 1 y2.1) 34 y2.2.1) 35 y2.2.2.1) (am_row g 1 y2.2.2.2)) _
      refine am_F.ops (pc' := 64) (L' := [.ref 0, .int (nI loan_n), .int (fn_bitCountL (y2.2.2.2 5))]) (S' := [.long ((g 11 6) ||| ((1 : Int64) <<< ((nI loan_n).toInt64 &&& 63))), .ref 11]) (μ' := (am_S (am_row (am_row (am_row f 1 y2.1) 34 y2.2.1) 35 y2.2.2.1) (am_row g 1 y2.2.2.2))) 10 rfl ?_
      refine am_F.pfl (G' := (am_row (am_row g 1 y2.2.2.2) 11 (vp_updL (g 11) 6 ((g 11 6) ||| ((1 : Int64) <<< ((nI loan_n).toInt64 &&& 63)))))) rfl rfl (by first | rfl | (funext a; by_cases z0 : a = 1; (subst z0; rfl); by_cases z1 : a = 11; (subst z1; rfl); simp only [am_ui, am_ul, am_row_ne z0, am_row_ne z1])) ?_
      refine am_F.ops (pc' := 78) (L' := [.ref 0, .int (nI loan_n), .int (fn_bitCountL (y2.2.2.2 5))]) (S' := [.int (f 2 12), .ref 1]) (μ' := (am_S (am_row (am_row (am_row f 1 y2.1) 34 y2.2.1) 35 y2.2.2.1) (am_row (am_row g 1 y2.2.2.2) 11 (vp_updL (g 11) 6 ((g 11 6) ||| ((1 : Int64) <<< ((nI loan_n).toInt64 &&& 63))))))) 5 rfl ?_
      refine am_F.call rfl rfl (x_settle (f 2 12) (am_row (am_row (am_row f 1 y2.1) 34 y2.2.1) 35 y2.2.2.1) (am_row (am_row g 1 y2.2.2.2) 11 (vp_updL (g 11) 6 ((g 11 6) ||| ((1 : Int64) <<< ((nI loan_n).toInt64 &&& 63))))) hLc hLn hLf hLt hLr hRc hRn) (by decide) ?_
      obtain ⟨y4, hy4⟩ : ∃ z, (fn_settle (f 2 12) (am_row (am_row (am_row f 1 y2.1) 34 y2.2.1) 35 y2.2.2.1) (am_row (am_row g 1 y2.2.2.2) 11 (vp_updL (g 11) 6 ((g 11 6) ||| ((1 : Int64) <<< ((nI loan_n).toInt64 &&& 63)))))) = z := ⟨_, rfl⟩
      (try rw [hy4] at hK)
      (try rw [hy4])
      refine am_F.mem (F' := (am_row (am_row (am_row f 1 y4.1) 34 y4.2.1) 35 y4.2.2.1)) (G' := (am_row (am_row g 1 y4.2.2.2) 11 (vp_updL (g 11) 6 ((g 11 6) ||| ((1 : Int64) <<< ((nI loan_n).toInt64 &&& 63)))))) ?_ (by first | rfl | (funext a; by_cases z0 : a = 1; (subst z0; rfl); by_cases z1 : a = 11; (subst z1; rfl); by_cases z2 : a = 34; (subst z2; rfl); by_cases z3 : a = 35; (subst z3; rfl); simp only [am_ui, am_ul, am_row_ne z0, am_row_ne z1, am_row_ne z2, am_row_ne z3])) (by first | rfl | (funext a; by_cases z0 : a = 1; (subst z0; rfl); by_cases z1 : a = 11; (subst z1; rfl); by_cases z2 : a = 34; (subst z2; rfl); by_cases z3 : a = 35; (subst z3; rfl); simp only [am_ui, am_ul, am_row_ne z0, am_row_ne z1, am_row_ne z2, am_row_ne z3]))
      show am_F _ _ 81 [.ref 0, .int (nI loan_n), .int (fn_bitCountL (y2.2.2.2 5))] [] (am_S (am_row (am_row (am_row f 1 y4.1) 34 y4.2.1) 35 y4.2.2.1) (am_row (am_row g 1 y4.2.2.2) 11 (vp_updL (g 11) 6 ((g 11 6) ||| ((1 : Int64) <<< ((nI loan_n).toInt64 &&& 63)))))) _
      refine am_F.ops (pc' := 89) (L' := [.ref 0, .int (nI loan_n), .int (fn_bitCountL (y2.2.2.2 5))]) (S' := [.long (y4.2.2.2 5), .int (fn_bitCountL (y2.2.2.2 5))]) (μ' := (am_S (am_row (am_row (am_row f 1 y4.1) 34 y4.2.1) 35 y4.2.2.1) (am_row (am_row g 1 y4.2.2.2) 11 (vp_updL (g 11) 6 ((g 11 6) ||| ((1 : Int64) <<< ((nI loan_n).toInt64 &&& 63))))))) 4 rfl ?_
      refine am_F.call rfl rfl (x_bitCountL (y4.2.2.2 5) (am_row (am_row (am_row f 1 y4.1) 34 y4.2.1) 35 y4.2.2.1) (am_row (am_row g 1 y4.2.2.2) 11 (vp_updL (g 11) 6 ((g 11 6) ||| ((1 : Int64) <<< ((nI loan_n).toInt64 &&& 63))))) ) (by decide) ?_
      show am_F _ _ 92 [.ref 0, .int (nI loan_n), .int (fn_bitCountL (y2.2.2.2 5))] [.int (fn_bitCountL (y4.2.2.2 5)), .int (fn_bitCountL (y2.2.2.2 5))] (am_S (am_row (am_row (am_row f 1 y4.1) 34 y4.2.1) 35 y4.2.2.1) (am_row (am_row g 1 y4.2.2.2) 11 (vp_updL (g 11) 6 ((g 11 6) ||| ((1 : Int64) <<< ((nI loan_n).toInt64 &&& 63)))))) _
      refine am_F.ops (pc' := 93) (L' := [.ref 0, .int (nI loan_n), .int (fn_bitCountL (y2.2.2.2 5))]) (S' := [.int ((fn_bitCountL (y2.2.2.2 5)) - (fn_bitCountL (y4.2.2.2 5)))]) (μ' := (am_S (am_row (am_row (am_row f 1 y4.1) 34 y4.2.1) 35 y4.2.2.1) (am_row (am_row g 1 y4.2.2.2) 11 (vp_updL (g 11) 6 ((g 11 6) ||| ((1 : Int64) <<< ((nI loan_n).toInt64 &&& 63))))))) 1 rfl ?_
      subst hKd
      exact am_F.eq (am_F.ret rfl rfl) hK
    · show am_F _ _ 35 [.ref 0, .int (nI loan_n), am_un] [] (am_S (am_row (am_row (am_row f 1 y2.1) 34 y2.2.1) 35 y2.2.2.1) (am_row g 1 y2.2.2.2)) _
      refine am_F.ops (pc' := 37) (L' := [.ref 0, .int (nI loan_n), am_un]) (S' := [.int (-5)]) (μ' := (am_S (am_row (am_row (am_row f 1 y2.1) 34 y2.2.1) 35 y2.2.2.1) (am_row g 1 y2.2.2.2))) 1 rfl ?_
      refine am_F.mem (F' := (am_row (am_row (am_row f 1 y2.1) 34 y2.2.1) 35 y2.2.2.1)) (G' := (am_row (am_row g 1 y2.2.2.2) 11 (g 11))) ?_ (by first | rfl | (funext a; by_cases z0 : a = 1; (subst z0; rfl); by_cases z1 : a = 11; (subst z1; rfl); by_cases z2 : a = 34; (subst z2; rfl); by_cases z3 : a = 35; (subst z3; rfl); simp only [am_ui, am_ul, am_row_ne z0, am_row_ne z1, am_row_ne z2, am_row_ne z3])) (by first | rfl | (funext a; by_cases z0 : a = 1; (subst z0; rfl); by_cases z1 : a = 11; (subst z1; rfl); by_cases z2 : a = 34; (subst z2; rfl); by_cases z3 : a = 35; (subst z3; rfl); simp only [am_ui, am_ul, am_row_ne z0, am_row_ne z1, am_row_ne z2, am_row_ne z3]))
      subst hKd
      exact am_F.eq (am_F.ret rfl rfl) hK
  · show am_F _ _ 8 [.ref 0, .int loan, am_un] [] (am_S f g) _
    refine am_F.ops (pc' := 9) (L' := [.ref 0, .int loan, am_un]) (S' := [.int (-1)]) (μ' := (am_S f g)) 1 rfl ?_
    refine am_F.mem (F' := (am_row (am_row (am_row f 1 (f 1)) 34 (f 34)) 35 (f 35))) (G' := (am_row (am_row g 1 (g 1)) 11 (g 11))) ?_ (by first | rfl | (funext a; by_cases z0 : a = 1; (subst z0; rfl); by_cases z1 : a = 11; (subst z1; rfl); by_cases z2 : a = 34; (subst z2; rfl); by_cases z3 : a = 35; (subst z3; rfl); simp only [am_ui, am_ul, am_row_ne z0, am_row_ne z1, am_row_ne z2, am_row_ne z3])) (by first | rfl | (funext a; by_cases z0 : a = 1; (subst z0; rfl); by_cases z1 : a = 11; (subst z1; rfl); by_cases z2 : a = 34; (subst z2; rfl); by_cases z3 : a = 35; (subst z3; rfl); simp only [am_ui, am_ul, am_row_ne z0, am_row_ne z1, am_row_ne z2, am_row_ne z3]))
    subst hKd
    exact am_F.eq (am_F.ret rfl rfl) hK
/-- AccessLattice.loan -/
def fn_loan (loan : Int32) (what : Int32) (f : Nat → Nat → Int32) (g : Nat → Nat → Int64) : Int32 × (Nat → Int32) × (Nat → Int32) × (Nat → Int32) × (Nat → Int64) := (bif (fn_isLoan loan f) then (if what = 0 then (f 12 (loan.toNatClampNeg), f 1, f 34, f 35, g 1) else (if what = 1 then (f 13 (loan.toNatClampNeg), f 1, f 34, f 35, g 1) else (if what = 2 then (f 14 (loan.toNatClampNeg), f 1, f 34, f 35, g 1) else (if what = 3 then (f 15 (loan.toNatClampNeg), f 1, f 34, f 35, g 1) else (if what = 4 then (f 16 (loan.toNatClampNeg), f 1, f 34, f 35, g 1) else (if what = 5 then (f 17 (loan.toNatClampNeg), f 1, f 34, f 35, g 1) else (if what = 6 then (am_b (bif (fn_isStanding loan (am_row g 1 (fn_settle (f 2 12) f g).2.2.2)) then true else false), (fn_settle (f 2 12) f g).1, (fn_settle (f 2 12) f g).2.1, (fn_settle (f 2 12) f g).2.2.1, (fn_settle (f 2 12) f g).2.2.2) else ((-1), f 1, f 34, f 35, g 1)))))))) else ((-1), f 1, f 34, f 35, g 1))
theorem x_loan (loan : Int32) (what : Int32) (f : Nat → Nat → Int32) (g : Nat → Nat → Int64) (hLc : f 11 7 = nI (f 11 7).toNatClampNeg) (hLn : (f 11 7).toNatClampNeg ≤ 40) (hLf : ∀ i, i < (f 11 7).toNatClampNeg → am_inb (f 12 i) 16 = true) (hLt : ∀ i, i < (f 11 7).toNatClampNeg → am_inb (f 13 i) 16 = true) (hLr : ∀ i, i < (f 11 7).toNatClampNeg → am_inb (f 14 i) 20 = true) (hRc : f 18 11 = nI (f 18 11).toNatClampNeg) (hRn : (f 18 11).toNatClampNeg ≤ 30) : am_D 4 43 4 [.ref 0, .int loan, .int what] (am_S f g) (some (Value.int ((fn_loan loan what f g).1)), am_S (am_row (am_row (am_row f 1 ((fn_loan loan what f g).2.1)) 34 ((fn_loan loan what f g).2.2.1)) 35 ((fn_loan loan what f g).2.2.2.1)) (am_row g 1 ((fn_loan loan what f g).2.2.2.2))) := by
  refine am_D.of (code := am_k_43) rfl (L0 := [.ref 0, .int loan, .int what, am_un]) rfl ?_
  generalize hres : (some (Value.int ((fn_loan loan what f g).1)), am_S (am_row (am_row (am_row f 1 ((fn_loan loan what f g).2.1)) 34 ((fn_loan loan what f g).2.2.1)) 35 ((fn_loan loan what f g).2.2.2.1)) (am_row g 1 ((fn_loan loan what f g).2.2.2.2))) = res
  obtain ⟨K, hKd⟩ : ∃ K : (Int32 × (Nat → Int32) × (Nat → Int32) × (Nat → Int32) × (Nat → Int64)) → Prop, K = fun z => (some (Value.int z.1), am_S (am_row (am_row (am_row f 1 z.2.1) 34 z.2.2.1) 35 z.2.2.2.1) (am_row g 1 z.2.2.2.2)) = res := ⟨_, rfl⟩
  have hK : K (fn_loan loan what f g) := by rw [hKd]; exact hres
  clear hres
  unfold fn_loan at hK
  refine am_F.ops (pc' := 2) (L' := [.ref 0, .int loan, .int what, am_un]) (S' := [.int loan, .ref 0]) (μ' := (am_S f g)) 2 rfl ?_
  refine am_F.call rfl rfl (x_isLoan loan f g hLc hLn) (by decide) ?_
  show am_F _ _ 5 [.ref 0, .int loan, .int what, am_un] [.int (am_b (fn_isLoan loan f))] (am_S f g) _
  refine am_F.bifK 1 rfl K hK (fun c1 hK => ?_) (fun c1 hK => ?_)
  · obtain ⟨loan_n, hloan_n, eloan_n⟩ := (am_iLoan hLc (by omega) c1)
    subst eloan_n
    try simp only [nI_clamp (show loan_n < 2147483648 by omega)] at hK
    show am_F _ _ 10 [.ref 0, .int (nI loan_n), .int what, am_un] [] (am_S f g) _
    refine am_F.ops (pc' := 19) (L' := [.ref 0, .int (nI loan_n), .int what, .ref 11]) (S' := [.int what]) (μ' := (am_S f g)) 5 rfl ?_
    refine am_F.ops (pc' := am_ltg [(0, 60), (1, 67), (2, 74), (3, 81), (4, 88), (5, 95), (6, 102)] 133 what) (L' := [.ref 0, .int (nI loan_n), .int what, .ref 11]) (S' := []) (μ' := (am_S f g)) 1 (am_tswE (tg := [60, 67, 74, 81, 88, 95, 102]) (lo := 0) rfl rfl (by decide) (by decide)) ?_
    refine am_F.ltg K hK (fun c2 hK => ?_) (fun c2 hK => ?_)
    · show am_F _ _ 60 [.ref 0, .int (nI loan_n), .int what, .ref 11] [] (am_S f g) _
      refine am_F.ops (pc' := 65) (L' := [.ref 0, .int (nI loan_n), .int what, .ref 11]) (S' := [.int (nI loan_n), .ref 12]) (μ' := (am_S f g)) 3 rfl ?_
      refine am_F.ialE (m := loan_n) (N := 40) rfl rfl rfl rfl (by omega) (by decide) ?_
      show am_F _ _ 66 [.ref 0, .int (nI loan_n), .int what, .ref 11] [.int (f 12 loan_n)] (am_S f g) _
      refine am_F.mem (F' := (am_row (am_row (am_row f 1 (f 1)) 34 (f 34)) 35 (f 35))) (G' := (am_row g 1 (g 1))) ?_ (by first | rfl | (funext a; by_cases z0 : a = 1; (subst z0; rfl); by_cases z1 : a = 34; (subst z1; rfl); by_cases z2 : a = 35; (subst z2; rfl); simp only [am_ui, am_ul, am_row_ne z0, am_row_ne z1, am_row_ne z2])) (by first | rfl | (funext a; by_cases z0 : a = 1; (subst z0; rfl); by_cases z1 : a = 34; (subst z1; rfl); by_cases z2 : a = 35; (subst z2; rfl); simp only [am_ui, am_ul, am_row_ne z0, am_row_ne z1, am_row_ne z2]))
      subst hKd
      exact am_F.eq (am_F.ret rfl rfl) hK
    · skip
      refine am_F.ltg K hK (fun c3 hK => ?_) (fun c3 hK => ?_)
      · show am_F _ _ 67 [.ref 0, .int (nI loan_n), .int what, .ref 11] [] (am_S f g) _
        refine am_F.ops (pc' := 72) (L' := [.ref 0, .int (nI loan_n), .int what, .ref 11]) (S' := [.int (nI loan_n), .ref 13]) (μ' := (am_S f g)) 3 rfl ?_
        refine am_F.ialE (m := loan_n) (N := 40) rfl rfl rfl rfl (by omega) (by decide) ?_
        show am_F _ _ 73 [.ref 0, .int (nI loan_n), .int what, .ref 11] [.int (f 13 loan_n)] (am_S f g) _
        refine am_F.mem (F' := (am_row (am_row (am_row f 1 (f 1)) 34 (f 34)) 35 (f 35))) (G' := (am_row g 1 (g 1))) ?_ (by first | rfl | (funext a; by_cases z0 : a = 1; (subst z0; rfl); by_cases z1 : a = 34; (subst z1; rfl); by_cases z2 : a = 35; (subst z2; rfl); simp only [am_ui, am_ul, am_row_ne z0, am_row_ne z1, am_row_ne z2])) (by first | rfl | (funext a; by_cases z0 : a = 1; (subst z0; rfl); by_cases z1 : a = 34; (subst z1; rfl); by_cases z2 : a = 35; (subst z2; rfl); simp only [am_ui, am_ul, am_row_ne z0, am_row_ne z1, am_row_ne z2]))
        subst hKd
        exact am_F.eq (am_F.ret rfl rfl) hK
      · skip
        refine am_F.ltg K hK (fun c4 hK => ?_) (fun c4 hK => ?_)
        · show am_F _ _ 74 [.ref 0, .int (nI loan_n), .int what, .ref 11] [] (am_S f g) _
          refine am_F.ops (pc' := 79) (L' := [.ref 0, .int (nI loan_n), .int what, .ref 11]) (S' := [.int (nI loan_n), .ref 14]) (μ' := (am_S f g)) 3 rfl ?_
          refine am_F.ialE (m := loan_n) (N := 40) rfl rfl rfl rfl (by omega) (by decide) ?_
          show am_F _ _ 80 [.ref 0, .int (nI loan_n), .int what, .ref 11] [.int (f 14 loan_n)] (am_S f g) _
          refine am_F.mem (F' := (am_row (am_row (am_row f 1 (f 1)) 34 (f 34)) 35 (f 35))) (G' := (am_row g 1 (g 1))) ?_ (by first | rfl | (funext a; by_cases z0 : a = 1; (subst z0; rfl); by_cases z1 : a = 34; (subst z1; rfl); by_cases z2 : a = 35; (subst z2; rfl); simp only [am_ui, am_ul, am_row_ne z0, am_row_ne z1, am_row_ne z2])) (by first | rfl | (funext a; by_cases z0 : a = 1; (subst z0; rfl); by_cases z1 : a = 34; (subst z1; rfl); by_cases z2 : a = 35; (subst z2; rfl); simp only [am_ui, am_ul, am_row_ne z0, am_row_ne z1, am_row_ne z2]))
          subst hKd
          exact am_F.eq (am_F.ret rfl rfl) hK
        · skip
          refine am_F.ltg K hK (fun c5 hK => ?_) (fun c5 hK => ?_)
          · show am_F _ _ 81 [.ref 0, .int (nI loan_n), .int what, .ref 11] [] (am_S f g) _
            refine am_F.ops (pc' := 86) (L' := [.ref 0, .int (nI loan_n), .int what, .ref 11]) (S' := [.int (nI loan_n), .ref 15]) (μ' := (am_S f g)) 3 rfl ?_
            refine am_F.ialE (m := loan_n) (N := 40) rfl rfl rfl rfl (by omega) (by decide) ?_
            show am_F _ _ 87 [.ref 0, .int (nI loan_n), .int what, .ref 11] [.int (f 15 loan_n)] (am_S f g) _
            refine am_F.mem (F' := (am_row (am_row (am_row f 1 (f 1)) 34 (f 34)) 35 (f 35))) (G' := (am_row g 1 (g 1))) ?_ (by first | rfl | (funext a; by_cases z0 : a = 1; (subst z0; rfl); by_cases z1 : a = 34; (subst z1; rfl); by_cases z2 : a = 35; (subst z2; rfl); simp only [am_ui, am_ul, am_row_ne z0, am_row_ne z1, am_row_ne z2])) (by first | rfl | (funext a; by_cases z0 : a = 1; (subst z0; rfl); by_cases z1 : a = 34; (subst z1; rfl); by_cases z2 : a = 35; (subst z2; rfl); simp only [am_ui, am_ul, am_row_ne z0, am_row_ne z1, am_row_ne z2]))
            subst hKd
            exact am_F.eq (am_F.ret rfl rfl) hK
          · skip
            refine am_F.ltg K hK (fun c6 hK => ?_) (fun c6 hK => ?_)
            · show am_F _ _ 88 [.ref 0, .int (nI loan_n), .int what, .ref 11] [] (am_S f g) _
              refine am_F.ops (pc' := 93) (L' := [.ref 0, .int (nI loan_n), .int what, .ref 11]) (S' := [.int (nI loan_n), .ref 16]) (μ' := (am_S f g)) 3 rfl ?_
              refine am_F.ialE (m := loan_n) (N := 40) rfl rfl rfl rfl (by omega) (by decide) ?_
              show am_F _ _ 94 [.ref 0, .int (nI loan_n), .int what, .ref 11] [.int (f 16 loan_n)] (am_S f g) _
              refine am_F.mem (F' := (am_row (am_row (am_row f 1 (f 1)) 34 (f 34)) 35 (f 35))) (G' := (am_row g 1 (g 1))) ?_ (by first | rfl | (funext a; by_cases z0 : a = 1; (subst z0; rfl); by_cases z1 : a = 34; (subst z1; rfl); by_cases z2 : a = 35; (subst z2; rfl); simp only [am_ui, am_ul, am_row_ne z0, am_row_ne z1, am_row_ne z2])) (by first | rfl | (funext a; by_cases z0 : a = 1; (subst z0; rfl); by_cases z1 : a = 34; (subst z1; rfl); by_cases z2 : a = 35; (subst z2; rfl); simp only [am_ui, am_ul, am_row_ne z0, am_row_ne z1, am_row_ne z2]))
              subst hKd
              exact am_F.eq (am_F.ret rfl rfl) hK
            · skip
              refine am_F.ltg K hK (fun c7 hK => ?_) (fun c7 hK => ?_)
              · show am_F _ _ 95 [.ref 0, .int (nI loan_n), .int what, .ref 11] [] (am_S f g) _
                refine am_F.ops (pc' := 100) (L' := [.ref 0, .int (nI loan_n), .int what, .ref 11]) (S' := [.int (nI loan_n), .ref 17]) (μ' := (am_S f g)) 3 rfl ?_
                refine am_F.ialE (m := loan_n) (N := 40) rfl rfl rfl rfl (by omega) (by decide) ?_
                show am_F _ _ 101 [.ref 0, .int (nI loan_n), .int what, .ref 11] [.int (f 17 loan_n)] (am_S f g) _
                refine am_F.mem (F' := (am_row (am_row (am_row f 1 (f 1)) 34 (f 34)) 35 (f 35))) (G' := (am_row g 1 (g 1))) ?_ (by first | rfl | (funext a; by_cases z0 : a = 1; (subst z0; rfl); by_cases z1 : a = 34; (subst z1; rfl); by_cases z2 : a = 35; (subst z2; rfl); simp only [am_ui, am_ul, am_row_ne z0, am_row_ne z1, am_row_ne z2])) (by first | rfl | (funext a; by_cases z0 : a = 1; (subst z0; rfl); by_cases z1 : a = 34; (subst z1; rfl); by_cases z2 : a = 35; (subst z2; rfl); simp only [am_ui, am_ul, am_row_ne z0, am_row_ne z1, am_row_ne z2]))
                subst hKd
                exact am_F.eq (am_F.ret rfl rfl) hK
              · skip
                refine am_F.ltg K hK (fun c8 hK => ?_) (fun c8 hK => ?_)
                · show am_F _ _ 102 [.ref 0, .int (nI loan_n), .int what, .ref 11] [] (am_S f g) _
                  refine am_F.ops (pc' := 113) (L' := [.ref 0, .int (nI loan_n), .int what, .ref 11]) (S' := [.int (f 2 12), .ref 1]) (μ' := (am_S f g)) 5 rfl ?_
                  refine am_F.call rfl rfl (x_settle (f 2 12) f g hLc hLn hLf hLt hLr hRc hRn) (by decide) ?_
                  obtain ⟨y9, hy9⟩ : ∃ z, (fn_settle (f 2 12) f g) = z := ⟨_, rfl⟩
                  (try rw [hy9] at hK)
                  (try rw [hy9])
                  refine am_F.mem (F' := (am_row (am_row (am_row f 1 y9.1) 34 y9.2.1) 35 y9.2.2.1)) (G' := (am_row g 1 y9.2.2.2)) ?_ (by first | rfl | (funext a; by_cases z0 : a = 1; (subst z0; rfl); by_cases z1 : a = 34; (subst z1; rfl); by_cases z2 : a = 35; (subst z2; rfl); simp only [am_ui, am_ul, am_row_ne z0, am_row_ne z1, am_row_ne z2])) (by first | rfl | (funext a; by_cases z0 : a = 1; (subst z0; rfl); by_cases z1 : a = 34; (subst z1; rfl); by_cases z2 : a = 35; (subst z2; rfl); simp only [am_ui, am_ul, am_row_ne z0, am_row_ne z1, am_row_ne z2]))
                  show am_F _ _ 116 [.ref 0, .int (nI loan_n), .int what, .ref 11] [] (am_S (am_row (am_row (am_row f 1 y9.1) 34 y9.2.1) 35 y9.2.2.1) (am_row g 1 y9.2.2.2)) _
                  refine am_F.ops (pc' := 121) (L' := [.ref 0, .int (nI loan_n), .int what, .ref 11]) (S' := [.int (nI loan_n), .ref 1]) (μ' := (am_S (am_row (am_row (am_row f 1 y9.1) 34 y9.2.1) 35 y9.2.2.1) (am_row g 1 y9.2.2.2))) 3 rfl ?_
                  refine am_F.call rfl rfl (x_isStanding (nI loan_n) (am_row (am_row (am_row f 1 y9.1) 34 y9.2.1) 35 y9.2.2.1) (am_row g 1 y9.2.2.2) ) (by decide) ?_
                  show am_F _ _ 124 [.ref 0, .int (nI loan_n), .int what, .ref 11] [.int (am_b (fn_isStanding (nI loan_n) (am_row g 1 y9.2.2.2)))] (am_S (am_row (am_row (am_row f 1 y9.1) 34 y9.2.1) 35 y9.2.2.1) (am_row g 1 y9.2.2.2)) _
                  refine am_F.to (am_To.bifB (pc' := 132) (L2 := [.ref 0, .int (nI loan_n), .int what, .ref 11]) (S2 := []) (μ2 := (am_S (am_row (am_row (am_row f 1 y9.1) 34 y9.2.1) 35 y9.2.2.1) (am_row g 1 y9.2.2.2))) (a := true) (b := false) 1 rfl (fun c10 => ?_) (fun c10 => ?_)) ?_
                  · intro res9 g9
                    show am_F _ _ 127 [.ref 0, .int (nI loan_n), .int what, .ref 11] [] (am_S (am_row (am_row (am_row f 1 y9.1) 34 y9.2.1) 35 y9.2.2.1) (am_row g 1 y9.2.2.2)) _
                    refine am_F.ops (pc' := 132) (L' := [.ref 0, .int (nI loan_n), .int what, .ref 11]) (S' := [.int 1]) (μ' := (am_S (am_row (am_row (am_row f 1 y9.1) 34 y9.2.1) 35 y9.2.2.1) (am_row g 1 y9.2.2.2))) 2 rfl ?_
                    exact g9
                  · intro res9 g9
                    show am_F _ _ 131 [.ref 0, .int (nI loan_n), .int what, .ref 11] [] (am_S (am_row (am_row (am_row f 1 y9.1) 34 y9.2.1) 35 y9.2.2.1) (am_row g 1 y9.2.2.2)) _
                    refine am_F.ops (pc' := 132) (L' := [.ref 0, .int (nI loan_n), .int what, .ref 11]) (S' := [.int 0]) (μ' := (am_S (am_row (am_row (am_row f 1 y9.1) 34 y9.2.1) 35 y9.2.2.1) (am_row g 1 y9.2.2.2))) 1 rfl ?_
                    exact g9
                  show am_F _ _ 132 [.ref 0, .int (nI loan_n), .int what, .ref 11] [.int (am_b (bif (fn_isStanding (nI loan_n) (am_row g 1 y9.2.2.2)) then true else false))] (am_S (am_row (am_row (am_row f 1 y9.1) 34 y9.2.1) 35 y9.2.2.1) (am_row g 1 y9.2.2.2)) _
                  subst hKd
                  exact am_F.eq (am_F.ret rfl rfl) hK
                · skip
                  show am_F _ _ 133 [.ref 0, .int (nI loan_n), .int what, .ref 11] [] (am_S f g) _
                  refine am_F.ops (pc' := 134) (L' := [.ref 0, .int (nI loan_n), .int what, .ref 11]) (S' := [.int (-1)]) (μ' := (am_S f g)) 1 rfl ?_
                  refine am_F.mem (F' := (am_row (am_row (am_row f 1 (f 1)) 34 (f 34)) 35 (f 35))) (G' := (am_row g 1 (g 1))) ?_ (by first | rfl | (funext a; by_cases z0 : a = 1; (subst z0; rfl); by_cases z1 : a = 34; (subst z1; rfl); by_cases z2 : a = 35; (subst z2; rfl); simp only [am_ui, am_ul, am_row_ne z0, am_row_ne z1, am_row_ne z2])) (by first | rfl | (funext a; by_cases z0 : a = 1; (subst z0; rfl); by_cases z1 : a = 34; (subst z1; rfl); by_cases z2 : a = 35; (subst z2; rfl); simp only [am_ui, am_ul, am_row_ne z0, am_row_ne z1, am_row_ne z2]))
                  subst hKd
                  exact am_F.eq (am_F.ret rfl rfl) hK
  · show am_F _ _ 8 [.ref 0, .int loan, .int what, am_un] [] (am_S f g) _
    refine am_F.ops (pc' := 9) (L' := [.ref 0, .int loan, .int what, am_un]) (S' := [.int (-1)]) (μ' := (am_S f g)) 1 rfl ?_
    refine am_F.mem (F' := (am_row (am_row (am_row f 1 (f 1)) 34 (f 34)) 35 (f 35))) (G' := (am_row g 1 (g 1))) ?_ (by first | rfl | (funext a; by_cases z0 : a = 1; (subst z0; rfl); by_cases z1 : a = 34; (subst z1; rfl); by_cases z2 : a = 35; (subst z2; rfl); simp only [am_ui, am_ul, am_row_ne z0, am_row_ne z1, am_row_ne z2])) (by first | rfl | (funext a; by_cases z0 : a = 1; (subst z0; rfl); by_cases z1 : a = 34; (subst z1; rfl); by_cases z2 : a = 35; (subst z2; rfl); simp only [am_ui, am_ul, am_row_ne z0, am_row_ne z1, am_row_ne z2]))
    subst hKd
    exact am_F.eq (am_F.ret rfl rfl) hK
/-- AccessLattice.holds -/
def fn_holds (user : Int32) (way : Int32) (f : Nat → Nat → Int32) (g : Nat → Nat → Int64) : Int32 × (Nat → Int32) × (Nat → Int32) × (Nat → Int32) × (Nat → Int64) := (bif (fn_isUser user) then (bif (fn_between way 0 2) then (if way = 1 then (f 30 (user.toNatClampNeg), f 1, f 34, f 35, g 1) else ((if way = 0 then (fn_settle (f 2 12) f g).2.2.1 (user.toNatClampNeg) else (fn_settle (f 2 12) f g).2.1 (user.toNatClampNeg)), (fn_settle (f 2 12) f g).1, (fn_settle (f 2 12) f g).2.1, (fn_settle (f 2 12) f g).2.2.1, (fn_settle (f 2 12) f g).2.2.2)) else ((-1), f 1, f 34, f 35, g 1)) else ((-1), f 1, f 34, f 35, g 1))
theorem x_holds (user : Int32) (way : Int32) (f : Nat → Nat → Int32) (g : Nat → Nat → Int64) (hLc : f 11 7 = nI (f 11 7).toNatClampNeg) (hLn : (f 11 7).toNatClampNeg ≤ 40) (hLf : ∀ i, i < (f 11 7).toNatClampNeg → am_inb (f 12 i) 16 = true) (hLt : ∀ i, i < (f 11 7).toNatClampNeg → am_inb (f 13 i) 16 = true) (hLr : ∀ i, i < (f 11 7).toNatClampNeg → am_inb (f 14 i) 20 = true) (hRc : f 18 11 = nI (f 18 11).toNatClampNeg) (hRn : (f 18 11).toNatClampNeg ≤ 30) : am_D 4 44 3 [.ref 0, .int user, .int way] (am_S f g) (some (Value.int ((fn_holds user way f g).1)), am_S (am_row (am_row (am_row f 1 ((fn_holds user way f g).2.1)) 34 ((fn_holds user way f g).2.2.1)) 35 ((fn_holds user way f g).2.2.2.1)) (am_row g 1 ((fn_holds user way f g).2.2.2.2))) := by
  refine am_D.of (code := am_k_44) rfl (L0 := [.ref 0, .int user, .int way]) rfl ?_
  generalize hres : (some (Value.int ((fn_holds user way f g).1)), am_S (am_row (am_row (am_row f 1 ((fn_holds user way f g).2.1)) 34 ((fn_holds user way f g).2.2.1)) 35 ((fn_holds user way f g).2.2.2.1)) (am_row g 1 ((fn_holds user way f g).2.2.2.2))) = res
  obtain ⟨K, hKd⟩ : ∃ K : (Int32 × (Nat → Int32) × (Nat → Int32) × (Nat → Int32) × (Nat → Int64)) → Prop, K = fun z => (some (Value.int z.1), am_S (am_row (am_row (am_row f 1 z.2.1) 34 z.2.2.1) 35 z.2.2.2.1) (am_row g 1 z.2.2.2.2)) = res := ⟨_, rfl⟩
  have hK : K (fn_holds user way f g) := by rw [hKd]; exact hres
  clear hres
  unfold fn_holds at hK
  refine am_F.ops (pc' := 1) (L' := [.ref 0, .int user, .int way]) (S' := [.int user]) (μ' := (am_S f g)) 1 rfl ?_
  refine am_F.call rfl rfl (x_isUser user f g ) (by decide) ?_
  show am_F _ _ 4 [.ref 0, .int user, .int way] [.int (am_b (fn_isUser user))] (am_S f g) _
  refine am_F.bifK 1 rfl K hK (fun c1 hK => ?_) (fun c1 hK => ?_)
  · obtain ⟨user_n, huser_n, euser_n⟩ := am_isUser c1
    subst euser_n
    try simp only [nI_clamp (show user_n < 2147483648 by omega)] at hK
    show am_F _ _ 7 [.ref 0, .int (nI user_n), .int way] [] (am_S f g) _
    refine am_F.ops (pc' := 10) (L' := [.ref 0, .int (nI user_n), .int way]) (S' := [.int 2, .int 0, .int way]) (μ' := (am_S f g)) 3 rfl ?_
    refine am_F.call rfl rfl (x_between way 0 2 f g ) (by decide) ?_
    show am_F _ _ 13 [.ref 0, .int (nI user_n), .int way] [.int (am_b (fn_between way 0 2))] (am_S f g) _
    refine am_F.bifK 1 rfl K hK (fun c2 hK => ?_) (fun c2 hK => ?_)
    · obtain ⟨way_n, hway_n, eway_n⟩ := am_btwN c2 (by decide)
      subst eway_n
      try simp only [nI_clamp (show way_n < 2147483648 by omega)] at hK
      show am_F _ _ 18 [.ref 0, .int (nI user_n), .int (nI way_n)] [] (am_S f g) _
      refine am_F.ops (pc' := 20) (L' := [.ref 0, .int (nI user_n), .int (nI way_n)]) (S' := [.int 1, .int (nI way_n)]) (μ' := (am_S f g)) 2 rfl ?_
      refine am_F.iteK 1 rfl K hK (fun c3 hK => ?_) (fun c3 hK => ?_)
      · show am_F _ _ 23 [.ref 0, .int (nI user_n), .int (nI way_n)] [] (am_S f g) _
        refine am_F.ops (pc' := 31) (L' := [.ref 0, .int (nI user_n), .int (nI way_n)]) (S' := [.int (nI user_n), .ref 30]) (μ' := (am_S f g)) 4 rfl ?_
        refine am_F.ialE (m := user_n) (N := 16) rfl rfl rfl rfl (by omega) (by decide) ?_
        show am_F _ _ 32 [.ref 0, .int (nI user_n), .int (nI way_n)] [.int (f 30 user_n)] (am_S f g) _
        refine am_F.mem (F' := (am_row (am_row (am_row f 1 (f 1)) 34 (f 34)) 35 (f 35))) (G' := (am_row g 1 (g 1))) ?_ (by first | rfl | (funext a; by_cases z0 : a = 1; (subst z0; rfl); by_cases z1 : a = 34; (subst z1; rfl); by_cases z2 : a = 35; (subst z2; rfl); simp only [am_ui, am_ul, am_row_ne z0, am_row_ne z1, am_row_ne z2])) (by first | rfl | (funext a; by_cases z0 : a = 1; (subst z0; rfl); by_cases z1 : a = 34; (subst z1; rfl); by_cases z2 : a = 35; (subst z2; rfl); simp only [am_ui, am_ul, am_row_ne z0, am_row_ne z1, am_row_ne z2]))
        subst hKd
        exact am_F.eq (am_F.ret rfl rfl) hK
      · show am_F _ _ 33 [.ref 0, .int (nI user_n), .int (nI way_n)] [] (am_S f g) _
        refine am_F.ops (pc' := 44) (L' := [.ref 0, .int (nI user_n), .int (nI way_n)]) (S' := [.int (f 2 12), .ref 1]) (μ' := (am_S f g)) 5 rfl ?_
        refine am_F.call rfl rfl (x_settle (f 2 12) f g hLc hLn hLf hLt hLr hRc hRn) (by decide) ?_
        obtain ⟨y4, hy4⟩ : ∃ z, (fn_settle (f 2 12) f g) = z := ⟨_, rfl⟩
        (try rw [hy4] at hK)
        (try rw [hy4])
        refine am_F.mem (F' := (am_row (am_row (am_row f 1 y4.1) 34 y4.2.1) 35 y4.2.2.1)) (G' := (am_row g 1 y4.2.2.2)) ?_ (by first | rfl | (funext a; by_cases z0 : a = 1; (subst z0; rfl); by_cases z1 : a = 34; (subst z1; rfl); by_cases z2 : a = 35; (subst z2; rfl); simp only [am_ui, am_ul, am_row_ne z0, am_row_ne z1, am_row_ne z2])) (by first | rfl | (funext a; by_cases z0 : a = 1; (subst z0; rfl); by_cases z1 : a = 34; (subst z1; rfl); by_cases z2 : a = 35; (subst z2; rfl); simp only [am_ui, am_ul, am_row_ne z0, am_row_ne z1, am_row_ne z2]))
        show am_F _ _ 47 [.ref 0, .int (nI user_n), .int (nI way_n)] [] (am_S (am_row (am_row (am_row f 1 y4.1) 34 y4.2.1) 35 y4.2.2.1) (am_row g 1 y4.2.2.2)) _
        refine am_F.ops (pc' := 48) (L' := [.ref 0, .int (nI user_n), .int (nI way_n)]) (S' := [.int (nI way_n)]) (μ' := (am_S (am_row (am_row (am_row f 1 y4.1) 34 y4.2.1) 35 y4.2.2.1) (am_row g 1 y4.2.2.2))) 1 rfl ?_
        refine am_F.to (am_To.ite (pc' := 72) (L2 := [.ref 0, .int (nI user_n), .int (nI way_n)]) (S2 := []) (μ2 := (am_S (am_row (am_row (am_row f 1 y4.1) 34 y4.2.1) 35 y4.2.2.1) (am_row g 1 y4.2.2.2))) (a := y4.2.2.1 user_n) (b := y4.2.1 user_n) 1 rfl (fun c5 => ?_) (fun c5 => ?_)) ?_
        · intro res9 g9
          show am_F _ _ 51 [.ref 0, .int (nI user_n), .int (nI way_n)] [] (am_S (am_row (am_row (am_row f 1 y4.1) 34 y4.2.1) 35 y4.2.2.1) (am_row g 1 y4.2.2.2)) _
          refine am_F.ops (pc' := 59) (L' := [.ref 0, .int (nI user_n), .int (nI way_n)]) (S' := [.int (nI user_n), .ref 35]) (μ' := (am_S (am_row (am_row (am_row f 1 y4.1) 34 y4.2.1) 35 y4.2.2.1) (am_row g 1 y4.2.2.2))) 4 rfl ?_
          refine am_F.ialE (m := user_n) (N := 16) rfl rfl rfl rfl (by omega) (by decide) ?_
          show am_F _ _ 60 [.ref 0, .int (nI user_n), .int (nI way_n)] [.int (y4.2.2.1 user_n)] (am_S (am_row (am_row (am_row f 1 y4.1) 34 y4.2.1) 35 y4.2.2.1) (am_row g 1 y4.2.2.2)) _
          refine am_F.ops (pc' := 72) (L' := [.ref 0, .int (nI user_n), .int (nI way_n)]) (S' := [.int (y4.2.2.1 user_n)]) (μ' := (am_S (am_row (am_row (am_row f 1 y4.1) 34 y4.2.1) 35 y4.2.2.1) (am_row g 1 y4.2.2.2))) 1 rfl ?_
          exact g9
        · intro res9 g9
          show am_F _ _ 63 [.ref 0, .int (nI user_n), .int (nI way_n)] [] (am_S (am_row (am_row (am_row f 1 y4.1) 34 y4.2.1) 35 y4.2.2.1) (am_row g 1 y4.2.2.2)) _
          refine am_F.ops (pc' := 71) (L' := [.ref 0, .int (nI user_n), .int (nI way_n)]) (S' := [.int (nI user_n), .ref 34]) (μ' := (am_S (am_row (am_row (am_row f 1 y4.1) 34 y4.2.1) 35 y4.2.2.1) (am_row g 1 y4.2.2.2))) 4 rfl ?_
          refine am_F.ialE (m := user_n) (N := 16) rfl rfl rfl rfl (by omega) (by decide) ?_
          show am_F _ _ 72 [.ref 0, .int (nI user_n), .int (nI way_n)] [.int (y4.2.1 user_n)] (am_S (am_row (am_row (am_row f 1 y4.1) 34 y4.2.1) 35 y4.2.2.1) (am_row g 1 y4.2.2.2)) _
          exact g9
        show am_F _ _ 72 [.ref 0, .int (nI user_n), .int (nI way_n)] [.int (if (nI way_n) = 0 then y4.2.2.1 user_n else y4.2.1 user_n)] (am_S (am_row (am_row (am_row f 1 y4.1) 34 y4.2.1) 35 y4.2.2.1) (am_row g 1 y4.2.2.2)) _
        subst hKd
        exact am_F.eq (am_F.ret rfl rfl) hK
    · show am_F _ _ 16 [.ref 0, .int (nI user_n), .int way] [] (am_S f g) _
      refine am_F.ops (pc' := 17) (L' := [.ref 0, .int (nI user_n), .int way]) (S' := [.int (-1)]) (μ' := (am_S f g)) 1 rfl ?_
      refine am_F.mem (F' := (am_row (am_row (am_row f 1 (f 1)) 34 (f 34)) 35 (f 35))) (G' := (am_row g 1 (g 1))) ?_ (by first | rfl | (funext a; by_cases z0 : a = 1; (subst z0; rfl); by_cases z1 : a = 34; (subst z1; rfl); by_cases z2 : a = 35; (subst z2; rfl); simp only [am_ui, am_ul, am_row_ne z0, am_row_ne z1, am_row_ne z2])) (by first | rfl | (funext a; by_cases z0 : a = 1; (subst z0; rfl); by_cases z1 : a = 34; (subst z1; rfl); by_cases z2 : a = 35; (subst z2; rfl); simp only [am_ui, am_ul, am_row_ne z0, am_row_ne z1, am_row_ne z2]))
      subst hKd
      exact am_F.eq (am_F.ret rfl rfl) hK
  · show am_F _ _ 16 [.ref 0, .int user, .int way] [] (am_S f g) _
    refine am_F.ops (pc' := 17) (L' := [.ref 0, .int user, .int way]) (S' := [.int (-1)]) (μ' := (am_S f g)) 1 rfl ?_
    refine am_F.mem (F' := (am_row (am_row (am_row f 1 (f 1)) 34 (f 34)) 35 (f 35))) (G' := (am_row g 1 (g 1))) ?_ (by first | rfl | (funext a; by_cases z0 : a = 1; (subst z0; rfl); by_cases z1 : a = 34; (subst z1; rfl); by_cases z2 : a = 35; (subst z2; rfl); simp only [am_ui, am_ul, am_row_ne z0, am_row_ne z1, am_row_ne z2])) (by first | rfl | (funext a; by_cases z0 : a = 1; (subst z0; rfl); by_cases z1 : a = 34; (subst z1; rfl); by_cases z2 : a = 35; (subst z2; rfl); simp only [am_ui, am_ul, am_row_ne z0, am_row_ne z1, am_row_ne z2]))
    subst hKd
    exact am_F.eq (am_F.ret rfl rfl) hK
/-- AccessLattice.off -/
def fn_off (rule : Int32) (f : Nat → Nat → Int32) : Int32 × (Nat → Int32) := (bif (fn_isRule rule f) then ((fn_bitCount ((f 18 8) &&& ((1 <<< (rule &&& 31)) ^^^ (-1)))), upd (f 18) 8 ((f 18 8) &&& ((1 <<< (rule &&& 31)) ^^^ (-1)))) else ((-1), f 18))
theorem x_off (rule : Int32) (f : Nat → Nat → Int32) (g : Nat → Nat → Int64) (hRc : f 18 11 = nI (f 18 11).toNatClampNeg) (hRn : (f 18 11).toNatClampNeg ≤ 30) : am_D 2 65 2 [.ref 0, .int rule] (am_S f g) (some (Value.int ((fn_off rule f).1)), am_S (am_row f 18 ((fn_off rule f).2)) g) := by
  refine am_D.of (code := am_k_65) rfl (L0 := [.ref 0, .int rule]) rfl ?_
  generalize hres : (some (Value.int ((fn_off rule f).1)), am_S (am_row f 18 ((fn_off rule f).2)) g) = res
  obtain ⟨K, hKd⟩ : ∃ K : (Int32 × (Nat → Int32)) → Prop, K = fun z => (some (Value.int z.1), am_S (am_row f 18 z.2) g) = res := ⟨_, rfl⟩
  have hK : K (fn_off rule f) := by rw [hKd]; exact hres
  clear hres
  unfold fn_off at hK
  refine am_F.ops (pc' := 2) (L' := [.ref 0, .int rule]) (S' := [.int rule, .ref 0]) (μ' := (am_S f g)) 2 rfl ?_
  refine am_F.call rfl rfl (x_isRule rule f g hRc hRn) (by decide) ?_
  show am_F _ _ 5 [.ref 0, .int rule] [.int (am_b (fn_isRule rule f))] (am_S f g) _
  refine am_F.bifK 1 rfl K hK (fun c1 hK => ?_) (fun c1 hK => ?_)
  · obtain ⟨rule_n, hrule_n, erule_n⟩ := (am_iRule hRc (by omega) c1)
    subst erule_n
    try simp only [nI_clamp (show rule_n < 2147483648 by omega)] at hK
    show am_F _ _ 10 [.ref 0, .int (nI rule_n)] [] (am_S f g) _
    refine am_F.ops (pc' := 27) (L' := [.ref 0, .int (nI rule_n)]) (S' := [.int ((f 18 8) &&& ((1 <<< ((nI rule_n) &&& 31)) ^^^ (-1))), .ref 18]) (μ' := (am_S f g)) 11 rfl ?_
    refine am_F.pfi (F' := (am_row f 18 (upd (f 18) 8 ((f 18 8) &&& ((1 <<< ((nI rule_n) &&& 31)) ^^^ (-1)))))) rfl rfl (by first | rfl | (funext a; by_cases z0 : a = 18; (subst z0; rfl); simp only [am_ui, am_ul, am_row_ne z0])) ?_
    refine am_F.ops (pc' := 40) (L' := [.ref 0, .int (nI rule_n)]) (S' := [.int ((f 18 8) &&& ((1 <<< ((nI rule_n) &&& 31)) ^^^ (-1)))]) (μ' := (am_S (am_row f 18 (upd (f 18) 8 ((f 18 8) &&& ((1 <<< ((nI rule_n) &&& 31)) ^^^ (-1))))) g)) 4 rfl ?_
    refine am_F.call rfl rfl (x_bitCount ((f 18 8) &&& ((1 <<< ((nI rule_n) &&& 31)) ^^^ (-1))) (am_row f 18 (upd (f 18) 8 ((f 18 8) &&& ((1 <<< ((nI rule_n) &&& 31)) ^^^ (-1))))) g ) (by decide) ?_
    show am_F _ _ 43 [.ref 0, .int (nI rule_n)] [.int (fn_bitCount ((f 18 8) &&& ((1 <<< ((nI rule_n) &&& 31)) ^^^ (-1))))] (am_S (am_row f 18 (upd (f 18) 8 ((f 18 8) &&& ((1 <<< ((nI rule_n) &&& 31)) ^^^ (-1))))) g) _
    subst hKd
    exact am_F.eq (am_F.ret rfl rfl) hK
  · show am_F _ _ 8 [.ref 0, .int rule] [] (am_S f g) _
    refine am_F.ops (pc' := 9) (L' := [.ref 0, .int rule]) (S' := [.int (-1)]) (μ' := (am_S f g)) 1 rfl ?_
    refine am_F.mem (F' := (am_row f 18 (f 18))) (G' := g) ?_ (by first | rfl | (funext a; by_cases z0 : a = 18; (subst z0; rfl); simp only [am_ui, am_ul, am_row_ne z0])) (by first | rfl | (funext a; by_cases z0 : a = 18; (subst z0; rfl); simp only [am_ui, am_ul, am_row_ne z0]))
    subst hKd
    exact am_F.eq (am_F.ret rfl rfl) hK
/-- AccessLattice.of -/
def fn_of (rule : Int32) (what : Int32) (f : Nat → Nat → Int32) : Int32 := (bif (fn_isRule rule f) then (if what = 0 then am_b (bif (fn_has (f 18 9) rule) then true else false) else (if what = 1 then f 19 (rule.toNatClampNeg) else (if what = 2 then f 20 (rule.toNatClampNeg) else (if what = 3 then f 21 (rule.toNatClampNeg) else (if what = 4 then am_b (bif (fn_has (f 18 10) rule) then true else false) else (if what = 5 then f 22 (rule.toNatClampNeg) else (if what = 6 then f 23 (rule.toNatClampNeg) else (if what = 7 then am_b (if (f 25 (rule.toNatClampNeg)) ≤ 0 then false else true) else (-1))))))))) else (-1))
theorem x_of (rule : Int32) (what : Int32) (f : Nat → Nat → Int32) (g : Nat → Nat → Int64) (hRc : f 18 11 = nI (f 18 11).toNatClampNeg) (hRn : (f 18 11).toNatClampNeg ≤ 30) : am_D 2 67 4 [.ref 0, .int rule, .int what] (am_S f g) (some (Value.int (fn_of rule what f)), am_S f g) := by
  refine am_D.of (code := am_k_67) rfl (L0 := [.ref 0, .int rule, .int what, am_un]) rfl ?_
  generalize hres : (some (Value.int (fn_of rule what f)), am_S f g) = res
  obtain ⟨K, hKd⟩ : ∃ K : Int32 → Prop, K = fun z => (some (Value.int z), am_S f g) = res := ⟨_, rfl⟩
  have hK : K (fn_of rule what f) := by rw [hKd]; exact hres
  clear hres
  unfold fn_of at hK
  refine am_F.ops (pc' := 2) (L' := [.ref 0, .int rule, .int what, am_un]) (S' := [.int rule, .ref 0]) (μ' := (am_S f g)) 2 rfl ?_
  refine am_F.call rfl rfl (x_isRule rule f g hRc hRn) (by decide) ?_
  show am_F _ _ 5 [.ref 0, .int rule, .int what, am_un] [.int (am_b (fn_isRule rule f))] (am_S f g) _
  refine am_F.bifK 1 rfl K hK (fun c1 hK => ?_) (fun c1 hK => ?_)
  · obtain ⟨rule_n, hrule_n, erule_n⟩ := (am_iRule hRc (by omega) c1)
    subst erule_n
    try simp only [nI_clamp (show rule_n < 2147483648 by omega)] at hK
    show am_F _ _ 10 [.ref 0, .int (nI rule_n), .int what, am_un] [] (am_S f g) _
    refine am_F.ops (pc' := 19) (L' := [.ref 0, .int (nI rule_n), .int what, .ref 18]) (S' := [.int what]) (μ' := (am_S f g)) 5 rfl ?_
    refine am_F.ops (pc' := am_ltg [(0, 64), (1, 81), (2, 88), (3, 95), (4, 102), (5, 119), (6, 126), (7, 133)] 148 what) (L' := [.ref 0, .int (nI rule_n), .int what, .ref 18]) (S' := []) (μ' := (am_S f g)) 1 (am_tswE (tg := [64, 81, 88, 95, 102, 119, 126, 133]) (lo := 0) rfl rfl (by decide) (by decide)) ?_
    refine am_F.ltg K hK (fun c2 hK => ?_) (fun c2 hK => ?_)
    · show am_F _ _ 64 [.ref 0, .int (nI rule_n), .int what, .ref 18] [] (am_S f g) _
      refine am_F.ops (pc' := 69) (L' := [.ref 0, .int (nI rule_n), .int what, .ref 18]) (S' := [.int (nI rule_n), .int (f 18 9)]) (μ' := (am_S f g)) 3 rfl ?_
      refine am_F.call rfl rfl (x_has (f 18 9) (nI rule_n) f g ) (by decide) ?_
      show am_F _ _ 72 [.ref 0, .int (nI rule_n), .int what, .ref 18] [.int (am_b (fn_has (f 18 9) (nI rule_n)))] (am_S f g) _
      refine am_F.to (am_To.bifB (pc' := 80) (L2 := [.ref 0, .int (nI rule_n), .int what, .ref 18]) (S2 := []) (μ2 := (am_S f g)) (a := true) (b := false) 1 rfl (fun c3 => ?_) (fun c3 => ?_)) ?_
      · intro res9 g9
        show am_F _ _ 75 [.ref 0, .int (nI rule_n), .int what, .ref 18] [] (am_S f g) _
        refine am_F.ops (pc' := 80) (L' := [.ref 0, .int (nI rule_n), .int what, .ref 18]) (S' := [.int 1]) (μ' := (am_S f g)) 2 rfl ?_
        exact g9
      · intro res9 g9
        show am_F _ _ 79 [.ref 0, .int (nI rule_n), .int what, .ref 18] [] (am_S f g) _
        refine am_F.ops (pc' := 80) (L' := [.ref 0, .int (nI rule_n), .int what, .ref 18]) (S' := [.int 0]) (μ' := (am_S f g)) 1 rfl ?_
        exact g9
      show am_F _ _ 80 [.ref 0, .int (nI rule_n), .int what, .ref 18] [.int (am_b (bif (fn_has (f 18 9) (nI rule_n)) then true else false))] (am_S f g) _
      subst hKd
      exact am_F.eq (am_F.ret rfl rfl) hK
    · skip
      refine am_F.ltg K hK (fun c4 hK => ?_) (fun c4 hK => ?_)
      · show am_F _ _ 81 [.ref 0, .int (nI rule_n), .int what, .ref 18] [] (am_S f g) _
        refine am_F.ops (pc' := 86) (L' := [.ref 0, .int (nI rule_n), .int what, .ref 18]) (S' := [.int (nI rule_n), .ref 19]) (μ' := (am_S f g)) 3 rfl ?_
        refine am_F.ialE (m := rule_n) (N := 30) rfl rfl rfl rfl (by omega) (by decide) ?_
        show am_F _ _ 87 [.ref 0, .int (nI rule_n), .int what, .ref 18] [.int (f 19 rule_n)] (am_S f g) _
        subst hKd
        exact am_F.eq (am_F.ret rfl rfl) hK
      · skip
        refine am_F.ltg K hK (fun c5 hK => ?_) (fun c5 hK => ?_)
        · show am_F _ _ 88 [.ref 0, .int (nI rule_n), .int what, .ref 18] [] (am_S f g) _
          refine am_F.ops (pc' := 93) (L' := [.ref 0, .int (nI rule_n), .int what, .ref 18]) (S' := [.int (nI rule_n), .ref 20]) (μ' := (am_S f g)) 3 rfl ?_
          refine am_F.ialE (m := rule_n) (N := 30) rfl rfl rfl rfl (by omega) (by decide) ?_
          show am_F _ _ 94 [.ref 0, .int (nI rule_n), .int what, .ref 18] [.int (f 20 rule_n)] (am_S f g) _
          subst hKd
          exact am_F.eq (am_F.ret rfl rfl) hK
        · skip
          refine am_F.ltg K hK (fun c6 hK => ?_) (fun c6 hK => ?_)
          · show am_F _ _ 95 [.ref 0, .int (nI rule_n), .int what, .ref 18] [] (am_S f g) _
            refine am_F.ops (pc' := 100) (L' := [.ref 0, .int (nI rule_n), .int what, .ref 18]) (S' := [.int (nI rule_n), .ref 21]) (μ' := (am_S f g)) 3 rfl ?_
            refine am_F.ialE (m := rule_n) (N := 30) rfl rfl rfl rfl (by omega) (by decide) ?_
            show am_F _ _ 101 [.ref 0, .int (nI rule_n), .int what, .ref 18] [.int (f 21 rule_n)] (am_S f g) _
            subst hKd
            exact am_F.eq (am_F.ret rfl rfl) hK
          · skip
            refine am_F.ltg K hK (fun c7 hK => ?_) (fun c7 hK => ?_)
            · show am_F _ _ 102 [.ref 0, .int (nI rule_n), .int what, .ref 18] [] (am_S f g) _
              refine am_F.ops (pc' := 107) (L' := [.ref 0, .int (nI rule_n), .int what, .ref 18]) (S' := [.int (nI rule_n), .int (f 18 10)]) (μ' := (am_S f g)) 3 rfl ?_
              refine am_F.call rfl rfl (x_has (f 18 10) (nI rule_n) f g ) (by decide) ?_
              show am_F _ _ 110 [.ref 0, .int (nI rule_n), .int what, .ref 18] [.int (am_b (fn_has (f 18 10) (nI rule_n)))] (am_S f g) _
              refine am_F.to (am_To.bifB (pc' := 118) (L2 := [.ref 0, .int (nI rule_n), .int what, .ref 18]) (S2 := []) (μ2 := (am_S f g)) (a := true) (b := false) 1 rfl (fun c8 => ?_) (fun c8 => ?_)) ?_
              · intro res9 g9
                show am_F _ _ 113 [.ref 0, .int (nI rule_n), .int what, .ref 18] [] (am_S f g) _
                refine am_F.ops (pc' := 118) (L' := [.ref 0, .int (nI rule_n), .int what, .ref 18]) (S' := [.int 1]) (μ' := (am_S f g)) 2 rfl ?_
                exact g9
              · intro res9 g9
                show am_F _ _ 117 [.ref 0, .int (nI rule_n), .int what, .ref 18] [] (am_S f g) _
                refine am_F.ops (pc' := 118) (L' := [.ref 0, .int (nI rule_n), .int what, .ref 18]) (S' := [.int 0]) (μ' := (am_S f g)) 1 rfl ?_
                exact g9
              show am_F _ _ 118 [.ref 0, .int (nI rule_n), .int what, .ref 18] [.int (am_b (bif (fn_has (f 18 10) (nI rule_n)) then true else false))] (am_S f g) _
              subst hKd
              exact am_F.eq (am_F.ret rfl rfl) hK
            · skip
              refine am_F.ltg K hK (fun c9 hK => ?_) (fun c9 hK => ?_)
              · show am_F _ _ 119 [.ref 0, .int (nI rule_n), .int what, .ref 18] [] (am_S f g) _
                refine am_F.ops (pc' := 124) (L' := [.ref 0, .int (nI rule_n), .int what, .ref 18]) (S' := [.int (nI rule_n), .ref 22]) (μ' := (am_S f g)) 3 rfl ?_
                refine am_F.ialE (m := rule_n) (N := 30) rfl rfl rfl rfl (by omega) (by decide) ?_
                show am_F _ _ 125 [.ref 0, .int (nI rule_n), .int what, .ref 18] [.int (f 22 rule_n)] (am_S f g) _
                subst hKd
                exact am_F.eq (am_F.ret rfl rfl) hK
              · skip
                refine am_F.ltg K hK (fun c10 hK => ?_) (fun c10 hK => ?_)
                · show am_F _ _ 126 [.ref 0, .int (nI rule_n), .int what, .ref 18] [] (am_S f g) _
                  refine am_F.ops (pc' := 131) (L' := [.ref 0, .int (nI rule_n), .int what, .ref 18]) (S' := [.int (nI rule_n), .ref 23]) (μ' := (am_S f g)) 3 rfl ?_
                  refine am_F.ialE (m := rule_n) (N := 30) rfl rfl rfl rfl (by omega) (by decide) ?_
                  show am_F _ _ 132 [.ref 0, .int (nI rule_n), .int what, .ref 18] [.int (f 23 rule_n)] (am_S f g) _
                  subst hKd
                  exact am_F.eq (am_F.ret rfl rfl) hK
                · skip
                  refine am_F.ltg K hK (fun c11 hK => ?_) (fun c11 hK => ?_)
                  · show am_F _ _ 133 [.ref 0, .int (nI rule_n), .int what, .ref 18] [] (am_S f g) _
                    refine am_F.ops (pc' := 138) (L' := [.ref 0, .int (nI rule_n), .int what, .ref 18]) (S' := [.int (nI rule_n), .ref 25]) (μ' := (am_S f g)) 3 rfl ?_
                    refine am_F.ialE (m := rule_n) (N := 30) rfl rfl rfl rfl (by omega) (by decide) ?_
                    show am_F _ _ 139 [.ref 0, .int (nI rule_n), .int what, .ref 18] [.int (f 25 rule_n)] (am_S f g) _
                    refine am_F.to (am_To.iteB (pc' := 147) (L2 := [.ref 0, .int (nI rule_n), .int what, .ref 18]) (S2 := []) (μ2 := (am_S f g)) (a := false) (b := true) 1 rfl (fun c12 => ?_) (fun c12 => ?_)) ?_
                    · intro res9 g9
                      show am_F _ _ 146 [.ref 0, .int (nI rule_n), .int what, .ref 18] [] (am_S f g) _
                      refine am_F.ops (pc' := 147) (L' := [.ref 0, .int (nI rule_n), .int what, .ref 18]) (S' := [.int 0]) (μ' := (am_S f g)) 1 rfl ?_
                      exact g9
                    · intro res9 g9
                      show am_F _ _ 142 [.ref 0, .int (nI rule_n), .int what, .ref 18] [] (am_S f g) _
                      refine am_F.ops (pc' := 147) (L' := [.ref 0, .int (nI rule_n), .int what, .ref 18]) (S' := [.int 1]) (μ' := (am_S f g)) 2 rfl ?_
                      exact g9
                    show am_F _ _ 147 [.ref 0, .int (nI rule_n), .int what, .ref 18] [.int (am_b (if (f 25 rule_n) ≤ 0 then false else true))] (am_S f g) _
                    subst hKd
                    exact am_F.eq (am_F.ret rfl rfl) hK
                  · skip
                    show am_F _ _ 148 [.ref 0, .int (nI rule_n), .int what, .ref 18] [] (am_S f g) _
                    refine am_F.ops (pc' := 149) (L' := [.ref 0, .int (nI rule_n), .int what, .ref 18]) (S' := [.int (-1)]) (μ' := (am_S f g)) 1 rfl ?_
                    subst hKd
                    exact am_F.eq (am_F.ret rfl rfl) hK
  · show am_F _ _ 8 [.ref 0, .int rule, .int what, am_un] [] (am_S f g) _
    refine am_F.ops (pc' := 9) (L' := [.ref 0, .int rule, .int what, am_un]) (S' := [.int (-1)]) (μ' := (am_S f g)) 1 rfl ?_
    subst hKd
    exact am_F.eq (am_F.ret rfl rfl) hK
/-- AccessLattice.uses -/
def fn_uses (rule : Int32) (n : Int32) (f : Nat → Nat → Int32) : Int32 × (Nat → Int32) := (bif (fn_isRule rule f) then (if n = (-1) then (1, upd (f 24) (rule.toNatClampNeg) n) else (bif (fn_between n 1 99) then (1, upd (f 24) (rule.toNatClampNeg) n) else ((-1), f 24))) else ((-1), f 24))
theorem x_uses (rule : Int32) (n : Int32) (f : Nat → Nat → Int32) (g : Nat → Nat → Int64) (hRc : f 18 11 = nI (f 18 11).toNatClampNeg) (hRn : (f 18 11).toNatClampNeg ≤ 30) : am_D 2 68 3 [.ref 0, .int rule, .int n] (am_S f g) (some (Value.int ((fn_uses rule n f).1)), am_S (am_row f 24 ((fn_uses rule n f).2)) g) := by
  refine am_D.of (code := am_k_68) rfl (L0 := [.ref 0, .int rule, .int n]) rfl ?_
  generalize hres : (some (Value.int ((fn_uses rule n f).1)), am_S (am_row f 24 ((fn_uses rule n f).2)) g) = res
  obtain ⟨K, hKd⟩ : ∃ K : (Int32 × (Nat → Int32)) → Prop, K = fun z => (some (Value.int z.1), am_S (am_row f 24 z.2) g) = res := ⟨_, rfl⟩
  have hK : K (fn_uses rule n f) := by rw [hKd]; exact hres
  clear hres
  unfold fn_uses at hK
  refine am_F.ops (pc' := 2) (L' := [.ref 0, .int rule, .int n]) (S' := [.int rule, .ref 0]) (μ' := (am_S f g)) 2 rfl ?_
  refine am_F.call rfl rfl (x_isRule rule f g hRc hRn) (by decide) ?_
  show am_F _ _ 5 [.ref 0, .int rule, .int n] [.int (am_b (fn_isRule rule f))] (am_S f g) _
  refine am_F.bifK 1 rfl K hK (fun c1 hK => ?_) (fun c1 hK => ?_)
  · obtain ⟨rule_n, hrule_n, erule_n⟩ := (am_iRule hRc (by omega) c1)
    subst erule_n
    try simp only [nI_clamp (show rule_n < 2147483648 by omega)] at hK
    show am_F _ _ 8 [.ref 0, .int (nI rule_n), .int n] [] (am_S f g) _
    refine am_F.ops (pc' := 10) (L' := [.ref 0, .int (nI rule_n), .int n]) (S' := [.int (-1), .int n]) (μ' := (am_S f g)) 2 rfl ?_
    refine am_F.iteK 1 rfl K hK (fun c2 hK => ?_) (fun c2 hK => ?_)
    · show am_F _ _ 25 [.ref 0, .int (nI rule_n), .int n] [] (am_S f g) _
      refine am_F.ops (pc' := 37) (L' := [.ref 0, .int (nI rule_n), .int n]) (S' := [.int n, .int (nI rule_n), .ref 24]) (μ' := (am_S f g)) 6 rfl ?_
      refine am_F.iasE (F' := (am_row f 24 (upd (f 24) rule_n n))) (m := rule_n) (N := 30) rfl rfl rfl rfl (by omega) (by decide) (by first | rfl | (funext a; by_cases z0 : a = 24; (subst z0; rfl); simp only [am_ui, am_ul, am_row_ne z0])) ?_
      refine am_F.ops (pc' := 39) (L' := [.ref 0, .int (nI rule_n), .int n]) (S' := [.int 1]) (μ' := (am_S (am_row f 24 (upd (f 24) rule_n n)) g)) 1 rfl ?_
      subst hKd
      exact am_F.eq (am_F.ret rfl rfl) hK
    · show am_F _ _ 13 [.ref 0, .int (nI rule_n), .int n] [] (am_S f g) _
      refine am_F.ops (pc' := 17) (L' := [.ref 0, .int (nI rule_n), .int n]) (S' := [.int 99, .int 1, .int n]) (μ' := (am_S f g)) 3 rfl ?_
      refine am_F.call rfl rfl (x_between n 1 99 f g ) (by decide) ?_
      show am_F _ _ 20 [.ref 0, .int (nI rule_n), .int n] [.int (am_b (fn_between n 1 99))] (am_S f g) _
      refine am_F.bifK 1 rfl K hK (fun c3 hK => ?_) (fun c3 hK => ?_)
      · show am_F _ _ 25 [.ref 0, .int (nI rule_n), .int n] [] (am_S f g) _
        refine am_F.ops (pc' := 37) (L' := [.ref 0, .int (nI rule_n), .int n]) (S' := [.int n, .int (nI rule_n), .ref 24]) (μ' := (am_S f g)) 6 rfl ?_
        refine am_F.iasE (F' := (am_row f 24 (upd (f 24) rule_n n))) (m := rule_n) (N := 30) rfl rfl rfl rfl (by omega) (by decide) (by first | rfl | (funext a; by_cases z0 : a = 24; (subst z0; rfl); simp only [am_ui, am_ul, am_row_ne z0])) ?_
        refine am_F.ops (pc' := 39) (L' := [.ref 0, .int (nI rule_n), .int n]) (S' := [.int 1]) (μ' := (am_S (am_row f 24 (upd (f 24) rule_n n)) g)) 1 rfl ?_
        subst hKd
        exact am_F.eq (am_F.ret rfl rfl) hK
      · show am_F _ _ 23 [.ref 0, .int (nI rule_n), .int n] [] (am_S f g) _
        refine am_F.ops (pc' := 24) (L' := [.ref 0, .int (nI rule_n), .int n]) (S' := [.int (-1)]) (μ' := (am_S f g)) 1 rfl ?_
        refine am_F.mem (F' := (am_row f 24 (f 24))) (G' := g) ?_ (by first | rfl | (funext a; by_cases z0 : a = 24; (subst z0; rfl); simp only [am_ui, am_ul, am_row_ne z0])) (by first | rfl | (funext a; by_cases z0 : a = 24; (subst z0; rfl); simp only [am_ui, am_ul, am_row_ne z0]))
        subst hKd
        exact am_F.eq (am_F.ret rfl rfl) hK
  · show am_F _ _ 23 [.ref 0, .int rule, .int n] [] (am_S f g) _
    refine am_F.ops (pc' := 24) (L' := [.ref 0, .int rule, .int n]) (S' := [.int (-1)]) (μ' := (am_S f g)) 1 rfl ?_
    refine am_F.mem (F' := (am_row f 24 (f 24))) (G' := g) ?_ (by first | rfl | (funext a; by_cases z0 : a = 24; (subst z0; rfl); simp only [am_ui, am_ul, am_row_ne z0])) (by first | rfl | (funext a; by_cases z0 : a = 24; (subst z0; rfl); simp only [am_ui, am_ul, am_row_ne z0]))
    subst hKd
    exact am_F.eq (am_F.ret rfl rfl) hK
/-- AccessLattice.left -/
def fn_left (rule : Int32) (f : Nat → Nat → Int32) : Int32 := (bif (fn_isRule rule f) then (if 0 ≤ (f 24 (rule.toNatClampNeg)) then f 24 (rule.toNatClampNeg) else (-2)) else (-1))
theorem x_left (rule : Int32) (f : Nat → Nat → Int32) (g : Nat → Nat → Int64) (hRc : f 18 11 = nI (f 18 11).toNatClampNeg) (hRn : (f 18 11).toNatClampNeg ≤ 30) : am_D 2 69 3 [.ref 0, .int rule] (am_S f g) (some (Value.int (fn_left rule f)), am_S f g) := by
  refine am_D.of (code := am_k_69) rfl (L0 := [.ref 0, .int rule, am_un]) rfl ?_
  generalize hres : (some (Value.int (fn_left rule f)), am_S f g) = res
  obtain ⟨K, hKd⟩ : ∃ K : Int32 → Prop, K = fun z => (some (Value.int z), am_S f g) = res := ⟨_, rfl⟩
  have hK : K (fn_left rule f) := by rw [hKd]; exact hres
  clear hres
  unfold fn_left at hK
  refine am_F.ops (pc' := 2) (L' := [.ref 0, .int rule, am_un]) (S' := [.int rule, .ref 0]) (μ' := (am_S f g)) 2 rfl ?_
  refine am_F.call rfl rfl (x_isRule rule f g hRc hRn) (by decide) ?_
  show am_F _ _ 5 [.ref 0, .int rule, am_un] [.int (am_b (fn_isRule rule f))] (am_S f g) _
  refine am_F.bifK 1 rfl K hK (fun c1 hK => ?_) (fun c1 hK => ?_)
  · obtain ⟨rule_n, hrule_n, erule_n⟩ := (am_iRule hRc (by omega) c1)
    subst erule_n
    try simp only [nI_clamp (show rule_n < 2147483648 by omega)] at hK
    show am_F _ _ 10 [.ref 0, .int (nI rule_n), am_un] [] (am_S f g) _
    refine am_F.ops (pc' := 21) (L' := [.ref 0, .int (nI rule_n), am_un]) (S' := [.int (nI rule_n), .ref 24]) (μ' := (am_S f g)) 5 rfl ?_
    refine am_F.ialE (m := rule_n) (N := 30) rfl rfl rfl rfl (by omega) (by decide) ?_
    show am_F _ _ 22 [.ref 0, .int (nI rule_n), am_un] [.int (f 24 rule_n)] (am_S f g) _
    refine am_F.ops (pc' := 24) (L' := [.ref 0, .int (nI rule_n), .int (f 24 rule_n)]) (S' := [.int (f 24 rule_n)]) (μ' := (am_S f g)) 2 rfl ?_
    refine am_F.to (am_To.ite (pc' := 33) (L2 := [.ref 0, .int (nI rule_n), .int (f 24 rule_n)]) (S2 := []) (μ2 := (am_S f g)) (a := f 24 rule_n) (b := (-2)) 1 rfl (fun c2 => ?_) (fun c2 => ?_)) ?_
    · intro res9 g9
      show am_F _ _ 32 [.ref 0, .int (nI rule_n), .int (f 24 rule_n)] [] (am_S f g) _
      refine am_F.ops (pc' := 33) (L' := [.ref 0, .int (nI rule_n), .int (f 24 rule_n)]) (S' := [.int (f 24 rule_n)]) (μ' := (am_S f g)) 1 rfl ?_
      exact g9
    · intro res9 g9
      show am_F _ _ 27 [.ref 0, .int (nI rule_n), .int (f 24 rule_n)] [] (am_S f g) _
      refine am_F.ops (pc' := 33) (L' := [.ref 0, .int (nI rule_n), .int (f 24 rule_n)]) (S' := [.int (-2)]) (μ' := (am_S f g)) 2 rfl ?_
      exact g9
    show am_F _ _ 33 [.ref 0, .int (nI rule_n), .int (f 24 rule_n)] [.int (if 0 ≤ (f 24 rule_n) then f 24 rule_n else (-2))] (am_S f g) _
    subst hKd
    exact am_F.eq (am_F.ret rfl rfl) hK
  · show am_F _ _ 8 [.ref 0, .int rule, am_un] [] (am_S f g) _
    refine am_F.ops (pc' := 9) (L' := [.ref 0, .int rule, am_un]) (S' := [.int (-1)]) (μ' := (am_S f g)) 1 rfl ?_
    subst hKd
    exact am_F.eq (am_F.ret rfl rfl) hK
/-- AccessLattice.why -/
def fn_why (i : Int32) (what : Int32) (f : Nat → Nat → Int32) : Int32 := (if i < 0 then (-1) else (bif (fn_within01 what) then (if (f 83 2) ≤ i then (-2) else (if i < 62 then (if what = 0 then f 84 i.toNatClampNeg else f 85 i.toNatClampNeg) else (-2))) else (-1)))
theorem x_why (i : Int32) (what : Int32) (f : Nat → Nat → Int32) (g : Nat → Nat → Int64)  : am_D 1 96 3 [.ref 0, .int i, .int what] (am_S f g) (some (Value.int (fn_why i what f)), am_S f g) := by
  refine am_D.of (code := am_k_96) rfl (L0 := [.ref 0, .int i, .int what]) rfl ?_
  generalize hres : (some (Value.int (fn_why i what f)), am_S f g) = res
  obtain ⟨K, hKd⟩ : ∃ K : Int32 → Prop, K = fun z => (some (Value.int z), am_S f g) = res := ⟨_, rfl⟩
  have hK : K (fn_why i what f) := by rw [hKd]; exact hres
  clear hres
  unfold fn_why at hK
  refine am_F.ops (pc' := 1) (L' := [.ref 0, .int i, .int what]) (S' := [.int i]) (μ' := (am_S f g)) 1 rfl ?_
  refine am_F.iteK 1 rfl K hK (fun c1 hK => ?_) (fun c1 hK => ?_)
  · show am_F _ _ 11 [.ref 0, .int i, .int what] [] (am_S f g) _
    refine am_F.ops (pc' := 12) (L' := [.ref 0, .int i, .int what]) (S' := [.int (-1)]) (μ' := (am_S f g)) 1 rfl ?_
    subst hKd
    exact am_F.eq (am_F.ret rfl rfl) hK
  · show am_F _ _ 4 [.ref 0, .int i, .int what] [] (am_S f g) _
    refine am_F.ops (pc' := 5) (L' := [.ref 0, .int i, .int what]) (S' := [.int what]) (μ' := (am_S f g)) 1 rfl ?_
    refine am_F.call rfl rfl (x_within01 what f g ) (by decide) ?_
    show am_F _ _ 8 [.ref 0, .int i, .int what] [.int (am_b (fn_within01 what))] (am_S f g) _
    refine am_F.bifK 1 rfl K hK (fun c2 hK => ?_) (fun c2 hK => ?_)
    · show am_F _ _ 13 [.ref 0, .int i, .int what] [] (am_S f g) _
      refine am_F.ops (pc' := 21) (L' := [.ref 0, .int i, .int what]) (S' := [.int (f 83 2), .int i]) (μ' := (am_S f g)) 4 rfl ?_
      refine am_F.iteK 1 rfl K hK (fun c3 hK => ?_) (fun c3 hK => ?_)
      · show am_F _ _ 36 [.ref 0, .int i, .int what] [] (am_S f g) _
        refine am_F.ops (pc' := 38) (L' := [.ref 0, .int i, .int what]) (S' := [.int (-2)]) (μ' := (am_S f g)) 1 rfl ?_
        subst hKd
        exact am_F.eq (am_F.ret rfl rfl) hK
      · show am_F _ _ 24 [.ref 0, .int i, .int what] [] (am_S f g) _
        refine am_F.ops (pc' := 33) (L' := [.ref 0, .int i, .int what]) (S' := [.int 62, .int i]) (μ' := (am_S f g)) 5 rfl ?_
        refine am_F.iteK 1 rfl K hK (fun c4 hK => ?_) (fun c4 hK => ?_)
        · show am_F _ _ 39 [.ref 0, .int i, .int what] [] (am_S f g) _
          refine am_F.ops (pc' := 40) (L' := [.ref 0, .int i, .int what]) (S' := [.int what]) (μ' := (am_S f g)) 1 rfl ?_
          refine am_F.to (am_To.ite (pc' := 64) (L2 := [.ref 0, .int i, .int what]) (S2 := []) (μ2 := (am_S f g)) (a := f 84 i.toNatClampNeg) (b := f 85 i.toNatClampNeg) 1 rfl (fun c5 => ?_) (fun c5 => ?_)) ?_
          · intro res9 g9
            show am_F _ _ 43 [.ref 0, .int i, .int what] [] (am_S f g) _
            refine am_F.ops (pc' := 51) (L' := [.ref 0, .int i, .int what]) (S' := [.int i, .ref 84]) (μ' := (am_S f g)) 4 rfl ?_
            refine am_F.ial (N := 62) rfl rfl rfl (by assumption) ?_
            show am_F _ _ 52 [.ref 0, .int i, .int what] [.int (f 84 i.toNatClampNeg)] (am_S f g) _
            refine am_F.ops (pc' := 64) (L' := [.ref 0, .int i, .int what]) (S' := [.int (f 84 i.toNatClampNeg)]) (μ' := (am_S f g)) 1 rfl ?_
            exact g9
          · intro res9 g9
            show am_F _ _ 55 [.ref 0, .int i, .int what] [] (am_S f g) _
            refine am_F.ops (pc' := 63) (L' := [.ref 0, .int i, .int what]) (S' := [.int i, .ref 85]) (μ' := (am_S f g)) 4 rfl ?_
            refine am_F.ial (N := 62) rfl rfl rfl (by assumption) ?_
            show am_F _ _ 64 [.ref 0, .int i, .int what] [.int (f 85 i.toNatClampNeg)] (am_S f g) _
            exact g9
          show am_F _ _ 64 [.ref 0, .int i, .int what] [.int (if what = 0 then f 84 i.toNatClampNeg else f 85 i.toNatClampNeg)] (am_S f g) _
          subst hKd
          exact am_F.eq (am_F.ret rfl rfl) hK
        · show am_F _ _ 36 [.ref 0, .int i, .int what] [] (am_S f g) _
          refine am_F.ops (pc' := 38) (L' := [.ref 0, .int i, .int what]) (S' := [.int (-2)]) (μ' := (am_S f g)) 1 rfl ?_
          subst hKd
          exact am_F.eq (am_F.ret rfl rfl) hK
    · show am_F _ _ 11 [.ref 0, .int i, .int what] [] (am_S f g) _
      refine am_F.ops (pc' := 12) (L' := [.ref 0, .int i, .int what]) (S' := [.int (-1)]) (μ' := (am_S f g)) 1 rfl ?_
      subst hKd
      exact am_F.eq (am_F.ret rfl rfl) hK
/-- AccessLattice.who -/
def fn_who (act : Int32) (thing : Int32) (way : Int32) (f : Nat → Nat → Int32) (g : Nat → Nat → Int64) : Int32 × (Nat → Int32) × (Nat → Int32) × (Nat → Int32) × (Nat → Int32) × (Nat → Int32) × (Nat → Int64) := (bif (fn_isAct act) then (bif (fn_isThing thing) then (bif (fn_within01 way) then ((fn_usersWith (if way = 0 then 1 else 2) act (thing.toNatClampNeg) (am_row (am_row (am_row f 1 (fn_settle (f 2 12) f g).1) 34 (fn_settle (f 2 12) f g).2.1) 35 (fn_settle (f 2 12) f g).2.2.1)).1, (fn_settle (f 2 12) f g).1, (fn_settle (f 2 12) f g).2.1, (fn_settle (f 2 12) f g).2.2.1, (fn_usersWith (if way = 0 then 1 else 2) act (thing.toNatClampNeg) (am_row (am_row (am_row f 1 (fn_settle (f 2 12) f g).1) 34 (fn_settle (f 2 12) f g).2.1) 35 (fn_settle (f 2 12) f g).2.2.1)).2.1, (fn_usersWith (if way = 0 then 1 else 2) act (thing.toNatClampNeg) (am_row (am_row (am_row f 1 (fn_settle (f 2 12) f g).1) 34 (fn_settle (f 2 12) f g).2.1) 35 (fn_settle (f 2 12) f g).2.2.1)).2.2, (fn_settle (f 2 12) f g).2.2.2) else ((-1), f 1, f 34, f 35, f 36, f 37, g 1)) else ((-1), f 1, f 34, f 35, f 36, f 37, g 1)) else ((-1), f 1, f 34, f 35, f 36, f 37, g 1))
theorem x_who (act : Int32) (thing : Int32) (way : Int32) (f : Nat → Nat → Int32) (g : Nat → Nat → Int64) (hLc : f 11 7 = nI (f 11 7).toNatClampNeg) (hLn : (f 11 7).toNatClampNeg ≤ 40) (hLf : ∀ i, i < (f 11 7).toNatClampNeg → am_inb (f 12 i) 16 = true) (hLt : ∀ i, i < (f 11 7).toNatClampNeg → am_inb (f 13 i) 16 = true) (hLr : ∀ i, i < (f 11 7).toNatClampNeg → am_inb (f 14 i) 20 = true) (hRc : f 18 11 = nI (f 18 11).toNatClampNeg) (hRn : (f 18 11).toNatClampNeg ≤ 30) (hRr : ∀ i, i < (f 18 11).toNatClampNeg → am_inb (f 19 i) 20 = true) (hPa : ∀ t, t < 16 → (f 29 t).toInt < 16) (hCs : ∀ i, i < (f 18 11).toNatClampNeg → f 25 i = nI (f 25 i).toNatClampNeg ∧ (f 25 i).toNatClampNeg ≤ 80) : am_D 6 97 4 [.ref 0, .int act, .int thing, .int way] (am_S f g) (some (Value.int ((fn_who act thing way f g).1)), am_S (am_row (am_row (am_row (am_row (am_row f 1 ((fn_who act thing way f g).2.1)) 34 ((fn_who act thing way f g).2.2.1)) 35 ((fn_who act thing way f g).2.2.2.1)) 36 ((fn_who act thing way f g).2.2.2.2.1)) 37 ((fn_who act thing way f g).2.2.2.2.2.1)) (am_row g 1 ((fn_who act thing way f g).2.2.2.2.2.2))) := by
  refine am_D.of (code := am_k_97) rfl (L0 := [.ref 0, .int act, .int thing, .int way]) rfl ?_
  generalize hres : (some (Value.int ((fn_who act thing way f g).1)), am_S (am_row (am_row (am_row (am_row (am_row f 1 ((fn_who act thing way f g).2.1)) 34 ((fn_who act thing way f g).2.2.1)) 35 ((fn_who act thing way f g).2.2.2.1)) 36 ((fn_who act thing way f g).2.2.2.2.1)) 37 ((fn_who act thing way f g).2.2.2.2.2.1)) (am_row g 1 ((fn_who act thing way f g).2.2.2.2.2.2))) = res
  obtain ⟨K, hKd⟩ : ∃ K : (Int32 × (Nat → Int32) × (Nat → Int32) × (Nat → Int32) × (Nat → Int32) × (Nat → Int32) × (Nat → Int64)) → Prop, K = fun z => (some (Value.int z.1), am_S (am_row (am_row (am_row (am_row (am_row f 1 z.2.1) 34 z.2.2.1) 35 z.2.2.2.1) 36 z.2.2.2.2.1) 37 z.2.2.2.2.2.1) (am_row g 1 z.2.2.2.2.2.2)) = res := ⟨_, rfl⟩
  have hK : K (fn_who act thing way f g) := by rw [hKd]; exact hres
  clear hres
  unfold fn_who at hK
  refine am_F.ops (pc' := 1) (L' := [.ref 0, .int act, .int thing, .int way]) (S' := [.int act]) (μ' := (am_S f g)) 1 rfl ?_
  refine am_F.call rfl rfl (x_isAct act f g ) (by decide) ?_
  show am_F _ _ 4 [.ref 0, .int act, .int thing, .int way] [.int (am_b (fn_isAct act))] (am_S f g) _
  refine am_F.bifK 1 rfl K hK (fun c1 hK => ?_) (fun c1 hK => ?_)
  · obtain ⟨act_n, hact_n, eact_n⟩ := am_isAct c1
    subst eact_n
    try simp only [nI_clamp (show act_n < 2147483648 by omega)] at hK
    show am_F _ _ 7 [.ref 0, .int (nI act_n), .int thing, .int way] [] (am_S f g) _
    refine am_F.ops (pc' := 8) (L' := [.ref 0, .int (nI act_n), .int thing, .int way]) (S' := [.int thing]) (μ' := (am_S f g)) 1 rfl ?_
    refine am_F.call rfl rfl (x_isThing thing f g ) (by decide) ?_
    show am_F _ _ 11 [.ref 0, .int (nI act_n), .int thing, .int way] [.int (am_b (fn_isThing thing))] (am_S f g) _
    refine am_F.bifK 1 rfl K hK (fun c2 hK => ?_) (fun c2 hK => ?_)
    · obtain ⟨thing_n, hthing_n, ething_n⟩ := am_isThing c2
      subst ething_n
      try simp only [nI_clamp (show thing_n < 2147483648 by omega)] at hK
      show am_F _ _ 14 [.ref 0, .int (nI act_n), .int (nI thing_n), .int way] [] (am_S f g) _
      refine am_F.ops (pc' := 15) (L' := [.ref 0, .int (nI act_n), .int (nI thing_n), .int way]) (S' := [.int way]) (μ' := (am_S f g)) 1 rfl ?_
      refine am_F.call rfl rfl (x_within01 way f g ) (by decide) ?_
      show am_F _ _ 18 [.ref 0, .int (nI act_n), .int (nI thing_n), .int way] [.int (am_b (fn_within01 way))] (am_S f g) _
      refine am_F.bifK 1 rfl K hK (fun c3 hK => ?_) (fun c3 hK => ?_)
      · show am_F _ _ 23 [.ref 0, .int (nI act_n), .int (nI thing_n), .int way] [] (am_S f g) _
        refine am_F.ops (pc' := 34) (L' := [.ref 0, .int (nI act_n), .int (nI thing_n), .int way]) (S' := [.int (f 2 12), .ref 1]) (μ' := (am_S f g)) 5 rfl ?_
        refine am_F.call rfl rfl (x_settle (f 2 12) f g hLc hLn hLf hLt hLr hRc hRn) (by decide) ?_
        obtain ⟨y4, hy4⟩ : ∃ z, (fn_settle (f 2 12) f g) = z := ⟨_, rfl⟩
        (try rw [hy4] at hK)
        (try rw [hy4])
        refine am_F.mem (F' := (am_row (am_row (am_row f 1 y4.1) 34 y4.2.1) 35 y4.2.2.1)) (G' := (am_row g 1 y4.2.2.2)) ?_ (by first | rfl | (funext a; by_cases z0 : a = 1; (subst z0; rfl); by_cases z1 : a = 34; (subst z1; rfl); by_cases z2 : a = 35; (subst z2; rfl); simp only [am_ui, am_ul, am_row_ne z0, am_row_ne z1, am_row_ne z2])) (by first | rfl | (funext a; by_cases z0 : a = 1; (subst z0; rfl); by_cases z1 : a = 34; (subst z1; rfl); by_cases z2 : a = 35; (subst z2; rfl); simp only [am_ui, am_ul, am_row_ne z0, am_row_ne z1, am_row_ne z2]))
        show am_F _ _ 37 [.ref 0, .int (nI act_n), .int (nI thing_n), .int way] [] (am_S (am_row (am_row (am_row f 1 y4.1) 34 y4.2.1) 35 y4.2.2.1) (am_row g 1 y4.2.2.2)) _
        refine am_F.ops (pc' := 42) (L' := [.ref 0, .int (nI act_n), .int (nI thing_n), .int way]) (S' := [.int way, .ref 1]) (μ' := (am_S (am_row (am_row (am_row f 1 y4.1) 34 y4.2.1) 35 y4.2.2.1) (am_row g 1 y4.2.2.2))) 3 rfl ?_
        refine am_F.to (am_To.ite (pc' := 50) (L2 := [.ref 0, .int (nI act_n), .int (nI thing_n), .int way]) (S2 := [.ref 1]) (μ2 := (am_S (am_row (am_row (am_row f 1 y4.1) 34 y4.2.1) 35 y4.2.2.1) (am_row g 1 y4.2.2.2))) (a := 1) (b := 2) 1 rfl (fun c5 => ?_) (fun c5 => ?_)) ?_
        · intro res9 g9
          show am_F _ _ 45 [.ref 0, .int (nI act_n), .int (nI thing_n), .int way] [.ref 1] (am_S (am_row (am_row (am_row f 1 y4.1) 34 y4.2.1) 35 y4.2.2.1) (am_row g 1 y4.2.2.2)) _
          refine am_F.ops (pc' := 50) (L' := [.ref 0, .int (nI act_n), .int (nI thing_n), .int way]) (S' := [.int 1, .ref 1]) (μ' := (am_S (am_row (am_row (am_row f 1 y4.1) 34 y4.2.1) 35 y4.2.2.1) (am_row g 1 y4.2.2.2))) 2 rfl ?_
          exact g9
        · intro res9 g9
          show am_F _ _ 49 [.ref 0, .int (nI act_n), .int (nI thing_n), .int way] [.ref 1] (am_S (am_row (am_row (am_row f 1 y4.1) 34 y4.2.1) 35 y4.2.2.1) (am_row g 1 y4.2.2.2)) _
          refine am_F.ops (pc' := 50) (L' := [.ref 0, .int (nI act_n), .int (nI thing_n), .int way]) (S' := [.int 2, .ref 1]) (μ' := (am_S (am_row (am_row (am_row f 1 y4.1) 34 y4.2.1) 35 y4.2.2.1) (am_row g 1 y4.2.2.2))) 1 rfl ?_
          exact g9
        show am_F _ _ 50 [.ref 0, .int (nI act_n), .int (nI thing_n), .int way] [.int (if way = 0 then 1 else 2), .ref 1] (am_S (am_row (am_row (am_row f 1 y4.1) 34 y4.2.1) 35 y4.2.2.1) (am_row g 1 y4.2.2.2)) _
        refine am_F.ops (pc' := 52) (L' := [.ref 0, .int (nI act_n), .int (nI thing_n), .int way]) (S' := [.int (nI thing_n), .int (nI act_n), .int (if way = 0 then 1 else 2), .ref 1]) (μ' := (am_S (am_row (am_row (am_row f 1 y4.1) 34 y4.2.1) 35 y4.2.2.1) (am_row g 1 y4.2.2.2))) 2 rfl ?_
        refine am_F.call rfl rfl (x_usersWith (if way = 0 then 1 else 2) (nI act_n) thing_n (am_row (am_row (am_row f 1 y4.1) 34 y4.2.1) 35 y4.2.2.1) (am_row g 1 y4.2.2.2) hRc hRn hPa hCs (by omega)) (by decide) ?_
        obtain ⟨y6, hy6⟩ : ∃ z, (fn_usersWith (if way = 0 then 1 else 2) (nI act_n) thing_n (am_row (am_row (am_row f 1 y4.1) 34 y4.2.1) 35 y4.2.2.1)) = z := ⟨_, rfl⟩
        (try rw [hy6] at hK)
        (try rw [hy6])
        refine am_F.mem (F' := (am_row (am_row (am_row (am_row (am_row f 1 y4.1) 34 y4.2.1) 35 y4.2.2.1) 36 y6.2.1) 37 y6.2.2)) (G' := (am_row g 1 y4.2.2.2)) ?_ (by first | rfl | (funext a; by_cases z0 : a = 1; (subst z0; rfl); by_cases z1 : a = 34; (subst z1; rfl); by_cases z2 : a = 35; (subst z2; rfl); by_cases z3 : a = 36; (subst z3; rfl); by_cases z4 : a = 37; (subst z4; rfl); simp only [am_ui, am_ul, am_row_ne z0, am_row_ne z1, am_row_ne z2, am_row_ne z3, am_row_ne z4])) (by first | rfl | (funext a; by_cases z0 : a = 1; (subst z0; rfl); by_cases z1 : a = 34; (subst z1; rfl); by_cases z2 : a = 35; (subst z2; rfl); by_cases z3 : a = 36; (subst z3; rfl); by_cases z4 : a = 37; (subst z4; rfl); simp only [am_ui, am_ul, am_row_ne z0, am_row_ne z1, am_row_ne z2, am_row_ne z3, am_row_ne z4]))
        show am_F _ _ 55 [.ref 0, .int (nI act_n), .int (nI thing_n), .int way] [.int y6.1] (am_S (am_row (am_row (am_row (am_row (am_row f 1 y4.1) 34 y4.2.1) 35 y4.2.2.1) 36 y6.2.1) 37 y6.2.2) (am_row g 1 y4.2.2.2)) _
        subst hKd
        exact am_F.eq (am_F.ret rfl rfl) hK
      · show am_F _ _ 21 [.ref 0, .int (nI act_n), .int (nI thing_n), .int way] [] (am_S f g) _
        refine am_F.ops (pc' := 22) (L' := [.ref 0, .int (nI act_n), .int (nI thing_n), .int way]) (S' := [.int (-1)]) (μ' := (am_S f g)) 1 rfl ?_
        refine am_F.mem (F' := (am_row (am_row (am_row (am_row (am_row f 1 (f 1)) 34 (f 34)) 35 (f 35)) 36 (f 36)) 37 (f 37))) (G' := (am_row g 1 (g 1))) ?_ (by first | rfl | (funext a; by_cases z0 : a = 1; (subst z0; rfl); by_cases z1 : a = 34; (subst z1; rfl); by_cases z2 : a = 35; (subst z2; rfl); by_cases z3 : a = 36; (subst z3; rfl); by_cases z4 : a = 37; (subst z4; rfl); simp only [am_ui, am_ul, am_row_ne z0, am_row_ne z1, am_row_ne z2, am_row_ne z3, am_row_ne z4])) (by first | rfl | (funext a; by_cases z0 : a = 1; (subst z0; rfl); by_cases z1 : a = 34; (subst z1; rfl); by_cases z2 : a = 35; (subst z2; rfl); by_cases z3 : a = 36; (subst z3; rfl); by_cases z4 : a = 37; (subst z4; rfl); simp only [am_ui, am_ul, am_row_ne z0, am_row_ne z1, am_row_ne z2, am_row_ne z3, am_row_ne z4]))
        subst hKd
        exact am_F.eq (am_F.ret rfl rfl) hK
    · show am_F _ _ 21 [.ref 0, .int (nI act_n), .int thing, .int way] [] (am_S f g) _
      refine am_F.ops (pc' := 22) (L' := [.ref 0, .int (nI act_n), .int thing, .int way]) (S' := [.int (-1)]) (μ' := (am_S f g)) 1 rfl ?_
      refine am_F.mem (F' := (am_row (am_row (am_row (am_row (am_row f 1 (f 1)) 34 (f 34)) 35 (f 35)) 36 (f 36)) 37 (f 37))) (G' := (am_row g 1 (g 1))) ?_ (by first | rfl | (funext a; by_cases z0 : a = 1; (subst z0; rfl); by_cases z1 : a = 34; (subst z1; rfl); by_cases z2 : a = 35; (subst z2; rfl); by_cases z3 : a = 36; (subst z3; rfl); by_cases z4 : a = 37; (subst z4; rfl); simp only [am_ui, am_ul, am_row_ne z0, am_row_ne z1, am_row_ne z2, am_row_ne z3, am_row_ne z4])) (by first | rfl | (funext a; by_cases z0 : a = 1; (subst z0; rfl); by_cases z1 : a = 34; (subst z1; rfl); by_cases z2 : a = 35; (subst z2; rfl); by_cases z3 : a = 36; (subst z3; rfl); by_cases z4 : a = 37; (subst z4; rfl); simp only [am_ui, am_ul, am_row_ne z0, am_row_ne z1, am_row_ne z2, am_row_ne z3, am_row_ne z4]))
      subst hKd
      exact am_F.eq (am_F.ret rfl rfl) hK
  · show am_F _ _ 21 [.ref 0, .int act, .int thing, .int way] [] (am_S f g) _
    refine am_F.ops (pc' := 22) (L' := [.ref 0, .int act, .int thing, .int way]) (S' := [.int (-1)]) (μ' := (am_S f g)) 1 rfl ?_
    refine am_F.mem (F' := (am_row (am_row (am_row (am_row (am_row f 1 (f 1)) 34 (f 34)) 35 (f 35)) 36 (f 36)) 37 (f 37))) (G' := (am_row g 1 (g 1))) ?_ (by first | rfl | (funext a; by_cases z0 : a = 1; (subst z0; rfl); by_cases z1 : a = 34; (subst z1; rfl); by_cases z2 : a = 35; (subst z2; rfl); by_cases z3 : a = 36; (subst z3; rfl); by_cases z4 : a = 37; (subst z4; rfl); simp only [am_ui, am_ul, am_row_ne z0, am_row_ne z1, am_row_ne z2, am_row_ne z3, am_row_ne z4])) (by first | rfl | (funext a; by_cases z0 : a = 1; (subst z0; rfl); by_cases z1 : a = 34; (subst z1; rfl); by_cases z2 : a = 35; (subst z2; rfl); by_cases z3 : a = 36; (subst z3; rfl); by_cases z4 : a = 37; (subst z4; rfl); simp only [am_ui, am_ul, am_row_ne z0, am_row_ne z1, am_row_ne z2, am_row_ne z3, am_row_ne z4]))
    subst hKd
    exact am_F.eq (am_F.ret rfl rfl) hK
/-- AccessLattice.where -/
def st_where_35 (user_n : Nat) (act_n : Nat) (f : Nat → Nat → Int32) (y3 : (Nat → Int32) × (Nat → Int32) × (Nat → Int32) × (Nat → Int64)) : Nat → Int32 × (Nat → Int32) × (Nat → Int32) → Int32 × (Nat → Int32) × (Nat → Int32) := fun i35 z => match z with
  | (a35_3, r35_36, r35_37) => (if (fn_answer user_n (nI act_n) i35 (am_row (am_row (am_row (am_row (am_row f 1 y3.1) 34 y3.2.1) 35 y3.2.2.1) 36 r35_36) 37 r35_37)).1 = 1 then (a35_3 ||| (1 <<< ((nI i35) &&& 31)), (fn_answer user_n (nI act_n) i35 (am_row (am_row (am_row (am_row (am_row f 1 y3.1) 34 y3.2.1) 35 y3.2.2.1) 36 r35_36) 37 r35_37)).2.1, (fn_answer user_n (nI act_n) i35 (am_row (am_row (am_row (am_row (am_row f 1 y3.1) 34 y3.2.1) 35 y3.2.2.1) 36 r35_36) 37 r35_37)).2.2) else (a35_3, (fn_answer user_n (nI act_n) i35 (am_row (am_row (am_row (am_row (am_row f 1 y3.1) 34 y3.2.1) 35 y3.2.2.1) 36 r35_36) 37 r35_37)).2.1, (fn_answer user_n (nI act_n) i35 (am_row (am_row (am_row (am_row (am_row f 1 y3.1) 34 y3.2.1) 35 y3.2.2.1) 36 r35_36) 37 r35_37)).2.2))
def lf_where_35 (user_n : Nat) (act_n : Nat) (f : Nat → Nat → Int32) (y3 : (Nat → Int32) × (Nat → Int32) × (Nat → Int32) × (Nat → Int64)) : Int32 × (Nat → Int32) × (Nat → Int32) := am_for (st_where_35 user_n act_n f y3) 16 0 (0, f 36, f 37)
def fn_where (user : Int32) (act : Int32) (f : Nat → Nat → Int32) (g : Nat → Nat → Int64) : Int32 × (Nat → Int32) × (Nat → Int32) × (Nat → Int32) × (Nat → Int32) × (Nat → Int32) × (Nat → Int64) := (bif (fn_isUser user) then (bif (fn_isAct act) then ((lf_where_35 (user.toNatClampNeg) (act.toNatClampNeg) f (fn_settle (f 2 12) f g)).1, (fn_settle (f 2 12) f g).1, (fn_settle (f 2 12) f g).2.1, (fn_settle (f 2 12) f g).2.2.1, (lf_where_35 (user.toNatClampNeg) (act.toNatClampNeg) f (fn_settle (f 2 12) f g)).2.1, (lf_where_35 (user.toNatClampNeg) (act.toNatClampNeg) f (fn_settle (f 2 12) f g)).2.2, (fn_settle (f 2 12) f g).2.2.2) else ((-1), f 1, f 34, f 35, f 36, f 37, g 1)) else ((-1), f 1, f 34, f 35, f 36, f 37, g 1))
theorem lp_where_35 (user_n : Nat) (act_n : Nat) (f : Nat → Nat → Int32) (g : Nat → Nat → Int64) (y3 : (Nat → Int32) × (Nat → Int32) × (Nat → Int32) × (Nat → Int64)) (hLc : f 11 7 = nI (f 11 7).toNatClampNeg) (hLn : (f 11 7).toNatClampNeg ≤ 40) (hLf : ∀ i, i < (f 11 7).toNatClampNeg → am_inb (f 12 i) 16 = true) (hLt : ∀ i, i < (f 11 7).toNatClampNeg → am_inb (f 13 i) 16 = true) (hLr : ∀ i, i < (f 11 7).toNatClampNeg → am_inb (f 14 i) 20 = true) (hRc : f 18 11 = nI (f 18 11).toNatClampNeg) (hRn : (f 18 11).toNatClampNeg ≤ 30) (hRr : ∀ i, i < (f 18 11).toNatClampNeg → am_inb (f 19 i) 20 = true) (hPa : ∀ t, t < 16 → (f 29 t).toInt < 16) (hCs : ∀ i, i < (f 18 11).toNatClampNeg → f 25 i = nI (f 25 i).toNatClampNeg ∧ (f 25 i).toNatClampNeg ≤ 80) (huser_n : user_n < 16) (hact_n : act_n < 8) (res : Option Value × am_M) : ∀ (n i35 : Nat) (a35_3 : Int32) (r35_36 : Nat → Int32) (r35_37 : Nat → Int32) , i35 + n = 16 → (fun (z : Int32 × (Nat → Int32) × (Nat → Int32)) => ∀ (wc : Value), am_F 6 am_k_99 70 [.ref 0, .int (nI user_n), .int (nI act_n), .int z.1, wc] [] (am_S (am_row (am_row (am_row (am_row (am_row f 1 y3.1) 34 y3.2.1) 35 y3.2.2.1) 36 z.2.1) 37 z.2.2) (am_row g 1 y3.2.2.2)) res) (am_for (st_where_35 user_n act_n f y3) n i35 (a35_3, r35_36, r35_37)) → am_F 6 am_k_99 35 [.ref 0, .int (nI user_n), .int (nI act_n), .int a35_3, .int (nI i35)] [] (am_S (am_row (am_row (am_row (am_row (am_row f 1 y3.1) 34 y3.2.1) 35 y3.2.2.1) 36 r35_36) 37 r35_37) (am_row g 1 y3.2.2.2)) res := by
  intro n
  induction n with
  | zero =>
    intro i35 a35_3 r35_36 r35_37 hi hK
    refine am_F.pos 3 rfl (by show 16 ≤ nI i35; rw [show (16 : Int32) = nI 16 from rfl]; exact nI_le (by omega) (by omega)) ?_
    exact hK _
  | succ n ih =>
    intro i35 a35_3 r35_36 r35_37 hi hK
    refine am_F.neg 3 rfl (by show ¬ 16 ≤ nI i35; rw [show (16 : Int32) = nI 16 from rfl]; exact nI_ge (by omega) (by omega)) ?_
    have hb35 : i35 < 16 := by omega
    show am_F _ _ 42 [.ref 0, .int (nI user_n), .int (nI act_n), .int a35_3, .int (nI i35)] [] (am_S (am_row (am_row (am_row (am_row (am_row f 1 y3.1) 34 y3.2.1) 35 y3.2.2.1) 36 r35_36) 37 r35_37) (am_row g 1 y3.2.2.2)) _
    obtain ⟨K, hKd⟩ : ∃ K : (Int32 × (Nat → Int32) × (Nat → Int32)) → Prop, K = fun s => (fun (z : Int32 × (Nat → Int32) × (Nat → Int32)) => ∀ (wc : Value), am_F 6 am_k_99 70 [.ref 0, .int (nI user_n), .int (nI act_n), .int z.1, wc] [] (am_S (am_row (am_row (am_row (am_row (am_row f 1 y3.1) 34 y3.2.1) 35 y3.2.2.1) 36 z.2.1) 37 z.2.2) (am_row g 1 y3.2.2.2)) res) (am_for (st_where_35 user_n act_n f y3) n (i35 + 1) s) := ⟨_, rfl⟩
    have hK : K ((st_where_35 user_n act_n f y3) i35 (a35_3, r35_36, r35_37)) := by rw [hKd]; exact hK
    unfold st_where_35 at hK
    simp only at hK
    refine am_F.ops (pc' := 50) (L' := [.ref 0, .int (nI user_n), .int (nI act_n), .int a35_3, .int (nI i35)]) (S' := [.int (nI i35), .int (nI act_n), .int (nI user_n), .ref 1]) (μ' := (am_S (am_row (am_row (am_row (am_row (am_row f 1 y3.1) 34 y3.2.1) 35 y3.2.2.1) 36 r35_36) 37 r35_37) (am_row g 1 y3.2.2.2))) 5 rfl ?_
    refine am_F.call rfl rfl (x_answer user_n (nI act_n) i35 (am_row (am_row (am_row (am_row (am_row f 1 y3.1) 34 y3.2.1) 35 y3.2.2.1) 36 r35_36) 37 r35_37) (am_row g 1 y3.2.2.2) hRc hRn hPa hCs (by omega) (by omega)) (by decide) ?_
    obtain ⟨y7, hy7⟩ : ∃ z, (fn_answer user_n (nI act_n) i35 (am_row (am_row (am_row (am_row (am_row f 1 y3.1) 34 y3.2.1) 35 y3.2.2.1) 36 r35_36) 37 r35_37)) = z := ⟨_, rfl⟩
    (try rw [hy7] at hK)
    (try rw [hy7])
    refine am_F.mem (F' := (am_row (am_row (am_row (am_row (am_row f 1 y3.1) 34 y3.2.1) 35 y3.2.2.1) 36 y7.2.1) 37 y7.2.2)) (G' := (am_row g 1 y3.2.2.2)) ?_ (by first | rfl | (funext a; by_cases z0 : a = 1; (subst z0; rfl); by_cases z1 : a = 34; (subst z1; rfl); by_cases z2 : a = 35; (subst z2; rfl); by_cases z3 : a = 36; (subst z3; rfl); by_cases z4 : a = 37; (subst z4; rfl); simp only [am_ui, am_ul, am_row_ne z0, am_row_ne z1, am_row_ne z2, am_row_ne z3, am_row_ne z4])) (by first | rfl | (funext a; by_cases z0 : a = 1; (subst z0; rfl); by_cases z1 : a = 34; (subst z1; rfl); by_cases z2 : a = 35; (subst z2; rfl); by_cases z3 : a = 36; (subst z3; rfl); by_cases z4 : a = 37; (subst z4; rfl); simp only [am_ui, am_ul, am_row_ne z0, am_row_ne z1, am_row_ne z2, am_row_ne z3, am_row_ne z4]))
    show am_F _ _ 53 [.ref 0, .int (nI user_n), .int (nI act_n), .int a35_3, .int (nI i35)] [.int y7.1] (am_S (am_row (am_row (am_row (am_row (am_row f 1 y3.1) 34 y3.2.1) 35 y3.2.2.1) 36 y7.2.1) 37 y7.2.2) (am_row g 1 y3.2.2.2)) _
    refine am_F.ops (pc' := 54) (L' := [.ref 0, .int (nI user_n), .int (nI act_n), .int a35_3, .int (nI i35)]) (S' := [.int 1, .int y7.1]) (μ' := (am_S (am_row (am_row (am_row (am_row (am_row f 1 y3.1) 34 y3.2.1) 35 y3.2.2.1) 36 y7.2.1) 37 y7.2.2) (am_row g 1 y3.2.2.2))) 1 rfl ?_
    refine am_F.iteK 1 rfl K hK (fun c9 hK => ?_) (fun c9 hK => ?_)
    · show am_F _ _ 57 [.ref 0, .int (nI user_n), .int (nI act_n), .int a35_3, .int (nI i35)] [] (am_S (am_row (am_row (am_row (am_row (am_row f 1 y3.1) 34 y3.2.1) 35 y3.2.2.1) 36 y7.2.1) 37 y7.2.2) (am_row g 1 y3.2.2.2)) _
      refine am_F.ops (pc' := 35) (L' := [.ref 0, .int (nI user_n), .int (nI act_n), .int (a35_3 ||| (1 <<< ((nI i35) &&& 31))), .int ((nI i35) + 1)]) (S' := []) (μ' := (am_S (am_row (am_row (am_row (am_row (am_row f 1 y3.1) 34 y3.2.1) 35 y3.2.2.1) 36 y7.2.1) 37 y7.2.2) (am_row g 1 y3.2.2.2))) 8 rfl ?_
      rw [nI_1 i35]
      subst hKd
      exact ih (i35 + 1) (a35_3 ||| (1 <<< ((nI i35) &&& 31))) y7.2.1 y7.2.2 (by omega)  hK
    · show am_F _ _ 64 [.ref 0, .int (nI user_n), .int (nI act_n), .int a35_3, .int (nI i35)] [] (am_S (am_row (am_row (am_row (am_row (am_row f 1 y3.1) 34 y3.2.1) 35 y3.2.2.1) 36 y7.2.1) 37 y7.2.2) (am_row g 1 y3.2.2.2)) _
      refine am_F.ops (pc' := 35) (L' := [.ref 0, .int (nI user_n), .int (nI act_n), .int a35_3, .int ((nI i35) + 1)]) (S' := []) (μ' := (am_S (am_row (am_row (am_row (am_row (am_row f 1 y3.1) 34 y3.2.1) 35 y3.2.2.1) 36 y7.2.1) 37 y7.2.2) (am_row g 1 y3.2.2.2))) 2 rfl ?_
      rw [nI_1 i35]
      subst hKd
      exact ih (i35 + 1) a35_3 y7.2.1 y7.2.2 (by omega)  hK
theorem x_where (user : Int32) (act : Int32) (f : Nat → Nat → Int32) (g : Nat → Nat → Int64) (hLc : f 11 7 = nI (f 11 7).toNatClampNeg) (hLn : (f 11 7).toNatClampNeg ≤ 40) (hLf : ∀ i, i < (f 11 7).toNatClampNeg → am_inb (f 12 i) 16 = true) (hLt : ∀ i, i < (f 11 7).toNatClampNeg → am_inb (f 13 i) 16 = true) (hLr : ∀ i, i < (f 11 7).toNatClampNeg → am_inb (f 14 i) 20 = true) (hRc : f 18 11 = nI (f 18 11).toNatClampNeg) (hRn : (f 18 11).toNatClampNeg ≤ 30) (hRr : ∀ i, i < (f 18 11).toNatClampNeg → am_inb (f 19 i) 20 = true) (hPa : ∀ t, t < 16 → (f 29 t).toInt < 16) (hCs : ∀ i, i < (f 18 11).toNatClampNeg → f 25 i = nI (f 25 i).toNatClampNeg ∧ (f 25 i).toNatClampNeg ≤ 80) : am_D 6 99 5 [.ref 0, .int user, .int act] (am_S f g) (some (Value.int ((fn_where user act f g).1)), am_S (am_row (am_row (am_row (am_row (am_row f 1 ((fn_where user act f g).2.1)) 34 ((fn_where user act f g).2.2.1)) 35 ((fn_where user act f g).2.2.2.1)) 36 ((fn_where user act f g).2.2.2.2.1)) 37 ((fn_where user act f g).2.2.2.2.2.1)) (am_row g 1 ((fn_where user act f g).2.2.2.2.2.2))) := by
  refine am_D.of (code := am_k_99) rfl (L0 := [.ref 0, .int user, .int act, am_un, am_un]) rfl ?_
  generalize hres : (some (Value.int ((fn_where user act f g).1)), am_S (am_row (am_row (am_row (am_row (am_row f 1 ((fn_where user act f g).2.1)) 34 ((fn_where user act f g).2.2.1)) 35 ((fn_where user act f g).2.2.2.1)) 36 ((fn_where user act f g).2.2.2.2.1)) 37 ((fn_where user act f g).2.2.2.2.2.1)) (am_row g 1 ((fn_where user act f g).2.2.2.2.2.2))) = res
  obtain ⟨K, hKd⟩ : ∃ K : (Int32 × (Nat → Int32) × (Nat → Int32) × (Nat → Int32) × (Nat → Int32) × (Nat → Int32) × (Nat → Int64)) → Prop, K = fun z => (some (Value.int z.1), am_S (am_row (am_row (am_row (am_row (am_row f 1 z.2.1) 34 z.2.2.1) 35 z.2.2.2.1) 36 z.2.2.2.2.1) 37 z.2.2.2.2.2.1) (am_row g 1 z.2.2.2.2.2.2)) = res := ⟨_, rfl⟩
  have hK : K (fn_where user act f g) := by rw [hKd]; exact hres
  clear hres
  unfold fn_where at hK
  refine am_F.ops (pc' := 1) (L' := [.ref 0, .int user, .int act, am_un, am_un]) (S' := [.int user]) (μ' := (am_S f g)) 1 rfl ?_
  refine am_F.call rfl rfl (x_isUser user f g ) (by decide) ?_
  show am_F _ _ 4 [.ref 0, .int user, .int act, am_un, am_un] [.int (am_b (fn_isUser user))] (am_S f g) _
  refine am_F.bifK 1 rfl K hK (fun c1 hK => ?_) (fun c1 hK => ?_)
  · obtain ⟨user_n, huser_n, euser_n⟩ := am_isUser c1
    subst euser_n
    try simp only [nI_clamp (show user_n < 2147483648 by omega)] at hK
    show am_F _ _ 7 [.ref 0, .int (nI user_n), .int act, am_un, am_un] [] (am_S f g) _
    refine am_F.ops (pc' := 8) (L' := [.ref 0, .int (nI user_n), .int act, am_un, am_un]) (S' := [.int act]) (μ' := (am_S f g)) 1 rfl ?_
    refine am_F.call rfl rfl (x_isAct act f g ) (by decide) ?_
    show am_F _ _ 11 [.ref 0, .int (nI user_n), .int act, am_un, am_un] [.int (am_b (fn_isAct act))] (am_S f g) _
    refine am_F.bifK 1 rfl K hK (fun c2 hK => ?_) (fun c2 hK => ?_)
    · obtain ⟨act_n, hact_n, eact_n⟩ := am_isAct c2
      subst eact_n
      try simp only [nI_clamp (show act_n < 2147483648 by omega)] at hK
      show am_F _ _ 16 [.ref 0, .int (nI user_n), .int (nI act_n), am_un, am_un] [] (am_S f g) _
      refine am_F.ops (pc' := 27) (L' := [.ref 0, .int (nI user_n), .int (nI act_n), am_un, am_un]) (S' := [.int (f 2 12), .ref 1]) (μ' := (am_S f g)) 5 rfl ?_
      refine am_F.call rfl rfl (x_settle (f 2 12) f g hLc hLn hLf hLt hLr hRc hRn) (by decide) ?_
      obtain ⟨y3, hy3⟩ : ∃ z, (fn_settle (f 2 12) f g) = z := ⟨_, rfl⟩
      (try rw [hy3] at hK)
      (try rw [hy3])
      refine am_F.mem (F' := (am_row (am_row (am_row f 1 y3.1) 34 y3.2.1) 35 y3.2.2.1)) (G' := (am_row g 1 y3.2.2.2)) ?_ (by first | rfl | (funext a; by_cases z0 : a = 1; (subst z0; rfl); by_cases z1 : a = 34; (subst z1; rfl); by_cases z2 : a = 35; (subst z2; rfl); simp only [am_ui, am_ul, am_row_ne z0, am_row_ne z1, am_row_ne z2])) (by first | rfl | (funext a; by_cases z0 : a = 1; (subst z0; rfl); by_cases z1 : a = 34; (subst z1; rfl); by_cases z2 : a = 35; (subst z2; rfl); simp only [am_ui, am_ul, am_row_ne z0, am_row_ne z1, am_row_ne z2]))
      show am_F _ _ 30 [.ref 0, .int (nI user_n), .int (nI act_n), am_un, am_un] [] (am_S (am_row (am_row (am_row f 1 y3.1) 34 y3.2.1) 35 y3.2.2.1) (am_row g 1 y3.2.2.2)) _
      refine am_F.ops (pc' := 35) (L' := [.ref 0, .int (nI user_n), .int (nI act_n), .int 0, .int 0]) (S' := []) (μ' := (am_S (am_row (am_row (am_row f 1 y3.1) 34 y3.2.1) 35 y3.2.2.1) (am_row g 1 y3.2.2.2))) 4 rfl ?_
      refine am_F.mem (F' := (am_row (am_row (am_row (am_row (am_row f 1 y3.1) 34 y3.2.1) 35 y3.2.2.1) 36 (f 36)) 37 (f 37))) (G' := (am_row g 1 y3.2.2.2)) ?_ (by first | rfl | (funext a; by_cases z0 : a = 1; (subst z0; rfl); by_cases z1 : a = 34; (subst z1; rfl); by_cases z2 : a = 35; (subst z2; rfl); by_cases z3 : a = 36; (subst z3; rfl); by_cases z4 : a = 37; (subst z4; rfl); simp only [am_ui, am_ul, am_row_ne z0, am_row_ne z1, am_row_ne z2, am_row_ne z3, am_row_ne z4])) (by first | rfl | (funext a; by_cases z0 : a = 1; (subst z0; rfl); by_cases z1 : a = 34; (subst z1; rfl); by_cases z2 : a = 35; (subst z2; rfl); by_cases z3 : a = 36; (subst z3; rfl); by_cases z4 : a = 37; (subst z4; rfl); simp only [am_ui, am_ul, am_row_ne z0, am_row_ne z1, am_row_ne z2, am_row_ne z3, am_row_ne z4]))
      show am_F _ _ 35 [.ref 0, .int (nI user_n), .int (nI act_n), .int 0, .int (nI 0)] [] (am_S (am_row (am_row (am_row (am_row (am_row f 1 y3.1) 34 y3.2.1) 35 y3.2.2.1) 36 (f 36)) 37 (f 37)) (am_row g 1 y3.2.2.2)) _
      refine lp_where_35 user_n act_n f g y3 hLc hLn hLf hLt hLr hRc hRn hRr hPa hCs huser_n hact_n _ 16 0 0 (f 36) (f 37)  (by omega)  ?_
      rw [show am_for (st_where_35 user_n act_n f y3) 16 0 (0, f 36, f 37) = (lf_where_35 user_n act_n f y3) from rfl]
      generalize (lf_where_35 user_n act_n f y3) = z35_10 at hK ⊢
      intro wc
      show am_F _ _ 70 [.ref 0, .int (nI user_n), .int (nI act_n), .int z35_10.1, wc] [] (am_S (am_row (am_row (am_row (am_row (am_row f 1 y3.1) 34 y3.2.1) 35 y3.2.2.1) 36 z35_10.2.1) 37 z35_10.2.2) (am_row g 1 y3.2.2.2)) _
      refine am_F.ops (pc' := 71) (L' := [.ref 0, .int (nI user_n), .int (nI act_n), .int z35_10.1, wc]) (S' := [.int z35_10.1]) (μ' := (am_S (am_row (am_row (am_row (am_row (am_row f 1 y3.1) 34 y3.2.1) 35 y3.2.2.1) 36 z35_10.2.1) 37 z35_10.2.2) (am_row g 1 y3.2.2.2))) 1 rfl ?_
      subst hKd
      exact am_F.eq (am_F.ret rfl rfl) hK
    · show am_F _ _ 14 [.ref 0, .int (nI user_n), .int act, am_un, am_un] [] (am_S f g) _
      refine am_F.ops (pc' := 15) (L' := [.ref 0, .int (nI user_n), .int act, am_un, am_un]) (S' := [.int (-1)]) (μ' := (am_S f g)) 1 rfl ?_
      refine am_F.mem (F' := (am_row (am_row (am_row (am_row (am_row f 1 (f 1)) 34 (f 34)) 35 (f 35)) 36 (f 36)) 37 (f 37))) (G' := (am_row g 1 (g 1))) ?_ (by first | rfl | (funext a; by_cases z0 : a = 1; (subst z0; rfl); by_cases z1 : a = 34; (subst z1; rfl); by_cases z2 : a = 35; (subst z2; rfl); by_cases z3 : a = 36; (subst z3; rfl); by_cases z4 : a = 37; (subst z4; rfl); simp only [am_ui, am_ul, am_row_ne z0, am_row_ne z1, am_row_ne z2, am_row_ne z3, am_row_ne z4])) (by first | rfl | (funext a; by_cases z0 : a = 1; (subst z0; rfl); by_cases z1 : a = 34; (subst z1; rfl); by_cases z2 : a = 35; (subst z2; rfl); by_cases z3 : a = 36; (subst z3; rfl); by_cases z4 : a = 37; (subst z4; rfl); simp only [am_ui, am_ul, am_row_ne z0, am_row_ne z1, am_row_ne z2, am_row_ne z3, am_row_ne z4]))
      subst hKd
      exact am_F.eq (am_F.ret rfl rfl) hK
  · show am_F _ _ 14 [.ref 0, .int user, .int act, am_un, am_un] [] (am_S f g) _
    refine am_F.ops (pc' := 15) (L' := [.ref 0, .int user, .int act, am_un, am_un]) (S' := [.int (-1)]) (μ' := (am_S f g)) 1 rfl ?_
    refine am_F.mem (F' := (am_row (am_row (am_row (am_row (am_row f 1 (f 1)) 34 (f 34)) 35 (f 35)) 36 (f 36)) 37 (f 37))) (G' := (am_row g 1 (g 1))) ?_ (by first | rfl | (funext a; by_cases z0 : a = 1; (subst z0; rfl); by_cases z1 : a = 34; (subst z1; rfl); by_cases z2 : a = 35; (subst z2; rfl); by_cases z3 : a = 36; (subst z3; rfl); by_cases z4 : a = 37; (subst z4; rfl); simp only [am_ui, am_ul, am_row_ne z0, am_row_ne z1, am_row_ne z2, am_row_ne z3, am_row_ne z4])) (by first | rfl | (funext a; by_cases z0 : a = 1; (subst z0; rfl); by_cases z1 : a = 34; (subst z1; rfl); by_cases z2 : a = 35; (subst z2; rfl); by_cases z3 : a = 36; (subst z3; rfl); by_cases z4 : a = 37; (subst z4; rfl); simp only [am_ui, am_ul, am_row_ne z0, am_row_ne z1, am_row_ne z2, am_row_ne z3, am_row_ne z4]))
    subst hKd
    exact am_F.eq (am_F.ret rfl rfl) hK
/-- AccessLattice.could -/
def st_could_47 (act_n : Nat) (thing_n : Nat) (f : Nat → Nat → Int32) (g : Nat → Nat → Int64) (y4 : (Nat → Int32) × (Nat → Int32) × (Nat → Int32) × (Nat → Int64)) : Nat → Int32 × (Nat → Int32) × (Nat → Int32) × (Nat → Int32) × (Nat → Int32) × (Nat → Int64) → Int32 × (Nat → Int32) × (Nat → Int32) × (Nat → Int32) × (Nat → Int32) × (Nat → Int64) := fun i47 z => match z with
  | (a47_4, r47_1, r47_35, r47_36, r47_37, l47_1) => (a47_4 ||| (fn_usersWith 1 (nI act_n) thing_n (am_row (am_row (am_row (am_row (am_row f 1 (fn_turnTo ((f 2 12) + (nI i47)) (am_row (am_row (am_row (am_row (am_row f 1 r47_1) 34 y4.2.1) 35 r47_35) 36 r47_36) 37 r47_37) (am_row g 1 l47_1)).1) 34 y4.2.1) 35 (fn_turnTo ((f 2 12) + (nI i47)) (am_row (am_row (am_row (am_row (am_row f 1 r47_1) 34 y4.2.1) 35 r47_35) 36 r47_36) 37 r47_37) (am_row g 1 l47_1)).2.1) 36 r47_36) 37 r47_37)).1, (fn_turnTo ((f 2 12) + (nI i47)) (am_row (am_row (am_row (am_row (am_row f 1 r47_1) 34 y4.2.1) 35 r47_35) 36 r47_36) 37 r47_37) (am_row g 1 l47_1)).1, (fn_turnTo ((f 2 12) + (nI i47)) (am_row (am_row (am_row (am_row (am_row f 1 r47_1) 34 y4.2.1) 35 r47_35) 36 r47_36) 37 r47_37) (am_row g 1 l47_1)).2.1, (fn_usersWith 1 (nI act_n) thing_n (am_row (am_row (am_row (am_row (am_row f 1 (fn_turnTo ((f 2 12) + (nI i47)) (am_row (am_row (am_row (am_row (am_row f 1 r47_1) 34 y4.2.1) 35 r47_35) 36 r47_36) 37 r47_37) (am_row g 1 l47_1)).1) 34 y4.2.1) 35 (fn_turnTo ((f 2 12) + (nI i47)) (am_row (am_row (am_row (am_row (am_row f 1 r47_1) 34 y4.2.1) 35 r47_35) 36 r47_36) 37 r47_37) (am_row g 1 l47_1)).2.1) 36 r47_36) 37 r47_37)).2.1, (fn_usersWith 1 (nI act_n) thing_n (am_row (am_row (am_row (am_row (am_row f 1 (fn_turnTo ((f 2 12) + (nI i47)) (am_row (am_row (am_row (am_row (am_row f 1 r47_1) 34 y4.2.1) 35 r47_35) 36 r47_36) 37 r47_37) (am_row g 1 l47_1)).1) 34 y4.2.1) 35 (fn_turnTo ((f 2 12) + (nI i47)) (am_row (am_row (am_row (am_row (am_row f 1 r47_1) 34 y4.2.1) 35 r47_35) 36 r47_36) 37 r47_37) (am_row g 1 l47_1)).2.1) 36 r47_36) 37 r47_37)).2.2, (fn_turnTo ((f 2 12) + (nI i47)) (am_row (am_row (am_row (am_row (am_row f 1 r47_1) 34 y4.2.1) 35 r47_35) 36 r47_36) 37 r47_37) (am_row g 1 l47_1)).2.2)
def lf_could_47 (act_n : Nat) (thing_n : Nat) (n_n : Nat) (f : Nat → Nat → Int32) (g : Nat → Nat → Int64) (y4 : (Nat → Int32) × (Nat → Int32) × (Nat → Int32) × (Nat → Int64)) : Int32 × (Nat → Int32) × (Nat → Int32) × (Nat → Int32) × (Nat → Int32) × (Nat → Int64) := am_for (st_could_47 act_n thing_n f g y4) (n_n + 1) 0 (0, y4.1, y4.2.2.1, f 36, f 37, y4.2.2.2)
def fn_could (act : Int32) (thing : Int32) (n : Int32) (f : Nat → Nat → Int32) (g : Nat → Nat → Int64) : Int32 × (Nat → Int32) × (Nat → Int32) × (Nat → Int32) × (Nat → Int32) × (Nat → Int32) × (Nat → Int64) := (bif (fn_isAct act) then (bif (fn_isThing thing) then (bif (fn_between n 0 200) then ((lf_could_47 (act.toNatClampNeg) (thing.toNatClampNeg) (n.toNatClampNeg) f g (fn_settle (f 2 12) f g)).1, (lf_could_47 (act.toNatClampNeg) (thing.toNatClampNeg) (n.toNatClampNeg) f g (fn_settle (f 2 12) f g)).2.1, (fn_settle (f 2 12) f g).2.1, (lf_could_47 (act.toNatClampNeg) (thing.toNatClampNeg) (n.toNatClampNeg) f g (fn_settle (f 2 12) f g)).2.2.1, (lf_could_47 (act.toNatClampNeg) (thing.toNatClampNeg) (n.toNatClampNeg) f g (fn_settle (f 2 12) f g)).2.2.2.1, (lf_could_47 (act.toNatClampNeg) (thing.toNatClampNeg) (n.toNatClampNeg) f g (fn_settle (f 2 12) f g)).2.2.2.2.1, (lf_could_47 (act.toNatClampNeg) (thing.toNatClampNeg) (n.toNatClampNeg) f g (fn_settle (f 2 12) f g)).2.2.2.2.2) else ((-1), f 1, f 34, f 35, f 36, f 37, g 1)) else ((-1), f 1, f 34, f 35, f 36, f 37, g 1)) else ((-1), f 1, f 34, f 35, f 36, f 37, g 1))
theorem lp_could_47 (act_n : Nat) (thing_n : Nat) (n_n : Nat) (f : Nat → Nat → Int32) (g : Nat → Nat → Int64) (y4 : (Nat → Int32) × (Nat → Int32) × (Nat → Int32) × (Nat → Int64)) (hLc : f 11 7 = nI (f 11 7).toNatClampNeg) (hLn : (f 11 7).toNatClampNeg ≤ 40) (hLf : ∀ i, i < (f 11 7).toNatClampNeg → am_inb (f 12 i) 16 = true) (hLt : ∀ i, i < (f 11 7).toNatClampNeg → am_inb (f 13 i) 16 = true) (hLr : ∀ i, i < (f 11 7).toNatClampNeg → am_inb (f 14 i) 20 = true) (hRc : f 18 11 = nI (f 18 11).toNatClampNeg) (hRn : (f 18 11).toNatClampNeg ≤ 30) (hRr : ∀ i, i < (f 18 11).toNatClampNeg → am_inb (f 19 i) 20 = true) (hPa : ∀ t, t < 16 → (f 29 t).toInt < 16) (hCs : ∀ i, i < (f 18 11).toNatClampNeg → f 25 i = nI (f 25 i).toNatClampNeg ∧ (f 25 i).toNatClampNeg ≤ 80) (hact_n : act_n < 8) (hthing_n : thing_n < 16) (hn_n : n_n < 201) (res : Option Value × am_M) : ∀ (n i47 : Nat) (a47_4 : Int32) (r47_1 : Nat → Int32) (r47_35 : Nat → Int32) (r47_36 : Nat → Int32) (r47_37 : Nat → Int32) (l47_1 : Nat → Int64) , i47 + n = (n_n + 1) → (fun (z : Int32 × (Nat → Int32) × (Nat → Int32) × (Nat → Int32) × (Nat → Int32) × (Nat → Int64)) => ∀ (wc : Value), am_F 6 am_k_101 91 [.ref 0, .int (nI act_n), .int (nI thing_n), .int (nI n_n), .int z.1, wc] [] (am_S (am_row (am_row (am_row (am_row (am_row f 1 z.2.1) 34 y4.2.1) 35 z.2.2.1) 36 z.2.2.2.1) 37 z.2.2.2.2.1) (am_row g 1 z.2.2.2.2.2)) res) (am_for (st_could_47 act_n thing_n f g y4) n i47 (a47_4, r47_1, r47_35, r47_36, r47_37, l47_1)) → am_F 6 am_k_101 47 [.ref 0, .int (nI act_n), .int (nI thing_n), .int (nI n_n), .int a47_4, .int (nI i47)] [] (am_S (am_row (am_row (am_row (am_row (am_row f 1 r47_1) 34 y4.2.1) 35 r47_35) 36 r47_36) 37 r47_37) (am_row g 1 l47_1)) res := by
  intro n
  induction n with
  | zero =>
    intro i47 a47_4 r47_1 r47_35 r47_36 r47_37 l47_1 hi hK
    refine am_F.pos 3 rfl (by show (nI n_n) < nI i47; rw [show (nI n_n : Int32) = nI n_n from rfl]; exact nI_lt (by omega) (by omega)) ?_
    exact hK _
  | succ n ih =>
    intro i47 a47_4 r47_1 r47_35 r47_36 r47_37 l47_1 hi hK
    refine am_F.neg 3 rfl (by show ¬ (nI n_n) < nI i47; rw [show (nI n_n : Int32) = nI n_n from rfl]; exact nI_nlt (by omega) (by omega)) ?_
    have hb47 : i47 < (n_n + 1) := by omega
    show am_F _ _ 53 [.ref 0, .int (nI act_n), .int (nI thing_n), .int (nI n_n), .int a47_4, .int (nI i47)] [] (am_S (am_row (am_row (am_row (am_row (am_row f 1 r47_1) 34 y4.2.1) 35 r47_35) 36 r47_36) 37 r47_37) (am_row g 1 l47_1)) _
    obtain ⟨K, hKd⟩ : ∃ K : (Int32 × (Nat → Int32) × (Nat → Int32) × (Nat → Int32) × (Nat → Int32) × (Nat → Int64)) → Prop, K = fun s => (fun (z : Int32 × (Nat → Int32) × (Nat → Int32) × (Nat → Int32) × (Nat → Int32) × (Nat → Int64)) => ∀ (wc : Value), am_F 6 am_k_101 91 [.ref 0, .int (nI act_n), .int (nI thing_n), .int (nI n_n), .int z.1, wc] [] (am_S (am_row (am_row (am_row (am_row (am_row f 1 z.2.1) 34 y4.2.1) 35 z.2.2.1) 36 z.2.2.2.1) 37 z.2.2.2.2.1) (am_row g 1 z.2.2.2.2.2)) res) (am_for (st_could_47 act_n thing_n f g y4) n (i47 + 1) s) := ⟨_, rfl⟩
    have hK : K ((st_could_47 act_n thing_n f g y4) i47 (a47_4, r47_1, r47_35, r47_36, r47_37, l47_1)) := by rw [hKd]; exact hK
    unfold st_could_47 at hK
    simp only at hK
    refine am_F.ops (pc' := 67) (L' := [.ref 0, .int (nI act_n), .int (nI thing_n), .int (nI n_n), .int a47_4, .int (nI i47)]) (S' := [.int ((f 2 12) + (nI i47)), .ref 1]) (μ' := (am_S (am_row (am_row (am_row (am_row (am_row f 1 r47_1) 34 y4.2.1) 35 r47_35) 36 r47_36) 37 r47_37) (am_row g 1 l47_1))) 7 rfl ?_
    refine am_F.call rfl rfl (x_turnTo ((f 2 12) + (nI i47)) (am_row (am_row (am_row (am_row (am_row f 1 r47_1) 34 y4.2.1) 35 r47_35) 36 r47_36) 37 r47_37) (am_row g 1 l47_1) hLc hLn hLf hLt hLr hRc hRn) (by decide) ?_
    obtain ⟨y7, hy7⟩ : ∃ z, (fn_turnTo ((f 2 12) + (nI i47)) (am_row (am_row (am_row (am_row (am_row f 1 r47_1) 34 y4.2.1) 35 r47_35) 36 r47_36) 37 r47_37) (am_row g 1 l47_1)) = z := ⟨_, rfl⟩
    (try rw [hy7] at hK)
    (try rw [hy7])
    refine am_F.mem (F' := (am_row (am_row (am_row (am_row (am_row f 1 y7.1) 34 y4.2.1) 35 y7.2.1) 36 r47_36) 37 r47_37)) (G' := (am_row g 1 y7.2.2)) ?_ (by first | rfl | (funext a; by_cases z0 : a = 1; (subst z0; rfl); by_cases z1 : a = 34; (subst z1; rfl); by_cases z2 : a = 35; (subst z2; rfl); by_cases z3 : a = 36; (subst z3; rfl); by_cases z4 : a = 37; (subst z4; rfl); simp only [am_ui, am_ul, am_row_ne z0, am_row_ne z1, am_row_ne z2, am_row_ne z3, am_row_ne z4])) (by first | rfl | (funext a; by_cases z0 : a = 1; (subst z0; rfl); by_cases z1 : a = 34; (subst z1; rfl); by_cases z2 : a = 35; (subst z2; rfl); by_cases z3 : a = 36; (subst z3; rfl); by_cases z4 : a = 37; (subst z4; rfl); simp only [am_ui, am_ul, am_row_ne z0, am_row_ne z1, am_row_ne z2, am_row_ne z3, am_row_ne z4]))
    show am_F _ _ 70 [.ref 0, .int (nI act_n), .int (nI thing_n), .int (nI n_n), .int a47_4, .int (nI i47)] [] (am_S (am_row (am_row (am_row (am_row (am_row f 1 y7.1) 34 y4.2.1) 35 y7.2.1) 36 r47_36) 37 r47_37) (am_row g 1 y7.2.2)) _
    refine am_F.ops (pc' := 79) (L' := [.ref 0, .int (nI act_n), .int (nI thing_n), .int (nI n_n), .int a47_4, .int (nI i47)]) (S' := [.int (nI thing_n), .int (nI act_n), .int 1, .ref 1, .int a47_4]) (μ' := (am_S (am_row (am_row (am_row (am_row (am_row f 1 y7.1) 34 y4.2.1) 35 y7.2.1) 36 r47_36) 37 r47_37) (am_row g 1 y7.2.2))) 6 rfl ?_
    refine am_F.call rfl rfl (x_usersWith 1 (nI act_n) thing_n (am_row (am_row (am_row (am_row (am_row f 1 y7.1) 34 y4.2.1) 35 y7.2.1) 36 r47_36) 37 r47_37) (am_row g 1 y7.2.2) hRc hRn hPa hCs (by omega)) (by decide) ?_
    obtain ⟨y8, hy8⟩ : ∃ z, (fn_usersWith 1 (nI act_n) thing_n (am_row (am_row (am_row (am_row (am_row f 1 y7.1) 34 y4.2.1) 35 y7.2.1) 36 r47_36) 37 r47_37)) = z := ⟨_, rfl⟩
    (try rw [hy8] at hK)
    (try rw [hy8])
    refine am_F.mem (F' := (am_row (am_row (am_row (am_row (am_row f 1 y7.1) 34 y4.2.1) 35 y7.2.1) 36 y8.2.1) 37 y8.2.2)) (G' := (am_row g 1 y7.2.2)) ?_ (by first | rfl | (funext a; by_cases z0 : a = 1; (subst z0; rfl); by_cases z1 : a = 34; (subst z1; rfl); by_cases z2 : a = 35; (subst z2; rfl); by_cases z3 : a = 36; (subst z3; rfl); by_cases z4 : a = 37; (subst z4; rfl); simp only [am_ui, am_ul, am_row_ne z0, am_row_ne z1, am_row_ne z2, am_row_ne z3, am_row_ne z4])) (by first | rfl | (funext a; by_cases z0 : a = 1; (subst z0; rfl); by_cases z1 : a = 34; (subst z1; rfl); by_cases z2 : a = 35; (subst z2; rfl); by_cases z3 : a = 36; (subst z3; rfl); by_cases z4 : a = 37; (subst z4; rfl); simp only [am_ui, am_ul, am_row_ne z0, am_row_ne z1, am_row_ne z2, am_row_ne z3, am_row_ne z4]))
    show am_F _ _ 82 [.ref 0, .int (nI act_n), .int (nI thing_n), .int (nI n_n), .int a47_4, .int (nI i47)] [.int y8.1, .int a47_4] (am_S (am_row (am_row (am_row (am_row (am_row f 1 y7.1) 34 y4.2.1) 35 y7.2.1) 36 y8.2.1) 37 y8.2.2) (am_row g 1 y7.2.2)) _
    refine am_F.ops (pc' := 47) (L' := [.ref 0, .int (nI act_n), .int (nI thing_n), .int (nI n_n), .int (a47_4 ||| y8.1), .int ((nI i47) + 1)]) (S' := []) (μ' := (am_S (am_row (am_row (am_row (am_row (am_row f 1 y7.1) 34 y4.2.1) 35 y7.2.1) 36 y8.2.1) 37 y8.2.2) (am_row g 1 y7.2.2))) 4 rfl ?_
    rw [nI_1 i47]
    subst hKd
    exact ih (i47 + 1) (a47_4 ||| y8.1) y7.1 y7.2.1 y8.2.1 y8.2.2 y7.2.2 (by omega)  hK
theorem x_could (act : Int32) (thing : Int32) (n : Int32) (f : Nat → Nat → Int32) (g : Nat → Nat → Int64) (hLc : f 11 7 = nI (f 11 7).toNatClampNeg) (hLn : (f 11 7).toNatClampNeg ≤ 40) (hLf : ∀ i, i < (f 11 7).toNatClampNeg → am_inb (f 12 i) 16 = true) (hLt : ∀ i, i < (f 11 7).toNatClampNeg → am_inb (f 13 i) 16 = true) (hLr : ∀ i, i < (f 11 7).toNatClampNeg → am_inb (f 14 i) 20 = true) (hRc : f 18 11 = nI (f 18 11).toNatClampNeg) (hRn : (f 18 11).toNatClampNeg ≤ 30) (hRr : ∀ i, i < (f 18 11).toNatClampNeg → am_inb (f 19 i) 20 = true) (hPa : ∀ t, t < 16 → (f 29 t).toInt < 16) (hCs : ∀ i, i < (f 18 11).toNatClampNeg → f 25 i = nI (f 25 i).toNatClampNeg ∧ (f 25 i).toNatClampNeg ≤ 80) : am_D 6 101 6 [.ref 0, .int act, .int thing, .int n] (am_S f g) (some (Value.int ((fn_could act thing n f g).1)), am_S (am_row (am_row (am_row (am_row (am_row f 1 ((fn_could act thing n f g).2.1)) 34 ((fn_could act thing n f g).2.2.1)) 35 ((fn_could act thing n f g).2.2.2.1)) 36 ((fn_could act thing n f g).2.2.2.2.1)) 37 ((fn_could act thing n f g).2.2.2.2.2.1)) (am_row g 1 ((fn_could act thing n f g).2.2.2.2.2.2))) := by
  refine am_D.of (code := am_k_101) rfl (L0 := [.ref 0, .int act, .int thing, .int n, am_un, am_un]) rfl ?_
  generalize hres : (some (Value.int ((fn_could act thing n f g).1)), am_S (am_row (am_row (am_row (am_row (am_row f 1 ((fn_could act thing n f g).2.1)) 34 ((fn_could act thing n f g).2.2.1)) 35 ((fn_could act thing n f g).2.2.2.1)) 36 ((fn_could act thing n f g).2.2.2.2.1)) 37 ((fn_could act thing n f g).2.2.2.2.2.1)) (am_row g 1 ((fn_could act thing n f g).2.2.2.2.2.2))) = res
  obtain ⟨K, hKd⟩ : ∃ K : (Int32 × (Nat → Int32) × (Nat → Int32) × (Nat → Int32) × (Nat → Int32) × (Nat → Int32) × (Nat → Int64)) → Prop, K = fun z => (some (Value.int z.1), am_S (am_row (am_row (am_row (am_row (am_row f 1 z.2.1) 34 z.2.2.1) 35 z.2.2.2.1) 36 z.2.2.2.2.1) 37 z.2.2.2.2.2.1) (am_row g 1 z.2.2.2.2.2.2)) = res := ⟨_, rfl⟩
  have hK : K (fn_could act thing n f g) := by rw [hKd]; exact hres
  clear hres
  unfold fn_could at hK
  refine am_F.ops (pc' := 1) (L' := [.ref 0, .int act, .int thing, .int n, am_un, am_un]) (S' := [.int act]) (μ' := (am_S f g)) 1 rfl ?_
  refine am_F.call rfl rfl (x_isAct act f g ) (by decide) ?_
  show am_F _ _ 4 [.ref 0, .int act, .int thing, .int n, am_un, am_un] [.int (am_b (fn_isAct act))] (am_S f g) _
  refine am_F.bifK 1 rfl K hK (fun c1 hK => ?_) (fun c1 hK => ?_)
  · obtain ⟨act_n, hact_n, eact_n⟩ := am_isAct c1
    subst eact_n
    try simp only [nI_clamp (show act_n < 2147483648 by omega)] at hK
    show am_F _ _ 7 [.ref 0, .int (nI act_n), .int thing, .int n, am_un, am_un] [] (am_S f g) _
    refine am_F.ops (pc' := 8) (L' := [.ref 0, .int (nI act_n), .int thing, .int n, am_un, am_un]) (S' := [.int thing]) (μ' := (am_S f g)) 1 rfl ?_
    refine am_F.call rfl rfl (x_isThing thing f g ) (by decide) ?_
    show am_F _ _ 11 [.ref 0, .int (nI act_n), .int thing, .int n, am_un, am_un] [.int (am_b (fn_isThing thing))] (am_S f g) _
    refine am_F.bifK 1 rfl K hK (fun c2 hK => ?_) (fun c2 hK => ?_)
    · obtain ⟨thing_n, hthing_n, ething_n⟩ := am_isThing c2
      subst ething_n
      try simp only [nI_clamp (show thing_n < 2147483648 by omega)] at hK
      show am_F _ _ 14 [.ref 0, .int (nI act_n), .int (nI thing_n), .int n, am_un, am_un] [] (am_S f g) _
      refine am_F.ops (pc' := 19) (L' := [.ref 0, .int (nI act_n), .int (nI thing_n), .int n, am_un, am_un]) (S' := [.int 200, .int 0, .int n]) (μ' := (am_S f g)) 3 rfl ?_
      refine am_F.call rfl rfl (x_between n 0 200 f g ) (by decide) ?_
      show am_F _ _ 22 [.ref 0, .int (nI act_n), .int (nI thing_n), .int n, am_un, am_un] [.int (am_b (fn_between n 0 200))] (am_S f g) _
      refine am_F.bifK 1 rfl K hK (fun c3 hK => ?_) (fun c3 hK => ?_)
      · obtain ⟨n_n, hn_n, en_n⟩ := am_btwN c3 (by decide)
        subst en_n
        try simp only [nI_clamp (show n_n < 2147483648 by omega)] at hK
        show am_F _ _ 27 [.ref 0, .int (nI act_n), .int (nI thing_n), .int (nI n_n), am_un, am_un] [] (am_S f g) _
        refine am_F.ops (pc' := 38) (L' := [.ref 0, .int (nI act_n), .int (nI thing_n), .int (nI n_n), am_un, am_un]) (S' := [.int (f 2 12), .ref 1]) (μ' := (am_S f g)) 5 rfl ?_
        refine am_F.call rfl rfl (x_settle (f 2 12) f g hLc hLn hLf hLt hLr hRc hRn) (by decide) ?_
        obtain ⟨y4, hy4⟩ : ∃ z, (fn_settle (f 2 12) f g) = z := ⟨_, rfl⟩
        (try rw [hy4] at hK)
        (try rw [hy4])
        refine am_F.mem (F' := (am_row (am_row (am_row f 1 y4.1) 34 y4.2.1) 35 y4.2.2.1)) (G' := (am_row g 1 y4.2.2.2)) ?_ (by first | rfl | (funext a; by_cases z0 : a = 1; (subst z0; rfl); by_cases z1 : a = 34; (subst z1; rfl); by_cases z2 : a = 35; (subst z2; rfl); simp only [am_ui, am_ul, am_row_ne z0, am_row_ne z1, am_row_ne z2])) (by first | rfl | (funext a; by_cases z0 : a = 1; (subst z0; rfl); by_cases z1 : a = 34; (subst z1; rfl); by_cases z2 : a = 35; (subst z2; rfl); simp only [am_ui, am_ul, am_row_ne z0, am_row_ne z1, am_row_ne z2]))
        show am_F _ _ 41 [.ref 0, .int (nI act_n), .int (nI thing_n), .int (nI n_n), am_un, am_un] [] (am_S (am_row (am_row (am_row f 1 y4.1) 34 y4.2.1) 35 y4.2.2.1) (am_row g 1 y4.2.2.2)) _
        refine am_F.ops (pc' := 47) (L' := [.ref 0, .int (nI act_n), .int (nI thing_n), .int (nI n_n), .int 0, .int 0]) (S' := []) (μ' := (am_S (am_row (am_row (am_row f 1 y4.1) 34 y4.2.1) 35 y4.2.2.1) (am_row g 1 y4.2.2.2))) 4 rfl ?_
        refine am_F.mem (F' := (am_row (am_row (am_row (am_row (am_row f 1 y4.1) 34 y4.2.1) 35 y4.2.2.1) 36 (f 36)) 37 (f 37))) (G' := (am_row g 1 y4.2.2.2)) ?_ (by first | rfl | (funext a; by_cases z0 : a = 1; (subst z0; rfl); by_cases z1 : a = 34; (subst z1; rfl); by_cases z2 : a = 35; (subst z2; rfl); by_cases z3 : a = 36; (subst z3; rfl); by_cases z4 : a = 37; (subst z4; rfl); simp only [am_ui, am_ul, am_row_ne z0, am_row_ne z1, am_row_ne z2, am_row_ne z3, am_row_ne z4])) (by first | rfl | (funext a; by_cases z0 : a = 1; (subst z0; rfl); by_cases z1 : a = 34; (subst z1; rfl); by_cases z2 : a = 35; (subst z2; rfl); by_cases z3 : a = 36; (subst z3; rfl); by_cases z4 : a = 37; (subst z4; rfl); simp only [am_ui, am_ul, am_row_ne z0, am_row_ne z1, am_row_ne z2, am_row_ne z3, am_row_ne z4]))
        show am_F _ _ 47 [.ref 0, .int (nI act_n), .int (nI thing_n), .int (nI n_n), .int 0, .int (nI 0)] [] (am_S (am_row (am_row (am_row (am_row (am_row f 1 y4.1) 34 y4.2.1) 35 y4.2.2.1) 36 (f 36)) 37 (f 37)) (am_row g 1 y4.2.2.2)) _
        refine lp_could_47 act_n thing_n n_n f g y4 hLc hLn hLf hLt hLr hRc hRn hRr hPa hCs hact_n hthing_n hn_n _ (n_n + 1) 0 0 y4.1 y4.2.2.1 (f 36) (f 37) y4.2.2.2  (by omega)  ?_
        rw [show am_for (st_could_47 act_n thing_n f g y4) (n_n + 1) 0 (0, y4.1, y4.2.2.1, f 36, f 37, y4.2.2.2) = (lf_could_47 act_n thing_n n_n f g y4) from rfl]
        generalize (lf_could_47 act_n thing_n n_n f g y4) = z47_9 at hK ⊢
        intro wc
        show am_F _ _ 91 [.ref 0, .int (nI act_n), .int (nI thing_n), .int (nI n_n), .int z47_9.1, wc] [] (am_S (am_row (am_row (am_row (am_row (am_row f 1 z47_9.2.1) 34 y4.2.1) 35 z47_9.2.2.1) 36 z47_9.2.2.2.1) 37 z47_9.2.2.2.2.1) (am_row g 1 z47_9.2.2.2.2.2)) _
        refine am_F.ops (pc' := 93) (L' := [.ref 0, .int (nI act_n), .int (nI thing_n), .int (nI n_n), .int z47_9.1, wc]) (S' := [.int z47_9.1]) (μ' := (am_S (am_row (am_row (am_row (am_row (am_row f 1 z47_9.2.1) 34 y4.2.1) 35 z47_9.2.2.1) 36 z47_9.2.2.2.1) 37 z47_9.2.2.2.2.1) (am_row g 1 z47_9.2.2.2.2.2))) 1 rfl ?_
        subst hKd
        exact am_F.eq (am_F.ret rfl rfl) hK
      · show am_F _ _ 25 [.ref 0, .int (nI act_n), .int (nI thing_n), .int n, am_un, am_un] [] (am_S f g) _
        refine am_F.ops (pc' := 26) (L' := [.ref 0, .int (nI act_n), .int (nI thing_n), .int n, am_un, am_un]) (S' := [.int (-1)]) (μ' := (am_S f g)) 1 rfl ?_
        refine am_F.mem (F' := (am_row (am_row (am_row (am_row (am_row f 1 (f 1)) 34 (f 34)) 35 (f 35)) 36 (f 36)) 37 (f 37))) (G' := (am_row g 1 (g 1))) ?_ (by first | rfl | (funext a; by_cases z0 : a = 1; (subst z0; rfl); by_cases z1 : a = 34; (subst z1; rfl); by_cases z2 : a = 35; (subst z2; rfl); by_cases z3 : a = 36; (subst z3; rfl); by_cases z4 : a = 37; (subst z4; rfl); simp only [am_ui, am_ul, am_row_ne z0, am_row_ne z1, am_row_ne z2, am_row_ne z3, am_row_ne z4])) (by first | rfl | (funext a; by_cases z0 : a = 1; (subst z0; rfl); by_cases z1 : a = 34; (subst z1; rfl); by_cases z2 : a = 35; (subst z2; rfl); by_cases z3 : a = 36; (subst z3; rfl); by_cases z4 : a = 37; (subst z4; rfl); simp only [am_ui, am_ul, am_row_ne z0, am_row_ne z1, am_row_ne z2, am_row_ne z3, am_row_ne z4]))
        subst hKd
        exact am_F.eq (am_F.ret rfl rfl) hK
    · show am_F _ _ 25 [.ref 0, .int (nI act_n), .int thing, .int n, am_un, am_un] [] (am_S f g) _
      refine am_F.ops (pc' := 26) (L' := [.ref 0, .int (nI act_n), .int thing, .int n, am_un, am_un]) (S' := [.int (-1)]) (μ' := (am_S f g)) 1 rfl ?_
      refine am_F.mem (F' := (am_row (am_row (am_row (am_row (am_row f 1 (f 1)) 34 (f 34)) 35 (f 35)) 36 (f 36)) 37 (f 37))) (G' := (am_row g 1 (g 1))) ?_ (by first | rfl | (funext a; by_cases z0 : a = 1; (subst z0; rfl); by_cases z1 : a = 34; (subst z1; rfl); by_cases z2 : a = 35; (subst z2; rfl); by_cases z3 : a = 36; (subst z3; rfl); by_cases z4 : a = 37; (subst z4; rfl); simp only [am_ui, am_ul, am_row_ne z0, am_row_ne z1, am_row_ne z2, am_row_ne z3, am_row_ne z4])) (by first | rfl | (funext a; by_cases z0 : a = 1; (subst z0; rfl); by_cases z1 : a = 34; (subst z1; rfl); by_cases z2 : a = 35; (subst z2; rfl); by_cases z3 : a = 36; (subst z3; rfl); by_cases z4 : a = 37; (subst z4; rfl); simp only [am_ui, am_ul, am_row_ne z0, am_row_ne z1, am_row_ne z2, am_row_ne z3, am_row_ne z4]))
      subst hKd
      exact am_F.eq (am_F.ret rfl rfl) hK
  · show am_F _ _ 25 [.ref 0, .int act, .int thing, .int n, am_un, am_un] [] (am_S f g) _
    refine am_F.ops (pc' := 26) (L' := [.ref 0, .int act, .int thing, .int n, am_un, am_un]) (S' := [.int (-1)]) (μ' := (am_S f g)) 1 rfl ?_
    refine am_F.mem (F' := (am_row (am_row (am_row (am_row (am_row f 1 (f 1)) 34 (f 34)) 35 (f 35)) 36 (f 36)) 37 (f 37))) (G' := (am_row g 1 (g 1))) ?_ (by first | rfl | (funext a; by_cases z0 : a = 1; (subst z0; rfl); by_cases z1 : a = 34; (subst z1; rfl); by_cases z2 : a = 35; (subst z2; rfl); by_cases z3 : a = 36; (subst z3; rfl); by_cases z4 : a = 37; (subst z4; rfl); simp only [am_ui, am_ul, am_row_ne z0, am_row_ne z1, am_row_ne z2, am_row_ne z3, am_row_ne z4])) (by first | rfl | (funext a; by_cases z0 : a = 1; (subst z0; rfl); by_cases z1 : a = 34; (subst z1; rfl); by_cases z2 : a = 35; (subst z2; rfl); by_cases z3 : a = 36; (subst z3; rfl); by_cases z4 : a = 37; (subst z4; rfl); simp only [am_ui, am_ul, am_row_ne z0, am_row_ne z1, am_row_ne z2, am_row_ne z3, am_row_ne z4]))
    subst hKd
    exact am_F.eq (am_F.ret rfl rfl) hK
/-- AccessLattice.until -/
def st_until_40 (user_n : Nat) (act_n : Nat) (thing_n : Nat) (f : Nat → Nat → Int32) (g : Nat → Nat → Int64) (y2 : (Nat → Int32) × (Nat → Int32) × (Nat → Int32) × (Nat → Int64)) (y3 : Int32 × (Nat → Int32) × (Nat → Int32)) : Nat → (Nat → Int32) × (Nat → Int32) × (Nat → Int32) × (Nat → Int32) × (Nat → Int64) → (Nat → Int32) × (Nat → Int32) × (Nat → Int32) × (Nat → Int32) × (Nat → Int64) ⊕ ((Nat → Int32) × (Nat → Int32) × (Nat → Int32) × (Nat → Int32) × (Nat → Int64) ⊕ Int32 × (Nat → Int32) × (Nat → Int32) × (Nat → Int32) × (Nat → Int32) × (Nat → Int32) × (Nat → Int64)) := fun i40 z => match z with
  | (r40_1, r40_35, r40_36, r40_37, l40_1) => (if (fn_answer user_n (nI act_n) thing_n (am_row (am_row (am_row (am_row (am_row f 1 (fn_turnTo ((f 2 12) + (nI i40)) (am_row (am_row (am_row (am_row (am_row f 1 r40_1) 34 y2.2.1) 35 r40_35) 36 r40_36) 37 r40_37) (am_row g 1 l40_1)).1) 34 y2.2.1) 35 (fn_turnTo ((f 2 12) + (nI i40)) (am_row (am_row (am_row (am_row (am_row f 1 r40_1) 34 y2.2.1) 35 r40_35) 36 r40_36) 37 r40_37) (am_row g 1 l40_1)).2.1) 36 r40_36) 37 r40_37)).1 = y3.1 then .inl ((fn_turnTo ((f 2 12) + (nI i40)) (am_row (am_row (am_row (am_row (am_row f 1 r40_1) 34 y2.2.1) 35 r40_35) 36 r40_36) 37 r40_37) (am_row g 1 l40_1)).1, (fn_turnTo ((f 2 12) + (nI i40)) (am_row (am_row (am_row (am_row (am_row f 1 r40_1) 34 y2.2.1) 35 r40_35) 36 r40_36) 37 r40_37) (am_row g 1 l40_1)).2.1, (fn_answer user_n (nI act_n) thing_n (am_row (am_row (am_row (am_row (am_row f 1 (fn_turnTo ((f 2 12) + (nI i40)) (am_row (am_row (am_row (am_row (am_row f 1 r40_1) 34 y2.2.1) 35 r40_35) 36 r40_36) 37 r40_37) (am_row g 1 l40_1)).1) 34 y2.2.1) 35 (fn_turnTo ((f 2 12) + (nI i40)) (am_row (am_row (am_row (am_row (am_row f 1 r40_1) 34 y2.2.1) 35 r40_35) 36 r40_36) 37 r40_37) (am_row g 1 l40_1)).2.1) 36 r40_36) 37 r40_37)).2.1, (fn_answer user_n (nI act_n) thing_n (am_row (am_row (am_row (am_row (am_row f 1 (fn_turnTo ((f 2 12) + (nI i40)) (am_row (am_row (am_row (am_row (am_row f 1 r40_1) 34 y2.2.1) 35 r40_35) 36 r40_36) 37 r40_37) (am_row g 1 l40_1)).1) 34 y2.2.1) 35 (fn_turnTo ((f 2 12) + (nI i40)) (am_row (am_row (am_row (am_row (am_row f 1 r40_1) 34 y2.2.1) 35 r40_35) 36 r40_36) 37 r40_37) (am_row g 1 l40_1)).2.1) 36 r40_36) 37 r40_37)).2.2, (fn_turnTo ((f 2 12) + (nI i40)) (am_row (am_row (am_row (am_row (am_row f 1 r40_1) 34 y2.2.1) 35 r40_35) 36 r40_36) 37 r40_37) (am_row g 1 l40_1)).2.2) else .inr (.inr ((f 2 12) + (nI i40), (fn_turnTo ((f 2 12) + (nI i40)) (am_row (am_row (am_row (am_row (am_row f 1 r40_1) 34 y2.2.1) 35 r40_35) 36 r40_36) 37 r40_37) (am_row g 1 l40_1)).1, y2.2.1, (fn_turnTo ((f 2 12) + (nI i40)) (am_row (am_row (am_row (am_row (am_row f 1 r40_1) 34 y2.2.1) 35 r40_35) 36 r40_36) 37 r40_37) (am_row g 1 l40_1)).2.1, (fn_answer user_n (nI act_n) thing_n (am_row (am_row (am_row (am_row (am_row f 1 (fn_turnTo ((f 2 12) + (nI i40)) (am_row (am_row (am_row (am_row (am_row f 1 r40_1) 34 y2.2.1) 35 r40_35) 36 r40_36) 37 r40_37) (am_row g 1 l40_1)).1) 34 y2.2.1) 35 (fn_turnTo ((f 2 12) + (nI i40)) (am_row (am_row (am_row (am_row (am_row f 1 r40_1) 34 y2.2.1) 35 r40_35) 36 r40_36) 37 r40_37) (am_row g 1 l40_1)).2.1) 36 r40_36) 37 r40_37)).2.1, (fn_answer user_n (nI act_n) thing_n (am_row (am_row (am_row (am_row (am_row f 1 (fn_turnTo ((f 2 12) + (nI i40)) (am_row (am_row (am_row (am_row (am_row f 1 r40_1) 34 y2.2.1) 35 r40_35) 36 r40_36) 37 r40_37) (am_row g 1 l40_1)).1) 34 y2.2.1) 35 (fn_turnTo ((f 2 12) + (nI i40)) (am_row (am_row (am_row (am_row (am_row f 1 r40_1) 34 y2.2.1) 35 r40_35) 36 r40_36) 37 r40_37) (am_row g 1 l40_1)).2.1) 36 r40_36) 37 r40_37)).2.2, (fn_turnTo ((f 2 12) + (nI i40)) (am_row (am_row (am_row (am_row (am_row f 1 r40_1) 34 y2.2.1) 35 r40_35) 36 r40_36) 37 r40_37) (am_row g 1 l40_1)).2.2)))
def lf_until_40 (user_n : Nat) (act_n : Nat) (thing_n : Nat) (f : Nat → Nat → Int32) (g : Nat → Nat → Int64) (y2 : (Nat → Int32) × (Nat → Int32) × (Nat → Int32) × (Nat → Int64)) (y3 : Int32 × (Nat → Int32) × (Nat → Int32)) : (Nat → Int32) × (Nat → Int32) × (Nat → Int32) × (Nat → Int32) × (Nat → Int64) ⊕ Int32 × (Nat → Int32) × (Nat → Int32) × (Nat → Int32) × (Nat → Int32) × (Nat → Int32) × (Nat → Int64) := am_forX (st_until_40 user_n act_n thing_n f g y2 y3) ((200 + 1) - 1) 1 (y2.1, y2.2.2.1, y3.2.1, y3.2.2, y2.2.2.2)
def fn_until (user : Int32) (act : Int32) (thing : Int32) (f : Nat → Nat → Int32) (g : Nat → Nat → Int64) : Int32 × (Nat → Int32) × (Nat → Int32) × (Nat → Int32) × (Nat → Int32) × (Nat → Int32) × (Nat → Int64) := (bif (fn_isAsked user act thing) then (Sum.elim (fun (z40 : (Nat → Int32) × (Nat → Int32) × (Nat → Int32) × (Nat → Int32) × (Nat → Int64)) => ((-2), z40.1, (fn_settle (f 2 12) f g).2.1, z40.2.1, z40.2.2.1, z40.2.2.2.1, z40.2.2.2.2)) (fun (z : Int32 × (Nat → Int32) × (Nat → Int32) × (Nat → Int32) × (Nat → Int32) × (Nat → Int32) × (Nat → Int64)) => z) (lf_until_40 (user.toNatClampNeg) (act.toNatClampNeg) (thing.toNatClampNeg) f g (fn_settle (f 2 12) f g) (fn_answer (user.toNatClampNeg) act (thing.toNatClampNeg) (am_row (am_row (am_row f 1 (fn_settle (f 2 12) f g).1) 34 (fn_settle (f 2 12) f g).2.1) 35 (fn_settle (f 2 12) f g).2.2.1)))) else ((-1), f 1, f 34, f 35, f 36, f 37, g 1))
theorem lp_until_40 (user_n : Nat) (act_n : Nat) (thing_n : Nat) (f : Nat → Nat → Int32) (g : Nat → Nat → Int64) (y2 : (Nat → Int32) × (Nat → Int32) × (Nat → Int32) × (Nat → Int64)) (y3 : Int32 × (Nat → Int32) × (Nat → Int32)) (hLc : f 11 7 = nI (f 11 7).toNatClampNeg) (hLn : (f 11 7).toNatClampNeg ≤ 40) (hLf : ∀ i, i < (f 11 7).toNatClampNeg → am_inb (f 12 i) 16 = true) (hLt : ∀ i, i < (f 11 7).toNatClampNeg → am_inb (f 13 i) 16 = true) (hLr : ∀ i, i < (f 11 7).toNatClampNeg → am_inb (f 14 i) 20 = true) (hRc : f 18 11 = nI (f 18 11).toNatClampNeg) (hRn : (f 18 11).toNatClampNeg ≤ 30) (hRr : ∀ i, i < (f 18 11).toNatClampNeg → am_inb (f 19 i) 20 = true) (hPa : ∀ t, t < 16 → (f 29 t).toInt < 16) (hCs : ∀ i, i < (f 18 11).toNatClampNeg → f 25 i = nI (f 25 i).toNatClampNeg ∧ (f 25 i).toNatClampNeg ≤ 80) (huser_n : user_n < 16) (hact_n : act_n < 8) (hthing_n : thing_n < 16) (res : Option Value × am_M) : ∀ (n i40 : Nat) (r40_1 : Nat → Int32) (r40_35 : Nat → Int32) (r40_36 : Nat → Int32) (r40_37 : Nat → Int32) (l40_1 : Nat → Int64) , i40 + n = (200 + 1) → am_KX (fun (z : (Nat → Int32) × (Nat → Int32) × (Nat → Int32) × (Nat → Int32) × (Nat → Int64)) => ∀ (wc : Value), am_F 6 am_k_111 97 [.ref 0, .int (nI user_n), .int (nI act_n), .int (nI thing_n), .int y3.1, wc] [] (am_S (am_row (am_row (am_row (am_row (am_row f 1 z.1) 34 y2.2.1) 35 z.2.1) 36 z.2.2.1) 37 z.2.2.2.1) (am_row g 1 z.2.2.2.2)) res) (fun (z : Int32 × (Nat → Int32) × (Nat → Int32) × (Nat → Int32) × (Nat → Int32) × (Nat → Int32) × (Nat → Int64)) => (some (Value.int z.1), am_S (am_row (am_row (am_row (am_row (am_row f 1 z.2.1) 34 z.2.2.1) 35 z.2.2.2.1) 36 z.2.2.2.2.1) 37 z.2.2.2.2.2.1) (am_row g 1 z.2.2.2.2.2.2)) = res) (am_forX (st_until_40 user_n act_n thing_n f g y2 y3) n i40 (r40_1, r40_35, r40_36, r40_37, l40_1)) → am_F 6 am_k_111 40 [.ref 0, .int (nI user_n), .int (nI act_n), .int (nI thing_n), .int y3.1, .int (nI i40)] [] (am_S (am_row (am_row (am_row (am_row (am_row f 1 r40_1) 34 y2.2.1) 35 r40_35) 36 r40_36) 37 r40_37) (am_row g 1 l40_1)) res := by
  intro n
  induction n with
  | zero =>
    intro i40 r40_1 r40_35 r40_36 r40_37 l40_1 hi hK
    refine am_F.pos 3 rfl (by show 200 < nI i40; rw [show (200 : Int32) = nI 200 from rfl]; exact nI_lt (by omega) (by omega)) ?_
    exact hK _
  | succ n ih =>
    intro i40 r40_1 r40_35 r40_36 r40_37 l40_1 hi hK
    refine am_F.neg 3 rfl (by show ¬ 200 < nI i40; rw [show (200 : Int32) = nI 200 from rfl]; exact nI_nlt (by omega) (by omega)) ?_
    have hb40 : i40 < (200 + 1) := by omega
    show am_F _ _ 48 [.ref 0, .int (nI user_n), .int (nI act_n), .int (nI thing_n), .int y3.1, .int (nI i40)] [] (am_S (am_row (am_row (am_row (am_row (am_row f 1 r40_1) 34 y2.2.1) 35 r40_35) 36 r40_36) 37 r40_37) (am_row g 1 l40_1)) _
    obtain ⟨K, hKd⟩ : ∃ K : ((Nat → Int32) × (Nat → Int32) × (Nat → Int32) × (Nat → Int32) × (Nat → Int64) ⊕ ((Nat → Int32) × (Nat → Int32) × (Nat → Int32) × (Nat → Int32) × (Nat → Int64) ⊕ Int32 × (Nat → Int32) × (Nat → Int32) × (Nat → Int32) × (Nat → Int32) × (Nat → Int32) × (Nat → Int64))) → Prop, K = fun s => am_KX (fun (z : (Nat → Int32) × (Nat → Int32) × (Nat → Int32) × (Nat → Int32) × (Nat → Int64)) => ∀ (wc : Value), am_F 6 am_k_111 97 [.ref 0, .int (nI user_n), .int (nI act_n), .int (nI thing_n), .int y3.1, wc] [] (am_S (am_row (am_row (am_row (am_row (am_row f 1 z.1) 34 y2.2.1) 35 z.2.1) 36 z.2.2.1) 37 z.2.2.2.1) (am_row g 1 z.2.2.2.2)) res) (fun (z : Int32 × (Nat → Int32) × (Nat → Int32) × (Nat → Int32) × (Nat → Int32) × (Nat → Int32) × (Nat → Int64)) => (some (Value.int z.1), am_S (am_row (am_row (am_row (am_row (am_row f 1 z.2.1) 34 z.2.2.1) 35 z.2.2.2.1) 36 z.2.2.2.2.1) 37 z.2.2.2.2.2.1) (am_row g 1 z.2.2.2.2.2.2)) = res) (am_nxt (fun z => am_forX (st_until_40 user_n act_n thing_n f g y2 y3) n (i40 + 1) z) s) := ⟨_, rfl⟩
    have hK : K ((st_until_40 user_n act_n thing_n f g y2 y3) i40 (r40_1, r40_35, r40_36, r40_37, l40_1)) := by rw [hKd]; exact hK
    unfold st_until_40 at hK
    simp only at hK
    refine am_F.ops (pc' := 62) (L' := [.ref 0, .int (nI user_n), .int (nI act_n), .int (nI thing_n), .int y3.1, .int (nI i40)]) (S' := [.int ((f 2 12) + (nI i40)), .ref 1]) (μ' := (am_S (am_row (am_row (am_row (am_row (am_row f 1 r40_1) 34 y2.2.1) 35 r40_35) 36 r40_36) 37 r40_37) (am_row g 1 l40_1))) 7 rfl ?_
    refine am_F.call rfl rfl (x_turnTo ((f 2 12) + (nI i40)) (am_row (am_row (am_row (am_row (am_row f 1 r40_1) 34 y2.2.1) 35 r40_35) 36 r40_36) 37 r40_37) (am_row g 1 l40_1) hLc hLn hLf hLt hLr hRc hRn) (by decide) ?_
    obtain ⟨y7, hy7⟩ : ∃ z, (fn_turnTo ((f 2 12) + (nI i40)) (am_row (am_row (am_row (am_row (am_row f 1 r40_1) 34 y2.2.1) 35 r40_35) 36 r40_36) 37 r40_37) (am_row g 1 l40_1)) = z := ⟨_, rfl⟩
    (try rw [hy7] at hK)
    (try rw [hy7])
    refine am_F.mem (F' := (am_row (am_row (am_row (am_row (am_row f 1 y7.1) 34 y2.2.1) 35 y7.2.1) 36 r40_36) 37 r40_37)) (G' := (am_row g 1 y7.2.2)) ?_ (by first | rfl | (funext a; by_cases z0 : a = 1; (subst z0; rfl); by_cases z1 : a = 34; (subst z1; rfl); by_cases z2 : a = 35; (subst z2; rfl); by_cases z3 : a = 36; (subst z3; rfl); by_cases z4 : a = 37; (subst z4; rfl); simp only [am_ui, am_ul, am_row_ne z0, am_row_ne z1, am_row_ne z2, am_row_ne z3, am_row_ne z4])) (by first | rfl | (funext a; by_cases z0 : a = 1; (subst z0; rfl); by_cases z1 : a = 34; (subst z1; rfl); by_cases z2 : a = 35; (subst z2; rfl); by_cases z3 : a = 36; (subst z3; rfl); by_cases z4 : a = 37; (subst z4; rfl); simp only [am_ui, am_ul, am_row_ne z0, am_row_ne z1, am_row_ne z2, am_row_ne z3, am_row_ne z4]))
    show am_F _ _ 65 [.ref 0, .int (nI user_n), .int (nI act_n), .int (nI thing_n), .int y3.1, .int (nI i40)] [] (am_S (am_row (am_row (am_row (am_row (am_row f 1 y7.1) 34 y2.2.1) 35 y7.2.1) 36 r40_36) 37 r40_37) (am_row g 1 y7.2.2)) _
    refine am_F.ops (pc' := 72) (L' := [.ref 0, .int (nI user_n), .int (nI act_n), .int (nI thing_n), .int y3.1, .int (nI i40)]) (S' := [.int (nI thing_n), .int (nI act_n), .int (nI user_n), .ref 1]) (μ' := (am_S (am_row (am_row (am_row (am_row (am_row f 1 y7.1) 34 y2.2.1) 35 y7.2.1) 36 r40_36) 37 r40_37) (am_row g 1 y7.2.2))) 5 rfl ?_
    refine am_F.call rfl rfl (x_answer user_n (nI act_n) thing_n (am_row (am_row (am_row (am_row (am_row f 1 y7.1) 34 y2.2.1) 35 y7.2.1) 36 r40_36) 37 r40_37) (am_row g 1 y7.2.2) hRc hRn hPa hCs (by omega) (by omega)) (by decide) ?_
    obtain ⟨y8, hy8⟩ : ∃ z, (fn_answer user_n (nI act_n) thing_n (am_row (am_row (am_row (am_row (am_row f 1 y7.1) 34 y2.2.1) 35 y7.2.1) 36 r40_36) 37 r40_37)) = z := ⟨_, rfl⟩
    (try rw [hy8] at hK)
    (try rw [hy8])
    refine am_F.mem (F' := (am_row (am_row (am_row (am_row (am_row f 1 y7.1) 34 y2.2.1) 35 y7.2.1) 36 y8.2.1) 37 y8.2.2)) (G' := (am_row g 1 y7.2.2)) ?_ (by first | rfl | (funext a; by_cases z0 : a = 1; (subst z0; rfl); by_cases z1 : a = 34; (subst z1; rfl); by_cases z2 : a = 35; (subst z2; rfl); by_cases z3 : a = 36; (subst z3; rfl); by_cases z4 : a = 37; (subst z4; rfl); simp only [am_ui, am_ul, am_row_ne z0, am_row_ne z1, am_row_ne z2, am_row_ne z3, am_row_ne z4])) (by first | rfl | (funext a; by_cases z0 : a = 1; (subst z0; rfl); by_cases z1 : a = 34; (subst z1; rfl); by_cases z2 : a = 35; (subst z2; rfl); by_cases z3 : a = 36; (subst z3; rfl); by_cases z4 : a = 37; (subst z4; rfl); simp only [am_ui, am_ul, am_row_ne z0, am_row_ne z1, am_row_ne z2, am_row_ne z3, am_row_ne z4]))
    show am_F _ _ 75 [.ref 0, .int (nI user_n), .int (nI act_n), .int (nI thing_n), .int y3.1, .int (nI i40)] [.int y8.1] (am_S (am_row (am_row (am_row (am_row (am_row f 1 y7.1) 34 y2.2.1) 35 y7.2.1) 36 y8.2.1) 37 y8.2.2) (am_row g 1 y7.2.2)) _
    refine am_F.ops (pc' := 77) (L' := [.ref 0, .int (nI user_n), .int (nI act_n), .int (nI thing_n), .int y3.1, .int (nI i40)]) (S' := [.int y3.1, .int y8.1]) (μ' := (am_S (am_row (am_row (am_row (am_row (am_row f 1 y7.1) 34 y2.2.1) 35 y7.2.1) 36 y8.2.1) 37 y8.2.2) (am_row g 1 y7.2.2))) 1 rfl ?_
    refine am_F.iteK 1 rfl K hK (fun c9 hK => ?_) (fun c9 hK => ?_)
    · show am_F _ _ 91 [.ref 0, .int (nI user_n), .int (nI act_n), .int (nI thing_n), .int y3.1, .int (nI i40)] [] (am_S (am_row (am_row (am_row (am_row (am_row f 1 y7.1) 34 y2.2.1) 35 y7.2.1) 36 y8.2.1) 37 y8.2.2) (am_row g 1 y7.2.2)) _
      refine am_F.ops (pc' := 40) (L' := [.ref 0, .int (nI user_n), .int (nI act_n), .int (nI thing_n), .int y3.1, .int ((nI i40) + 1)]) (S' := []) (μ' := (am_S (am_row (am_row (am_row (am_row (am_row f 1 y7.1) 34 y2.2.1) 35 y7.2.1) 36 y8.2.1) 37 y8.2.2) (am_row g 1 y7.2.2))) 2 rfl ?_
      rw [nI_1 i40]
      subst hKd
      exact ih (i40 + 1) y7.1 y7.2.1 y8.2.1 y8.2.2 y7.2.2 (by omega)  hK
    · show am_F _ _ 80 [.ref 0, .int (nI user_n), .int (nI act_n), .int (nI thing_n), .int y3.1, .int (nI i40)] [] (am_S (am_row (am_row (am_row (am_row (am_row f 1 y7.1) 34 y2.2.1) 35 y7.2.1) 36 y8.2.1) 37 y8.2.2) (am_row g 1 y7.2.2)) _
      refine am_F.ops (pc' := 90) (L' := [.ref 0, .int (nI user_n), .int (nI act_n), .int (nI thing_n), .int y3.1, .int (nI i40)]) (S' := [.int ((f 2 12) + (nI i40))]) (μ' := (am_S (am_row (am_row (am_row (am_row (am_row f 1 y7.1) 34 y2.2.1) 35 y7.2.1) 36 y8.2.1) 37 y8.2.2) (am_row g 1 y7.2.2))) 5 rfl ?_
      subst hKd
      exact am_F.eq (am_F.ret rfl rfl) hK
theorem x_until (user : Int32) (act : Int32) (thing : Int32) (f : Nat → Nat → Int32) (g : Nat → Nat → Int64) (hLc : f 11 7 = nI (f 11 7).toNatClampNeg) (hLn : (f 11 7).toNatClampNeg ≤ 40) (hLf : ∀ i, i < (f 11 7).toNatClampNeg → am_inb (f 12 i) 16 = true) (hLt : ∀ i, i < (f 11 7).toNatClampNeg → am_inb (f 13 i) 16 = true) (hLr : ∀ i, i < (f 11 7).toNatClampNeg → am_inb (f 14 i) 20 = true) (hRc : f 18 11 = nI (f 18 11).toNatClampNeg) (hRn : (f 18 11).toNatClampNeg ≤ 30) (hRr : ∀ i, i < (f 18 11).toNatClampNeg → am_inb (f 19 i) 20 = true) (hPa : ∀ t, t < 16 → (f 29 t).toInt < 16) (hCs : ∀ i, i < (f 18 11).toNatClampNeg → f 25 i = nI (f 25 i).toNatClampNeg ∧ (f 25 i).toNatClampNeg ≤ 80) : am_D 6 111 6 [.ref 0, .int user, .int act, .int thing] (am_S f g) (some (Value.int ((fn_until user act thing f g).1)), am_S (am_row (am_row (am_row (am_row (am_row f 1 ((fn_until user act thing f g).2.1)) 34 ((fn_until user act thing f g).2.2.1)) 35 ((fn_until user act thing f g).2.2.2.1)) 36 ((fn_until user act thing f g).2.2.2.2.1)) 37 ((fn_until user act thing f g).2.2.2.2.2.1)) (am_row g 1 ((fn_until user act thing f g).2.2.2.2.2.2))) := by
  refine am_D.of (code := am_k_111) rfl (L0 := [.ref 0, .int user, .int act, .int thing, am_un, am_un]) rfl ?_
  generalize hres : (some (Value.int ((fn_until user act thing f g).1)), am_S (am_row (am_row (am_row (am_row (am_row f 1 ((fn_until user act thing f g).2.1)) 34 ((fn_until user act thing f g).2.2.1)) 35 ((fn_until user act thing f g).2.2.2.1)) 36 ((fn_until user act thing f g).2.2.2.2.1)) 37 ((fn_until user act thing f g).2.2.2.2.2.1)) (am_row g 1 ((fn_until user act thing f g).2.2.2.2.2.2))) = res
  obtain ⟨K, hKd⟩ : ∃ K : (Int32 × (Nat → Int32) × (Nat → Int32) × (Nat → Int32) × (Nat → Int32) × (Nat → Int32) × (Nat → Int64)) → Prop, K = fun z => (some (Value.int z.1), am_S (am_row (am_row (am_row (am_row (am_row f 1 z.2.1) 34 z.2.2.1) 35 z.2.2.2.1) 36 z.2.2.2.2.1) 37 z.2.2.2.2.2.1) (am_row g 1 z.2.2.2.2.2.2)) = res := ⟨_, rfl⟩
  have hK : K (fn_until user act thing f g) := by rw [hKd]; exact hres
  clear hres
  unfold fn_until at hK
  refine am_F.ops (pc' := 3) (L' := [.ref 0, .int user, .int act, .int thing, am_un, am_un]) (S' := [.int thing, .int act, .int user]) (μ' := (am_S f g)) 3 rfl ?_
  refine am_F.call rfl rfl (x_isAsked user act thing f g ) (by decide) ?_
  show am_F _ _ 6 [.ref 0, .int user, .int act, .int thing, am_un, am_un] [.int (am_b (fn_isAsked user act thing))] (am_S f g) _
  refine am_F.bifK 1 rfl K hK (fun c1 hK => ?_) (fun c1 hK => ?_)
  · obtain ⟨user_n, huser_n, euser_n⟩ := (am_isAsk c1).1
    obtain ⟨act_n, hact_n, eact_n⟩ := (am_isAsk c1).2.1
    obtain ⟨thing_n, hthing_n, ething_n⟩ := (am_isAsk c1).2.2
    subst euser_n
    try simp only [nI_clamp (show user_n < 2147483648 by omega)] at hK
    subst eact_n
    try simp only [nI_clamp (show act_n < 2147483648 by omega)] at hK
    subst ething_n
    try simp only [nI_clamp (show thing_n < 2147483648 by omega)] at hK
    show am_F _ _ 11 [.ref 0, .int (nI user_n), .int (nI act_n), .int (nI thing_n), am_un, am_un] [] (am_S f g) _
    refine am_F.ops (pc' := 22) (L' := [.ref 0, .int (nI user_n), .int (nI act_n), .int (nI thing_n), am_un, am_un]) (S' := [.int (f 2 12), .ref 1]) (μ' := (am_S f g)) 5 rfl ?_
    refine am_F.call rfl rfl (x_settle (f 2 12) f g hLc hLn hLf hLt hLr hRc hRn) (by decide) ?_
    obtain ⟨y2, hy2⟩ : ∃ z, (fn_settle (f 2 12) f g) = z := ⟨_, rfl⟩
    (try rw [hy2] at hK)
    (try rw [hy2])
    refine am_F.mem (F' := (am_row (am_row (am_row f 1 y2.1) 34 y2.2.1) 35 y2.2.2.1)) (G' := (am_row g 1 y2.2.2.2)) ?_ (by first | rfl | (funext a; by_cases z0 : a = 1; (subst z0; rfl); by_cases z1 : a = 34; (subst z1; rfl); by_cases z2 : a = 35; (subst z2; rfl); simp only [am_ui, am_ul, am_row_ne z0, am_row_ne z1, am_row_ne z2])) (by first | rfl | (funext a; by_cases z0 : a = 1; (subst z0; rfl); by_cases z1 : a = 34; (subst z1; rfl); by_cases z2 : a = 35; (subst z2; rfl); simp only [am_ui, am_ul, am_row_ne z0, am_row_ne z1, am_row_ne z2]))
    show am_F _ _ 25 [.ref 0, .int (nI user_n), .int (nI act_n), .int (nI thing_n), am_un, am_un] [] (am_S (am_row (am_row (am_row f 1 y2.1) 34 y2.2.1) 35 y2.2.2.1) (am_row g 1 y2.2.2.2)) _
    refine am_F.ops (pc' := 32) (L' := [.ref 0, .int (nI user_n), .int (nI act_n), .int (nI thing_n), am_un, am_un]) (S' := [.int (nI thing_n), .int (nI act_n), .int (nI user_n), .ref 1]) (μ' := (am_S (am_row (am_row (am_row f 1 y2.1) 34 y2.2.1) 35 y2.2.2.1) (am_row g 1 y2.2.2.2))) 5 rfl ?_
    refine am_F.call rfl rfl (x_answer user_n (nI act_n) thing_n (am_row (am_row (am_row f 1 y2.1) 34 y2.2.1) 35 y2.2.2.1) (am_row g 1 y2.2.2.2) hRc hRn hPa hCs (by omega) (by omega)) (by decide) ?_
    obtain ⟨y3, hy3⟩ : ∃ z, (fn_answer user_n (nI act_n) thing_n (am_row (am_row (am_row f 1 y2.1) 34 y2.2.1) 35 y2.2.2.1)) = z := ⟨_, rfl⟩
    (try rw [hy3] at hK)
    (try rw [hy3])
    refine am_F.mem (F' := (am_row (am_row (am_row (am_row (am_row f 1 y2.1) 34 y2.2.1) 35 y2.2.2.1) 36 y3.2.1) 37 y3.2.2)) (G' := (am_row g 1 y2.2.2.2)) ?_ (by first | rfl | (funext a; by_cases z0 : a = 1; (subst z0; rfl); by_cases z1 : a = 34; (subst z1; rfl); by_cases z2 : a = 35; (subst z2; rfl); by_cases z3 : a = 36; (subst z3; rfl); by_cases z4 : a = 37; (subst z4; rfl); simp only [am_ui, am_ul, am_row_ne z0, am_row_ne z1, am_row_ne z2, am_row_ne z3, am_row_ne z4])) (by first | rfl | (funext a; by_cases z0 : a = 1; (subst z0; rfl); by_cases z1 : a = 34; (subst z1; rfl); by_cases z2 : a = 35; (subst z2; rfl); by_cases z3 : a = 36; (subst z3; rfl); by_cases z4 : a = 37; (subst z4; rfl); simp only [am_ui, am_ul, am_row_ne z0, am_row_ne z1, am_row_ne z2, am_row_ne z3, am_row_ne z4]))
    show am_F _ _ 35 [.ref 0, .int (nI user_n), .int (nI act_n), .int (nI thing_n), am_un, am_un] [.int y3.1] (am_S (am_row (am_row (am_row (am_row (am_row f 1 y2.1) 34 y2.2.1) 35 y2.2.2.1) 36 y3.2.1) 37 y3.2.2) (am_row g 1 y2.2.2.2)) _
    refine am_F.ops (pc' := 40) (L' := [.ref 0, .int (nI user_n), .int (nI act_n), .int (nI thing_n), .int y3.1, .int 1]) (S' := []) (μ' := (am_S (am_row (am_row (am_row (am_row (am_row f 1 y2.1) 34 y2.2.1) 35 y2.2.2.1) 36 y3.2.1) 37 y3.2.2) (am_row g 1 y2.2.2.2))) 3 rfl ?_
    show am_F _ _ 40 [.ref 0, .int (nI user_n), .int (nI act_n), .int (nI thing_n), .int y3.1, .int (nI 1)] [] (am_S (am_row (am_row (am_row (am_row (am_row f 1 y2.1) 34 y2.2.1) 35 y2.2.2.1) 36 y3.2.1) 37 y3.2.2) (am_row g 1 y2.2.2.2)) _
    refine lp_until_40 user_n act_n thing_n f g y2 y3 hLc hLn hLf hLt hLr hRc hRn hRr hPa hCs huser_n hact_n hthing_n _ ((200 + 1) - 1) 1 y2.1 y2.2.2.1 y3.2.1 y3.2.2 y2.2.2.2  (by omega)  ?_
    rw [show am_forX (st_until_40 user_n act_n thing_n f g y2 y3) ((200 + 1) - 1) 1 (y2.1, y2.2.2.1, y3.2.1, y3.2.2, y2.2.2.2) = (lf_until_40 user_n act_n thing_n f g y2 y3) from rfl]
    revert hK
    cases (lf_until_40 user_n act_n thing_n f g y2 y3) with
    | inr z =>
      intro hK
      subst hKd
      exact hK
    | inl z40 =>
      intro hK wc
      refine am_F.ops (pc' := 99) (L' := [.ref 0, .int (nI user_n), .int (nI act_n), .int (nI thing_n), .int y3.1, wc]) (S' := [.int (-2)]) (μ' := (am_S (am_row (am_row (am_row (am_row (am_row f 1 z40.1) 34 y2.2.1) 35 z40.2.1) 36 z40.2.2.1) 37 z40.2.2.2.1) (am_row g 1 z40.2.2.2.2))) 1 rfl ?_
      subst hKd
      exact am_F.eq (am_F.ret rfl rfl) hK
  · show am_F _ _ 9 [.ref 0, .int user, .int act, .int thing, am_un, am_un] [] (am_S f g) _
    refine am_F.ops (pc' := 10) (L' := [.ref 0, .int user, .int act, .int thing, am_un, am_un]) (S' := [.int (-1)]) (μ' := (am_S f g)) 1 rfl ?_
    refine am_F.mem (F' := (am_row (am_row (am_row (am_row (am_row f 1 (f 1)) 34 (f 34)) 35 (f 35)) 36 (f 36)) 37 (f 37))) (G' := (am_row g 1 (g 1))) ?_ (by first | rfl | (funext a; by_cases z0 : a = 1; (subst z0; rfl); by_cases z1 : a = 34; (subst z1; rfl); by_cases z2 : a = 35; (subst z2; rfl); by_cases z3 : a = 36; (subst z3; rfl); by_cases z4 : a = 37; (subst z4; rfl); simp only [am_ui, am_ul, am_row_ne z0, am_row_ne z1, am_row_ne z2, am_row_ne z3, am_row_ne z4])) (by first | rfl | (funext a; by_cases z0 : a = 1; (subst z0; rfl); by_cases z1 : a = 34; (subst z1; rfl); by_cases z2 : a = 35; (subst z2; rfl); by_cases z3 : a = 36; (subst z3; rfl); by_cases z4 : a = 37; (subst z4; rfl); simp only [am_ui, am_ul, am_row_ne z0, am_row_ne z1, am_row_ne z2, am_row_ne z3, am_row_ne z4]))
    subst hKd
    exact am_F.eq (am_F.ret rfl rfl) hK
/-- AccessLattice.changes -/
def st_changes_49 (user_n : Nat) (act_n : Nat) (thing_n : Nat) (i : Int32) (f : Nat → Nat → Int32) (g : Nat → Nat → Int64) (y3 : (Nat → Int32) × (Nat → Int32) × (Nat → Int32) × (Nat → Int64)) : Nat → Int32 × Int32 × (Nat → Int32) × (Nat → Int32) × (Nat → Int32) × (Nat → Int32) × (Nat → Int64) → Int32 × Int32 × (Nat → Int32) × (Nat → Int32) × (Nat → Int32) × (Nat → Int32) × (Nat → Int64) ⊕ (Int32 × Int32 × (Nat → Int32) × (Nat → Int32) × (Nat → Int32) × (Nat → Int32) × (Nat → Int64) ⊕ Int32 × (Nat → Int32) × (Nat → Int32) × (Nat → Int32) × (Nat → Int32) × (Nat → Int32) × (Nat → Int64)) := fun i49 z => match z with
  | (a49_5, a49_6, r49_1, r49_35, r49_36, r49_37, l49_1) => (if (fn_answer user_n (nI act_n) thing_n (am_row (am_row (am_row (am_row (am_row f 1 (fn_turnTo ((f 2 12) + (nI i49)) (am_row (am_row (am_row (am_row (am_row f 1 r49_1) 34 y3.2.1) 35 r49_35) 36 r49_36) 37 r49_37) (am_row g 1 l49_1)).1) 34 y3.2.1) 35 (fn_turnTo ((f 2 12) + (nI i49)) (am_row (am_row (am_row (am_row (am_row f 1 r49_1) 34 y3.2.1) 35 r49_35) 36 r49_36) 37 r49_37) (am_row g 1 l49_1)).2.1) 36 r49_36) 37 r49_37)).1 = a49_5 then .inl ((fn_answer user_n (nI act_n) thing_n (am_row (am_row (am_row (am_row (am_row f 1 (fn_turnTo ((f 2 12) + (nI i49)) (am_row (am_row (am_row (am_row (am_row f 1 r49_1) 34 y3.2.1) 35 r49_35) 36 r49_36) 37 r49_37) (am_row g 1 l49_1)).1) 34 y3.2.1) 35 (fn_turnTo ((f 2 12) + (nI i49)) (am_row (am_row (am_row (am_row (am_row f 1 r49_1) 34 y3.2.1) 35 r49_35) 36 r49_36) 37 r49_37) (am_row g 1 l49_1)).2.1) 36 r49_36) 37 r49_37)).1, a49_6, (fn_turnTo ((f 2 12) + (nI i49)) (am_row (am_row (am_row (am_row (am_row f 1 r49_1) 34 y3.2.1) 35 r49_35) 36 r49_36) 37 r49_37) (am_row g 1 l49_1)).1, (fn_turnTo ((f 2 12) + (nI i49)) (am_row (am_row (am_row (am_row (am_row f 1 r49_1) 34 y3.2.1) 35 r49_35) 36 r49_36) 37 r49_37) (am_row g 1 l49_1)).2.1, (fn_answer user_n (nI act_n) thing_n (am_row (am_row (am_row (am_row (am_row f 1 (fn_turnTo ((f 2 12) + (nI i49)) (am_row (am_row (am_row (am_row (am_row f 1 r49_1) 34 y3.2.1) 35 r49_35) 36 r49_36) 37 r49_37) (am_row g 1 l49_1)).1) 34 y3.2.1) 35 (fn_turnTo ((f 2 12) + (nI i49)) (am_row (am_row (am_row (am_row (am_row f 1 r49_1) 34 y3.2.1) 35 r49_35) 36 r49_36) 37 r49_37) (am_row g 1 l49_1)).2.1) 36 r49_36) 37 r49_37)).2.1, (fn_answer user_n (nI act_n) thing_n (am_row (am_row (am_row (am_row (am_row f 1 (fn_turnTo ((f 2 12) + (nI i49)) (am_row (am_row (am_row (am_row (am_row f 1 r49_1) 34 y3.2.1) 35 r49_35) 36 r49_36) 37 r49_37) (am_row g 1 l49_1)).1) 34 y3.2.1) 35 (fn_turnTo ((f 2 12) + (nI i49)) (am_row (am_row (am_row (am_row (am_row f 1 r49_1) 34 y3.2.1) 35 r49_35) 36 r49_36) 37 r49_37) (am_row g 1 l49_1)).2.1) 36 r49_36) 37 r49_37)).2.2, (fn_turnTo ((f 2 12) + (nI i49)) (am_row (am_row (am_row (am_row (am_row f 1 r49_1) 34 y3.2.1) 35 r49_35) 36 r49_36) 37 r49_37) (am_row g 1 l49_1)).2.2) else (if a49_6 = i then .inr (.inr ((f 2 12) + (nI i49), (fn_turnTo ((f 2 12) + (nI i49)) (am_row (am_row (am_row (am_row (am_row f 1 r49_1) 34 y3.2.1) 35 r49_35) 36 r49_36) 37 r49_37) (am_row g 1 l49_1)).1, y3.2.1, (fn_turnTo ((f 2 12) + (nI i49)) (am_row (am_row (am_row (am_row (am_row f 1 r49_1) 34 y3.2.1) 35 r49_35) 36 r49_36) 37 r49_37) (am_row g 1 l49_1)).2.1, (fn_answer user_n (nI act_n) thing_n (am_row (am_row (am_row (am_row (am_row f 1 (fn_turnTo ((f 2 12) + (nI i49)) (am_row (am_row (am_row (am_row (am_row f 1 r49_1) 34 y3.2.1) 35 r49_35) 36 r49_36) 37 r49_37) (am_row g 1 l49_1)).1) 34 y3.2.1) 35 (fn_turnTo ((f 2 12) + (nI i49)) (am_row (am_row (am_row (am_row (am_row f 1 r49_1) 34 y3.2.1) 35 r49_35) 36 r49_36) 37 r49_37) (am_row g 1 l49_1)).2.1) 36 r49_36) 37 r49_37)).2.1, (fn_answer user_n (nI act_n) thing_n (am_row (am_row (am_row (am_row (am_row f 1 (fn_turnTo ((f 2 12) + (nI i49)) (am_row (am_row (am_row (am_row (am_row f 1 r49_1) 34 y3.2.1) 35 r49_35) 36 r49_36) 37 r49_37) (am_row g 1 l49_1)).1) 34 y3.2.1) 35 (fn_turnTo ((f 2 12) + (nI i49)) (am_row (am_row (am_row (am_row (am_row f 1 r49_1) 34 y3.2.1) 35 r49_35) 36 r49_36) 37 r49_37) (am_row g 1 l49_1)).2.1) 36 r49_36) 37 r49_37)).2.2, (fn_turnTo ((f 2 12) + (nI i49)) (am_row (am_row (am_row (am_row (am_row f 1 r49_1) 34 y3.2.1) 35 r49_35) 36 r49_36) 37 r49_37) (am_row g 1 l49_1)).2.2)) else .inl ((fn_answer user_n (nI act_n) thing_n (am_row (am_row (am_row (am_row (am_row f 1 (fn_turnTo ((f 2 12) + (nI i49)) (am_row (am_row (am_row (am_row (am_row f 1 r49_1) 34 y3.2.1) 35 r49_35) 36 r49_36) 37 r49_37) (am_row g 1 l49_1)).1) 34 y3.2.1) 35 (fn_turnTo ((f 2 12) + (nI i49)) (am_row (am_row (am_row (am_row (am_row f 1 r49_1) 34 y3.2.1) 35 r49_35) 36 r49_36) 37 r49_37) (am_row g 1 l49_1)).2.1) 36 r49_36) 37 r49_37)).1, a49_6 + 1, (fn_turnTo ((f 2 12) + (nI i49)) (am_row (am_row (am_row (am_row (am_row f 1 r49_1) 34 y3.2.1) 35 r49_35) 36 r49_36) 37 r49_37) (am_row g 1 l49_1)).1, (fn_turnTo ((f 2 12) + (nI i49)) (am_row (am_row (am_row (am_row (am_row f 1 r49_1) 34 y3.2.1) 35 r49_35) 36 r49_36) 37 r49_37) (am_row g 1 l49_1)).2.1, (fn_answer user_n (nI act_n) thing_n (am_row (am_row (am_row (am_row (am_row f 1 (fn_turnTo ((f 2 12) + (nI i49)) (am_row (am_row (am_row (am_row (am_row f 1 r49_1) 34 y3.2.1) 35 r49_35) 36 r49_36) 37 r49_37) (am_row g 1 l49_1)).1) 34 y3.2.1) 35 (fn_turnTo ((f 2 12) + (nI i49)) (am_row (am_row (am_row (am_row (am_row f 1 r49_1) 34 y3.2.1) 35 r49_35) 36 r49_36) 37 r49_37) (am_row g 1 l49_1)).2.1) 36 r49_36) 37 r49_37)).2.1, (fn_answer user_n (nI act_n) thing_n (am_row (am_row (am_row (am_row (am_row f 1 (fn_turnTo ((f 2 12) + (nI i49)) (am_row (am_row (am_row (am_row (am_row f 1 r49_1) 34 y3.2.1) 35 r49_35) 36 r49_36) 37 r49_37) (am_row g 1 l49_1)).1) 34 y3.2.1) 35 (fn_turnTo ((f 2 12) + (nI i49)) (am_row (am_row (am_row (am_row (am_row f 1 r49_1) 34 y3.2.1) 35 r49_35) 36 r49_36) 37 r49_37) (am_row g 1 l49_1)).2.1) 36 r49_36) 37 r49_37)).2.2, (fn_turnTo ((f 2 12) + (nI i49)) (am_row (am_row (am_row (am_row (am_row f 1 r49_1) 34 y3.2.1) 35 r49_35) 36 r49_36) 37 r49_37) (am_row g 1 l49_1)).2.2)))
def lf_changes_49 (user_n : Nat) (act_n : Nat) (thing_n : Nat) (i : Int32) (f : Nat → Nat → Int32) (g : Nat → Nat → Int64) (y3 : (Nat → Int32) × (Nat → Int32) × (Nat → Int32) × (Nat → Int64)) (y4 : Int32 × (Nat → Int32) × (Nat → Int32)) : Int32 × Int32 × (Nat → Int32) × (Nat → Int32) × (Nat → Int32) × (Nat → Int32) × (Nat → Int64) ⊕ Int32 × (Nat → Int32) × (Nat → Int32) × (Nat → Int32) × (Nat → Int32) × (Nat → Int32) × (Nat → Int64) := am_forX (st_changes_49 user_n act_n thing_n i f g y3) ((200 + 1) - 1) 1 (y4.1, 0, y3.1, y3.2.2.1, y4.2.1, y4.2.2, y3.2.2.2)
def fn_changes (user : Int32) (act : Int32) (thing : Int32) (i : Int32) (f : Nat → Nat → Int32) (g : Nat → Nat → Int64) : Int32 × (Nat → Int32) × (Nat → Int32) × (Nat → Int32) × (Nat → Int32) × (Nat → Int32) × (Nat → Int64) := (bif (fn_isAsked user act thing) then (if (-1) ≤ i then (Sum.elim (fun (z49 : Int32 × Int32 × (Nat → Int32) × (Nat → Int32) × (Nat → Int32) × (Nat → Int32) × (Nat → Int64)) => ((if 0 ≤ i then (-2) else z49.2.1), z49.2.2.1, (fn_settle (f 2 12) f g).2.1, z49.2.2.2.1, z49.2.2.2.2.1, z49.2.2.2.2.2.1, z49.2.2.2.2.2.2)) (fun (z : Int32 × (Nat → Int32) × (Nat → Int32) × (Nat → Int32) × (Nat → Int32) × (Nat → Int32) × (Nat → Int64)) => z) (lf_changes_49 (user.toNatClampNeg) (act.toNatClampNeg) (thing.toNatClampNeg) i f g (fn_settle (f 2 12) f g) (fn_answer (user.toNatClampNeg) act (thing.toNatClampNeg) (am_row (am_row (am_row f 1 (fn_settle (f 2 12) f g).1) 34 (fn_settle (f 2 12) f g).2.1) 35 (fn_settle (f 2 12) f g).2.2.1)))) else ((-1), f 1, f 34, f 35, f 36, f 37, g 1)) else ((-1), f 1, f 34, f 35, f 36, f 37, g 1))
theorem lp_changes_49 (user_n : Nat) (act_n : Nat) (thing_n : Nat) (i : Int32) (f : Nat → Nat → Int32) (g : Nat → Nat → Int64) (y3 : (Nat → Int32) × (Nat → Int32) × (Nat → Int32) × (Nat → Int64)) (y4 : Int32 × (Nat → Int32) × (Nat → Int32)) (hLc : f 11 7 = nI (f 11 7).toNatClampNeg) (hLn : (f 11 7).toNatClampNeg ≤ 40) (hLf : ∀ i, i < (f 11 7).toNatClampNeg → am_inb (f 12 i) 16 = true) (hLt : ∀ i, i < (f 11 7).toNatClampNeg → am_inb (f 13 i) 16 = true) (hLr : ∀ i, i < (f 11 7).toNatClampNeg → am_inb (f 14 i) 20 = true) (hRc : f 18 11 = nI (f 18 11).toNatClampNeg) (hRn : (f 18 11).toNatClampNeg ≤ 30) (hRr : ∀ i, i < (f 18 11).toNatClampNeg → am_inb (f 19 i) 20 = true) (hPa : ∀ t, t < 16 → (f 29 t).toInt < 16) (hCs : ∀ i, i < (f 18 11).toNatClampNeg → f 25 i = nI (f 25 i).toNatClampNeg ∧ (f 25 i).toNatClampNeg ≤ 80) (huser_n : user_n < 16) (hact_n : act_n < 8) (hthing_n : thing_n < 16) (res : Option Value × am_M) : ∀ (n i49 : Nat) (a49_5 : Int32) (a49_6 : Int32) (r49_1 : Nat → Int32) (r49_35 : Nat → Int32) (r49_36 : Nat → Int32) (r49_37 : Nat → Int32) (l49_1 : Nat → Int64) (w49_8 : Value), i49 + n = (200 + 1) → am_KX (fun (z : Int32 × Int32 × (Nat → Int32) × (Nat → Int32) × (Nat → Int32) × (Nat → Int32) × (Nat → Int64)) => ∀ (wc : Value) (w49_8 : Value), am_F 6 am_k_115 124 [.ref 0, .int (nI user_n), .int (nI act_n), .int (nI thing_n), .int i, .int z.1, .int z.2.1, wc, w49_8] [] (am_S (am_row (am_row (am_row (am_row (am_row f 1 z.2.2.1) 34 y3.2.1) 35 z.2.2.2.1) 36 z.2.2.2.2.1) 37 z.2.2.2.2.2.1) (am_row g 1 z.2.2.2.2.2.2)) res) (fun (z : Int32 × (Nat → Int32) × (Nat → Int32) × (Nat → Int32) × (Nat → Int32) × (Nat → Int32) × (Nat → Int64)) => (some (Value.int z.1), am_S (am_row (am_row (am_row (am_row (am_row f 1 z.2.1) 34 z.2.2.1) 35 z.2.2.2.1) 36 z.2.2.2.2.1) 37 z.2.2.2.2.2.1) (am_row g 1 z.2.2.2.2.2.2)) = res) (am_forX (st_changes_49 user_n act_n thing_n i f g y3) n i49 (a49_5, a49_6, r49_1, r49_35, r49_36, r49_37, l49_1)) → am_F 6 am_k_115 49 [.ref 0, .int (nI user_n), .int (nI act_n), .int (nI thing_n), .int i, .int a49_5, .int a49_6, .int (nI i49), w49_8] [] (am_S (am_row (am_row (am_row (am_row (am_row f 1 r49_1) 34 y3.2.1) 35 r49_35) 36 r49_36) 37 r49_37) (am_row g 1 l49_1)) res := by
  intro n
  induction n with
  | zero =>
    intro i49 a49_5 a49_6 r49_1 r49_35 r49_36 r49_37 l49_1 w49_8 hi hK
    refine am_F.pos 3 rfl (by show 200 < nI i49; rw [show (200 : Int32) = nI 200 from rfl]; exact nI_lt (by omega) (by omega)) ?_
    exact hK _ _
  | succ n ih =>
    intro i49 a49_5 a49_6 r49_1 r49_35 r49_36 r49_37 l49_1 w49_8 hi hK
    refine am_F.neg 3 rfl (by show ¬ 200 < nI i49; rw [show (200 : Int32) = nI 200 from rfl]; exact nI_nlt (by omega) (by omega)) ?_
    have hb49 : i49 < (200 + 1) := by omega
    show am_F _ _ 57 [.ref 0, .int (nI user_n), .int (nI act_n), .int (nI thing_n), .int i, .int a49_5, .int a49_6, .int (nI i49), w49_8] [] (am_S (am_row (am_row (am_row (am_row (am_row f 1 r49_1) 34 y3.2.1) 35 r49_35) 36 r49_36) 37 r49_37) (am_row g 1 l49_1)) _
    obtain ⟨K, hKd⟩ : ∃ K : (Int32 × Int32 × (Nat → Int32) × (Nat → Int32) × (Nat → Int32) × (Nat → Int32) × (Nat → Int64) ⊕ (Int32 × Int32 × (Nat → Int32) × (Nat → Int32) × (Nat → Int32) × (Nat → Int32) × (Nat → Int64) ⊕ Int32 × (Nat → Int32) × (Nat → Int32) × (Nat → Int32) × (Nat → Int32) × (Nat → Int32) × (Nat → Int64))) → Prop, K = fun s => am_KX (fun (z : Int32 × Int32 × (Nat → Int32) × (Nat → Int32) × (Nat → Int32) × (Nat → Int32) × (Nat → Int64)) => ∀ (wc : Value) (w49_8 : Value), am_F 6 am_k_115 124 [.ref 0, .int (nI user_n), .int (nI act_n), .int (nI thing_n), .int i, .int z.1, .int z.2.1, wc, w49_8] [] (am_S (am_row (am_row (am_row (am_row (am_row f 1 z.2.2.1) 34 y3.2.1) 35 z.2.2.2.1) 36 z.2.2.2.2.1) 37 z.2.2.2.2.2.1) (am_row g 1 z.2.2.2.2.2.2)) res) (fun (z : Int32 × (Nat → Int32) × (Nat → Int32) × (Nat → Int32) × (Nat → Int32) × (Nat → Int32) × (Nat → Int64)) => (some (Value.int z.1), am_S (am_row (am_row (am_row (am_row (am_row f 1 z.2.1) 34 z.2.2.1) 35 z.2.2.2.1) 36 z.2.2.2.2.1) 37 z.2.2.2.2.2.1) (am_row g 1 z.2.2.2.2.2.2)) = res) (am_nxt (fun z => am_forX (st_changes_49 user_n act_n thing_n i f g y3) n (i49 + 1) z) s) := ⟨_, rfl⟩
    have hK : K ((st_changes_49 user_n act_n thing_n i f g y3) i49 (a49_5, a49_6, r49_1, r49_35, r49_36, r49_37, l49_1)) := by rw [hKd]; exact hK
    unfold st_changes_49 at hK
    simp only at hK
    refine am_F.ops (pc' := 71) (L' := [.ref 0, .int (nI user_n), .int (nI act_n), .int (nI thing_n), .int i, .int a49_5, .int a49_6, .int (nI i49), w49_8]) (S' := [.int ((f 2 12) + (nI i49)), .ref 1]) (μ' := (am_S (am_row (am_row (am_row (am_row (am_row f 1 r49_1) 34 y3.2.1) 35 r49_35) 36 r49_36) 37 r49_37) (am_row g 1 l49_1))) 7 rfl ?_
    refine am_F.call rfl rfl (x_turnTo ((f 2 12) + (nI i49)) (am_row (am_row (am_row (am_row (am_row f 1 r49_1) 34 y3.2.1) 35 r49_35) 36 r49_36) 37 r49_37) (am_row g 1 l49_1) hLc hLn hLf hLt hLr hRc hRn) (by decide) ?_
    obtain ⟨y9, hy9⟩ : ∃ z, (fn_turnTo ((f 2 12) + (nI i49)) (am_row (am_row (am_row (am_row (am_row f 1 r49_1) 34 y3.2.1) 35 r49_35) 36 r49_36) 37 r49_37) (am_row g 1 l49_1)) = z := ⟨_, rfl⟩
    (try rw [hy9] at hK)
    (try rw [hy9])
    refine am_F.mem (F' := (am_row (am_row (am_row (am_row (am_row f 1 y9.1) 34 y3.2.1) 35 y9.2.1) 36 r49_36) 37 r49_37)) (G' := (am_row g 1 y9.2.2)) ?_ (by first | rfl | (funext a; by_cases z0 : a = 1; (subst z0; rfl); by_cases z1 : a = 34; (subst z1; rfl); by_cases z2 : a = 35; (subst z2; rfl); by_cases z3 : a = 36; (subst z3; rfl); by_cases z4 : a = 37; (subst z4; rfl); simp only [am_ui, am_ul, am_row_ne z0, am_row_ne z1, am_row_ne z2, am_row_ne z3, am_row_ne z4])) (by first | rfl | (funext a; by_cases z0 : a = 1; (subst z0; rfl); by_cases z1 : a = 34; (subst z1; rfl); by_cases z2 : a = 35; (subst z2; rfl); by_cases z3 : a = 36; (subst z3; rfl); by_cases z4 : a = 37; (subst z4; rfl); simp only [am_ui, am_ul, am_row_ne z0, am_row_ne z1, am_row_ne z2, am_row_ne z3, am_row_ne z4]))
    show am_F _ _ 74 [.ref 0, .int (nI user_n), .int (nI act_n), .int (nI thing_n), .int i, .int a49_5, .int a49_6, .int (nI i49), w49_8] [] (am_S (am_row (am_row (am_row (am_row (am_row f 1 y9.1) 34 y3.2.1) 35 y9.2.1) 36 r49_36) 37 r49_37) (am_row g 1 y9.2.2)) _
    refine am_F.ops (pc' := 81) (L' := [.ref 0, .int (nI user_n), .int (nI act_n), .int (nI thing_n), .int i, .int a49_5, .int a49_6, .int (nI i49), w49_8]) (S' := [.int (nI thing_n), .int (nI act_n), .int (nI user_n), .ref 1]) (μ' := (am_S (am_row (am_row (am_row (am_row (am_row f 1 y9.1) 34 y3.2.1) 35 y9.2.1) 36 r49_36) 37 r49_37) (am_row g 1 y9.2.2))) 5 rfl ?_
    refine am_F.call rfl rfl (x_answer user_n (nI act_n) thing_n (am_row (am_row (am_row (am_row (am_row f 1 y9.1) 34 y3.2.1) 35 y9.2.1) 36 r49_36) 37 r49_37) (am_row g 1 y9.2.2) hRc hRn hPa hCs (by omega) (by omega)) (by decide) ?_
    obtain ⟨y10, hy10⟩ : ∃ z, (fn_answer user_n (nI act_n) thing_n (am_row (am_row (am_row (am_row (am_row f 1 y9.1) 34 y3.2.1) 35 y9.2.1) 36 r49_36) 37 r49_37)) = z := ⟨_, rfl⟩
    (try rw [hy10] at hK)
    (try rw [hy10])
    refine am_F.mem (F' := (am_row (am_row (am_row (am_row (am_row f 1 y9.1) 34 y3.2.1) 35 y9.2.1) 36 y10.2.1) 37 y10.2.2)) (G' := (am_row g 1 y9.2.2)) ?_ (by first | rfl | (funext a; by_cases z0 : a = 1; (subst z0; rfl); by_cases z1 : a = 34; (subst z1; rfl); by_cases z2 : a = 35; (subst z2; rfl); by_cases z3 : a = 36; (subst z3; rfl); by_cases z4 : a = 37; (subst z4; rfl); simp only [am_ui, am_ul, am_row_ne z0, am_row_ne z1, am_row_ne z2, am_row_ne z3, am_row_ne z4])) (by first | rfl | (funext a; by_cases z0 : a = 1; (subst z0; rfl); by_cases z1 : a = 34; (subst z1; rfl); by_cases z2 : a = 35; (subst z2; rfl); by_cases z3 : a = 36; (subst z3; rfl); by_cases z4 : a = 37; (subst z4; rfl); simp only [am_ui, am_ul, am_row_ne z0, am_row_ne z1, am_row_ne z2, am_row_ne z3, am_row_ne z4]))
    show am_F _ _ 84 [.ref 0, .int (nI user_n), .int (nI act_n), .int (nI thing_n), .int i, .int a49_5, .int a49_6, .int (nI i49), w49_8] [.int y10.1] (am_S (am_row (am_row (am_row (am_row (am_row f 1 y9.1) 34 y3.2.1) 35 y9.2.1) 36 y10.2.1) 37 y10.2.2) (am_row g 1 y9.2.2)) _
    refine am_F.ops (pc' := 90) (L' := [.ref 0, .int (nI user_n), .int (nI act_n), .int (nI thing_n), .int i, .int a49_5, .int a49_6, .int (nI i49), .int y10.1]) (S' := [.int a49_5, .int y10.1]) (μ' := (am_S (am_row (am_row (am_row (am_row (am_row f 1 y9.1) 34 y3.2.1) 35 y9.2.1) 36 y10.2.1) 37 y10.2.2) (am_row g 1 y9.2.2))) 3 rfl ?_
    refine am_F.iteK 1 rfl K hK (fun c11 hK => ?_) (fun c11 hK => ?_)
    · show am_F _ _ 114 [.ref 0, .int (nI user_n), .int (nI act_n), .int (nI thing_n), .int i, .int a49_5, .int a49_6, .int (nI i49), .int y10.1] [] (am_S (am_row (am_row (am_row (am_row (am_row f 1 y9.1) 34 y3.2.1) 35 y9.2.1) 36 y10.2.1) 37 y10.2.2) (am_row g 1 y9.2.2)) _
      refine am_F.ops (pc' := 49) (L' := [.ref 0, .int (nI user_n), .int (nI act_n), .int (nI thing_n), .int i, .int y10.1, .int a49_6, .int ((nI i49) + 1), .int y10.1]) (S' := []) (μ' := (am_S (am_row (am_row (am_row (am_row (am_row f 1 y9.1) 34 y3.2.1) 35 y9.2.1) 36 y10.2.1) 37 y10.2.2) (am_row g 1 y9.2.2))) 4 rfl ?_
      rw [nI_1 i49]
      subst hKd
      exact ih (i49 + 1) y10.1 a49_6 y9.1 y9.2.1 y10.2.1 y10.2.2 y9.2.2 (.int y10.1) (by omega)  hK
    · show am_F _ _ 93 [.ref 0, .int (nI user_n), .int (nI act_n), .int (nI thing_n), .int i, .int a49_5, .int a49_6, .int (nI i49), .int y10.1] [] (am_S (am_row (am_row (am_row (am_row (am_row f 1 y9.1) 34 y3.2.1) 35 y9.2.1) 36 y10.2.1) 37 y10.2.2) (am_row g 1 y9.2.2)) _
      refine am_F.ops (pc' := 97) (L' := [.ref 0, .int (nI user_n), .int (nI act_n), .int (nI thing_n), .int i, .int a49_5, .int a49_6, .int (nI i49), .int y10.1]) (S' := [.int i, .int a49_6]) (μ' := (am_S (am_row (am_row (am_row (am_row (am_row f 1 y9.1) 34 y3.2.1) 35 y9.2.1) 36 y10.2.1) 37 y10.2.2) (am_row g 1 y9.2.2))) 2 rfl ?_
      refine am_F.iteK 1 rfl K hK (fun c12 hK => ?_) (fun c12 hK => ?_)
      · show am_F _ _ 100 [.ref 0, .int (nI user_n), .int (nI act_n), .int (nI thing_n), .int i, .int a49_5, .int a49_6, .int (nI i49), .int y10.1] [] (am_S (am_row (am_row (am_row (am_row (am_row f 1 y9.1) 34 y3.2.1) 35 y9.2.1) 36 y10.2.1) 37 y10.2.2) (am_row g 1 y9.2.2)) _
        refine am_F.ops (pc' := 110) (L' := [.ref 0, .int (nI user_n), .int (nI act_n), .int (nI thing_n), .int i, .int a49_5, .int a49_6, .int (nI i49), .int y10.1]) (S' := [.int ((f 2 12) + (nI i49))]) (μ' := (am_S (am_row (am_row (am_row (am_row (am_row f 1 y9.1) 34 y3.2.1) 35 y9.2.1) 36 y10.2.1) 37 y10.2.2) (am_row g 1 y9.2.2))) 5 rfl ?_
        subst hKd
        exact am_F.eq (am_F.ret rfl rfl) hK
      · show am_F _ _ 111 [.ref 0, .int (nI user_n), .int (nI act_n), .int (nI thing_n), .int i, .int a49_5, .int a49_6, .int (nI i49), .int y10.1] [] (am_S (am_row (am_row (am_row (am_row (am_row f 1 y9.1) 34 y3.2.1) 35 y9.2.1) 36 y10.2.1) 37 y10.2.2) (am_row g 1 y9.2.2)) _
        refine am_F.ops (pc' := 49) (L' := [.ref 0, .int (nI user_n), .int (nI act_n), .int (nI thing_n), .int i, .int y10.1, .int (a49_6 + 1), .int ((nI i49) + 1), .int y10.1]) (S' := []) (μ' := (am_S (am_row (am_row (am_row (am_row (am_row f 1 y9.1) 34 y3.2.1) 35 y9.2.1) 36 y10.2.1) 37 y10.2.2) (am_row g 1 y9.2.2))) 5 rfl ?_
        rw [nI_1 i49]
        subst hKd
        exact ih (i49 + 1) y10.1 (a49_6 + 1) y9.1 y9.2.1 y10.2.1 y10.2.2 y9.2.2 (.int y10.1) (by omega)  hK
theorem x_changes (user : Int32) (act : Int32) (thing : Int32) (i : Int32) (f : Nat → Nat → Int32) (g : Nat → Nat → Int64) (hLc : f 11 7 = nI (f 11 7).toNatClampNeg) (hLn : (f 11 7).toNatClampNeg ≤ 40) (hLf : ∀ i, i < (f 11 7).toNatClampNeg → am_inb (f 12 i) 16 = true) (hLt : ∀ i, i < (f 11 7).toNatClampNeg → am_inb (f 13 i) 16 = true) (hLr : ∀ i, i < (f 11 7).toNatClampNeg → am_inb (f 14 i) 20 = true) (hRc : f 18 11 = nI (f 18 11).toNatClampNeg) (hRn : (f 18 11).toNatClampNeg ≤ 30) (hRr : ∀ i, i < (f 18 11).toNatClampNeg → am_inb (f 19 i) 20 = true) (hPa : ∀ t, t < 16 → (f 29 t).toInt < 16) (hCs : ∀ i, i < (f 18 11).toNatClampNeg → f 25 i = nI (f 25 i).toNatClampNeg ∧ (f 25 i).toNatClampNeg ≤ 80) : am_D 6 115 9 [.ref 0, .int user, .int act, .int thing, .int i] (am_S f g) (some (Value.int ((fn_changes user act thing i f g).1)), am_S (am_row (am_row (am_row (am_row (am_row f 1 ((fn_changes user act thing i f g).2.1)) 34 ((fn_changes user act thing i f g).2.2.1)) 35 ((fn_changes user act thing i f g).2.2.2.1)) 36 ((fn_changes user act thing i f g).2.2.2.2.1)) 37 ((fn_changes user act thing i f g).2.2.2.2.2.1)) (am_row g 1 ((fn_changes user act thing i f g).2.2.2.2.2.2))) := by
  refine am_D.of (code := am_k_115) rfl (L0 := [.ref 0, .int user, .int act, .int thing, .int i, am_un, am_un, am_un, am_un]) rfl ?_
  generalize hres : (some (Value.int ((fn_changes user act thing i f g).1)), am_S (am_row (am_row (am_row (am_row (am_row f 1 ((fn_changes user act thing i f g).2.1)) 34 ((fn_changes user act thing i f g).2.2.1)) 35 ((fn_changes user act thing i f g).2.2.2.1)) 36 ((fn_changes user act thing i f g).2.2.2.2.1)) 37 ((fn_changes user act thing i f g).2.2.2.2.2.1)) (am_row g 1 ((fn_changes user act thing i f g).2.2.2.2.2.2))) = res
  obtain ⟨K, hKd⟩ : ∃ K : (Int32 × (Nat → Int32) × (Nat → Int32) × (Nat → Int32) × (Nat → Int32) × (Nat → Int32) × (Nat → Int64)) → Prop, K = fun z => (some (Value.int z.1), am_S (am_row (am_row (am_row (am_row (am_row f 1 z.2.1) 34 z.2.2.1) 35 z.2.2.2.1) 36 z.2.2.2.2.1) 37 z.2.2.2.2.2.1) (am_row g 1 z.2.2.2.2.2.2)) = res := ⟨_, rfl⟩
  have hK : K (fn_changes user act thing i f g) := by rw [hKd]; exact hres
  clear hres
  unfold fn_changes at hK
  refine am_F.ops (pc' := 3) (L' := [.ref 0, .int user, .int act, .int thing, .int i, am_un, am_un, am_un, am_un]) (S' := [.int thing, .int act, .int user]) (μ' := (am_S f g)) 3 rfl ?_
  refine am_F.call rfl rfl (x_isAsked user act thing f g ) (by decide) ?_
  show am_F _ _ 6 [.ref 0, .int user, .int act, .int thing, .int i, am_un, am_un, am_un, am_un] [.int (am_b (fn_isAsked user act thing))] (am_S f g) _
  refine am_F.bifK 1 rfl K hK (fun c1 hK => ?_) (fun c1 hK => ?_)
  · obtain ⟨user_n, huser_n, euser_n⟩ := (am_isAsk c1).1
    obtain ⟨act_n, hact_n, eact_n⟩ := (am_isAsk c1).2.1
    obtain ⟨thing_n, hthing_n, ething_n⟩ := (am_isAsk c1).2.2
    subst euser_n
    try simp only [nI_clamp (show user_n < 2147483648 by omega)] at hK
    subst eact_n
    try simp only [nI_clamp (show act_n < 2147483648 by omega)] at hK
    subst ething_n
    try simp only [nI_clamp (show thing_n < 2147483648 by omega)] at hK
    show am_F _ _ 9 [.ref 0, .int (nI user_n), .int (nI act_n), .int (nI thing_n), .int i, am_un, am_un, am_un, am_un] [] (am_S f g) _
    refine am_F.ops (pc' := 12) (L' := [.ref 0, .int (nI user_n), .int (nI act_n), .int (nI thing_n), .int i, am_un, am_un, am_un, am_un]) (S' := [.int (-1), .int i]) (μ' := (am_S f g)) 2 rfl ?_
    refine am_F.iteK 1 rfl K hK (fun c2 hK => ?_) (fun c2 hK => ?_)
    · show am_F _ _ 17 [.ref 0, .int (nI user_n), .int (nI act_n), .int (nI thing_n), .int i, am_un, am_un, am_un, am_un] [] (am_S f g) _
      refine am_F.ops (pc' := 28) (L' := [.ref 0, .int (nI user_n), .int (nI act_n), .int (nI thing_n), .int i, am_un, am_un, am_un, am_un]) (S' := [.int (f 2 12), .ref 1]) (μ' := (am_S f g)) 5 rfl ?_
      refine am_F.call rfl rfl (x_settle (f 2 12) f g hLc hLn hLf hLt hLr hRc hRn) (by decide) ?_
      obtain ⟨y3, hy3⟩ : ∃ z, (fn_settle (f 2 12) f g) = z := ⟨_, rfl⟩
      (try rw [hy3] at hK)
      (try rw [hy3])
      refine am_F.mem (F' := (am_row (am_row (am_row f 1 y3.1) 34 y3.2.1) 35 y3.2.2.1)) (G' := (am_row g 1 y3.2.2.2)) ?_ (by first | rfl | (funext a; by_cases z0 : a = 1; (subst z0; rfl); by_cases z1 : a = 34; (subst z1; rfl); by_cases z2 : a = 35; (subst z2; rfl); simp only [am_ui, am_ul, am_row_ne z0, am_row_ne z1, am_row_ne z2])) (by first | rfl | (funext a; by_cases z0 : a = 1; (subst z0; rfl); by_cases z1 : a = 34; (subst z1; rfl); by_cases z2 : a = 35; (subst z2; rfl); simp only [am_ui, am_ul, am_row_ne z0, am_row_ne z1, am_row_ne z2]))
      show am_F _ _ 31 [.ref 0, .int (nI user_n), .int (nI act_n), .int (nI thing_n), .int i, am_un, am_un, am_un, am_un] [] (am_S (am_row (am_row (am_row f 1 y3.1) 34 y3.2.1) 35 y3.2.2.1) (am_row g 1 y3.2.2.2)) _
      refine am_F.ops (pc' := 38) (L' := [.ref 0, .int (nI user_n), .int (nI act_n), .int (nI thing_n), .int i, am_un, am_un, am_un, am_un]) (S' := [.int (nI thing_n), .int (nI act_n), .int (nI user_n), .ref 1]) (μ' := (am_S (am_row (am_row (am_row f 1 y3.1) 34 y3.2.1) 35 y3.2.2.1) (am_row g 1 y3.2.2.2))) 5 rfl ?_
      refine am_F.call rfl rfl (x_answer user_n (nI act_n) thing_n (am_row (am_row (am_row f 1 y3.1) 34 y3.2.1) 35 y3.2.2.1) (am_row g 1 y3.2.2.2) hRc hRn hPa hCs (by omega) (by omega)) (by decide) ?_
      obtain ⟨y4, hy4⟩ : ∃ z, (fn_answer user_n (nI act_n) thing_n (am_row (am_row (am_row f 1 y3.1) 34 y3.2.1) 35 y3.2.2.1)) = z := ⟨_, rfl⟩
      (try rw [hy4] at hK)
      (try rw [hy4])
      refine am_F.mem (F' := (am_row (am_row (am_row (am_row (am_row f 1 y3.1) 34 y3.2.1) 35 y3.2.2.1) 36 y4.2.1) 37 y4.2.2)) (G' := (am_row g 1 y3.2.2.2)) ?_ (by first | rfl | (funext a; by_cases z0 : a = 1; (subst z0; rfl); by_cases z1 : a = 34; (subst z1; rfl); by_cases z2 : a = 35; (subst z2; rfl); by_cases z3 : a = 36; (subst z3; rfl); by_cases z4 : a = 37; (subst z4; rfl); simp only [am_ui, am_ul, am_row_ne z0, am_row_ne z1, am_row_ne z2, am_row_ne z3, am_row_ne z4])) (by first | rfl | (funext a; by_cases z0 : a = 1; (subst z0; rfl); by_cases z1 : a = 34; (subst z1; rfl); by_cases z2 : a = 35; (subst z2; rfl); by_cases z3 : a = 36; (subst z3; rfl); by_cases z4 : a = 37; (subst z4; rfl); simp only [am_ui, am_ul, am_row_ne z0, am_row_ne z1, am_row_ne z2, am_row_ne z3, am_row_ne z4]))
      show am_F _ _ 41 [.ref 0, .int (nI user_n), .int (nI act_n), .int (nI thing_n), .int i, am_un, am_un, am_un, am_un] [.int y4.1] (am_S (am_row (am_row (am_row (am_row (am_row f 1 y3.1) 34 y3.2.1) 35 y3.2.2.1) 36 y4.2.1) 37 y4.2.2) (am_row g 1 y3.2.2.2)) _
      refine am_F.ops (pc' := 49) (L' := [.ref 0, .int (nI user_n), .int (nI act_n), .int (nI thing_n), .int i, .int y4.1, .int 0, .int 1, am_un]) (S' := []) (μ' := (am_S (am_row (am_row (am_row (am_row (am_row f 1 y3.1) 34 y3.2.1) 35 y3.2.2.1) 36 y4.2.1) 37 y4.2.2) (am_row g 1 y3.2.2.2))) 5 rfl ?_
      show am_F _ _ 49 [.ref 0, .int (nI user_n), .int (nI act_n), .int (nI thing_n), .int i, .int y4.1, .int 0, .int (nI 1), am_un] [] (am_S (am_row (am_row (am_row (am_row (am_row f 1 y3.1) 34 y3.2.1) 35 y3.2.2.1) 36 y4.2.1) 37 y4.2.2) (am_row g 1 y3.2.2.2)) _
      refine lp_changes_49 user_n act_n thing_n i f g y3 y4 hLc hLn hLf hLt hLr hRc hRn hRr hPa hCs huser_n hact_n hthing_n _ ((200 + 1) - 1) 1 y4.1 0 y3.1 y3.2.2.1 y4.2.1 y4.2.2 y3.2.2.2 am_un (by omega)  ?_
      rw [show am_forX (st_changes_49 user_n act_n thing_n i f g y3) ((200 + 1) - 1) 1 (y4.1, 0, y3.1, y3.2.2.1, y4.2.1, y4.2.2, y3.2.2.2) = (lf_changes_49 user_n act_n thing_n i f g y3 y4) from rfl]
      revert hK
      cases (lf_changes_49 user_n act_n thing_n i f g y3 y4) with
      | inr z =>
        intro hK
        subst hKd
        exact hK
      | inl z49 =>
        intro hK wc w49_8
        refine am_F.ops (pc' := 126) (L' := [.ref 0, .int (nI user_n), .int (nI act_n), .int (nI thing_n), .int i, .int z49.1, .int z49.2.1, wc, w49_8]) (S' := [.int i]) (μ' := (am_S (am_row (am_row (am_row (am_row (am_row f 1 z49.2.2.1) 34 y3.2.1) 35 z49.2.2.2.1) 36 z49.2.2.2.2.1) 37 z49.2.2.2.2.2.1) (am_row g 1 z49.2.2.2.2.2.2))) 1 rfl ?_
        refine am_F.to (am_To.ite (pc' := 136) (L2 := [.ref 0, .int (nI user_n), .int (nI act_n), .int (nI thing_n), .int i, .int z49.1, .int z49.2.1, wc, w49_8]) (S2 := []) (μ2 := (am_S (am_row (am_row (am_row (am_row (am_row f 1 z49.2.2.1) 34 y3.2.1) 35 z49.2.2.2.1) 36 z49.2.2.2.2.1) 37 z49.2.2.2.2.2.1) (am_row g 1 z49.2.2.2.2.2.2))) (a := (-2)) (b := z49.2.1) 1 rfl (fun c13 => ?_) (fun c13 => ?_)) ?_
        · intro res9 g9
          show am_F _ _ 134 [.ref 0, .int (nI user_n), .int (nI act_n), .int (nI thing_n), .int i, .int z49.1, .int z49.2.1, wc, w49_8] [] (am_S (am_row (am_row (am_row (am_row (am_row f 1 z49.2.2.1) 34 y3.2.1) 35 z49.2.2.2.1) 36 z49.2.2.2.2.1) 37 z49.2.2.2.2.2.1) (am_row g 1 z49.2.2.2.2.2.2)) _
          refine am_F.ops (pc' := 136) (L' := [.ref 0, .int (nI user_n), .int (nI act_n), .int (nI thing_n), .int i, .int z49.1, .int z49.2.1, wc, w49_8]) (S' := [.int (-2)]) (μ' := (am_S (am_row (am_row (am_row (am_row (am_row f 1 z49.2.2.1) 34 y3.2.1) 35 z49.2.2.2.1) 36 z49.2.2.2.2.1) 37 z49.2.2.2.2.2.1) (am_row g 1 z49.2.2.2.2.2.2))) 1 rfl ?_
          exact g9
        · intro res9 g9
          show am_F _ _ 129 [.ref 0, .int (nI user_n), .int (nI act_n), .int (nI thing_n), .int i, .int z49.1, .int z49.2.1, wc, w49_8] [] (am_S (am_row (am_row (am_row (am_row (am_row f 1 z49.2.2.1) 34 y3.2.1) 35 z49.2.2.2.1) 36 z49.2.2.2.2.1) 37 z49.2.2.2.2.2.1) (am_row g 1 z49.2.2.2.2.2.2)) _
          refine am_F.ops (pc' := 136) (L' := [.ref 0, .int (nI user_n), .int (nI act_n), .int (nI thing_n), .int i, .int z49.1, .int z49.2.1, wc, w49_8]) (S' := [.int z49.2.1]) (μ' := (am_S (am_row (am_row (am_row (am_row (am_row f 1 z49.2.2.1) 34 y3.2.1) 35 z49.2.2.2.1) 36 z49.2.2.2.2.1) 37 z49.2.2.2.2.2.1) (am_row g 1 z49.2.2.2.2.2.2))) 2 rfl ?_
          exact g9
        show am_F _ _ 136 [.ref 0, .int (nI user_n), .int (nI act_n), .int (nI thing_n), .int i, .int z49.1, .int z49.2.1, wc, w49_8] [.int (if 0 ≤ i then (-2) else z49.2.1)] (am_S (am_row (am_row (am_row (am_row (am_row f 1 z49.2.2.1) 34 y3.2.1) 35 z49.2.2.2.1) 36 z49.2.2.2.2.1) 37 z49.2.2.2.2.2.1) (am_row g 1 z49.2.2.2.2.2.2)) _
        subst hKd
        exact am_F.eq (am_F.ret rfl rfl) hK
    · show am_F _ _ 15 [.ref 0, .int (nI user_n), .int (nI act_n), .int (nI thing_n), .int i, am_un, am_un, am_un, am_un] [] (am_S f g) _
      refine am_F.ops (pc' := 16) (L' := [.ref 0, .int (nI user_n), .int (nI act_n), .int (nI thing_n), .int i, am_un, am_un, am_un, am_un]) (S' := [.int (-1)]) (μ' := (am_S f g)) 1 rfl ?_
      refine am_F.mem (F' := (am_row (am_row (am_row (am_row (am_row f 1 (f 1)) 34 (f 34)) 35 (f 35)) 36 (f 36)) 37 (f 37))) (G' := (am_row g 1 (g 1))) ?_ (by first | rfl | (funext a; by_cases z0 : a = 1; (subst z0; rfl); by_cases z1 : a = 34; (subst z1; rfl); by_cases z2 : a = 35; (subst z2; rfl); by_cases z3 : a = 36; (subst z3; rfl); by_cases z4 : a = 37; (subst z4; rfl); simp only [am_ui, am_ul, am_row_ne z0, am_row_ne z1, am_row_ne z2, am_row_ne z3, am_row_ne z4])) (by first | rfl | (funext a; by_cases z0 : a = 1; (subst z0; rfl); by_cases z1 : a = 34; (subst z1; rfl); by_cases z2 : a = 35; (subst z2; rfl); by_cases z3 : a = 36; (subst z3; rfl); by_cases z4 : a = 37; (subst z4; rfl); simp only [am_ui, am_ul, am_row_ne z0, am_row_ne z1, am_row_ne z2, am_row_ne z3, am_row_ne z4]))
      subst hKd
      exact am_F.eq (am_F.ret rfl rfl) hK
  · show am_F _ _ 15 [.ref 0, .int user, .int act, .int thing, .int i, am_un, am_un, am_un, am_un] [] (am_S f g) _
    refine am_F.ops (pc' := 16) (L' := [.ref 0, .int user, .int act, .int thing, .int i, am_un, am_un, am_un, am_un]) (S' := [.int (-1)]) (μ' := (am_S f g)) 1 rfl ?_
    refine am_F.mem (F' := (am_row (am_row (am_row (am_row (am_row f 1 (f 1)) 34 (f 34)) 35 (f 35)) 36 (f 36)) 37 (f 37))) (G' := (am_row g 1 (g 1))) ?_ (by first | rfl | (funext a; by_cases z0 : a = 1; (subst z0; rfl); by_cases z1 : a = 34; (subst z1; rfl); by_cases z2 : a = 35; (subst z2; rfl); by_cases z3 : a = 36; (subst z3; rfl); by_cases z4 : a = 37; (subst z4; rfl); simp only [am_ui, am_ul, am_row_ne z0, am_row_ne z1, am_row_ne z2, am_row_ne z3, am_row_ne z4])) (by first | rfl | (funext a; by_cases z0 : a = 1; (subst z0; rfl); by_cases z1 : a = 34; (subst z1; rfl); by_cases z2 : a = 35; (subst z2; rfl); by_cases z3 : a = 36; (subst z3; rfl); by_cases z4 : a = 37; (subst z4; rfl); simp only [am_ui, am_ul, am_row_ne z0, am_row_ne z1, am_row_ne z2, am_row_ne z3, am_row_ne z4]))
    subst hKd
    exact am_F.eq (am_F.ret rfl rfl) hK
/-- AccessLattice.idle -/
def st_idle_36 (f : Nat → Nat → Int32) : Nat → Int32 → Int32 := fun i36 a36_3 => (bif (fn_has ((f 18 8) &&& ((f 18 9) ^^^ (-1))) (nI i36)) then (a36_3 ||| (1 <<< ((f 19 i36) &&& 31))) else a36_3)
def lf_idle_36 (f : Nat → Nat → Int32) : Int32 := am_for (st_idle_36 f) ((f 18 11).toNatClampNeg) 0 0
def fn_idle (user : Int32) (f : Nat → Nat → Int32) (g : Nat → Nat → Int64) : Int32 × (Nat → Int32) × (Nat → Int32) × (Nat → Int32) × (Nat → Int64) := (bif (fn_isUser user) then (((fn_settle (f 2 12) f g).2.2.1 (user.toNatClampNeg)) &&& ((lf_idle_36 f) ^^^ (-1)), (fn_settle (f 2 12) f g).1, (fn_settle (f 2 12) f g).2.1, (fn_settle (f 2 12) f g).2.2.1, (fn_settle (f 2 12) f g).2.2.2) else ((-1), f 1, f 34, f 35, g 1))
theorem lp_idle_36 (user_n : Nat) (f : Nat → Nat → Int32) (g : Nat → Nat → Int64) (y2 : (Nat → Int32) × (Nat → Int32) × (Nat → Int32) × (Nat → Int64)) (hLc : f 11 7 = nI (f 11 7).toNatClampNeg) (hLn : (f 11 7).toNatClampNeg ≤ 40) (hLf : ∀ i, i < (f 11 7).toNatClampNeg → am_inb (f 12 i) 16 = true) (hLt : ∀ i, i < (f 11 7).toNatClampNeg → am_inb (f 13 i) 16 = true) (hLr : ∀ i, i < (f 11 7).toNatClampNeg → am_inb (f 14 i) 20 = true) (hRc : f 18 11 = nI (f 18 11).toNatClampNeg) (hRn : (f 18 11).toNatClampNeg ≤ 30) (hRr : ∀ i, i < (f 18 11).toNatClampNeg → am_inb (f 19 i) 20 = true) (hPa : ∀ t, t < 16 → (f 29 t).toInt < 16) (hCs : ∀ i, i < (f 18 11).toNatClampNeg → f 25 i = nI (f 25 i).toNatClampNeg ∧ (f 25 i).toNatClampNeg ≤ 80) (huser_n : user_n < 16) (res : Option Value × am_M) : ∀ (n i36 : Nat) (a36_3 : Int32) , i36 + n = (f 18 11).toNatClampNeg → (fun (z : Int32) => ∀ (wc : Value), am_F 4 am_k_118 82 [.ref 0, .int (nI user_n), .ref 18, .int z, wc] [] (am_S (am_row (am_row (am_row f 1 y2.1) 34 y2.2.1) 35 y2.2.2.1) (am_row g 1 y2.2.2.2)) res) (am_for (st_idle_36 f) n i36 a36_3) → am_F 4 am_k_118 36 [.ref 0, .int (nI user_n), .ref 18, .int a36_3, .int (nI i36)] [] (am_S (am_row (am_row (am_row f 1 y2.1) 34 y2.2.1) 35 y2.2.2.1) (am_row g 1 y2.2.2.2)) res := by
  intro n
  induction n with
  | zero =>
    intro i36 a36_3 hi hK
    refine am_F.pos 4 rfl (by show (f 18 11) ≤ nI i36; rw [show (f 18 11 : Int32) = nI ((f 18 11).toNatClampNeg) from hRc]; exact nI_le (by omega) (by omega)) ?_
    exact hK _
  | succ n ih =>
    intro i36 a36_3 hi hK
    refine am_F.neg 4 rfl (by show ¬ (f 18 11) ≤ nI i36; rw [show (f 18 11 : Int32) = nI ((f 18 11).toNatClampNeg) from hRc]; exact nI_ge (by omega) (by omega)) ?_
    have hb36 : i36 < (f 18 11).toNatClampNeg := by omega
    show am_F _ _ 45 [.ref 0, .int (nI user_n), .ref 18, .int a36_3, .int (nI i36)] [] (am_S (am_row (am_row (am_row f 1 y2.1) 34 y2.2.1) 35 y2.2.2.1) (am_row g 1 y2.2.2.2)) _
    obtain ⟨K, hKd⟩ : ∃ K : (Int32) → Prop, K = fun s => (fun (z : Int32) => ∀ (wc : Value), am_F 4 am_k_118 82 [.ref 0, .int (nI user_n), .ref 18, .int z, wc] [] (am_S (am_row (am_row (am_row f 1 y2.1) 34 y2.2.1) 35 y2.2.2.1) (am_row g 1 y2.2.2.2)) res) (am_for (st_idle_36 f) n (i36 + 1) s) := ⟨_, rfl⟩
    have hK : K ((st_idle_36 f) i36 a36_3) := by rw [hKd]; exact hK
    unfold st_idle_36 at hK
    refine am_F.ops (pc' := 58) (L' := [.ref 0, .int (nI user_n), .ref 18, .int a36_3, .int (nI i36)]) (S' := [.int (nI i36), .int ((f 18 8) &&& ((f 18 9) ^^^ (-1)))]) (μ' := (am_S (am_row (am_row (am_row f 1 y2.1) 34 y2.2.1) 35 y2.2.2.1) (am_row g 1 y2.2.2.2))) 8 rfl ?_
    refine am_F.call rfl rfl (x_has ((f 18 8) &&& ((f 18 9) ^^^ (-1))) (nI i36) (am_row (am_row (am_row f 1 y2.1) 34 y2.2.1) 35 y2.2.2.1) (am_row g 1 y2.2.2.2) ) (by decide) ?_
    show am_F _ _ 61 [.ref 0, .int (nI user_n), .ref 18, .int a36_3, .int (nI i36)] [.int (am_b (fn_has ((f 18 8) &&& ((f 18 9) ^^^ (-1))) (nI i36)))] (am_S (am_row (am_row (am_row f 1 y2.1) 34 y2.2.1) 35 y2.2.2.1) (am_row g 1 y2.2.2.2)) _
    refine am_F.bifK 1 rfl K hK (fun c4 hK => ?_) (fun c4 hK => ?_)
    · show am_F _ _ 64 [.ref 0, .int (nI user_n), .ref 18, .int a36_3, .int (nI i36)] [] (am_S (am_row (am_row (am_row f 1 y2.1) 34 y2.2.1) 35 y2.2.2.1) (am_row g 1 y2.2.2.2)) _
      refine am_F.ops (pc' := 72) (L' := [.ref 0, .int (nI user_n), .ref 18, .int a36_3, .int (nI i36)]) (S' := [.int (nI i36), .ref 19, .int 1, .int a36_3]) (μ' := (am_S (am_row (am_row (am_row f 1 y2.1) 34 y2.2.1) 35 y2.2.2.1) (am_row g 1 y2.2.2.2))) 5 rfl ?_
      refine am_F.ialE (m := i36) (N := 30) rfl rfl rfl rfl (by omega) (by decide) ?_
      show am_F _ _ 73 [.ref 0, .int (nI user_n), .ref 18, .int a36_3, .int (nI i36)] [.int (f 19 i36), .int 1, .int a36_3] (am_S (am_row (am_row (am_row f 1 y2.1) 34 y2.2.1) 35 y2.2.2.1) (am_row g 1 y2.2.2.2)) _
      refine am_F.ops (pc' := 36) (L' := [.ref 0, .int (nI user_n), .ref 18, .int (a36_3 ||| (1 <<< ((f 19 i36) &&& 31))), .int ((nI i36) + 1)]) (S' := []) (μ' := (am_S (am_row (am_row (am_row f 1 y2.1) 34 y2.2.1) 35 y2.2.2.1) (am_row g 1 y2.2.2.2))) 5 rfl ?_
      rw [nI_1 i36]
      subst hKd
      exact ih (i36 + 1) (a36_3 ||| (1 <<< ((f 19 i36) &&& 31))) (by omega)  hK
    · show am_F _ _ 76 [.ref 0, .int (nI user_n), .ref 18, .int a36_3, .int (nI i36)] [] (am_S (am_row (am_row (am_row f 1 y2.1) 34 y2.2.1) 35 y2.2.2.1) (am_row g 1 y2.2.2.2)) _
      refine am_F.ops (pc' := 36) (L' := [.ref 0, .int (nI user_n), .ref 18, .int a36_3, .int ((nI i36) + 1)]) (S' := []) (μ' := (am_S (am_row (am_row (am_row f 1 y2.1) 34 y2.2.1) 35 y2.2.2.1) (am_row g 1 y2.2.2.2))) 2 rfl ?_
      rw [nI_1 i36]
      subst hKd
      exact ih (i36 + 1) a36_3 (by omega)  hK
theorem x_idle (user : Int32) (f : Nat → Nat → Int32) (g : Nat → Nat → Int64) (hLc : f 11 7 = nI (f 11 7).toNatClampNeg) (hLn : (f 11 7).toNatClampNeg ≤ 40) (hLf : ∀ i, i < (f 11 7).toNatClampNeg → am_inb (f 12 i) 16 = true) (hLt : ∀ i, i < (f 11 7).toNatClampNeg → am_inb (f 13 i) 16 = true) (hLr : ∀ i, i < (f 11 7).toNatClampNeg → am_inb (f 14 i) 20 = true) (hRc : f 18 11 = nI (f 18 11).toNatClampNeg) (hRn : (f 18 11).toNatClampNeg ≤ 30) (hRr : ∀ i, i < (f 18 11).toNatClampNeg → am_inb (f 19 i) 20 = true) (hPa : ∀ t, t < 16 → (f 29 t).toInt < 16) (hCs : ∀ i, i < (f 18 11).toNatClampNeg → f 25 i = nI (f 25 i).toNatClampNeg ∧ (f 25 i).toNatClampNeg ≤ 80) : am_D 4 118 5 [.ref 0, .int user] (am_S f g) (some (Value.int ((fn_idle user f g).1)), am_S (am_row (am_row (am_row f 1 ((fn_idle user f g).2.1)) 34 ((fn_idle user f g).2.2.1)) 35 ((fn_idle user f g).2.2.2.1)) (am_row g 1 ((fn_idle user f g).2.2.2.2))) := by
  refine am_D.of (code := am_k_118) rfl (L0 := [.ref 0, .int user, am_un, am_un, am_un]) rfl ?_
  generalize hres : (some (Value.int ((fn_idle user f g).1)), am_S (am_row (am_row (am_row f 1 ((fn_idle user f g).2.1)) 34 ((fn_idle user f g).2.2.1)) 35 ((fn_idle user f g).2.2.2.1)) (am_row g 1 ((fn_idle user f g).2.2.2.2))) = res
  obtain ⟨K, hKd⟩ : ∃ K : (Int32 × (Nat → Int32) × (Nat → Int32) × (Nat → Int32) × (Nat → Int64)) → Prop, K = fun z => (some (Value.int z.1), am_S (am_row (am_row (am_row f 1 z.2.1) 34 z.2.2.1) 35 z.2.2.2.1) (am_row g 1 z.2.2.2.2)) = res := ⟨_, rfl⟩
  have hK : K (fn_idle user f g) := by rw [hKd]; exact hres
  clear hres
  unfold fn_idle at hK
  refine am_F.ops (pc' := 1) (L' := [.ref 0, .int user, am_un, am_un, am_un]) (S' := [.int user]) (μ' := (am_S f g)) 1 rfl ?_
  refine am_F.call rfl rfl (x_isUser user f g ) (by decide) ?_
  show am_F _ _ 4 [.ref 0, .int user, am_un, am_un, am_un] [.int (am_b (fn_isUser user))] (am_S f g) _
  refine am_F.bifK 1 rfl K hK (fun c1 hK => ?_) (fun c1 hK => ?_)
  · obtain ⟨user_n, huser_n, euser_n⟩ := am_isUser c1
    subst euser_n
    try simp only [nI_clamp (show user_n < 2147483648 by omega)] at hK
    show am_F _ _ 9 [.ref 0, .int (nI user_n), am_un, am_un, am_un] [] (am_S f g) _
    refine am_F.ops (pc' := 20) (L' := [.ref 0, .int (nI user_n), am_un, am_un, am_un]) (S' := [.int (f 2 12), .ref 1]) (μ' := (am_S f g)) 5 rfl ?_
    refine am_F.call rfl rfl (x_settle (f 2 12) f g hLc hLn hLf hLt hLr hRc hRn) (by decide) ?_
    obtain ⟨y2, hy2⟩ : ∃ z, (fn_settle (f 2 12) f g) = z := ⟨_, rfl⟩
    (try rw [hy2] at hK)
    (try rw [hy2])
    refine am_F.mem (F' := (am_row (am_row (am_row f 1 y2.1) 34 y2.2.1) 35 y2.2.2.1)) (G' := (am_row g 1 y2.2.2.2)) ?_ (by first | rfl | (funext a; by_cases z0 : a = 1; (subst z0; rfl); by_cases z1 : a = 34; (subst z1; rfl); by_cases z2 : a = 35; (subst z2; rfl); simp only [am_ui, am_ul, am_row_ne z0, am_row_ne z1, am_row_ne z2])) (by first | rfl | (funext a; by_cases z0 : a = 1; (subst z0; rfl); by_cases z1 : a = 34; (subst z1; rfl); by_cases z2 : a = 35; (subst z2; rfl); simp only [am_ui, am_ul, am_row_ne z0, am_row_ne z1, am_row_ne z2]))
    show am_F _ _ 23 [.ref 0, .int (nI user_n), am_un, am_un, am_un] [] (am_S (am_row (am_row (am_row f 1 y2.1) 34 y2.2.1) 35 y2.2.2.1) (am_row g 1 y2.2.2.2)) _
    refine am_F.ops (pc' := 36) (L' := [.ref 0, .int (nI user_n), .ref 18, .int 0, .int 0]) (S' := []) (μ' := (am_S (am_row (am_row (am_row f 1 y2.1) 34 y2.2.1) 35 y2.2.2.1) (am_row g 1 y2.2.2.2))) 8 rfl ?_
    show am_F _ _ 36 [.ref 0, .int (nI user_n), .ref 18, .int 0, .int (nI 0)] [] (am_S (am_row (am_row (am_row f 1 y2.1) 34 y2.2.1) 35 y2.2.2.1) (am_row g 1 y2.2.2.2)) _
    refine lp_idle_36 user_n f g y2 hLc hLn hLf hLt hLr hRc hRn hRr hPa hCs huser_n _ ((f 18 11).toNatClampNeg) 0 0  (by omega)  ?_
    rw [show am_for (st_idle_36 f) ((f 18 11).toNatClampNeg) 0 0 = (lf_idle_36 f) from rfl]
    generalize (lf_idle_36 f) = z36_5 at hK ⊢
    intro wc
    show am_F _ _ 82 [.ref 0, .int (nI user_n), .ref 18, .int z36_5, wc] [] (am_S (am_row (am_row (am_row f 1 y2.1) 34 y2.2.1) 35 y2.2.2.1) (am_row g 1 y2.2.2.2)) _
    refine am_F.ops (pc' := 90) (L' := [.ref 0, .int (nI user_n), .ref 18, .int z36_5, wc]) (S' := [.int (nI user_n), .ref 35]) (μ' := (am_S (am_row (am_row (am_row f 1 y2.1) 34 y2.2.1) 35 y2.2.2.1) (am_row g 1 y2.2.2.2))) 4 rfl ?_
    refine am_F.ialE (m := user_n) (N := 16) rfl rfl rfl rfl (by omega) (by decide) ?_
    show am_F _ _ 91 [.ref 0, .int (nI user_n), .ref 18, .int z36_5, wc] [.int (y2.2.2.1 user_n)] (am_S (am_row (am_row (am_row f 1 y2.1) 34 y2.2.1) 35 y2.2.2.1) (am_row g 1 y2.2.2.2)) _
    refine am_F.ops (pc' := 95) (L' := [.ref 0, .int (nI user_n), .ref 18, .int z36_5, wc]) (S' := [.int ((y2.2.2.1 user_n) &&& (z36_5 ^^^ (-1)))]) (μ' := (am_S (am_row (am_row (am_row f 1 y2.1) 34 y2.2.1) 35 y2.2.2.1) (am_row g 1 y2.2.2.2))) 4 rfl ?_
    subst hKd
    exact am_F.eq (am_F.ret rfl rfl) hK
  · show am_F _ _ 7 [.ref 0, .int user, am_un, am_un, am_un] [] (am_S f g) _
    refine am_F.ops (pc' := 8) (L' := [.ref 0, .int user, am_un, am_un, am_un]) (S' := [.int (-1)]) (μ' := (am_S f g)) 1 rfl ?_
    refine am_F.mem (F' := (am_row (am_row (am_row f 1 (f 1)) 34 (f 34)) 35 (f 35))) (G' := (am_row g 1 (g 1))) ?_ (by first | rfl | (funext a; by_cases z0 : a = 1; (subst z0; rfl); by_cases z1 : a = 34; (subst z1; rfl); by_cases z2 : a = 35; (subst z2; rfl); simp only [am_ui, am_ul, am_row_ne z0, am_row_ne z1, am_row_ne z2])) (by first | rfl | (funext a; by_cases z0 : a = 1; (subst z0; rfl); by_cases z1 : a = 34; (subst z1; rfl); by_cases z2 : a = 35; (subst z2; rfl); simp only [am_ui, am_ul, am_row_ne z0, am_row_ne z1, am_row_ne z2]))
    subst hKd
    exact am_F.eq (am_F.ret rfl rfl) hK
/-- AccessLattice.unlike -/
def st_unlike_41 (user_n : Nat) (other_n : Nat) (i : Int32) (f : Nat → Nat → Int32) (y4 : (Nat → Int32) × (Nat → Int32) × (Nat → Int32) × (Nat → Int64)) : Nat → Int32 × (Nat → Int32) × (Nat → Int32) → Int32 × (Nat → Int32) × (Nat → Int32) ⊕ (Int32 × (Nat → Int32) × (Nat → Int32) ⊕ Int32 × (Nat → Int32) × (Nat → Int32) × (Nat → Int32) × (Nat → Int32) × (Nat → Int32) × (Nat → Int64)) := fun i41 z => match z with
  | (a41_4, r41_36, r41_37) => (if (fn_answer user_n ((nI i41) / 16) (i41 % 16) (am_row (am_row (am_row (am_row (am_row f 1 y4.1) 34 y4.2.1) 35 y4.2.2.1) 36 r41_36) 37 r41_37)).1 = (fn_answer other_n ((nI i41) / 16) (i41 % 16) (am_row (am_row (am_row (am_row (am_row f 1 y4.1) 34 y4.2.1) 35 y4.2.2.1) 36 (fn_answer user_n ((nI i41) / 16) (i41 % 16) (am_row (am_row (am_row (am_row (am_row f 1 y4.1) 34 y4.2.1) 35 y4.2.2.1) 36 r41_36) 37 r41_37)).2.1) 37 (fn_answer user_n ((nI i41) / 16) (i41 % 16) (am_row (am_row (am_row (am_row (am_row f 1 y4.1) 34 y4.2.1) 35 y4.2.2.1) 36 r41_36) 37 r41_37)).2.2)).1 then .inl (a41_4, (fn_answer other_n ((nI i41) / 16) (i41 % 16) (am_row (am_row (am_row (am_row (am_row f 1 y4.1) 34 y4.2.1) 35 y4.2.2.1) 36 (fn_answer user_n ((nI i41) / 16) (i41 % 16) (am_row (am_row (am_row (am_row (am_row f 1 y4.1) 34 y4.2.1) 35 y4.2.2.1) 36 r41_36) 37 r41_37)).2.1) 37 (fn_answer user_n ((nI i41) / 16) (i41 % 16) (am_row (am_row (am_row (am_row (am_row f 1 y4.1) 34 y4.2.1) 35 y4.2.2.1) 36 r41_36) 37 r41_37)).2.2)).2.1, (fn_answer other_n ((nI i41) / 16) (i41 % 16) (am_row (am_row (am_row (am_row (am_row f 1 y4.1) 34 y4.2.1) 35 y4.2.2.1) 36 (fn_answer user_n ((nI i41) / 16) (i41 % 16) (am_row (am_row (am_row (am_row (am_row f 1 y4.1) 34 y4.2.1) 35 y4.2.2.1) 36 r41_36) 37 r41_37)).2.1) 37 (fn_answer user_n ((nI i41) / 16) (i41 % 16) (am_row (am_row (am_row (am_row (am_row f 1 y4.1) 34 y4.2.1) 35 y4.2.2.1) 36 r41_36) 37 r41_37)).2.2)).2.2) else (if a41_4 = i then .inr (.inr (nI i41, y4.1, y4.2.1, y4.2.2.1, (fn_answer other_n ((nI i41) / 16) (i41 % 16) (am_row (am_row (am_row (am_row (am_row f 1 y4.1) 34 y4.2.1) 35 y4.2.2.1) 36 (fn_answer user_n ((nI i41) / 16) (i41 % 16) (am_row (am_row (am_row (am_row (am_row f 1 y4.1) 34 y4.2.1) 35 y4.2.2.1) 36 r41_36) 37 r41_37)).2.1) 37 (fn_answer user_n ((nI i41) / 16) (i41 % 16) (am_row (am_row (am_row (am_row (am_row f 1 y4.1) 34 y4.2.1) 35 y4.2.2.1) 36 r41_36) 37 r41_37)).2.2)).2.1, (fn_answer other_n ((nI i41) / 16) (i41 % 16) (am_row (am_row (am_row (am_row (am_row f 1 y4.1) 34 y4.2.1) 35 y4.2.2.1) 36 (fn_answer user_n ((nI i41) / 16) (i41 % 16) (am_row (am_row (am_row (am_row (am_row f 1 y4.1) 34 y4.2.1) 35 y4.2.2.1) 36 r41_36) 37 r41_37)).2.1) 37 (fn_answer user_n ((nI i41) / 16) (i41 % 16) (am_row (am_row (am_row (am_row (am_row f 1 y4.1) 34 y4.2.1) 35 y4.2.2.1) 36 r41_36) 37 r41_37)).2.2)).2.2, y4.2.2.2)) else .inl (a41_4 + 1, (fn_answer other_n ((nI i41) / 16) (i41 % 16) (am_row (am_row (am_row (am_row (am_row f 1 y4.1) 34 y4.2.1) 35 y4.2.2.1) 36 (fn_answer user_n ((nI i41) / 16) (i41 % 16) (am_row (am_row (am_row (am_row (am_row f 1 y4.1) 34 y4.2.1) 35 y4.2.2.1) 36 r41_36) 37 r41_37)).2.1) 37 (fn_answer user_n ((nI i41) / 16) (i41 % 16) (am_row (am_row (am_row (am_row (am_row f 1 y4.1) 34 y4.2.1) 35 y4.2.2.1) 36 r41_36) 37 r41_37)).2.2)).2.1, (fn_answer other_n ((nI i41) / 16) (i41 % 16) (am_row (am_row (am_row (am_row (am_row f 1 y4.1) 34 y4.2.1) 35 y4.2.2.1) 36 (fn_answer user_n ((nI i41) / 16) (i41 % 16) (am_row (am_row (am_row (am_row (am_row f 1 y4.1) 34 y4.2.1) 35 y4.2.2.1) 36 r41_36) 37 r41_37)).2.1) 37 (fn_answer user_n ((nI i41) / 16) (i41 % 16) (am_row (am_row (am_row (am_row (am_row f 1 y4.1) 34 y4.2.1) 35 y4.2.2.1) 36 r41_36) 37 r41_37)).2.2)).2.2)))
def lf_unlike_41 (user_n : Nat) (other_n : Nat) (i : Int32) (f : Nat → Nat → Int32) (y4 : (Nat → Int32) × (Nat → Int32) × (Nat → Int32) × (Nat → Int64)) : Int32 × (Nat → Int32) × (Nat → Int32) ⊕ Int32 × (Nat → Int32) × (Nat → Int32) × (Nat → Int32) × (Nat → Int32) × (Nat → Int32) × (Nat → Int64) := am_forX (st_unlike_41 user_n other_n i f y4) 128 0 (0, f 36, f 37)
def fn_unlike (user : Int32) (other : Int32) (i : Int32) (f : Nat → Nat → Int32) (g : Nat → Nat → Int64) : Int32 × (Nat → Int32) × (Nat → Int32) × (Nat → Int32) × (Nat → Int32) × (Nat → Int32) × (Nat → Int64) := (bif (fn_isUser user) then (bif (fn_isUser other) then (if (-1) ≤ i then (Sum.elim (fun (z41 : Int32 × (Nat → Int32) × (Nat → Int32)) => ((if 0 ≤ i then (-2) else z41.1), (fn_settle (f 2 12) f g).1, (fn_settle (f 2 12) f g).2.1, (fn_settle (f 2 12) f g).2.2.1, z41.2.1, z41.2.2, (fn_settle (f 2 12) f g).2.2.2)) (fun (z : Int32 × (Nat → Int32) × (Nat → Int32) × (Nat → Int32) × (Nat → Int32) × (Nat → Int32) × (Nat → Int64)) => z) (lf_unlike_41 (user.toNatClampNeg) (other.toNatClampNeg) i f (fn_settle (f 2 12) f g))) else ((-1), f 1, f 34, f 35, f 36, f 37, g 1)) else ((-1), f 1, f 34, f 35, f 36, f 37, g 1)) else ((-1), f 1, f 34, f 35, f 36, f 37, g 1))
theorem lp_unlike_41 (user_n : Nat) (other_n : Nat) (i : Int32) (f : Nat → Nat → Int32) (g : Nat → Nat → Int64) (y4 : (Nat → Int32) × (Nat → Int32) × (Nat → Int32) × (Nat → Int64)) (hLc : f 11 7 = nI (f 11 7).toNatClampNeg) (hLn : (f 11 7).toNatClampNeg ≤ 40) (hLf : ∀ i, i < (f 11 7).toNatClampNeg → am_inb (f 12 i) 16 = true) (hLt : ∀ i, i < (f 11 7).toNatClampNeg → am_inb (f 13 i) 16 = true) (hLr : ∀ i, i < (f 11 7).toNatClampNeg → am_inb (f 14 i) 20 = true) (hRc : f 18 11 = nI (f 18 11).toNatClampNeg) (hRn : (f 18 11).toNatClampNeg ≤ 30) (hRr : ∀ i, i < (f 18 11).toNatClampNeg → am_inb (f 19 i) 20 = true) (hPa : ∀ t, t < 16 → (f 29 t).toInt < 16) (hCs : ∀ i, i < (f 18 11).toNatClampNeg → f 25 i = nI (f 25 i).toNatClampNeg ∧ (f 25 i).toNatClampNeg ≤ 80) (huser_n : user_n < 16) (hother_n : other_n < 16) (res : Option Value × am_M) : ∀ (n i41 : Nat) (a41_4 : Int32) (r41_36 : Nat → Int32) (r41_37 : Nat → Int32) (w41_6 : Value) (w41_7 : Value), i41 + n = 128 → am_KX (fun (z : Int32 × (Nat → Int32) × (Nat → Int32)) => ∀ (wc : Value) (w41_6 : Value) (w41_7 : Value), am_F 6 am_k_119 108 [.ref 0, .int (nI user_n), .int (nI other_n), .int i, .int z.1, wc, w41_6, w41_7] [] (am_S (am_row (am_row (am_row (am_row (am_row f 1 y4.1) 34 y4.2.1) 35 y4.2.2.1) 36 z.2.1) 37 z.2.2) (am_row g 1 y4.2.2.2)) res) (fun (z : Int32 × (Nat → Int32) × (Nat → Int32) × (Nat → Int32) × (Nat → Int32) × (Nat → Int32) × (Nat → Int64)) => (some (Value.int z.1), am_S (am_row (am_row (am_row (am_row (am_row f 1 z.2.1) 34 z.2.2.1) 35 z.2.2.2.1) 36 z.2.2.2.2.1) 37 z.2.2.2.2.2.1) (am_row g 1 z.2.2.2.2.2.2)) = res) (am_forX (st_unlike_41 user_n other_n i f y4) n i41 (a41_4, r41_36, r41_37)) → am_F 6 am_k_119 41 [.ref 0, .int (nI user_n), .int (nI other_n), .int i, .int a41_4, .int (nI i41), w41_6, w41_7] [] (am_S (am_row (am_row (am_row (am_row (am_row f 1 y4.1) 34 y4.2.1) 35 y4.2.2.1) 36 r41_36) 37 r41_37) (am_row g 1 y4.2.2.2)) res := by
  intro n
  induction n with
  | zero =>
    intro i41 a41_4 r41_36 r41_37 w41_6 w41_7 hi hK
    refine am_F.pos 3 rfl (by show 128 ≤ nI i41; rw [show (128 : Int32) = nI 128 from rfl]; exact nI_le (by omega) (by omega)) ?_
    exact hK _ _ _
  | succ n ih =>
    intro i41 a41_4 r41_36 r41_37 w41_6 w41_7 hi hK
    refine am_F.neg 3 rfl (by show ¬ 128 ≤ nI i41; rw [show (128 : Int32) = nI 128 from rfl]; exact nI_ge (by omega) (by omega)) ?_
    have hb41 : i41 < 128 := by omega
    show am_F _ _ 49 [.ref 0, .int (nI user_n), .int (nI other_n), .int i, .int a41_4, .int (nI i41), w41_6, w41_7] [] (am_S (am_row (am_row (am_row (am_row (am_row f 1 y4.1) 34 y4.2.1) 35 y4.2.2.1) 36 r41_36) 37 r41_37) (am_row g 1 y4.2.2.2)) _
    obtain ⟨K, hKd⟩ : ∃ K : (Int32 × (Nat → Int32) × (Nat → Int32) ⊕ (Int32 × (Nat → Int32) × (Nat → Int32) ⊕ Int32 × (Nat → Int32) × (Nat → Int32) × (Nat → Int32) × (Nat → Int32) × (Nat → Int32) × (Nat → Int64))) → Prop, K = fun s => am_KX (fun (z : Int32 × (Nat → Int32) × (Nat → Int32)) => ∀ (wc : Value) (w41_6 : Value) (w41_7 : Value), am_F 6 am_k_119 108 [.ref 0, .int (nI user_n), .int (nI other_n), .int i, .int z.1, wc, w41_6, w41_7] [] (am_S (am_row (am_row (am_row (am_row (am_row f 1 y4.1) 34 y4.2.1) 35 y4.2.2.1) 36 z.2.1) 37 z.2.2) (am_row g 1 y4.2.2.2)) res) (fun (z : Int32 × (Nat → Int32) × (Nat → Int32) × (Nat → Int32) × (Nat → Int32) × (Nat → Int32) × (Nat → Int64)) => (some (Value.int z.1), am_S (am_row (am_row (am_row (am_row (am_row f 1 z.2.1) 34 z.2.2.1) 35 z.2.2.2.1) 36 z.2.2.2.2.1) 37 z.2.2.2.2.2.1) (am_row g 1 z.2.2.2.2.2.2)) = res) (am_nxt (fun z => am_forX (st_unlike_41 user_n other_n i f y4) n (i41 + 1) z) s) := ⟨_, rfl⟩
    have hK : K ((st_unlike_41 user_n other_n i f y4) i41 (a41_4, r41_36, r41_37)) := by rw [hKd]; exact hK
    unfold st_unlike_41 at hK
    simp only at hK
    refine am_F.ops (pc' := 72) (L' := [.ref 0, .int (nI user_n), .int (nI other_n), .int i, .int a41_4, .int (nI i41), .int ((nI i41) / 16), .int ((nI i41) - (nI i41) / 16 * 16)]) (S' := [.int ((nI i41) - (nI i41) / 16 * 16), .int ((nI i41) / 16), .int (nI user_n), .ref 1]) (μ' := (am_S (am_row (am_row (am_row (am_row (am_row f 1 y4.1) 34 y4.2.1) 35 y4.2.2.1) 36 r41_36) 37 r41_37) (am_row g 1 y4.2.2.2))) 13 rfl ?_
    refine am_F.call rfl rfl (by rw [show ((nI i41) - (nI i41) / 16 * 16 : Int32) = nI (i41 % 16) from (am_remE rfl rfl (by omega) (by decide) (by decide))]; exact (x_answer user_n ((nI i41) / 16) (i41 % 16) (am_row (am_row (am_row (am_row (am_row f 1 y4.1) 34 y4.2.1) 35 y4.2.2.1) 36 r41_36) 37 r41_37) (am_row g 1 y4.2.2.2) hRc hRn hPa hCs (by omega) (by omega))) (by decide) ?_
    obtain ⟨y9, hy9⟩ : ∃ z, (fn_answer user_n ((nI i41) / 16) (i41 % 16) (am_row (am_row (am_row (am_row (am_row f 1 y4.1) 34 y4.2.1) 35 y4.2.2.1) 36 r41_36) 37 r41_37)) = z := ⟨_, rfl⟩
    (try rw [hy9] at hK)
    (try rw [hy9])
    refine am_F.mem (F' := (am_row (am_row (am_row (am_row (am_row f 1 y4.1) 34 y4.2.1) 35 y4.2.2.1) 36 y9.2.1) 37 y9.2.2)) (G' := (am_row g 1 y4.2.2.2)) ?_ (by first | rfl | (funext a; by_cases z0 : a = 1; (subst z0; rfl); by_cases z1 : a = 34; (subst z1; rfl); by_cases z2 : a = 35; (subst z2; rfl); by_cases z3 : a = 36; (subst z3; rfl); by_cases z4 : a = 37; (subst z4; rfl); simp only [am_ui, am_ul, am_row_ne z0, am_row_ne z1, am_row_ne z2, am_row_ne z3, am_row_ne z4])) (by first | rfl | (funext a; by_cases z0 : a = 1; (subst z0; rfl); by_cases z1 : a = 34; (subst z1; rfl); by_cases z2 : a = 35; (subst z2; rfl); by_cases z3 : a = 36; (subst z3; rfl); by_cases z4 : a = 37; (subst z4; rfl); simp only [am_ui, am_ul, am_row_ne z0, am_row_ne z1, am_row_ne z2, am_row_ne z3, am_row_ne z4]))
    show am_F _ _ 75 [.ref 0, .int (nI user_n), .int (nI other_n), .int i, .int a41_4, .int (nI i41), .int ((nI i41) / 16), .int ((nI i41) - (nI i41) / 16 * 16)] [.int y9.1] (am_S (am_row (am_row (am_row (am_row (am_row f 1 y4.1) 34 y4.2.1) 35 y4.2.2.1) 36 y9.2.1) 37 y9.2.2) (am_row g 1 y4.2.2.2)) _
    refine am_F.ops (pc' := 84) (L' := [.ref 0, .int (nI user_n), .int (nI other_n), .int i, .int a41_4, .int (nI i41), .int ((nI i41) / 16), .int ((nI i41) - (nI i41) / 16 * 16)]) (S' := [.int ((nI i41) - (nI i41) / 16 * 16), .int ((nI i41) / 16), .int (nI other_n), .ref 1, .int y9.1]) (μ' := (am_S (am_row (am_row (am_row (am_row (am_row f 1 y4.1) 34 y4.2.1) 35 y4.2.2.1) 36 y9.2.1) 37 y9.2.2) (am_row g 1 y4.2.2.2))) 5 rfl ?_
    refine am_F.call rfl rfl (by rw [show ((nI i41) - (nI i41) / 16 * 16 : Int32) = nI (i41 % 16) from (am_remE rfl rfl (by omega) (by decide) (by decide))]; exact (x_answer other_n ((nI i41) / 16) (i41 % 16) (am_row (am_row (am_row (am_row (am_row f 1 y4.1) 34 y4.2.1) 35 y4.2.2.1) 36 y9.2.1) 37 y9.2.2) (am_row g 1 y4.2.2.2) hRc hRn hPa hCs (by omega) (by omega))) (by decide) ?_
    obtain ⟨y10, hy10⟩ : ∃ z, (fn_answer other_n ((nI i41) / 16) (i41 % 16) (am_row (am_row (am_row (am_row (am_row f 1 y4.1) 34 y4.2.1) 35 y4.2.2.1) 36 y9.2.1) 37 y9.2.2)) = z := ⟨_, rfl⟩
    (try rw [hy10] at hK)
    (try rw [hy10])
    refine am_F.mem (F' := (am_row (am_row (am_row (am_row (am_row f 1 y4.1) 34 y4.2.1) 35 y4.2.2.1) 36 y10.2.1) 37 y10.2.2)) (G' := (am_row g 1 y4.2.2.2)) ?_ (by first | rfl | (funext a; by_cases z0 : a = 1; (subst z0; rfl); by_cases z1 : a = 34; (subst z1; rfl); by_cases z2 : a = 35; (subst z2; rfl); by_cases z3 : a = 36; (subst z3; rfl); by_cases z4 : a = 37; (subst z4; rfl); simp only [am_ui, am_ul, am_row_ne z0, am_row_ne z1, am_row_ne z2, am_row_ne z3, am_row_ne z4])) (by first | rfl | (funext a; by_cases z0 : a = 1; (subst z0; rfl); by_cases z1 : a = 34; (subst z1; rfl); by_cases z2 : a = 35; (subst z2; rfl); by_cases z3 : a = 36; (subst z3; rfl); by_cases z4 : a = 37; (subst z4; rfl); simp only [am_ui, am_ul, am_row_ne z0, am_row_ne z1, am_row_ne z2, am_row_ne z3, am_row_ne z4]))
    show am_F _ _ 87 [.ref 0, .int (nI user_n), .int (nI other_n), .int i, .int a41_4, .int (nI i41), .int ((nI i41) / 16), .int ((nI i41) - (nI i41) / 16 * 16)] [.int y10.1, .int y9.1] (am_S (am_row (am_row (am_row (am_row (am_row f 1 y4.1) 34 y4.2.1) 35 y4.2.2.1) 36 y10.2.1) 37 y10.2.2) (am_row g 1 y4.2.2.2)) _
    refine am_F.iteK 1 rfl K hK (fun c11 hK => ?_) (fun c11 hK => ?_)
    · show am_F _ _ 102 [.ref 0, .int (nI user_n), .int (nI other_n), .int i, .int a41_4, .int (nI i41), .int ((nI i41) / 16), .int ((nI i41) - (nI i41) / 16 * 16)] [] (am_S (am_row (am_row (am_row (am_row (am_row f 1 y4.1) 34 y4.2.1) 35 y4.2.2.1) 36 y10.2.1) 37 y10.2.2) (am_row g 1 y4.2.2.2)) _
      refine am_F.ops (pc' := 41) (L' := [.ref 0, .int (nI user_n), .int (nI other_n), .int i, .int a41_4, .int ((nI i41) + 1), .int ((nI i41) / 16), .int ((nI i41) - (nI i41) / 16 * 16)]) (S' := []) (μ' := (am_S (am_row (am_row (am_row (am_row (am_row f 1 y4.1) 34 y4.2.1) 35 y4.2.2.1) 36 y10.2.1) 37 y10.2.2) (am_row g 1 y4.2.2.2))) 2 rfl ?_
      rw [nI_1 i41]
      subst hKd
      exact ih (i41 + 1) a41_4 y10.2.1 y10.2.2 (.int ((nI i41) / 16)) (.int ((nI i41) - (nI i41) / 16 * 16)) (by omega)  hK
    · show am_F _ _ 90 [.ref 0, .int (nI user_n), .int (nI other_n), .int i, .int a41_4, .int (nI i41), .int ((nI i41) / 16), .int ((nI i41) - (nI i41) / 16 * 16)] [] (am_S (am_row (am_row (am_row (am_row (am_row f 1 y4.1) 34 y4.2.1) 35 y4.2.2.1) 36 y10.2.1) 37 y10.2.2) (am_row g 1 y4.2.2.2)) _
      refine am_F.ops (pc' := 93) (L' := [.ref 0, .int (nI user_n), .int (nI other_n), .int i, .int a41_4, .int (nI i41), .int ((nI i41) / 16), .int ((nI i41) - (nI i41) / 16 * 16)]) (S' := [.int i, .int a41_4]) (μ' := (am_S (am_row (am_row (am_row (am_row (am_row f 1 y4.1) 34 y4.2.1) 35 y4.2.2.1) 36 y10.2.1) 37 y10.2.2) (am_row g 1 y4.2.2.2))) 2 rfl ?_
      refine am_F.iteK 1 rfl K hK (fun c12 hK => ?_) (fun c12 hK => ?_)
      · show am_F _ _ 96 [.ref 0, .int (nI user_n), .int (nI other_n), .int i, .int a41_4, .int (nI i41), .int ((nI i41) / 16), .int ((nI i41) - (nI i41) / 16 * 16)] [] (am_S (am_row (am_row (am_row (am_row (am_row f 1 y4.1) 34 y4.2.1) 35 y4.2.2.1) 36 y10.2.1) 37 y10.2.2) (am_row g 1 y4.2.2.2)) _
        refine am_F.ops (pc' := 98) (L' := [.ref 0, .int (nI user_n), .int (nI other_n), .int i, .int a41_4, .int (nI i41), .int ((nI i41) / 16), .int ((nI i41) - (nI i41) / 16 * 16)]) (S' := [.int (nI i41)]) (μ' := (am_S (am_row (am_row (am_row (am_row (am_row f 1 y4.1) 34 y4.2.1) 35 y4.2.2.1) 36 y10.2.1) 37 y10.2.2) (am_row g 1 y4.2.2.2))) 1 rfl ?_
        subst hKd
        exact am_F.eq (am_F.ret rfl rfl) hK
      · show am_F _ _ 99 [.ref 0, .int (nI user_n), .int (nI other_n), .int i, .int a41_4, .int (nI i41), .int ((nI i41) / 16), .int ((nI i41) - (nI i41) / 16 * 16)] [] (am_S (am_row (am_row (am_row (am_row (am_row f 1 y4.1) 34 y4.2.1) 35 y4.2.2.1) 36 y10.2.1) 37 y10.2.2) (am_row g 1 y4.2.2.2)) _
        refine am_F.ops (pc' := 41) (L' := [.ref 0, .int (nI user_n), .int (nI other_n), .int i, .int (a41_4 + 1), .int ((nI i41) + 1), .int ((nI i41) / 16), .int ((nI i41) - (nI i41) / 16 * 16)]) (S' := []) (μ' := (am_S (am_row (am_row (am_row (am_row (am_row f 1 y4.1) 34 y4.2.1) 35 y4.2.2.1) 36 y10.2.1) 37 y10.2.2) (am_row g 1 y4.2.2.2))) 3 rfl ?_
        rw [nI_1 i41]
        subst hKd
        exact ih (i41 + 1) (a41_4 + 1) y10.2.1 y10.2.2 (.int ((nI i41) / 16)) (.int ((nI i41) - (nI i41) / 16 * 16)) (by omega)  hK
theorem x_unlike (user : Int32) (other : Int32) (i : Int32) (f : Nat → Nat → Int32) (g : Nat → Nat → Int64) (hLc : f 11 7 = nI (f 11 7).toNatClampNeg) (hLn : (f 11 7).toNatClampNeg ≤ 40) (hLf : ∀ i, i < (f 11 7).toNatClampNeg → am_inb (f 12 i) 16 = true) (hLt : ∀ i, i < (f 11 7).toNatClampNeg → am_inb (f 13 i) 16 = true) (hLr : ∀ i, i < (f 11 7).toNatClampNeg → am_inb (f 14 i) 20 = true) (hRc : f 18 11 = nI (f 18 11).toNatClampNeg) (hRn : (f 18 11).toNatClampNeg ≤ 30) (hRr : ∀ i, i < (f 18 11).toNatClampNeg → am_inb (f 19 i) 20 = true) (hPa : ∀ t, t < 16 → (f 29 t).toInt < 16) (hCs : ∀ i, i < (f 18 11).toNatClampNeg → f 25 i = nI (f 25 i).toNatClampNeg ∧ (f 25 i).toNatClampNeg ≤ 80) : am_D 6 119 8 [.ref 0, .int user, .int other, .int i] (am_S f g) (some (Value.int ((fn_unlike user other i f g).1)), am_S (am_row (am_row (am_row (am_row (am_row f 1 ((fn_unlike user other i f g).2.1)) 34 ((fn_unlike user other i f g).2.2.1)) 35 ((fn_unlike user other i f g).2.2.2.1)) 36 ((fn_unlike user other i f g).2.2.2.2.1)) 37 ((fn_unlike user other i f g).2.2.2.2.2.1)) (am_row g 1 ((fn_unlike user other i f g).2.2.2.2.2.2))) := by
  refine am_D.of (code := am_k_119) rfl (L0 := [.ref 0, .int user, .int other, .int i, am_un, am_un, am_un, am_un]) rfl ?_
  generalize hres : (some (Value.int ((fn_unlike user other i f g).1)), am_S (am_row (am_row (am_row (am_row (am_row f 1 ((fn_unlike user other i f g).2.1)) 34 ((fn_unlike user other i f g).2.2.1)) 35 ((fn_unlike user other i f g).2.2.2.1)) 36 ((fn_unlike user other i f g).2.2.2.2.1)) 37 ((fn_unlike user other i f g).2.2.2.2.2.1)) (am_row g 1 ((fn_unlike user other i f g).2.2.2.2.2.2))) = res
  obtain ⟨K, hKd⟩ : ∃ K : (Int32 × (Nat → Int32) × (Nat → Int32) × (Nat → Int32) × (Nat → Int32) × (Nat → Int32) × (Nat → Int64)) → Prop, K = fun z => (some (Value.int z.1), am_S (am_row (am_row (am_row (am_row (am_row f 1 z.2.1) 34 z.2.2.1) 35 z.2.2.2.1) 36 z.2.2.2.2.1) 37 z.2.2.2.2.2.1) (am_row g 1 z.2.2.2.2.2.2)) = res := ⟨_, rfl⟩
  have hK : K (fn_unlike user other i f g) := by rw [hKd]; exact hres
  clear hres
  unfold fn_unlike at hK
  refine am_F.ops (pc' := 1) (L' := [.ref 0, .int user, .int other, .int i, am_un, am_un, am_un, am_un]) (S' := [.int user]) (μ' := (am_S f g)) 1 rfl ?_
  refine am_F.call rfl rfl (x_isUser user f g ) (by decide) ?_
  show am_F _ _ 4 [.ref 0, .int user, .int other, .int i, am_un, am_un, am_un, am_un] [.int (am_b (fn_isUser user))] (am_S f g) _
  refine am_F.bifK 1 rfl K hK (fun c1 hK => ?_) (fun c1 hK => ?_)
  · obtain ⟨user_n, huser_n, euser_n⟩ := am_isUser c1
    subst euser_n
    try simp only [nI_clamp (show user_n < 2147483648 by omega)] at hK
    show am_F _ _ 7 [.ref 0, .int (nI user_n), .int other, .int i, am_un, am_un, am_un, am_un] [] (am_S f g) _
    refine am_F.ops (pc' := 8) (L' := [.ref 0, .int (nI user_n), .int other, .int i, am_un, am_un, am_un, am_un]) (S' := [.int other]) (μ' := (am_S f g)) 1 rfl ?_
    refine am_F.call rfl rfl (x_isUser other f g ) (by decide) ?_
    show am_F _ _ 11 [.ref 0, .int (nI user_n), .int other, .int i, am_un, am_un, am_un, am_un] [.int (am_b (fn_isUser other))] (am_S f g) _
    refine am_F.bifK 1 rfl K hK (fun c2 hK => ?_) (fun c2 hK => ?_)
    · obtain ⟨other_n, hother_n, eother_n⟩ := am_isUser c2
      subst eother_n
      try simp only [nI_clamp (show other_n < 2147483648 by omega)] at hK
      show am_F _ _ 14 [.ref 0, .int (nI user_n), .int (nI other_n), .int i, am_un, am_un, am_un, am_un] [] (am_S f g) _
      refine am_F.ops (pc' := 16) (L' := [.ref 0, .int (nI user_n), .int (nI other_n), .int i, am_un, am_un, am_un, am_un]) (S' := [.int (-1), .int i]) (μ' := (am_S f g)) 2 rfl ?_
      refine am_F.iteK 1 rfl K hK (fun c3 hK => ?_) (fun c3 hK => ?_)
      · show am_F _ _ 21 [.ref 0, .int (nI user_n), .int (nI other_n), .int i, am_un, am_un, am_un, am_un] [] (am_S f g) _
        refine am_F.ops (pc' := 32) (L' := [.ref 0, .int (nI user_n), .int (nI other_n), .int i, am_un, am_un, am_un, am_un]) (S' := [.int (f 2 12), .ref 1]) (μ' := (am_S f g)) 5 rfl ?_
        refine am_F.call rfl rfl (x_settle (f 2 12) f g hLc hLn hLf hLt hLr hRc hRn) (by decide) ?_
        obtain ⟨y4, hy4⟩ : ∃ z, (fn_settle (f 2 12) f g) = z := ⟨_, rfl⟩
        (try rw [hy4] at hK)
        (try rw [hy4])
        refine am_F.mem (F' := (am_row (am_row (am_row f 1 y4.1) 34 y4.2.1) 35 y4.2.2.1)) (G' := (am_row g 1 y4.2.2.2)) ?_ (by first | rfl | (funext a; by_cases z0 : a = 1; (subst z0; rfl); by_cases z1 : a = 34; (subst z1; rfl); by_cases z2 : a = 35; (subst z2; rfl); simp only [am_ui, am_ul, am_row_ne z0, am_row_ne z1, am_row_ne z2])) (by first | rfl | (funext a; by_cases z0 : a = 1; (subst z0; rfl); by_cases z1 : a = 34; (subst z1; rfl); by_cases z2 : a = 35; (subst z2; rfl); simp only [am_ui, am_ul, am_row_ne z0, am_row_ne z1, am_row_ne z2]))
        show am_F _ _ 35 [.ref 0, .int (nI user_n), .int (nI other_n), .int i, am_un, am_un, am_un, am_un] [] (am_S (am_row (am_row (am_row f 1 y4.1) 34 y4.2.1) 35 y4.2.2.1) (am_row g 1 y4.2.2.2)) _
        refine am_F.ops (pc' := 41) (L' := [.ref 0, .int (nI user_n), .int (nI other_n), .int i, .int 0, .int 0, am_un, am_un]) (S' := []) (μ' := (am_S (am_row (am_row (am_row f 1 y4.1) 34 y4.2.1) 35 y4.2.2.1) (am_row g 1 y4.2.2.2))) 4 rfl ?_
        refine am_F.mem (F' := (am_row (am_row (am_row (am_row (am_row f 1 y4.1) 34 y4.2.1) 35 y4.2.2.1) 36 (f 36)) 37 (f 37))) (G' := (am_row g 1 y4.2.2.2)) ?_ (by first | rfl | (funext a; by_cases z0 : a = 1; (subst z0; rfl); by_cases z1 : a = 34; (subst z1; rfl); by_cases z2 : a = 35; (subst z2; rfl); by_cases z3 : a = 36; (subst z3; rfl); by_cases z4 : a = 37; (subst z4; rfl); simp only [am_ui, am_ul, am_row_ne z0, am_row_ne z1, am_row_ne z2, am_row_ne z3, am_row_ne z4])) (by first | rfl | (funext a; by_cases z0 : a = 1; (subst z0; rfl); by_cases z1 : a = 34; (subst z1; rfl); by_cases z2 : a = 35; (subst z2; rfl); by_cases z3 : a = 36; (subst z3; rfl); by_cases z4 : a = 37; (subst z4; rfl); simp only [am_ui, am_ul, am_row_ne z0, am_row_ne z1, am_row_ne z2, am_row_ne z3, am_row_ne z4]))
        show am_F _ _ 41 [.ref 0, .int (nI user_n), .int (nI other_n), .int i, .int 0, .int (nI 0), am_un, am_un] [] (am_S (am_row (am_row (am_row (am_row (am_row f 1 y4.1) 34 y4.2.1) 35 y4.2.2.1) 36 (f 36)) 37 (f 37)) (am_row g 1 y4.2.2.2)) _
        refine lp_unlike_41 user_n other_n i f g y4 hLc hLn hLf hLt hLr hRc hRn hRr hPa hCs huser_n hother_n _ 128 0 0 (f 36) (f 37) am_un am_un (by omega)  ?_
        rw [show am_forX (st_unlike_41 user_n other_n i f y4) 128 0 (0, f 36, f 37) = (lf_unlike_41 user_n other_n i f y4) from rfl]
        revert hK
        cases (lf_unlike_41 user_n other_n i f y4) with
        | inr z =>
          intro hK
          subst hKd
          exact hK
        | inl z41 =>
          intro hK wc w41_6 w41_7
          refine am_F.ops (pc' := 109) (L' := [.ref 0, .int (nI user_n), .int (nI other_n), .int i, .int z41.1, wc, w41_6, w41_7]) (S' := [.int i]) (μ' := (am_S (am_row (am_row (am_row (am_row (am_row f 1 y4.1) 34 y4.2.1) 35 y4.2.2.1) 36 z41.2.1) 37 z41.2.2) (am_row g 1 y4.2.2.2))) 1 rfl ?_
          refine am_F.to (am_To.ite (pc' := 119) (L2 := [.ref 0, .int (nI user_n), .int (nI other_n), .int i, .int z41.1, wc, w41_6, w41_7]) (S2 := []) (μ2 := (am_S (am_row (am_row (am_row (am_row (am_row f 1 y4.1) 34 y4.2.1) 35 y4.2.2.1) 36 z41.2.1) 37 z41.2.2) (am_row g 1 y4.2.2.2))) (a := (-2)) (b := z41.1) 1 rfl (fun c13 => ?_) (fun c13 => ?_)) ?_
          · intro res9 g9
            show am_F _ _ 117 [.ref 0, .int (nI user_n), .int (nI other_n), .int i, .int z41.1, wc, w41_6, w41_7] [] (am_S (am_row (am_row (am_row (am_row (am_row f 1 y4.1) 34 y4.2.1) 35 y4.2.2.1) 36 z41.2.1) 37 z41.2.2) (am_row g 1 y4.2.2.2)) _
            refine am_F.ops (pc' := 119) (L' := [.ref 0, .int (nI user_n), .int (nI other_n), .int i, .int z41.1, wc, w41_6, w41_7]) (S' := [.int (-2)]) (μ' := (am_S (am_row (am_row (am_row (am_row (am_row f 1 y4.1) 34 y4.2.1) 35 y4.2.2.1) 36 z41.2.1) 37 z41.2.2) (am_row g 1 y4.2.2.2))) 1 rfl ?_
            exact g9
          · intro res9 g9
            show am_F _ _ 112 [.ref 0, .int (nI user_n), .int (nI other_n), .int i, .int z41.1, wc, w41_6, w41_7] [] (am_S (am_row (am_row (am_row (am_row (am_row f 1 y4.1) 34 y4.2.1) 35 y4.2.2.1) 36 z41.2.1) 37 z41.2.2) (am_row g 1 y4.2.2.2)) _
            refine am_F.ops (pc' := 119) (L' := [.ref 0, .int (nI user_n), .int (nI other_n), .int i, .int z41.1, wc, w41_6, w41_7]) (S' := [.int z41.1]) (μ' := (am_S (am_row (am_row (am_row (am_row (am_row f 1 y4.1) 34 y4.2.1) 35 y4.2.2.1) 36 z41.2.1) 37 z41.2.2) (am_row g 1 y4.2.2.2))) 2 rfl ?_
            exact g9
          show am_F _ _ 119 [.ref 0, .int (nI user_n), .int (nI other_n), .int i, .int z41.1, wc, w41_6, w41_7] [.int (if 0 ≤ i then (-2) else z41.1)] (am_S (am_row (am_row (am_row (am_row (am_row f 1 y4.1) 34 y4.2.1) 35 y4.2.2.1) 36 z41.2.1) 37 z41.2.2) (am_row g 1 y4.2.2.2)) _
          subst hKd
          exact am_F.eq (am_F.ret rfl rfl) hK
      · show am_F _ _ 19 [.ref 0, .int (nI user_n), .int (nI other_n), .int i, am_un, am_un, am_un, am_un] [] (am_S f g) _
        refine am_F.ops (pc' := 20) (L' := [.ref 0, .int (nI user_n), .int (nI other_n), .int i, am_un, am_un, am_un, am_un]) (S' := [.int (-1)]) (μ' := (am_S f g)) 1 rfl ?_
        refine am_F.mem (F' := (am_row (am_row (am_row (am_row (am_row f 1 (f 1)) 34 (f 34)) 35 (f 35)) 36 (f 36)) 37 (f 37))) (G' := (am_row g 1 (g 1))) ?_ (by first | rfl | (funext a; by_cases z0 : a = 1; (subst z0; rfl); by_cases z1 : a = 34; (subst z1; rfl); by_cases z2 : a = 35; (subst z2; rfl); by_cases z3 : a = 36; (subst z3; rfl); by_cases z4 : a = 37; (subst z4; rfl); simp only [am_ui, am_ul, am_row_ne z0, am_row_ne z1, am_row_ne z2, am_row_ne z3, am_row_ne z4])) (by first | rfl | (funext a; by_cases z0 : a = 1; (subst z0; rfl); by_cases z1 : a = 34; (subst z1; rfl); by_cases z2 : a = 35; (subst z2; rfl); by_cases z3 : a = 36; (subst z3; rfl); by_cases z4 : a = 37; (subst z4; rfl); simp only [am_ui, am_ul, am_row_ne z0, am_row_ne z1, am_row_ne z2, am_row_ne z3, am_row_ne z4]))
        subst hKd
        exact am_F.eq (am_F.ret rfl rfl) hK
    · show am_F _ _ 19 [.ref 0, .int (nI user_n), .int other, .int i, am_un, am_un, am_un, am_un] [] (am_S f g) _
      refine am_F.ops (pc' := 20) (L' := [.ref 0, .int (nI user_n), .int other, .int i, am_un, am_un, am_un, am_un]) (S' := [.int (-1)]) (μ' := (am_S f g)) 1 rfl ?_
      refine am_F.mem (F' := (am_row (am_row (am_row (am_row (am_row f 1 (f 1)) 34 (f 34)) 35 (f 35)) 36 (f 36)) 37 (f 37))) (G' := (am_row g 1 (g 1))) ?_ (by first | rfl | (funext a; by_cases z0 : a = 1; (subst z0; rfl); by_cases z1 : a = 34; (subst z1; rfl); by_cases z2 : a = 35; (subst z2; rfl); by_cases z3 : a = 36; (subst z3; rfl); by_cases z4 : a = 37; (subst z4; rfl); simp only [am_ui, am_ul, am_row_ne z0, am_row_ne z1, am_row_ne z2, am_row_ne z3, am_row_ne z4])) (by first | rfl | (funext a; by_cases z0 : a = 1; (subst z0; rfl); by_cases z1 : a = 34; (subst z1; rfl); by_cases z2 : a = 35; (subst z2; rfl); by_cases z3 : a = 36; (subst z3; rfl); by_cases z4 : a = 37; (subst z4; rfl); simp only [am_ui, am_ul, am_row_ne z0, am_row_ne z1, am_row_ne z2, am_row_ne z3, am_row_ne z4]))
      subst hKd
      exact am_F.eq (am_F.ret rfl rfl) hK
  · show am_F _ _ 19 [.ref 0, .int user, .int other, .int i, am_un, am_un, am_un, am_un] [] (am_S f g) _
    refine am_F.ops (pc' := 20) (L' := [.ref 0, .int user, .int other, .int i, am_un, am_un, am_un, am_un]) (S' := [.int (-1)]) (μ' := (am_S f g)) 1 rfl ?_
    refine am_F.mem (F' := (am_row (am_row (am_row (am_row (am_row f 1 (f 1)) 34 (f 34)) 35 (f 35)) 36 (f 36)) 37 (f 37))) (G' := (am_row g 1 (g 1))) ?_ (by first | rfl | (funext a; by_cases z0 : a = 1; (subst z0; rfl); by_cases z1 : a = 34; (subst z1; rfl); by_cases z2 : a = 35; (subst z2; rfl); by_cases z3 : a = 36; (subst z3; rfl); by_cases z4 : a = 37; (subst z4; rfl); simp only [am_ui, am_ul, am_row_ne z0, am_row_ne z1, am_row_ne z2, am_row_ne z3, am_row_ne z4])) (by first | rfl | (funext a; by_cases z0 : a = 1; (subst z0; rfl); by_cases z1 : a = 34; (subst z1; rfl); by_cases z2 : a = 35; (subst z2; rfl); by_cases z3 : a = 36; (subst z3; rfl); by_cases z4 : a = 37; (subst z4; rfl); simp only [am_ui, am_ul, am_row_ne z0, am_row_ne z1, am_row_ne z2, am_row_ne z3, am_row_ne z4]))
    subst hKd
    exact am_F.eq (am_F.ret rfl rfl) hK
/-- AccessLattice.book -/
def fn_book (i : Int32) (what : Int32) (f : Nat → Nat → Int32) : Int32 := (if i < 0 then (-1) else (bif (fn_between what 0 5) then (if (f 2 11) ≤ i then (-2) else (if i < 30 then f 32 (((i * 6) + what).toNatClampNeg) else (-2))) else (-1)))
theorem x_book (i : Int32) (what : Int32) (f : Nat → Nat → Int32) (g : Nat → Nat → Int64)  : am_D 1 120 3 [.ref 0, .int i, .int what] (am_S f g) (some (Value.int (fn_book i what f)), am_S f g) := by
  refine am_D.of (code := am_k_120) rfl (L0 := [.ref 0, .int i, .int what]) rfl ?_
  generalize hres : (some (Value.int (fn_book i what f)), am_S f g) = res
  obtain ⟨K, hKd⟩ : ∃ K : Int32 → Prop, K = fun z => (some (Value.int z), am_S f g) = res := ⟨_, rfl⟩
  have hK : K (fn_book i what f) := by rw [hKd]; exact hres
  clear hres
  unfold fn_book at hK
  refine am_F.ops (pc' := 1) (L' := [.ref 0, .int i, .int what]) (S' := [.int i]) (μ' := (am_S f g)) 1 rfl ?_
  refine am_F.iteK 1 rfl K hK (fun c1 hK => ?_) (fun c1 hK => ?_)
  · show am_F _ _ 13 [.ref 0, .int i, .int what] [] (am_S f g) _
    refine am_F.ops (pc' := 14) (L' := [.ref 0, .int i, .int what]) (S' := [.int (-1)]) (μ' := (am_S f g)) 1 rfl ?_
    subst hKd
    exact am_F.eq (am_F.ret rfl rfl) hK
  · show am_F _ _ 4 [.ref 0, .int i, .int what] [] (am_S f g) _
    refine am_F.ops (pc' := 7) (L' := [.ref 0, .int i, .int what]) (S' := [.int 5, .int 0, .int what]) (μ' := (am_S f g)) 3 rfl ?_
    refine am_F.call rfl rfl (x_between what 0 5 f g ) (by decide) ?_
    show am_F _ _ 10 [.ref 0, .int i, .int what] [.int (am_b (fn_between what 0 5))] (am_S f g) _
    refine am_F.bifK 1 rfl K hK (fun c2 hK => ?_) (fun c2 hK => ?_)
    · obtain ⟨what_n, hwhat_n, ewhat_n⟩ := am_btwN c2 (by decide)
      subst ewhat_n
      try simp only [nI_clamp (show what_n < 2147483648 by omega)] at hK
      show am_F _ _ 15 [.ref 0, .int i, .int (nI what_n)] [] (am_S f g) _
      refine am_F.ops (pc' := 23) (L' := [.ref 0, .int i, .int (nI what_n)]) (S' := [.int (f 2 11), .int i]) (μ' := (am_S f g)) 4 rfl ?_
      refine am_F.iteK 1 rfl K hK (fun c3 hK => ?_) (fun c3 hK => ?_)
      · show am_F _ _ 32 [.ref 0, .int i, .int (nI what_n)] [] (am_S f g) _
        refine am_F.ops (pc' := 34) (L' := [.ref 0, .int i, .int (nI what_n)]) (S' := [.int (-2)]) (μ' := (am_S f g)) 1 rfl ?_
        subst hKd
        exact am_F.eq (am_F.ret rfl rfl) hK
      · show am_F _ _ 26 [.ref 0, .int i, .int (nI what_n)] [] (am_S f g) _
        refine am_F.ops (pc' := 29) (L' := [.ref 0, .int i, .int (nI what_n)]) (S' := [.int 30, .int i]) (μ' := (am_S f g)) 2 rfl ?_
        refine am_F.iteK 1 rfl K hK (fun c4 hK => ?_) (fun c4 hK => ?_)
        · show am_F _ _ 35 [.ref 0, .int i, .int (nI what_n)] [] (am_S f g) _
          refine am_F.ops (pc' := 48) (L' := [.ref 0, .int i, .int (nI what_n)]) (S' := [.int ((i * 6) + (nI what_n)), .ref 32]) (μ' := (am_S f g)) 8 rfl ?_
          refine am_F.ial (N := 180) rfl rfl rfl (by assumption) ?_
          show am_F _ _ 49 [.ref 0, .int i, .int (nI what_n)] [.int (f 32 (((i * 6) + (nI what_n)).toNatClampNeg))] (am_S f g) _
          subst hKd
          exact am_F.eq (am_F.ret rfl rfl) hK
        · show am_F _ _ 32 [.ref 0, .int i, .int (nI what_n)] [] (am_S f g) _
          refine am_F.ops (pc' := 34) (L' := [.ref 0, .int i, .int (nI what_n)]) (S' := [.int (-2)]) (μ' := (am_S f g)) 1 rfl ?_
          subst hKd
          exact am_F.eq (am_F.ret rfl rfl) hK
    · show am_F _ _ 13 [.ref 0, .int i, .int what] [] (am_S f g) _
      refine am_F.ops (pc' := 14) (L' := [.ref 0, .int i, .int what]) (S' := [.int (-1)]) (μ' := (am_S f g)) 1 rfl ?_
      subst hKd
      exact am_F.eq (am_F.ret rfl rfl) hK
/-- AccessLattice.reaches -/
def fn_reaches (rule : Nat) (thing : Nat) (f : Nat → Nat → Int32) : Bool := (if (fn_stepsUp thing (f 21 rule) f) = 0 then true else (if (fn_stepsUp thing (f 21 rule) f) ≤ 0 then false else (bif (fn_has (f 18 10) (nI rule)) then true else false)))
theorem x_reaches (rule : Nat) (thing : Nat) (f : Nat → Nat → Int32) (g : Nat → Nat → Int64) (hPa : ∀ t, t < 16 → (f 29 t).toInt < 16) (hrule : rule < 30) (hthing : thing < 16) : am_D 1 125 4 [.ref 0, .int (nI rule), .int (nI thing)] (am_S f g) (some (Value.int (am_b (fn_reaches rule thing f))), am_S f g) := by
  refine am_D.of (code := am_k_125) rfl (L0 := [.ref 0, .int (nI rule), .int (nI thing), am_un]) rfl ?_
  generalize hres : (some (Value.int (am_b (fn_reaches rule thing f))), am_S f g) = res
  obtain ⟨K, hKd⟩ : ∃ K : Bool → Prop, K = fun z => (some (Value.int (am_b z)), am_S f g) = res := ⟨_, rfl⟩
  have hK : K (fn_reaches rule thing f) := by rw [hKd]; exact hres
  clear hres
  unfold fn_reaches at hK
  refine am_F.ops (pc' := 16) (L' := [.ref 0, .int (nI rule), .int (nI thing), am_un]) (S' := [.int (nI rule), .ref 21, .int (nI thing), .ref 2]) (μ' := (am_S f g)) 8 rfl ?_
  refine am_F.ialE (m := rule) (N := 30) rfl rfl rfl rfl (by omega) (by decide) ?_
  show am_F _ _ 17 [.ref 0, .int (nI rule), .int (nI thing), am_un] [.int (f 21 rule), .int (nI thing), .ref 2] (am_S f g) _
  refine am_F.call rfl rfl (x_stepsUp thing (f 21 rule) f g hPa (by omega)) (by decide) ?_
  show am_F _ _ 20 [.ref 0, .int (nI rule), .int (nI thing), am_un] [.int (fn_stepsUp thing (f 21 rule) f)] (am_S f g) _
  refine am_F.ops (pc' := 22) (L' := [.ref 0, .int (nI rule), .int (nI thing), .int (fn_stepsUp thing (f 21 rule) f)]) (S' := [.int (fn_stepsUp thing (f 21 rule) f)]) (μ' := (am_S f g)) 2 rfl ?_
  refine am_F.to (am_To.iteB (pc' := 51) (L2 := [.ref 0, .int (nI rule), .int (nI thing), .int (fn_stepsUp thing (f 21 rule) f)]) (S2 := []) (μ2 := (am_S f g)) (a := true) (b := (if (fn_stepsUp thing (f 21 rule) f) ≤ 0 then false else (bif (fn_has (f 18 10) (nI rule)) then true else false))) 1 rfl (fun c1 => ?_) (fun c1 => ?_)) ?_
  · intro res9 g9
    show am_F _ _ 46 [.ref 0, .int (nI rule), .int (nI thing), .int (fn_stepsUp thing (f 21 rule) f)] [] (am_S f g) _
    refine am_F.ops (pc' := 51) (L' := [.ref 0, .int (nI rule), .int (nI thing), .int (fn_stepsUp thing (f 21 rule) f)]) (S' := [.int 1]) (μ' := (am_S f g)) 2 rfl ?_
    exact g9
  · intro res9 g9
    show am_F _ _ 25 [.ref 0, .int (nI rule), .int (nI thing), .int (fn_stepsUp thing (f 21 rule) f)] [] (am_S f g) _
    refine am_F.ops (pc' := 26) (L' := [.ref 0, .int (nI rule), .int (nI thing), .int (fn_stepsUp thing (f 21 rule) f)]) (S' := [.int (fn_stepsUp thing (f 21 rule) f)]) (μ' := (am_S f g)) 1 rfl ?_
    refine am_F.to (am_To.iteB (pc' := 51) (L2 := [.ref 0, .int (nI rule), .int (nI thing), .int (fn_stepsUp thing (f 21 rule) f)]) (S2 := []) (μ2 := (am_S f g)) (a := false) (b := (bif (fn_has (f 18 10) (nI rule)) then true else false)) 1 rfl (fun c2 => ?_) (fun c2 => ?_)) g9
    · intro res9 g9
      show am_F _ _ 50 [.ref 0, .int (nI rule), .int (nI thing), .int (fn_stepsUp thing (f 21 rule) f)] [] (am_S f g) _
      refine am_F.ops (pc' := 51) (L' := [.ref 0, .int (nI rule), .int (nI thing), .int (fn_stepsUp thing (f 21 rule) f)]) (S' := [.int 0]) (μ' := (am_S f g)) 1 rfl ?_
      exact g9
    · intro res9 g9
      show am_F _ _ 29 [.ref 0, .int (nI rule), .int (nI thing), .int (fn_stepsUp thing (f 21 rule) f)] [] (am_S f g) _
      refine am_F.ops (pc' := 40) (L' := [.ref 0, .int (nI rule), .int (nI thing), .int (fn_stepsUp thing (f 21 rule) f)]) (S' := [.int (nI rule), .int (f 18 10)]) (μ' := (am_S f g)) 5 rfl ?_
      refine am_F.call rfl rfl (x_has (f 18 10) (nI rule) f g ) (by decide) ?_
      show am_F _ _ 43 [.ref 0, .int (nI rule), .int (nI thing), .int (fn_stepsUp thing (f 21 rule) f)] [.int (am_b (fn_has (f 18 10) (nI rule)))] (am_S f g) _
      refine am_F.to (am_To.bifB (pc' := 51) (L2 := [.ref 0, .int (nI rule), .int (nI thing), .int (fn_stepsUp thing (f 21 rule) f)]) (S2 := []) (μ2 := (am_S f g)) (a := true) (b := false) 1 rfl (fun c3 => ?_) (fun c3 => ?_)) g9
      · intro res9 g9
        show am_F _ _ 46 [.ref 0, .int (nI rule), .int (nI thing), .int (fn_stepsUp thing (f 21 rule) f)] [] (am_S f g) _
        refine am_F.ops (pc' := 51) (L' := [.ref 0, .int (nI rule), .int (nI thing), .int (fn_stepsUp thing (f 21 rule) f)]) (S' := [.int 1]) (μ' := (am_S f g)) 2 rfl ?_
        exact g9
      · intro res9 g9
        show am_F _ _ 50 [.ref 0, .int (nI rule), .int (nI thing), .int (fn_stepsUp thing (f 21 rule) f)] [] (am_S f g) _
        refine am_F.ops (pc' := 51) (L' := [.ref 0, .int (nI rule), .int (nI thing), .int (fn_stepsUp thing (f 21 rule) f)]) (S' := [.int 0]) (μ' := (am_S f g)) 1 rfl ?_
        exact g9
  show am_F _ _ 51 [.ref 0, .int (nI rule), .int (nI thing), .int (fn_stepsUp thing (f 21 rule) f)] [.int (am_b (if (fn_stepsUp thing (f 21 rule) f) = 0 then true else (if (fn_stepsUp thing (f 21 rule) f) ≤ 0 then false else (bif (fn_has (f 18 10) (nI rule)) then true else false))))] (am_S f g) _
  subst hKd
  exact am_F.eq (am_F.ret rfl (am_retB _ _)) hK
/-- AccessLattice.join -/
def st_join_66 (a_n : Nat) (b_n : Nat) (f : Nat → Nat → Int32) : Nat → Unit → Unit ⊕ (Unit ⊕ Int32) := fun i66 _ => (bif (fn_has ((f 7 a_n) &&& (f 7 b_n)) (nI i66)) then (if (((f 7 a_n) &&& (f 7 b_n)) &&& ((f 7 i66) ^^^ (-1))) = 0 then .inr (.inr (nI i66)) else .inl ()) else .inl ())
def lf_join_66 (a_n : Nat) (b_n : Nat) (f : Nat → Nat → Int32) : Unit ⊕ Int32 := am_forX (st_join_66 a_n b_n f) 20 0 ()
def st_join_66 (a_n : Nat) (b_n : Nat) (f : Nat → Nat → Int32) : Nat → Unit → Unit ⊕ (Unit ⊕ Int32) := fun i66 _ => (bif (fn_has ((f 6 a_n) &&& (f 6 b_n)) (nI i66)) then (if (((f 6 a_n) &&& (f 6 b_n)) &&& ((f 6 i66) ^^^ (-1))) = 0 then .inr (.inr (nI i66)) else .inl ()) else .inl ())
def lf_join_66_10 (a_n : Nat) (b_n : Nat) (f : Nat → Nat → Int32) : Unit ⊕ Int32 := am_forX (st_join_66 a_n b_n f) 20 0 ()
def fn_join (a : Int32) (b : Int32) (way : Int32) (f : Nat → Nat → Int32) : Int32 := (bif (fn_isRole a) then (bif (fn_isRole b) then (bif (fn_within01 way) then (if way = 0 then (Sum.elim (fun (z66 : Unit) => (-2)) (fun (z : Int32) => z) (lf_join_66 (a.toNatClampNeg) (b.toNatClampNeg) f)) else (Sum.elim (fun (z66 : Unit) => (-2)) (fun (z : Int32) => z) (lf_join_66_10 (a.toNatClampNeg) (b.toNatClampNeg) f))) else (-1)) else (-1)) else (-1))
theorem lp_join_66 (a_n : Nat) (b_n : Nat) (way : Int32) (f : Nat → Nat → Int32) (g : Nat → Nat → Int64) (ha_n : a_n < 20) (hb_n : b_n < 20) (res : Option Value × am_M) : ∀ (n i66 : Nat)  , i66 + n = 20 → am_KX (fun (z : Unit) => ∀ (wc : Value), am_F 2 am_k_126 105 [.ref 0, .int (nI a_n), .int (nI b_n), .int way, .ref 7, .int ((f 7 a_n) &&& (f 7 b_n)), wc] [] (am_S f g) res) (fun (z : Int32) => (some (Value.int z), am_S f g) = res) (am_forX (st_join_66 a_n b_n f) n i66 ()) → am_F 2 am_k_126 66 [.ref 0, .int (nI a_n), .int (nI b_n), .int way, .ref 7, .int ((f 7 a_n) &&& (f 7 b_n)), .int (nI i66)] [] (am_S f g) res := by
  intro n
  induction n with
  | zero =>
    intro i66 hi hK
    refine am_F.pos 3 rfl (by show 20 ≤ nI i66; rw [show (20 : Int32) = nI 20 from rfl]; exact nI_le (by omega) (by omega)) ?_
    exact hK _
  | succ n ih =>
    intro i66 hi hK
    refine am_F.neg 3 rfl (by show ¬ 20 ≤ nI i66; rw [show (20 : Int32) = nI 20 from rfl]; exact nI_ge (by omega) (by omega)) ?_
    have hb66 : i66 < 20 := by omega
    show am_F _ _ 73 [.ref 0, .int (nI a_n), .int (nI b_n), .int way, .ref 7, .int ((f 7 a_n) &&& (f 7 b_n)), .int (nI i66)] [] (am_S f g) _
    obtain ⟨K, hKd⟩ : ∃ K : (Unit ⊕ (Unit ⊕ Int32)) → Prop, K = fun s => am_KX (fun (z : Unit) => ∀ (wc : Value), am_F 2 am_k_126 105 [.ref 0, .int (nI a_n), .int (nI b_n), .int way, .ref 7, .int ((f 7 a_n) &&& (f 7 b_n)), wc] [] (am_S f g) res) (fun (z : Int32) => (some (Value.int z), am_S f g) = res) (am_nxt (fun z => am_forX (st_join_66 a_n b_n f) n (i66 + 1) z) s) := ⟨_, rfl⟩
    have hK : K ((st_join_66 a_n b_n f) i66 ()) := by rw [hKd]; exact hK
    unfold st_join_66 at hK
    refine am_F.ops (pc' := 77) (L' := [.ref 0, .int (nI a_n), .int (nI b_n), .int way, .ref 7, .int ((f 7 a_n) &&& (f 7 b_n)), .int (nI i66)]) (S' := [.int (nI i66), .int ((f 7 a_n) &&& (f 7 b_n))]) (μ' := (am_S f g)) 2 rfl ?_
    refine am_F.call rfl rfl (x_has ((f 7 a_n) &&& (f 7 b_n)) (nI i66) f g ) (by decide) ?_
    show am_F _ _ 80 [.ref 0, .int (nI a_n), .int (nI b_n), .int way, .ref 7, .int ((f 7 a_n) &&& (f 7 b_n)), .int (nI i66)] [.int (am_b (fn_has ((f 7 a_n) &&& (f 7 b_n)) (nI i66)))] (am_S f g) _
    refine am_F.bifK 1 rfl K hK (fun c6 hK => ?_) (fun c6 hK => ?_)
    · show am_F _ _ 83 [.ref 0, .int (nI a_n), .int (nI b_n), .int way, .ref 7, .int ((f 7 a_n) &&& (f 7 b_n)), .int (nI i66)] [] (am_S f g) _
      refine am_F.ops (pc' := 89) (L' := [.ref 0, .int (nI a_n), .int (nI b_n), .int way, .ref 7, .int ((f 7 a_n) &&& (f 7 b_n)), .int (nI i66)]) (S' := [.int (nI i66), .ref 7, .int ((f 7 a_n) &&& (f 7 b_n))]) (μ' := (am_S f g)) 3 rfl ?_
      refine am_F.ialE (m := i66) (N := 20) rfl rfl rfl rfl (by omega) (by decide) ?_
      show am_F _ _ 90 [.ref 0, .int (nI a_n), .int (nI b_n), .int way, .ref 7, .int ((f 7 a_n) &&& (f 7 b_n)), .int (nI i66)] [.int (f 7 i66), .int ((f 7 a_n) &&& (f 7 b_n))] (am_S f g) _
      refine am_F.ops (pc' := 93) (L' := [.ref 0, .int (nI a_n), .int (nI b_n), .int way, .ref 7, .int ((f 7 a_n) &&& (f 7 b_n)), .int (nI i66)]) (S' := [.int (((f 7 a_n) &&& (f 7 b_n)) &&& ((f 7 i66) ^^^ (-1)))]) (μ' := (am_S f g)) 3 rfl ?_
      refine am_F.iteK 1 rfl K hK (fun c7 hK => ?_) (fun c7 hK => ?_)
      · show am_F _ _ 96 [.ref 0, .int (nI a_n), .int (nI b_n), .int way, .ref 7, .int ((f 7 a_n) &&& (f 7 b_n)), .int (nI i66)] [] (am_S f g) _
        refine am_F.ops (pc' := 98) (L' := [.ref 0, .int (nI a_n), .int (nI b_n), .int way, .ref 7, .int ((f 7 a_n) &&& (f 7 b_n)), .int (nI i66)]) (S' := [.int (nI i66)]) (μ' := (am_S f g)) 1 rfl ?_
        subst hKd
        exact am_F.eq (am_F.ret rfl rfl) hK
      · show am_F _ _ 99 [.ref 0, .int (nI a_n), .int (nI b_n), .int way, .ref 7, .int ((f 7 a_n) &&& (f 7 b_n)), .int (nI i66)] [] (am_S f g) _
        refine am_F.ops (pc' := 66) (L' := [.ref 0, .int (nI a_n), .int (nI b_n), .int way, .ref 7, .int ((f 7 a_n) &&& (f 7 b_n)), .int ((nI i66) + 1)]) (S' := []) (μ' := (am_S f g)) 2 rfl ?_
        rw [nI_1 i66]
        subst hKd
        exact ih (i66 + 1)  (by omega)  hK
    · show am_F _ _ 99 [.ref 0, .int (nI a_n), .int (nI b_n), .int way, .ref 7, .int ((f 7 a_n) &&& (f 7 b_n)), .int (nI i66)] [] (am_S f g) _
      refine am_F.ops (pc' := 66) (L' := [.ref 0, .int (nI a_n), .int (nI b_n), .int way, .ref 7, .int ((f 7 a_n) &&& (f 7 b_n)), .int ((nI i66) + 1)]) (S' := []) (μ' := (am_S f g)) 2 rfl ?_
      rw [nI_1 i66]
      subst hKd
      exact ih (i66 + 1)  (by omega)  hK
theorem lp_join_66 (a_n : Nat) (b_n : Nat) (way : Int32) (f : Nat → Nat → Int32) (g : Nat → Nat → Int64) (ha_n : a_n < 20) (hb_n : b_n < 20) (res : Option Value × am_M) : ∀ (n i66 : Nat)  , i66 + n = 20 → am_KX (fun (z : Unit) => ∀ (wc : Value), am_F 2 am_k_126 105 [.ref 0, .int (nI a_n), .int (nI b_n), .int way, .ref 6, .int ((f 6 a_n) &&& (f 6 b_n)), wc] [] (am_S f g) res) (fun (z : Int32) => (some (Value.int z), am_S f g) = res) (am_forX (st_join_66 a_n b_n f) n i66 ()) → am_F 2 am_k_126 66 [.ref 0, .int (nI a_n), .int (nI b_n), .int way, .ref 6, .int ((f 6 a_n) &&& (f 6 b_n)), .int (nI i66)] [] (am_S f g) res := by
  intro n
  induction n with
  | zero =>
    intro i66 hi hK
    refine am_F.pos 3 rfl (by show 20 ≤ nI i66; rw [show (20 : Int32) = nI 20 from rfl]; exact nI_le (by omega) (by omega)) ?_
    exact hK _
  | succ n ih =>
    intro i66 hi hK
    refine am_F.neg 3 rfl (by show ¬ 20 ≤ nI i66; rw [show (20 : Int32) = nI 20 from rfl]; exact nI_ge (by omega) (by omega)) ?_
    have hb66 : i66 < 20 := by omega
    show am_F _ _ 73 [.ref 0, .int (nI a_n), .int (nI b_n), .int way, .ref 6, .int ((f 6 a_n) &&& (f 6 b_n)), .int (nI i66)] [] (am_S f g) _
    obtain ⟨K, hKd⟩ : ∃ K : (Unit ⊕ (Unit ⊕ Int32)) → Prop, K = fun s => am_KX (fun (z : Unit) => ∀ (wc : Value), am_F 2 am_k_126 105 [.ref 0, .int (nI a_n), .int (nI b_n), .int way, .ref 6, .int ((f 6 a_n) &&& (f 6 b_n)), wc] [] (am_S f g) res) (fun (z : Int32) => (some (Value.int z), am_S f g) = res) (am_nxt (fun z => am_forX (st_join_66 a_n b_n f) n (i66 + 1) z) s) := ⟨_, rfl⟩
    have hK : K ((st_join_66 a_n b_n f) i66 ()) := by rw [hKd]; exact hK
    unfold st_join_66 at hK
    refine am_F.ops (pc' := 77) (L' := [.ref 0, .int (nI a_n), .int (nI b_n), .int way, .ref 6, .int ((f 6 a_n) &&& (f 6 b_n)), .int (nI i66)]) (S' := [.int (nI i66), .int ((f 6 a_n) &&& (f 6 b_n))]) (μ' := (am_S f g)) 2 rfl ?_
    refine am_F.call rfl rfl (x_has ((f 6 a_n) &&& (f 6 b_n)) (nI i66) f g ) (by decide) ?_
    show am_F _ _ 80 [.ref 0, .int (nI a_n), .int (nI b_n), .int way, .ref 6, .int ((f 6 a_n) &&& (f 6 b_n)), .int (nI i66)] [.int (am_b (fn_has ((f 6 a_n) &&& (f 6 b_n)) (nI i66)))] (am_S f g) _
    refine am_F.bifK 1 rfl K hK (fun c8 hK => ?_) (fun c8 hK => ?_)
    · show am_F _ _ 83 [.ref 0, .int (nI a_n), .int (nI b_n), .int way, .ref 6, .int ((f 6 a_n) &&& (f 6 b_n)), .int (nI i66)] [] (am_S f g) _
      refine am_F.ops (pc' := 89) (L' := [.ref 0, .int (nI a_n), .int (nI b_n), .int way, .ref 6, .int ((f 6 a_n) &&& (f 6 b_n)), .int (nI i66)]) (S' := [.int (nI i66), .ref 6, .int ((f 6 a_n) &&& (f 6 b_n))]) (μ' := (am_S f g)) 3 rfl ?_
      refine am_F.ialE (m := i66) (N := 20) rfl rfl rfl rfl (by omega) (by decide) ?_
      show am_F _ _ 90 [.ref 0, .int (nI a_n), .int (nI b_n), .int way, .ref 6, .int ((f 6 a_n) &&& (f 6 b_n)), .int (nI i66)] [.int (f 6 i66), .int ((f 6 a_n) &&& (f 6 b_n))] (am_S f g) _
      refine am_F.ops (pc' := 93) (L' := [.ref 0, .int (nI a_n), .int (nI b_n), .int way, .ref 6, .int ((f 6 a_n) &&& (f 6 b_n)), .int (nI i66)]) (S' := [.int (((f 6 a_n) &&& (f 6 b_n)) &&& ((f 6 i66) ^^^ (-1)))]) (μ' := (am_S f g)) 3 rfl ?_
      refine am_F.iteK 1 rfl K hK (fun c9 hK => ?_) (fun c9 hK => ?_)
      · show am_F _ _ 96 [.ref 0, .int (nI a_n), .int (nI b_n), .int way, .ref 6, .int ((f 6 a_n) &&& (f 6 b_n)), .int (nI i66)] [] (am_S f g) _
        refine am_F.ops (pc' := 98) (L' := [.ref 0, .int (nI a_n), .int (nI b_n), .int way, .ref 6, .int ((f 6 a_n) &&& (f 6 b_n)), .int (nI i66)]) (S' := [.int (nI i66)]) (μ' := (am_S f g)) 1 rfl ?_
        subst hKd
        exact am_F.eq (am_F.ret rfl rfl) hK
      · show am_F _ _ 99 [.ref 0, .int (nI a_n), .int (nI b_n), .int way, .ref 6, .int ((f 6 a_n) &&& (f 6 b_n)), .int (nI i66)] [] (am_S f g) _
        refine am_F.ops (pc' := 66) (L' := [.ref 0, .int (nI a_n), .int (nI b_n), .int way, .ref 6, .int ((f 6 a_n) &&& (f 6 b_n)), .int ((nI i66) + 1)]) (S' := []) (μ' := (am_S f g)) 2 rfl ?_
        rw [nI_1 i66]
        subst hKd
        exact ih (i66 + 1)  (by omega)  hK
    · show am_F _ _ 99 [.ref 0, .int (nI a_n), .int (nI b_n), .int way, .ref 6, .int ((f 6 a_n) &&& (f 6 b_n)), .int (nI i66)] [] (am_S f g) _
      refine am_F.ops (pc' := 66) (L' := [.ref 0, .int (nI a_n), .int (nI b_n), .int way, .ref 6, .int ((f 6 a_n) &&& (f 6 b_n)), .int ((nI i66) + 1)]) (S' := []) (μ' := (am_S f g)) 2 rfl ?_
      rw [nI_1 i66]
      subst hKd
      exact ih (i66 + 1)  (by omega)  hK
theorem x_join (a : Int32) (b : Int32) (way : Int32) (f : Nat → Nat → Int32) (g : Nat → Nat → Int64)  : am_D 2 126 7 [.ref 0, .int a, .int b, .int way] (am_S f g) (some (Value.int (fn_join a b way f)), am_S f g) := by
  refine am_D.of (code := am_k_126) rfl (L0 := [.ref 0, .int a, .int b, .int way, am_un, am_un, am_un]) rfl ?_
  generalize hres : (some (Value.int (fn_join a b way f)), am_S f g) = res
  obtain ⟨K, hKd⟩ : ∃ K : Int32 → Prop, K = fun z => (some (Value.int z), am_S f g) = res := ⟨_, rfl⟩
  have hK : K (fn_join a b way f) := by rw [hKd]; exact hres
  clear hres
  unfold fn_join at hK
  refine am_F.ops (pc' := 1) (L' := [.ref 0, .int a, .int b, .int way, am_un, am_un, am_un]) (S' := [.int a]) (μ' := (am_S f g)) 1 rfl ?_
  refine am_F.call rfl rfl (x_isRole a f g ) (by decide) ?_
  show am_F _ _ 4 [.ref 0, .int a, .int b, .int way, am_un, am_un, am_un] [.int (am_b (fn_isRole a))] (am_S f g) _
  refine am_F.bifK 1 rfl K hK (fun c1 hK => ?_) (fun c1 hK => ?_)
  · obtain ⟨a_n, ha_n, ea_n⟩ := am_isRole c1
    subst ea_n
    try simp only [nI_clamp (show a_n < 2147483648 by omega)] at hK
    show am_F _ _ 7 [.ref 0, .int (nI a_n), .int b, .int way, am_un, am_un, am_un] [] (am_S f g) _
    refine am_F.ops (pc' := 8) (L' := [.ref 0, .int (nI a_n), .int b, .int way, am_un, am_un, am_un]) (S' := [.int b]) (μ' := (am_S f g)) 1 rfl ?_
    refine am_F.call rfl rfl (x_isRole b f g ) (by decide) ?_
    show am_F _ _ 11 [.ref 0, .int (nI a_n), .int b, .int way, am_un, am_un, am_un] [.int (am_b (fn_isRole b))] (am_S f g) _
    refine am_F.bifK 1 rfl K hK (fun c2 hK => ?_) (fun c2 hK => ?_)
    · obtain ⟨b_n, hb_n, eb_n⟩ := am_isRole c2
      subst eb_n
      try simp only [nI_clamp (show b_n < 2147483648 by omega)] at hK
      show am_F _ _ 14 [.ref 0, .int (nI a_n), .int (nI b_n), .int way, am_un, am_un, am_un] [] (am_S f g) _
      refine am_F.ops (pc' := 15) (L' := [.ref 0, .int (nI a_n), .int (nI b_n), .int way, am_un, am_un, am_un]) (S' := [.int way]) (μ' := (am_S f g)) 1 rfl ?_
      refine am_F.call rfl rfl (x_within01 way f g ) (by decide) ?_
      show am_F _ _ 18 [.ref 0, .int (nI a_n), .int (nI b_n), .int way, am_un, am_un, am_un] [.int (am_b (fn_within01 way))] (am_S f g) _
      refine am_F.bifK 1 rfl K hK (fun c3 hK => ?_) (fun c3 hK => ?_)
      · show am_F _ _ 23 [.ref 0, .int (nI a_n), .int (nI b_n), .int way, am_un, am_un, am_un] [] (am_S f g) _
        refine am_F.ops (pc' := 24) (L' := [.ref 0, .int (nI a_n), .int (nI b_n), .int way, am_un, am_un, am_un]) (S' := [.int way]) (μ' := (am_S f g)) 1 rfl ?_
        refine am_F.iteK 1 rfl K hK (fun c5 hK => ?_) (fun c5 hK => ?_)
        · show am_F _ _ 27 [.ref 0, .int (nI a_n), .int (nI b_n), .int way, am_un, am_un, am_un] [] (am_S f g) _
          refine am_F.ops (pc' := 55) (L' := [.ref 0, .int (nI a_n), .int (nI b_n), .int way, .ref 7, am_un, am_un]) (S' := [.int (nI a_n), .ref 7]) (μ' := (am_S f g)) 8 rfl ?_
          refine am_F.ialE (m := a_n) (N := 20) rfl rfl rfl rfl (by omega) (by decide) ?_
          show am_F _ _ 56 [.ref 0, .int (nI a_n), .int (nI b_n), .int way, .ref 7, am_un, am_un] [.int (f 7 a_n)] (am_S f g) _
          refine am_F.ops (pc' := 59) (L' := [.ref 0, .int (nI a_n), .int (nI b_n), .int way, .ref 7, am_un, am_un]) (S' := [.int (nI b_n), .ref 7, .int (f 7 a_n)]) (μ' := (am_S f g)) 2 rfl ?_
          refine am_F.ialE (m := b_n) (N := 20) rfl rfl rfl rfl (by omega) (by decide) ?_
          show am_F _ _ 60 [.ref 0, .int (nI a_n), .int (nI b_n), .int way, .ref 7, am_un, am_un] [.int (f 7 b_n), .int (f 7 a_n)] (am_S f g) _
          refine am_F.ops (pc' := 66) (L' := [.ref 0, .int (nI a_n), .int (nI b_n), .int way, .ref 7, .int ((f 7 a_n) &&& (f 7 b_n)), .int 0]) (S' := []) (μ' := (am_S f g)) 4 rfl ?_
          show am_F _ _ 66 [.ref 0, .int (nI a_n), .int (nI b_n), .int way, .ref 7, .int ((f 7 a_n) &&& (f 7 b_n)), .int (nI 0)] [] (am_S f g) _
          refine lp_join_66 a_n b_n way f g ha_n hb_n _ 20 0   (by omega)  ?_
          rw [show am_forX (st_join_66 a_n b_n f) 20 0 () = (lf_join_66 a_n b_n f) from rfl]
          revert hK
          cases (lf_join_66 a_n b_n f) with
          | inr z =>
            intro hK
            subst hKd
            exact hK
          | inl z66 =>
            intro hK wc
            refine am_F.ops (pc' := 107) (L' := [.ref 0, .int (nI a_n), .int (nI b_n), .int way, .ref 7, .int ((f 7 a_n) &&& (f 7 b_n)), wc]) (S' := [.int (-2)]) (μ' := (am_S f g)) 1 rfl ?_
            subst hKd
            exact am_F.eq (am_F.ret rfl rfl) hK
        · show am_F _ _ 40 [.ref 0, .int (nI a_n), .int (nI b_n), .int way, am_un, am_un, am_un] [] (am_S f g) _
          refine am_F.ops (pc' := 55) (L' := [.ref 0, .int (nI a_n), .int (nI b_n), .int way, .ref 6, am_un, am_un]) (S' := [.int (nI a_n), .ref 6]) (μ' := (am_S f g)) 7 rfl ?_
          refine am_F.ialE (m := a_n) (N := 20) rfl rfl rfl rfl (by omega) (by decide) ?_
          show am_F _ _ 56 [.ref 0, .int (nI a_n), .int (nI b_n), .int way, .ref 6, am_un, am_un] [.int (f 6 a_n)] (am_S f g) _
          refine am_F.ops (pc' := 59) (L' := [.ref 0, .int (nI a_n), .int (nI b_n), .int way, .ref 6, am_un, am_un]) (S' := [.int (nI b_n), .ref 6, .int (f 6 a_n)]) (μ' := (am_S f g)) 2 rfl ?_
          refine am_F.ialE (m := b_n) (N := 20) rfl rfl rfl rfl (by omega) (by decide) ?_
          show am_F _ _ 60 [.ref 0, .int (nI a_n), .int (nI b_n), .int way, .ref 6, am_un, am_un] [.int (f 6 b_n), .int (f 6 a_n)] (am_S f g) _
          refine am_F.ops (pc' := 66) (L' := [.ref 0, .int (nI a_n), .int (nI b_n), .int way, .ref 6, .int ((f 6 a_n) &&& (f 6 b_n)), .int 0]) (S' := []) (μ' := (am_S f g)) 4 rfl ?_
          show am_F _ _ 66 [.ref 0, .int (nI a_n), .int (nI b_n), .int way, .ref 6, .int ((f 6 a_n) &&& (f 6 b_n)), .int (nI 0)] [] (am_S f g) _
          refine lp_join_66 a_n b_n way f g ha_n hb_n _ 20 0   (by omega)  ?_
          rw [show am_forX (st_join_66 a_n b_n f) 20 0 () = (lf_join_66_10 a_n b_n f) from rfl]
          revert hK
          cases (lf_join_66_10 a_n b_n f) with
          | inr z =>
            intro hK
            subst hKd
            exact hK
          | inl z66 =>
            intro hK wc
            refine am_F.ops (pc' := 107) (L' := [.ref 0, .int (nI a_n), .int (nI b_n), .int way, .ref 6, .int ((f 6 a_n) &&& (f 6 b_n)), wc]) (S' := [.int (-2)]) (μ' := (am_S f g)) 1 rfl ?_
            subst hKd
            exact am_F.eq (am_F.ret rfl rfl) hK
      · show am_F _ _ 21 [.ref 0, .int (nI a_n), .int (nI b_n), .int way, am_un, am_un, am_un] [] (am_S f g) _
        refine am_F.ops (pc' := 22) (L' := [.ref 0, .int (nI a_n), .int (nI b_n), .int way, am_un, am_un, am_un]) (S' := [.int (-1)]) (μ' := (am_S f g)) 1 rfl ?_
        subst hKd
        exact am_F.eq (am_F.ret rfl rfl) hK
    · show am_F _ _ 21 [.ref 0, .int (nI a_n), .int b, .int way, am_un, am_un, am_un] [] (am_S f g) _
      refine am_F.ops (pc' := 22) (L' := [.ref 0, .int (nI a_n), .int b, .int way, am_un, am_un, am_un]) (S' := [.int (-1)]) (μ' := (am_S f g)) 1 rfl ?_
      subst hKd
      exact am_F.eq (am_F.ret rfl rfl) hK
  · show am_F _ _ 21 [.ref 0, .int a, .int b, .int way, am_un, am_un, am_un] [] (am_S f g) _
    refine am_F.ops (pc' := 22) (L' := [.ref 0, .int a, .int b, .int way, am_un, am_un, am_un]) (S' := [.int (-1)]) (μ' := (am_S f g)) 1 rfl ?_
    subst hKd
    exact am_F.eq (am_F.ret rfl rfl) hK
/-- AccessLattice.roles -/
def fn_roles (role : Int32) (way : Int32) (f : Nat → Nat → Int32) : Int32 := (bif (fn_isRole role) then (bif (fn_within01 way) then (if way = 0 then (f 6 (role.toNatClampNeg)) &&& ((1 <<< (role &&& 31)) ^^^ (-1)) else (f 7 (role.toNatClampNeg)) &&& ((1 <<< (role &&& 31)) ^^^ (-1))) else (-1)) else (-1))
theorem x_roles (role : Int32) (way : Int32) (f : Nat → Nat → Int32) (g : Nat → Nat → Int64)  : am_D 2 127 4 [.ref 0, .int role, .int way] (am_S f g) (some (Value.int (fn_roles role way f)), am_S f g) := by
  refine am_D.of (code := am_k_127) rfl (L0 := [.ref 0, .int role, .int way, am_un]) rfl ?_
  generalize hres : (some (Value.int (fn_roles role way f)), am_S f g) = res
  obtain ⟨K, hKd⟩ : ∃ K : Int32 → Prop, K = fun z => (some (Value.int z), am_S f g) = res := ⟨_, rfl⟩
  have hK : K (fn_roles role way f) := by rw [hKd]; exact hres
  clear hres
  unfold fn_roles at hK
  refine am_F.ops (pc' := 1) (L' := [.ref 0, .int role, .int way, am_un]) (S' := [.int role]) (μ' := (am_S f g)) 1 rfl ?_
  refine am_F.call rfl rfl (x_isRole role f g ) (by decide) ?_
  show am_F _ _ 4 [.ref 0, .int role, .int way, am_un] [.int (am_b (fn_isRole role))] (am_S f g) _
  refine am_F.bifK 1 rfl K hK (fun c1 hK => ?_) (fun c1 hK => ?_)
  · obtain ⟨role_n, hrole_n, erole_n⟩ := am_isRole c1
    subst erole_n
    try simp only [nI_clamp (show role_n < 2147483648 by omega)] at hK
    show am_F _ _ 7 [.ref 0, .int (nI role_n), .int way, am_un] [] (am_S f g) _
    refine am_F.ops (pc' := 8) (L' := [.ref 0, .int (nI role_n), .int way, am_un]) (S' := [.int way]) (μ' := (am_S f g)) 1 rfl ?_
    refine am_F.call rfl rfl (x_within01 way f g ) (by decide) ?_
    show am_F _ _ 11 [.ref 0, .int (nI role_n), .int way, am_un] [.int (am_b (fn_within01 way))] (am_S f g) _
    refine am_F.bifK 1 rfl K hK (fun c2 hK => ?_) (fun c2 hK => ?_)
    · show am_F _ _ 16 [.ref 0, .int (nI role_n), .int way, am_un] [] (am_S f g) _
      refine am_F.ops (pc' := 17) (L' := [.ref 0, .int (nI role_n), .int way, am_un]) (S' := [.int way]) (μ' := (am_S f g)) 1 rfl ?_
      refine am_F.iteK 1 rfl K hK (fun c4 hK => ?_) (fun c4 hK => ?_)
      · show am_F _ _ 20 [.ref 0, .int (nI role_n), .int way, am_un] [] (am_S f g) _
        refine am_F.ops (pc' := 46) (L' := [.ref 0, .int (nI role_n), .int way, .ref 6]) (S' := [.int (nI role_n), .ref 6]) (μ' := (am_S f g)) 8 rfl ?_
        refine am_F.ialE (m := role_n) (N := 20) rfl rfl rfl rfl (by omega) (by decide) ?_
        show am_F _ _ 47 [.ref 0, .int (nI role_n), .int way, .ref 6] [.int (f 6 role_n)] (am_S f g) _
        refine am_F.ops (pc' := 53) (L' := [.ref 0, .int (nI role_n), .int way, .ref 6]) (S' := [.int ((f 6 role_n) &&& ((1 <<< ((nI role_n) &&& 31)) ^^^ (-1)))]) (μ' := (am_S f g)) 6 rfl ?_
        subst hKd
        exact am_F.eq (am_F.ret rfl rfl) hK
      · show am_F _ _ 33 [.ref 0, .int (nI role_n), .int way, am_un] [] (am_S f g) _
        refine am_F.ops (pc' := 46) (L' := [.ref 0, .int (nI role_n), .int way, .ref 7]) (S' := [.int (nI role_n), .ref 7]) (μ' := (am_S f g)) 7 rfl ?_
        refine am_F.ialE (m := role_n) (N := 20) rfl rfl rfl rfl (by omega) (by decide) ?_
        show am_F _ _ 47 [.ref 0, .int (nI role_n), .int way, .ref 7] [.int (f 7 role_n)] (am_S f g) _
        refine am_F.ops (pc' := 53) (L' := [.ref 0, .int (nI role_n), .int way, .ref 7]) (S' := [.int ((f 7 role_n) &&& ((1 <<< ((nI role_n) &&& 31)) ^^^ (-1)))]) (μ' := (am_S f g)) 6 rfl ?_
        subst hKd
        exact am_F.eq (am_F.ret rfl rfl) hK
    · show am_F _ _ 14 [.ref 0, .int (nI role_n), .int way, am_un] [] (am_S f g) _
      refine am_F.ops (pc' := 15) (L' := [.ref 0, .int (nI role_n), .int way, am_un]) (S' := [.int (-1)]) (μ' := (am_S f g)) 1 rfl ?_
      subst hKd
      exact am_F.eq (am_F.ret rfl rfl) hK
  · show am_F _ _ 14 [.ref 0, .int role, .int way, am_un] [] (am_S f g) _
    refine am_F.ops (pc' := 15) (L' := [.ref 0, .int role, .int way, am_un]) (S' := [.int (-1)]) (μ' := (am_S f g)) 1 rfl ?_
    subst hKd
    exact am_F.eq (am_F.ret rfl rfl) hK
/-- AccessLattice.level -/
def fn_level (role : Int32) (f : Nat → Nat → Int32) : Int32 := (bif (fn_isRole role) then (fn_longestDown (role.toNatClampNeg) f) else (-1))
theorem x_level (role : Int32) (f : Nat → Nat → Int32) (g : Nat → Nat → Int64)  : am_D 2 128 2 [.ref 0, .int role] (am_S f g) (some (Value.int (fn_level role f)), am_S f g) := by
  refine am_D.of (code := am_k_128) rfl (L0 := [.ref 0, .int role]) rfl ?_
  generalize hres : (some (Value.int (fn_level role f)), am_S f g) = res
  obtain ⟨K, hKd⟩ : ∃ K : Int32 → Prop, K = fun z => (some (Value.int z), am_S f g) = res := ⟨_, rfl⟩
  have hK : K (fn_level role f) := by rw [hKd]; exact hres
  clear hres
  unfold fn_level at hK
  refine am_F.ops (pc' := 1) (L' := [.ref 0, .int role]) (S' := [.int role]) (μ' := (am_S f g)) 1 rfl ?_
  refine am_F.call rfl rfl (x_isRole role f g ) (by decide) ?_
  show am_F _ _ 4 [.ref 0, .int role] [.int (am_b (fn_isRole role))] (am_S f g) _
  refine am_F.bifK 1 rfl K hK (fun c2 hK => ?_) (fun c2 hK => ?_)
  · obtain ⟨role_n, hrole_n, erole_n⟩ := am_isRole c2
    subst erole_n
    try simp only [nI_clamp (show role_n < 2147483648 by omega)] at hK
    show am_F _ _ 7 [.ref 0, .int (nI role_n)] [] (am_S f g) _
    refine am_F.ops (pc' := 15) (L' := [.ref 0, .int (nI role_n)]) (S' := [.int (nI role_n), .ref 3]) (μ' := (am_S f g)) 4 rfl ?_
    refine am_F.call rfl rfl (x_longestDown role_n f g (by omega)) (by decide) ?_
    show am_F _ _ 18 [.ref 0, .int (nI role_n)] [.int (fn_longestDown role_n f)] (am_S f g) _
    refine am_F.ops (pc' := 22) (L' := [.ref 0, .int (nI role_n)]) (S' := [.int (fn_longestDown role_n f)]) (μ' := (am_S f g)) 1 rfl ?_
    subst hKd
    exact am_F.eq (am_F.ret rfl rfl) hK
  · show am_F _ _ 21 [.ref 0, .int role] [] (am_S f g) _
    refine am_F.ops (pc' := 22) (L' := [.ref 0, .int role]) (S' := [.int (-1)]) (μ' := (am_S f g)) 1 rfl ?_
    subst hKd
    exact am_F.eq (am_F.ret rfl rfl) hK
/-- AccessLattice.under -/
def st_under_13 (thing_n : Nat) (f : Nat → Nat → Int32) : Nat → Int32 → Int32 := fun i13 a13_2 => (if (fn_stepsUp i13 (nI thing_n) f) ≤ 0 then a13_2 else (a13_2 ||| (1 <<< ((nI i13) &&& 31))))
def lf_under_13 (thing_n : Nat) (f : Nat → Nat → Int32) : Int32 := am_for (st_under_13 thing_n f) 16 0 0
def fn_under (thing : Int32) (f : Nat → Nat → Int32) : Int32 := (bif (fn_isThing thing) then (lf_under_13 (thing.toNatClampNeg) f) else (-1))
theorem lp_under_13 (thing_n : Nat) (f : Nat → Nat → Int32) (g : Nat → Nat → Int64) (hPa : ∀ t, t < 16 → (f 29 t).toInt < 16) (hthing_n : thing_n < 16) (res : Option Value × am_M) : ∀ (n i13 : Nat) (a13_2 : Int32) , i13 + n = 16 → (fun (z : Int32) => ∀ (wc : Value), am_F 2 am_k_131 43 [.ref 0, .int (nI thing_n), .int z, wc] [] (am_S f g) res) (am_for (st_under_13 thing_n f) n i13 a13_2) → am_F 2 am_k_131 13 [.ref 0, .int (nI thing_n), .int a13_2, .int (nI i13)] [] (am_S f g) res := by
  intro n
  induction n with
  | zero =>
    intro i13 a13_2 hi hK
    refine am_F.pos 3 rfl (by show 16 ≤ nI i13; rw [show (16 : Int32) = nI 16 from rfl]; exact nI_le (by omega) (by omega)) ?_
    exact hK _
  | succ n ih =>
    intro i13 a13_2 hi hK
    refine am_F.neg 3 rfl (by show ¬ 16 ≤ nI i13; rw [show (16 : Int32) = nI 16 from rfl]; exact nI_ge (by omega) (by omega)) ?_
    have hb13 : i13 < 16 := by omega
    show am_F _ _ 19 [.ref 0, .int (nI thing_n), .int a13_2, .int (nI i13)] [] (am_S f g) _
    obtain ⟨K, hKd⟩ : ∃ K : (Int32) → Prop, K = fun s => (fun (z : Int32) => ∀ (wc : Value), am_F 2 am_k_131 43 [.ref 0, .int (nI thing_n), .int z, wc] [] (am_S f g) res) (am_for (st_under_13 thing_n f) n (i13 + 1) s) := ⟨_, rfl⟩
    have hK : K ((st_under_13 thing_n f) i13 a13_2) := by rw [hKd]; exact hK
    unfold st_under_13 at hK
    refine am_F.ops (pc' := 25) (L' := [.ref 0, .int (nI thing_n), .int a13_2, .int (nI i13)]) (S' := [.int (nI thing_n), .int (nI i13), .ref 2]) (μ' := (am_S f g)) 4 rfl ?_
    refine am_F.call rfl rfl (x_stepsUp i13 (nI thing_n) f g hPa (by omega)) (by decide) ?_
    show am_F _ _ 28 [.ref 0, .int (nI thing_n), .int a13_2, .int (nI i13)] [.int (fn_stepsUp i13 (nI thing_n) f)] (am_S f g) _
    refine am_F.iteK 1 rfl K hK (fun c3 hK => ?_) (fun c3 hK => ?_)
    · show am_F _ _ 37 [.ref 0, .int (nI thing_n), .int a13_2, .int (nI i13)] [] (am_S f g) _
      refine am_F.ops (pc' := 13) (L' := [.ref 0, .int (nI thing_n), .int a13_2, .int ((nI i13) + 1)]) (S' := []) (μ' := (am_S f g)) 2 rfl ?_
      rw [nI_1 i13]
      subst hKd
      exact ih (i13 + 1) a13_2 (by omega)  hK
    · show am_F _ _ 31 [.ref 0, .int (nI thing_n), .int a13_2, .int (nI i13)] [] (am_S f g) _
      refine am_F.ops (pc' := 13) (L' := [.ref 0, .int (nI thing_n), .int (a13_2 ||| (1 <<< ((nI i13) &&& 31))), .int ((nI i13) + 1)]) (S' := []) (μ' := (am_S f g)) 8 rfl ?_
      rw [nI_1 i13]
      subst hKd
      exact ih (i13 + 1) (a13_2 ||| (1 <<< ((nI i13) &&& 31))) (by omega)  hK
theorem x_under (thing : Int32) (f : Nat → Nat → Int32) (g : Nat → Nat → Int64) (hPa : ∀ t, t < 16 → (f 29 t).toInt < 16) : am_D 2 131 4 [.ref 0, .int thing] (am_S f g) (some (Value.int (fn_under thing f)), am_S f g) := by
  refine am_D.of (code := am_k_131) rfl (L0 := [.ref 0, .int thing, am_un, am_un]) rfl ?_
  generalize hres : (some (Value.int (fn_under thing f)), am_S f g) = res
  obtain ⟨K, hKd⟩ : ∃ K : Int32 → Prop, K = fun z => (some (Value.int z), am_S f g) = res := ⟨_, rfl⟩
  have hK : K (fn_under thing f) := by rw [hKd]; exact hres
  clear hres
  unfold fn_under at hK
  refine am_F.ops (pc' := 1) (L' := [.ref 0, .int thing, am_un, am_un]) (S' := [.int thing]) (μ' := (am_S f g)) 1 rfl ?_
  refine am_F.call rfl rfl (x_isThing thing f g ) (by decide) ?_
  show am_F _ _ 4 [.ref 0, .int thing, am_un, am_un] [.int (am_b (fn_isThing thing))] (am_S f g) _
  refine am_F.bifK 1 rfl K hK (fun c1 hK => ?_) (fun c1 hK => ?_)
  · obtain ⟨thing_n, hthing_n, ething_n⟩ := am_isThing c1
    subst ething_n
    try simp only [nI_clamp (show thing_n < 2147483648 by omega)] at hK
    show am_F _ _ 9 [.ref 0, .int (nI thing_n), am_un, am_un] [] (am_S f g) _
    refine am_F.ops (pc' := 13) (L' := [.ref 0, .int (nI thing_n), .int 0, .int 0]) (S' := []) (μ' := (am_S f g)) 4 rfl ?_
    show am_F _ _ 13 [.ref 0, .int (nI thing_n), .int 0, .int (nI 0)] [] (am_S f g) _
    refine lp_under_13 thing_n f g hPa hthing_n _ 16 0 0  (by omega)  ?_
    rw [show am_for (st_under_13 thing_n f) 16 0 0 = (lf_under_13 thing_n f) from rfl]
    generalize (lf_under_13 thing_n f) = z13_4 at hK ⊢
    intro wc
    show am_F _ _ 43 [.ref 0, .int (nI thing_n), .int z13_4, wc] [] (am_S f g) _
    refine am_F.ops (pc' := 44) (L' := [.ref 0, .int (nI thing_n), .int z13_4, wc]) (S' := [.int z13_4]) (μ' := (am_S f g)) 1 rfl ?_
    subst hKd
    exact am_F.eq (am_F.ret rfl rfl) hK
  · show am_F _ _ 7 [.ref 0, .int thing, am_un, am_un] [] (am_S f g) _
    refine am_F.ops (pc' := 8) (L' := [.ref 0, .int thing, am_un, am_un]) (S' := [.int (-1)]) (μ' := (am_S f g)) 1 rfl ?_
    subst hKd
    exact am_F.eq (am_F.ret rfl rfl) hK
/-- AccessLattice.wouldTurn -/
def fn_wouldTurn (rule : Int32) (user : Nat) (act : Int32) (thing : Nat) (mask : Int32) (f : Nat → Nat → Int32) : Bool × (Nat → Int32) × (Nat → Int32) := ((if (fn_answerBy (fn_decider user act thing (mask &&& ((1 <<< (rule &&& 31)) ^^^ (-1))) f).1 (am_row (am_row f 36 (fn_decider user act thing (mask &&& ((1 <<< (rule &&& 31)) ^^^ (-1))) f).2.1) 37 (fn_decider user act thing (mask &&& ((1 <<< (rule &&& 31)) ^^^ (-1))) f).2.2)) = (fn_answerBy rule (am_row (am_row f 36 (fn_decider user act thing (mask &&& ((1 <<< (rule &&& 31)) ^^^ (-1))) f).2.1) 37 (fn_decider user act thing (mask &&& ((1 <<< (rule &&& 31)) ^^^ (-1))) f).2.2)) then false else true), (fn_decider user act thing (mask &&& ((1 <<< (rule &&& 31)) ^^^ (-1))) f).2.1, (fn_decider user act thing (mask &&& ((1 <<< (rule &&& 31)) ^^^ (-1))) f).2.2)
theorem x_wouldTurn (rule : Int32) (user : Nat) (act : Int32) (thing : Nat) (mask : Int32) (f : Nat → Nat → Int32) (g : Nat → Nat → Int64) (hLc : f 11 7 = nI (f 11 7).toNatClampNeg) (hLn : (f 11 7).toNatClampNeg ≤ 40) (hLf : ∀ i, i < (f 11 7).toNatClampNeg → am_inb (f 12 i) 16 = true) (hLt : ∀ i, i < (f 11 7).toNatClampNeg → am_inb (f 13 i) 16 = true) (hLr : ∀ i, i < (f 11 7).toNatClampNeg → am_inb (f 14 i) 20 = true) (hRc : f 18 11 = nI (f 18 11).toNatClampNeg) (hRn : (f 18 11).toNatClampNeg ≤ 30) (hRr : ∀ i, i < (f 18 11).toNatClampNeg → am_inb (f 19 i) 20 = true) (hPa : ∀ t, t < 16 → (f 29 t).toInt < 16) (hCs : ∀ i, i < (f 18 11).toNatClampNeg → f 25 i = nI (f 25 i).toNatClampNeg ∧ (f 25 i).toNatClampNeg ≤ 80) (huser : user < 16) (hthing : thing < 16) : am_D 5 133 7 [.ref 0, .int rule, .int (nI user), .int act, .int (nI thing), .int mask] (am_S f g) (some (Value.int (am_b ((fn_wouldTurn rule user act thing mask f).1))), am_S (am_row (am_row f 36 ((fn_wouldTurn rule user act thing mask f).2.1)) 37 ((fn_wouldTurn rule user act thing mask f).2.2)) g) := by
  refine am_D.of (code := am_k_133) rfl (L0 := [.ref 0, .int rule, .int (nI user), .int act, .int (nI thing), .int mask, am_un]) rfl ?_
  generalize hres : (some (Value.int (am_b ((fn_wouldTurn rule user act thing mask f).1))), am_S (am_row (am_row f 36 ((fn_wouldTurn rule user act thing mask f).2.1)) 37 ((fn_wouldTurn rule user act thing mask f).2.2)) g) = res
  obtain ⟨K, hKd⟩ : ∃ K : (Bool × (Nat → Int32) × (Nat → Int32)) → Prop, K = fun z => (some (Value.int (am_b z.1)), am_S (am_row (am_row f 36 z.2.1) 37 z.2.2) g) = res := ⟨_, rfl⟩
  have hK : K (fn_wouldTurn rule user act thing mask f) := by rw [hKd]; exact hres
  clear hres
  unfold fn_wouldTurn at hK
  refine am_F.ops (pc' := 16) (L' := [.ref 0, .int rule, .int (nI user), .int act, .int (nI thing), .int mask, am_un]) (S' := [.int (mask &&& ((1 <<< (rule &&& 31)) ^^^ (-1))), .int (nI thing), .int act, .int (nI user), .ref 1]) (μ' := (am_S f g)) 12 rfl ?_
  refine am_F.call rfl rfl (x_decider user act thing (mask &&& ((1 <<< (rule &&& 31)) ^^^ (-1))) f g hRc hRn hPa hCs (by omega) (by omega)) (by decide) ?_
  obtain ⟨y1, hy1⟩ : ∃ z, (fn_decider user act thing (mask &&& ((1 <<< (rule &&& 31)) ^^^ (-1))) f) = z := ⟨_, rfl⟩
  (try rw [hy1] at hK)
  (try rw [hy1])
  refine am_F.mem (F' := (am_row (am_row f 36 y1.2.1) 37 y1.2.2)) (G' := g) ?_ (by first | rfl | (funext a; by_cases z0 : a = 36; (subst z0; rfl); by_cases z1 : a = 37; (subst z1; rfl); simp only [am_ui, am_ul, am_row_ne z0, am_row_ne z1])) (by first | rfl | (funext a; by_cases z0 : a = 36; (subst z0; rfl); by_cases z1 : a = 37; (subst z1; rfl); simp only [am_ui, am_ul, am_row_ne z0, am_row_ne z1]))
  show am_F _ _ 19 [.ref 0, .int rule, .int (nI user), .int act, .int (nI thing), .int mask, am_un] [.int y1.1] (am_S (am_row (am_row f 36 y1.2.1) 37 y1.2.2) g) _
  refine am_F.ops (pc' := 30) (L' := [.ref 0, .int rule, .int (nI user), .int act, .int (nI thing), .int mask, .int y1.1]) (S' := [.int y1.1, .ref 18]) (μ' := (am_S (am_row (am_row f 36 y1.2.1) 37 y1.2.2) g)) 5 rfl ?_
  refine am_F.call rfl rfl (x_answerBy y1.1 (am_row (am_row f 36 y1.2.1) 37 y1.2.2) g ) (by decide) ?_
  show am_F _ _ 33 [.ref 0, .int rule, .int (nI user), .int act, .int (nI thing), .int mask, .int y1.1] [.int (fn_answerBy y1.1 (am_row (am_row f 36 y1.2.1) 37 y1.2.2))] (am_S (am_row (am_row f 36 y1.2.1) 37 y1.2.2) g) _
  refine am_F.ops (pc' := 41) (L' := [.ref 0, .int rule, .int (nI user), .int act, .int (nI thing), .int mask, .int y1.1]) (S' := [.int rule, .ref 18, .int (fn_answerBy y1.1 (am_row (am_row f 36 y1.2.1) 37 y1.2.2))]) (μ' := (am_S (am_row (am_row f 36 y1.2.1) 37 y1.2.2) g)) 4 rfl ?_
  refine am_F.call rfl rfl (x_answerBy rule (am_row (am_row f 36 y1.2.1) 37 y1.2.2) g ) (by decide) ?_
  show am_F _ _ 44 [.ref 0, .int rule, .int (nI user), .int act, .int (nI thing), .int mask, .int y1.1] [.int (fn_answerBy rule (am_row (am_row f 36 y1.2.1) 37 y1.2.2)), .int (fn_answerBy y1.1 (am_row (am_row f 36 y1.2.1) 37 y1.2.2))] (am_S (am_row (am_row f 36 y1.2.1) 37 y1.2.2) g) _
  refine am_F.to (am_To.iteB (pc' := 52) (L2 := [.ref 0, .int rule, .int (nI user), .int act, .int (nI thing), .int mask, .int y1.1]) (S2 := []) (μ2 := (am_S (am_row (am_row f 36 y1.2.1) 37 y1.2.2) g)) (a := false) (b := true) 1 rfl (fun c2 => ?_) (fun c2 => ?_)) ?_
  · intro res9 g9
    show am_F _ _ 51 [.ref 0, .int rule, .int (nI user), .int act, .int (nI thing), .int mask, .int y1.1] [] (am_S (am_row (am_row f 36 y1.2.1) 37 y1.2.2) g) _
    refine am_F.ops (pc' := 52) (L' := [.ref 0, .int rule, .int (nI user), .int act, .int (nI thing), .int mask, .int y1.1]) (S' := [.int 0]) (μ' := (am_S (am_row (am_row f 36 y1.2.1) 37 y1.2.2) g)) 1 rfl ?_
    exact g9
  · intro res9 g9
    show am_F _ _ 47 [.ref 0, .int rule, .int (nI user), .int act, .int (nI thing), .int mask, .int y1.1] [] (am_S (am_row (am_row f 36 y1.2.1) 37 y1.2.2) g) _
    refine am_F.ops (pc' := 52) (L' := [.ref 0, .int rule, .int (nI user), .int act, .int (nI thing), .int mask, .int y1.1]) (S' := [.int 1]) (μ' := (am_S (am_row (am_row f 36 y1.2.1) 37 y1.2.2) g)) 2 rfl ?_
    exact g9
  show am_F _ _ 52 [.ref 0, .int rule, .int (nI user), .int act, .int (nI thing), .int mask, .int y1.1] [.int (am_b (if (fn_answerBy y1.1 (am_row (am_row f 36 y1.2.1) 37 y1.2.2)) = (fn_answerBy rule (am_row (am_row f 36 y1.2.1) 37 y1.2.2)) then false else true))] (am_S (am_row (am_row f 36 y1.2.1) 37 y1.2.2) g) _
  subst hKd
  exact am_F.eq (am_F.ret rfl (am_retB _ _)) hK
/-- AccessLattice.decides -/
def st_decides_74 (rule_n : Nat) (what : Int32) (f : Nat → Nat → Int32) (y3 : (Nat → Int32) × (Nat → Int32) × (Nat → Int32) × (Nat → Int64)) (i36 : Nat) (r36_36 : Nat → Int32) (r36_37 : Nat → Int32) : Nat → Int32 × (Nat → Int32) × (Nat → Int32) → Int32 × (Nat → Int32) × (Nat → Int32) ⊕ (Int32 × (Nat → Int32) × (Nat → Int32) ⊕ Empty) := fun i74 z => match z with
  | (a74_3, r74_36, r74_37) => (bif (fn_has (fn_rulesOn ((nI i36) / 16) (i36 % 16) (am_row (am_row (am_row (am_row (am_row f 1 y3.1) 34 y3.2.1) 35 y3.2.2.1) 36 r36_36) 37 r36_37)) (nI rule_n)) then (if (fn_decider i74 ((nI i36) / 16) (i36 % 16) (fn_rulesOn ((nI i36) / 16) (i36 % 16) (am_row (am_row (am_row (am_row (am_row f 1 y3.1) 34 y3.2.1) 35 y3.2.2.1) 36 r36_36) 37 r36_37)) (am_row (am_row (am_row (am_row (am_row f 1 y3.1) 34 y3.2.1) 35 y3.2.2.1) 36 r74_36) 37 r74_37)).1 = (nI rule_n) then (if what = 0 then .inl (a74_3 + 1, (fn_decider i74 ((nI i36) / 16) (i36 % 16) (fn_rulesOn ((nI i36) / 16) (i36 % 16) (am_row (am_row (am_row (am_row (am_row f 1 y3.1) 34 y3.2.1) 35 y3.2.2.1) 36 r36_36) 37 r36_37)) (am_row (am_row (am_row (am_row (am_row f 1 y3.1) 34 y3.2.1) 35 y3.2.2.1) 36 r74_36) 37 r74_37)).2.1, (fn_decider i74 ((nI i36) / 16) (i36 % 16) (fn_rulesOn ((nI i36) / 16) (i36 % 16) (am_row (am_row (am_row (am_row (am_row f 1 y3.1) 34 y3.2.1) 35 y3.2.2.1) 36 r36_36) 37 r36_37)) (am_row (am_row (am_row (am_row (am_row f 1 y3.1) 34 y3.2.1) 35 y3.2.2.1) 36 r74_36) 37 r74_37)).2.2) else (bif ((fn_wouldTurn (nI rule_n) i74 ((nI i36) / 16) (i36 % 16) (fn_rulesOn ((nI i36) / 16) (i36 % 16) (am_row (am_row (am_row (am_row (am_row f 1 y3.1) 34 y3.2.1) 35 y3.2.2.1) 36 r36_36) 37 r36_37)) (am_row (am_row (am_row (am_row (am_row f 1 y3.1) 34 y3.2.1) 35 y3.2.2.1) 36 (fn_decider i74 ((nI i36) / 16) (i36 % 16) (fn_rulesOn ((nI i36) / 16) (i36 % 16) (am_row (am_row (am_row (am_row (am_row f 1 y3.1) 34 y3.2.1) 35 y3.2.2.1) 36 r36_36) 37 r36_37)) (am_row (am_row (am_row (am_row (am_row f 1 y3.1) 34 y3.2.1) 35 y3.2.2.1) 36 r74_36) 37 r74_37)).2.1) 37 (fn_decider i74 ((nI i36) / 16) (i36 % 16) (fn_rulesOn ((nI i36) / 16) (i36 % 16) (am_row (am_row (am_row (am_row (am_row f 1 y3.1) 34 y3.2.1) 35 y3.2.2.1) 36 r36_36) 37 r36_37)) (am_row (am_row (am_row (am_row (am_row f 1 y3.1) 34 y3.2.1) 35 y3.2.2.1) 36 r74_36) 37 r74_37)).2.2)).1) then .inl (a74_3 + 1, (fn_wouldTurn (nI rule_n) i74 ((nI i36) / 16) (i36 % 16) (fn_rulesOn ((nI i36) / 16) (i36 % 16) (am_row (am_row (am_row (am_row (am_row f 1 y3.1) 34 y3.2.1) 35 y3.2.2.1) 36 r36_36) 37 r36_37)) (am_row (am_row (am_row (am_row (am_row f 1 y3.1) 34 y3.2.1) 35 y3.2.2.1) 36 (fn_decider i74 ((nI i36) / 16) (i36 % 16) (fn_rulesOn ((nI i36) / 16) (i36 % 16) (am_row (am_row (am_row (am_row (am_row f 1 y3.1) 34 y3.2.1) 35 y3.2.2.1) 36 r36_36) 37 r36_37)) (am_row (am_row (am_row (am_row (am_row f 1 y3.1) 34 y3.2.1) 35 y3.2.2.1) 36 r74_36) 37 r74_37)).2.1) 37 (fn_decider i74 ((nI i36) / 16) (i36 % 16) (fn_rulesOn ((nI i36) / 16) (i36 % 16) (am_row (am_row (am_row (am_row (am_row f 1 y3.1) 34 y3.2.1) 35 y3.2.2.1) 36 r36_36) 37 r36_37)) (am_row (am_row (am_row (am_row (am_row f 1 y3.1) 34 y3.2.1) 35 y3.2.2.1) 36 r74_36) 37 r74_37)).2.2)).2.1, (fn_wouldTurn (nI rule_n) i74 ((nI i36) / 16) (i36 % 16) (fn_rulesOn ((nI i36) / 16) (i36 % 16) (am_row (am_row (am_row (am_row (am_row f 1 y3.1) 34 y3.2.1) 35 y3.2.2.1) 36 r36_36) 37 r36_37)) (am_row (am_row (am_row (am_row (am_row f 1 y3.1) 34 y3.2.1) 35 y3.2.2.1) 36 (fn_decider i74 ((nI i36) / 16) (i36 % 16) (fn_rulesOn ((nI i36) / 16) (i36 % 16) (am_row (am_row (am_row (am_row (am_row f 1 y3.1) 34 y3.2.1) 35 y3.2.2.1) 36 r36_36) 37 r36_37)) (am_row (am_row (am_row (am_row (am_row f 1 y3.1) 34 y3.2.1) 35 y3.2.2.1) 36 r74_36) 37 r74_37)).2.1) 37 (fn_decider i74 ((nI i36) / 16) (i36 % 16) (fn_rulesOn ((nI i36) / 16) (i36 % 16) (am_row (am_row (am_row (am_row (am_row f 1 y3.1) 34 y3.2.1) 35 y3.2.2.1) 36 r36_36) 37 r36_37)) (am_row (am_row (am_row (am_row (am_row f 1 y3.1) 34 y3.2.1) 35 y3.2.2.1) 36 r74_36) 37 r74_37)).2.2)).2.2) else .inl (a74_3, (fn_wouldTurn (nI rule_n) i74 ((nI i36) / 16) (i36 % 16) (fn_rulesOn ((nI i36) / 16) (i36 % 16) (am_row (am_row (am_row (am_row (am_row f 1 y3.1) 34 y3.2.1) 35 y3.2.2.1) 36 r36_36) 37 r36_37)) (am_row (am_row (am_row (am_row (am_row f 1 y3.1) 34 y3.2.1) 35 y3.2.2.1) 36 (fn_decider i74 ((nI i36) / 16) (i36 % 16) (fn_rulesOn ((nI i36) / 16) (i36 % 16) (am_row (am_row (am_row (am_row (am_row f 1 y3.1) 34 y3.2.1) 35 y3.2.2.1) 36 r36_36) 37 r36_37)) (am_row (am_row (am_row (am_row (am_row f 1 y3.1) 34 y3.2.1) 35 y3.2.2.1) 36 r74_36) 37 r74_37)).2.1) 37 (fn_decider i74 ((nI i36) / 16) (i36 % 16) (fn_rulesOn ((nI i36) / 16) (i36 % 16) (am_row (am_row (am_row (am_row (am_row f 1 y3.1) 34 y3.2.1) 35 y3.2.2.1) 36 r36_36) 37 r36_37)) (am_row (am_row (am_row (am_row (am_row f 1 y3.1) 34 y3.2.1) 35 y3.2.2.1) 36 r74_36) 37 r74_37)).2.2)).2.1, (fn_wouldTurn (nI rule_n) i74 ((nI i36) / 16) (i36 % 16) (fn_rulesOn ((nI i36) / 16) (i36 % 16) (am_row (am_row (am_row (am_row (am_row f 1 y3.1) 34 y3.2.1) 35 y3.2.2.1) 36 r36_36) 37 r36_37)) (am_row (am_row (am_row (am_row (am_row f 1 y3.1) 34 y3.2.1) 35 y3.2.2.1) 36 (fn_decider i74 ((nI i36) / 16) (i36 % 16) (fn_rulesOn ((nI i36) / 16) (i36 % 16) (am_row (am_row (am_row (am_row (am_row f 1 y3.1) 34 y3.2.1) 35 y3.2.2.1) 36 r36_36) 37 r36_37)) (am_row (am_row (am_row (am_row (am_row f 1 y3.1) 34 y3.2.1) 35 y3.2.2.1) 36 r74_36) 37 r74_37)).2.1) 37 (fn_decider i74 ((nI i36) / 16) (i36 % 16) (fn_rulesOn ((nI i36) / 16) (i36 % 16) (am_row (am_row (am_row (am_row (am_row f 1 y3.1) 34 y3.2.1) 35 y3.2.2.1) 36 r36_36) 37 r36_37)) (am_row (am_row (am_row (am_row (am_row f 1 y3.1) 34 y3.2.1) 35 y3.2.2.1) 36 r74_36) 37 r74_37)).2.2)).2.2))) else .inl (a74_3, (fn_decider i74 ((nI i36) / 16) (i36 % 16) (fn_rulesOn ((nI i36) / 16) (i36 % 16) (am_row (am_row (am_row (am_row (am_row f 1 y3.1) 34 y3.2.1) 35 y3.2.2.1) 36 r36_36) 37 r36_37)) (am_row (am_row (am_row (am_row (am_row f 1 y3.1) 34 y3.2.1) 35 y3.2.2.1) 36 r74_36) 37 r74_37)).2.1, (fn_decider i74 ((nI i36) / 16) (i36 % 16) (fn_rulesOn ((nI i36) / 16) (i36 % 16) (am_row (am_row (am_row (am_row (am_row f 1 y3.1) 34 y3.2.1) 35 y3.2.2.1) 36 r36_36) 37 r36_37)) (am_row (am_row (am_row (am_row (am_row f 1 y3.1) 34 y3.2.1) 35 y3.2.2.1) 36 r74_36) 37 r74_37)).2.2)) else .inr (.inl (a74_3, r74_36, r74_37)))
def lf_decides_74 (rule_n : Nat) (what : Int32) (f : Nat → Nat → Int32) (y3 : (Nat → Int32) × (Nat → Int32) × (Nat → Int32) × (Nat → Int64)) (i36 : Nat) (a36_3 : Int32) (r36_36 : Nat → Int32) (r36_37 : Nat → Int32) : Int32 × (Nat → Int32) × (Nat → Int32) ⊕ Empty := am_forX (st_decides_74 rule_n what f y3 i36 r36_36 r36_37) 16 0 (a36_3, r36_36, r36_37)
def st_decides_36 (rule_n : Nat) (what : Int32) (f : Nat → Nat → Int32) (y3 : (Nat → Int32) × (Nat → Int32) × (Nat → Int32) × (Nat → Int64)) : Nat → Int32 × (Nat → Int32) × (Nat → Int32) → Int32 × (Nat → Int32) × (Nat → Int32) := fun i36 z => match z with
  | (a36_3, r36_36, r36_37) => (Sum.elim (fun (z74 : Int32 × (Nat → Int32) × (Nat → Int32)) => (z74.1, z74.2.1, z74.2.2)) (fun (z : Empty) => z.elim) (lf_decides_74 rule_n what f y3 i36 a36_3 r36_36 r36_37))
def lf_decides_36 (rule_n : Nat) (what : Int32) (f : Nat → Nat → Int32) (y3 : (Nat → Int32) × (Nat → Int32) × (Nat → Int32) × (Nat → Int64)) : Int32 × (Nat → Int32) × (Nat → Int32) := am_for (st_decides_36 rule_n what f y3) 128 0 (0, f 36, f 37)
def fn_decides (rule : Int32) (what : Int32) (f : Nat → Nat → Int32) (g : Nat → Nat → Int64) : Int32 × (Nat → Int32) × (Nat → Int32) × (Nat → Int32) × (Nat → Int32) × (Nat → Int32) × (Nat → Int64) := (bif (fn_isRule rule f) then (bif (fn_within01 what) then ((lf_decides_36 (rule.toNatClampNeg) what f (fn_settle (f 2 12) f g)).1, (fn_settle (f 2 12) f g).1, (fn_settle (f 2 12) f g).2.1, (fn_settle (f 2 12) f g).2.2.1, (lf_decides_36 (rule.toNatClampNeg) what f (fn_settle (f 2 12) f g)).2.1, (lf_decides_36 (rule.toNatClampNeg) what f (fn_settle (f 2 12) f g)).2.2, (fn_settle (f 2 12) f g).2.2.2) else ((-1), f 1, f 34, f 35, f 36, f 37, g 1)) else ((-1), f 1, f 34, f 35, f 36, f 37, g 1))
theorem lp_decides_74 (rule_n : Nat) (what : Int32) (f : Nat → Nat → Int32) (g : Nat → Nat → Int64) (y3 : (Nat → Int32) × (Nat → Int32) × (Nat → Int32) × (Nat → Int64)) (i36 : Nat) (a36_3 : Int32) (r36_36 : Nat → Int32) (r36_37 : Nat → Int32) (hLc : f 11 7 = nI (f 11 7).toNatClampNeg) (hLn : (f 11 7).toNatClampNeg ≤ 40) (hLf : ∀ i, i < (f 11 7).toNatClampNeg → am_inb (f 12 i) 16 = true) (hLt : ∀ i, i < (f 11 7).toNatClampNeg → am_inb (f 13 i) 16 = true) (hLr : ∀ i, i < (f 11 7).toNatClampNeg → am_inb (f 14 i) 20 = true) (hRc : f 18 11 = nI (f 18 11).toNatClampNeg) (hRn : (f 18 11).toNatClampNeg ≤ 30) (hRr : ∀ i, i < (f 18 11).toNatClampNeg → am_inb (f 19 i) 20 = true) (hPa : ∀ t, t < 16 → (f 29 t).toInt < 16) (hCs : ∀ i, i < (f 18 11).toNatClampNeg → f 25 i = nI (f 25 i).toNatClampNeg ∧ (f 25 i).toNatClampNeg ≤ 80) (hrule_n : rule_n < (f 18 11).toNatClampNeg) (hb36 : i36 < 128) (res : Option Value × am_M) : ∀ (n i74 : Nat) (a74_3 : Int32) (r74_36 : Nat → Int32) (r74_37 : Nat → Int32) , i74 + n = 16 → am_KX (fun (z : Int32 × (Nat → Int32) × (Nat → Int32)) => ∀ (wc : Value), am_F 6 am_k_132 138 [.ref 0, .int (nI rule_n), .int what, .int z.1, .int (nI i36), .int ((nI i36) / 16), .int ((nI i36) - (nI i36) / 16 * 16), .int (fn_rulesOn ((nI i36) / 16) (i36 % 16) (am_row (am_row (am_row (am_row (am_row f 1 y3.1) 34 y3.2.1) 35 y3.2.2.1) 36 r36_36) 37 r36_37)), wc] [] (am_S (am_row (am_row (am_row (am_row (am_row f 1 y3.1) 34 y3.2.1) 35 y3.2.2.1) 36 z.2.1) 37 z.2.2) (am_row g 1 y3.2.2.2)) res) (fun (z : Empty) => True) (am_forX (st_decides_74 rule_n what f y3 i36 r36_36 r36_37) n i74 (a74_3, r74_36, r74_37)) → am_F 6 am_k_132 74 [.ref 0, .int (nI rule_n), .int what, .int a74_3, .int (nI i36), .int ((nI i36) / 16), .int ((nI i36) - (nI i36) / 16 * 16), .int (fn_rulesOn ((nI i36) / 16) (i36 % 16) (am_row (am_row (am_row (am_row (am_row f 1 y3.1) 34 y3.2.1) 35 y3.2.2.1) 36 r36_36) 37 r36_37)), .int (nI i74)] [] (am_S (am_row (am_row (am_row (am_row (am_row f 1 y3.1) 34 y3.2.1) 35 y3.2.2.1) 36 r74_36) 37 r74_37) (am_row g 1 y3.2.2.2)) res := by
  intro n
  induction n with
  | zero =>
    intro i74 a74_3 r74_36 r74_37 hi hK
    refine am_F.pos 3 rfl (by show 16 ≤ nI i74; rw [show (16 : Int32) = nI 16 from rfl]; exact nI_le (by omega) (by omega)) ?_
    exact hK _
  | succ n ih =>
    intro i74 a74_3 r74_36 r74_37 hi hK
    refine am_F.neg 3 rfl (by show ¬ 16 ≤ nI i74; rw [show (16 : Int32) = nI 16 from rfl]; exact nI_ge (by omega) (by omega)) ?_
    have hb74 : i74 < 16 := by omega
    show am_F _ _ 81 [.ref 0, .int (nI rule_n), .int what, .int a74_3, .int (nI i36), .int ((nI i36) / 16), .int ((nI i36) - (nI i36) / 16 * 16), .int (fn_rulesOn ((nI i36) / 16) (i36 % 16) (am_row (am_row (am_row (am_row (am_row f 1 y3.1) 34 y3.2.1) 35 y3.2.2.1) 36 r36_36) 37 r36_37)), .int (nI i74)] [] (am_S (am_row (am_row (am_row (am_row (am_row f 1 y3.1) 34 y3.2.1) 35 y3.2.2.1) 36 r74_36) 37 r74_37) (am_row g 1 y3.2.2.2)) _
    obtain ⟨K, hKd⟩ : ∃ K : (Int32 × (Nat → Int32) × (Nat → Int32) ⊕ (Int32 × (Nat → Int32) × (Nat → Int32) ⊕ Empty)) → Prop, K = fun s => am_KX (fun (z : Int32 × (Nat → Int32) × (Nat → Int32)) => ∀ (wc : Value), am_F 6 am_k_132 138 [.ref 0, .int (nI rule_n), .int what, .int z.1, .int (nI i36), .int ((nI i36) / 16), .int ((nI i36) - (nI i36) / 16 * 16), .int (fn_rulesOn ((nI i36) / 16) (i36 % 16) (am_row (am_row (am_row (am_row (am_row f 1 y3.1) 34 y3.2.1) 35 y3.2.2.1) 36 r36_36) 37 r36_37)), wc] [] (am_S (am_row (am_row (am_row (am_row (am_row f 1 y3.1) 34 y3.2.1) 35 y3.2.2.1) 36 z.2.1) 37 z.2.2) (am_row g 1 y3.2.2.2)) res) (fun (z : Empty) => True) (am_nxt (fun z => am_forX (st_decides_74 rule_n what f y3 i36 r36_36 r36_37) n (i74 + 1) z) s) := ⟨_, rfl⟩
    have hK : K ((st_decides_74 rule_n what f y3 i36 r36_36 r36_37) i74 (a74_3, r74_36, r74_37)) := by rw [hKd]; exact hK
    unfold st_decides_74 at hK
    simp only at hK
    refine am_F.ops (pc' := 84) (L' := [.ref 0, .int (nI rule_n), .int what, .int a74_3, .int (nI i36), .int ((nI i36) / 16), .int ((nI i36) - (nI i36) / 16 * 16), .int (fn_rulesOn ((nI i36) / 16) (i36 % 16) (am_row (am_row (am_row (am_row (am_row f 1 y3.1) 34 y3.2.1) 35 y3.2.2.1) 36 r36_36) 37 r36_37)), .int (nI i74)]) (S' := [.int (nI rule_n), .int (fn_rulesOn ((nI i36) / 16) (i36 % 16) (am_row (am_row (am_row (am_row (am_row f 1 y3.1) 34 y3.2.1) 35 y3.2.2.1) 36 r36_36) 37 r36_37))]) (μ' := (am_S (am_row (am_row (am_row (am_row (am_row f 1 y3.1) 34 y3.2.1) 35 y3.2.2.1) 36 r74_36) 37 r74_37) (am_row g 1 y3.2.2.2))) 2 rfl ?_
    refine am_F.call rfl rfl (x_has (fn_rulesOn ((nI i36) / 16) (i36 % 16) (am_row (am_row (am_row (am_row (am_row f 1 y3.1) 34 y3.2.1) 35 y3.2.2.1) 36 r36_36) 37 r36_37)) (nI rule_n) (am_row (am_row (am_row (am_row (am_row f 1 y3.1) 34 y3.2.1) 35 y3.2.2.1) 36 r74_36) 37 r74_37) (am_row g 1 y3.2.2.2) ) (by decide) ?_
    show am_F _ _ 87 [.ref 0, .int (nI rule_n), .int what, .int a74_3, .int (nI i36), .int ((nI i36) / 16), .int ((nI i36) - (nI i36) / 16 * 16), .int (fn_rulesOn ((nI i36) / 16) (i36 % 16) (am_row (am_row (am_row (am_row (am_row f 1 y3.1) 34 y3.2.1) 35 y3.2.2.1) 36 r36_36) 37 r36_37)), .int (nI i74)] [.int (am_b (fn_has (fn_rulesOn ((nI i36) / 16) (i36 % 16) (am_row (am_row (am_row (am_row (am_row f 1 y3.1) 34 y3.2.1) 35 y3.2.2.1) 36 r36_36) 37 r36_37)) (nI rule_n)))] (am_S (am_row (am_row (am_row (am_row (am_row f 1 y3.1) 34 y3.2.1) 35 y3.2.2.1) 36 r74_36) 37 r74_37) (am_row g 1 y3.2.2.2)) _
    refine am_F.bifK 1 rfl K hK (fun c34 hK => ?_) (fun c34 hK => ?_)
    · show am_F _ _ 90 [.ref 0, .int (nI rule_n), .int what, .int a74_3, .int (nI i36), .int ((nI i36) / 16), .int ((nI i36) - (nI i36) / 16 * 16), .int (fn_rulesOn ((nI i36) / 16) (i36 % 16) (am_row (am_row (am_row (am_row (am_row f 1 y3.1) 34 y3.2.1) 35 y3.2.2.1) 36 r36_36) 37 r36_37)), .int (nI i74)] [] (am_S (am_row (am_row (am_row (am_row (am_row f 1 y3.1) 34 y3.2.1) 35 y3.2.2.1) 36 r74_36) 37 r74_37) (am_row g 1 y3.2.2.2)) _
      refine am_F.ops (pc' := 102) (L' := [.ref 0, .int (nI rule_n), .int what, .int a74_3, .int (nI i36), .int ((nI i36) / 16), .int ((nI i36) - (nI i36) / 16 * 16), .int (fn_rulesOn ((nI i36) / 16) (i36 % 16) (am_row (am_row (am_row (am_row (am_row f 1 y3.1) 34 y3.2.1) 35 y3.2.2.1) 36 r36_36) 37 r36_37)), .int (nI i74)]) (S' := [.int (fn_rulesOn ((nI i36) / 16) (i36 % 16) (am_row (am_row (am_row (am_row (am_row f 1 y3.1) 34 y3.2.1) 35 y3.2.2.1) 36 r36_36) 37 r36_37)), .int ((nI i36) - (nI i36) / 16 * 16), .int ((nI i36) / 16), .int (nI i74), .ref 1]) (μ' := (am_S (am_row (am_row (am_row (am_row (am_row f 1 y3.1) 34 y3.2.1) 35 y3.2.2.1) 36 r74_36) 37 r74_37) (am_row g 1 y3.2.2.2))) 6 rfl ?_
      refine am_F.call rfl rfl (by rw [show ((nI i36) - (nI i36) / 16 * 16 : Int32) = nI (i36 % 16) from (am_remE rfl rfl (by omega) (by decide) (by decide))]; exact (x_decider i74 ((nI i36) / 16) (i36 % 16) (fn_rulesOn ((nI i36) / 16) (i36 % 16) (am_row (am_row (am_row (am_row (am_row f 1 y3.1) 34 y3.2.1) 35 y3.2.2.1) 36 r36_36) 37 r36_37)) (am_row (am_row (am_row (am_row (am_row f 1 y3.1) 34 y3.2.1) 35 y3.2.2.1) 36 r74_36) 37 r74_37) (am_row g 1 y3.2.2.2) hRc hRn hPa hCs (by omega) (by omega))) (by decide) ?_
      obtain ⟨y35, hy35⟩ : ∃ z, (fn_decider i74 ((nI i36) / 16) (i36 % 16) (fn_rulesOn ((nI i36) / 16) (i36 % 16) (am_row (am_row (am_row (am_row (am_row f 1 y3.1) 34 y3.2.1) 35 y3.2.2.1) 36 r36_36) 37 r36_37)) (am_row (am_row (am_row (am_row (am_row f 1 y3.1) 34 y3.2.1) 35 y3.2.2.1) 36 r74_36) 37 r74_37)) = z := ⟨_, rfl⟩
      (try rw [hy35] at hK)
      (try rw [hy35])
      refine am_F.mem (F' := (am_row (am_row (am_row (am_row (am_row f 1 y3.1) 34 y3.2.1) 35 y3.2.2.1) 36 y35.2.1) 37 y35.2.2)) (G' := (am_row g 1 y3.2.2.2)) ?_ (by first | rfl | (funext a; by_cases z0 : a = 1; (subst z0; rfl); by_cases z1 : a = 34; (subst z1; rfl); by_cases z2 : a = 35; (subst z2; rfl); by_cases z3 : a = 36; (subst z3; rfl); by_cases z4 : a = 37; (subst z4; rfl); simp only [am_ui, am_ul, am_row_ne z0, am_row_ne z1, am_row_ne z2, am_row_ne z3, am_row_ne z4])) (by first | rfl | (funext a; by_cases z0 : a = 1; (subst z0; rfl); by_cases z1 : a = 34; (subst z1; rfl); by_cases z2 : a = 35; (subst z2; rfl); by_cases z3 : a = 36; (subst z3; rfl); by_cases z4 : a = 37; (subst z4; rfl); simp only [am_ui, am_ul, am_row_ne z0, am_row_ne z1, am_row_ne z2, am_row_ne z3, am_row_ne z4]))
      show am_F _ _ 105 [.ref 0, .int (nI rule_n), .int what, .int a74_3, .int (nI i36), .int ((nI i36) / 16), .int ((nI i36) - (nI i36) / 16 * 16), .int (fn_rulesOn ((nI i36) / 16) (i36 % 16) (am_row (am_row (am_row (am_row (am_row f 1 y3.1) 34 y3.2.1) 35 y3.2.2.1) 36 r36_36) 37 r36_37)), .int (nI i74)] [.int y35.1] (am_S (am_row (am_row (am_row (am_row (am_row f 1 y3.1) 34 y3.2.1) 35 y3.2.2.1) 36 y35.2.1) 37 y35.2.2) (am_row g 1 y3.2.2.2)) _
      refine am_F.ops (pc' := 106) (L' := [.ref 0, .int (nI rule_n), .int what, .int a74_3, .int (nI i36), .int ((nI i36) / 16), .int ((nI i36) - (nI i36) / 16 * 16), .int (fn_rulesOn ((nI i36) / 16) (i36 % 16) (am_row (am_row (am_row (am_row (am_row f 1 y3.1) 34 y3.2.1) 35 y3.2.2.1) 36 r36_36) 37 r36_37)), .int (nI i74)]) (S' := [.int (nI rule_n), .int y35.1]) (μ' := (am_S (am_row (am_row (am_row (am_row (am_row f 1 y3.1) 34 y3.2.1) 35 y3.2.2.1) 36 y35.2.1) 37 y35.2.2) (am_row g 1 y3.2.2.2))) 1 rfl ?_
      refine am_F.iteK 1 rfl K hK (fun c38 hK => ?_) (fun c38 hK => ?_)
      · show am_F _ _ 109 [.ref 0, .int (nI rule_n), .int what, .int a74_3, .int (nI i36), .int ((nI i36) / 16), .int ((nI i36) - (nI i36) / 16 * 16), .int (fn_rulesOn ((nI i36) / 16) (i36 % 16) (am_row (am_row (am_row (am_row (am_row f 1 y3.1) 34 y3.2.1) 35 y3.2.2.1) 36 r36_36) 37 r36_37)), .int (nI i74)] [] (am_S (am_row (am_row (am_row (am_row (am_row f 1 y3.1) 34 y3.2.1) 35 y3.2.2.1) 36 y35.2.1) 37 y35.2.2) (am_row g 1 y3.2.2.2)) _
        refine am_F.ops (pc' := 110) (L' := [.ref 0, .int (nI rule_n), .int what, .int a74_3, .int (nI i36), .int ((nI i36) / 16), .int ((nI i36) - (nI i36) / 16 * 16), .int (fn_rulesOn ((nI i36) / 16) (i36 % 16) (am_row (am_row (am_row (am_row (am_row f 1 y3.1) 34 y3.2.1) 35 y3.2.2.1) 36 r36_36) 37 r36_37)), .int (nI i74)]) (S' := [.int what]) (μ' := (am_S (am_row (am_row (am_row (am_row (am_row f 1 y3.1) 34 y3.2.1) 35 y3.2.2.1) 36 y35.2.1) 37 y35.2.2) (am_row g 1 y3.2.2.2))) 1 rfl ?_
        refine am_F.iteK 1 rfl K hK (fun c40 hK => ?_) (fun c40 hK => ?_)
        · show am_F _ _ 129 [.ref 0, .int (nI rule_n), .int what, .int a74_3, .int (nI i36), .int ((nI i36) / 16), .int ((nI i36) - (nI i36) / 16 * 16), .int (fn_rulesOn ((nI i36) / 16) (i36 % 16) (am_row (am_row (am_row (am_row (am_row f 1 y3.1) 34 y3.2.1) 35 y3.2.2.1) 36 r36_36) 37 r36_37)), .int (nI i74)] [] (am_S (am_row (am_row (am_row (am_row (am_row f 1 y3.1) 34 y3.2.1) 35 y3.2.2.1) 36 y35.2.1) 37 y35.2.2) (am_row g 1 y3.2.2.2)) _
          refine am_F.ops (pc' := 74) (L' := [.ref 0, .int (nI rule_n), .int what, .int (a74_3 + 1), .int (nI i36), .int ((nI i36) / 16), .int ((nI i36) - (nI i36) / 16 * 16), .int (fn_rulesOn ((nI i36) / 16) (i36 % 16) (am_row (am_row (am_row (am_row (am_row f 1 y3.1) 34 y3.2.1) 35 y3.2.2.1) 36 r36_36) 37 r36_37)), .int ((nI i74) + 1)]) (S' := []) (μ' := (am_S (am_row (am_row (am_row (am_row (am_row f 1 y3.1) 34 y3.2.1) 35 y3.2.2.1) 36 y35.2.1) 37 y35.2.2) (am_row g 1 y3.2.2.2))) 3 rfl ?_
          rw [nI_1 i74]
          subst hKd
          exact ih (i74 + 1) (a74_3 + 1) y35.2.1 y35.2.2 (by omega)  hK
        · show am_F _ _ 113 [.ref 0, .int (nI rule_n), .int what, .int a74_3, .int (nI i36), .int ((nI i36) / 16), .int ((nI i36) - (nI i36) / 16 * 16), .int (fn_rulesOn ((nI i36) / 16) (i36 % 16) (am_row (am_row (am_row (am_row (am_row f 1 y3.1) 34 y3.2.1) 35 y3.2.2.1) 36 r36_36) 37 r36_37)), .int (nI i74)] [] (am_S (am_row (am_row (am_row (am_row (am_row f 1 y3.1) 34 y3.2.1) 35 y3.2.2.1) 36 y35.2.1) 37 y35.2.2) (am_row g 1 y3.2.2.2)) _
          refine am_F.ops (pc' := 123) (L' := [.ref 0, .int (nI rule_n), .int what, .int a74_3, .int (nI i36), .int ((nI i36) / 16), .int ((nI i36) - (nI i36) / 16 * 16), .int (fn_rulesOn ((nI i36) / 16) (i36 % 16) (am_row (am_row (am_row (am_row (am_row f 1 y3.1) 34 y3.2.1) 35 y3.2.2.1) 36 r36_36) 37 r36_37)), .int (nI i74)]) (S' := [.int (fn_rulesOn ((nI i36) / 16) (i36 % 16) (am_row (am_row (am_row (am_row (am_row f 1 y3.1) 34 y3.2.1) 35 y3.2.2.1) 36 r36_36) 37 r36_37)), .int ((nI i36) - (nI i36) / 16 * 16), .int ((nI i36) / 16), .int (nI i74), .int (nI rule_n), .ref 0]) (μ' := (am_S (am_row (am_row (am_row (am_row (am_row f 1 y3.1) 34 y3.2.1) 35 y3.2.2.1) 36 y35.2.1) 37 y35.2.2) (am_row g 1 y3.2.2.2))) 6 rfl ?_
          refine am_F.call rfl rfl (by rw [show ((nI i36) - (nI i36) / 16 * 16 : Int32) = nI (i36 % 16) from (am_remE rfl rfl (by omega) (by decide) (by decide))]; exact (x_wouldTurn (nI rule_n) i74 ((nI i36) / 16) (i36 % 16) (fn_rulesOn ((nI i36) / 16) (i36 % 16) (am_row (am_row (am_row (am_row (am_row f 1 y3.1) 34 y3.2.1) 35 y3.2.2.1) 36 r36_36) 37 r36_37)) (am_row (am_row (am_row (am_row (am_row f 1 y3.1) 34 y3.2.1) 35 y3.2.2.1) 36 y35.2.1) 37 y35.2.2) (am_row g 1 y3.2.2.2) hLc hLn hLf hLt hLr hRc hRn hRr hPa hCs (by omega) (by omega))) (by decide) ?_
          obtain ⟨y41, hy41⟩ : ∃ z, (fn_wouldTurn (nI rule_n) i74 ((nI i36) / 16) (i36 % 16) (fn_rulesOn ((nI i36) / 16) (i36 % 16) (am_row (am_row (am_row (am_row (am_row f 1 y3.1) 34 y3.2.1) 35 y3.2.2.1) 36 r36_36) 37 r36_37)) (am_row (am_row (am_row (am_row (am_row f 1 y3.1) 34 y3.2.1) 35 y3.2.2.1) 36 y35.2.1) 37 y35.2.2)) = z := ⟨_, rfl⟩
          (try rw [hy41] at hK)
          (try rw [hy41])
          refine am_F.mem (F' := (am_row (am_row (am_row (am_row (am_row f 1 y3.1) 34 y3.2.1) 35 y3.2.2.1) 36 y41.2.1) 37 y41.2.2)) (G' := (am_row g 1 y3.2.2.2)) ?_ (by first | rfl | (funext a; by_cases z0 : a = 1; (subst z0; rfl); by_cases z1 : a = 34; (subst z1; rfl); by_cases z2 : a = 35; (subst z2; rfl); by_cases z3 : a = 36; (subst z3; rfl); by_cases z4 : a = 37; (subst z4; rfl); simp only [am_ui, am_ul, am_row_ne z0, am_row_ne z1, am_row_ne z2, am_row_ne z3, am_row_ne z4])) (by first | rfl | (funext a; by_cases z0 : a = 1; (subst z0; rfl); by_cases z1 : a = 34; (subst z1; rfl); by_cases z2 : a = 35; (subst z2; rfl); by_cases z3 : a = 36; (subst z3; rfl); by_cases z4 : a = 37; (subst z4; rfl); simp only [am_ui, am_ul, am_row_ne z0, am_row_ne z1, am_row_ne z2, am_row_ne z3, am_row_ne z4]))
          show am_F _ _ 126 [.ref 0, .int (nI rule_n), .int what, .int a74_3, .int (nI i36), .int ((nI i36) / 16), .int ((nI i36) - (nI i36) / 16 * 16), .int (fn_rulesOn ((nI i36) / 16) (i36 % 16) (am_row (am_row (am_row (am_row (am_row f 1 y3.1) 34 y3.2.1) 35 y3.2.2.1) 36 r36_36) 37 r36_37)), .int (nI i74)] [.int (am_b (y41.1))] (am_S (am_row (am_row (am_row (am_row (am_row f 1 y3.1) 34 y3.2.1) 35 y3.2.2.1) 36 y41.2.1) 37 y41.2.2) (am_row g 1 y3.2.2.2)) _
          refine am_F.bifK 1 rfl K hK (fun c43 hK => ?_) (fun c43 hK => ?_)
          · show am_F _ _ 129 [.ref 0, .int (nI rule_n), .int what, .int a74_3, .int (nI i36), .int ((nI i36) / 16), .int ((nI i36) - (nI i36) / 16 * 16), .int (fn_rulesOn ((nI i36) / 16) (i36 % 16) (am_row (am_row (am_row (am_row (am_row f 1 y3.1) 34 y3.2.1) 35 y3.2.2.1) 36 r36_36) 37 r36_37)), .int (nI i74)] [] (am_S (am_row (am_row (am_row (am_row (am_row f 1 y3.1) 34 y3.2.1) 35 y3.2.2.1) 36 y41.2.1) 37 y41.2.2) (am_row g 1 y3.2.2.2)) _
            refine am_F.ops (pc' := 74) (L' := [.ref 0, .int (nI rule_n), .int what, .int (a74_3 + 1), .int (nI i36), .int ((nI i36) / 16), .int ((nI i36) - (nI i36) / 16 * 16), .int (fn_rulesOn ((nI i36) / 16) (i36 % 16) (am_row (am_row (am_row (am_row (am_row f 1 y3.1) 34 y3.2.1) 35 y3.2.2.1) 36 r36_36) 37 r36_37)), .int ((nI i74) + 1)]) (S' := []) (μ' := (am_S (am_row (am_row (am_row (am_row (am_row f 1 y3.1) 34 y3.2.1) 35 y3.2.2.1) 36 y41.2.1) 37 y41.2.2) (am_row g 1 y3.2.2.2))) 3 rfl ?_
            rw [nI_1 i74]
            subst hKd
            exact ih (i74 + 1) (a74_3 + 1) y41.2.1 y41.2.2 (by omega)  hK
          · show am_F _ _ 132 [.ref 0, .int (nI rule_n), .int what, .int a74_3, .int (nI i36), .int ((nI i36) / 16), .int ((nI i36) - (nI i36) / 16 * 16), .int (fn_rulesOn ((nI i36) / 16) (i36 % 16) (am_row (am_row (am_row (am_row (am_row f 1 y3.1) 34 y3.2.1) 35 y3.2.2.1) 36 r36_36) 37 r36_37)), .int (nI i74)] [] (am_S (am_row (am_row (am_row (am_row (am_row f 1 y3.1) 34 y3.2.1) 35 y3.2.2.1) 36 y41.2.1) 37 y41.2.2) (am_row g 1 y3.2.2.2)) _
            refine am_F.ops (pc' := 74) (L' := [.ref 0, .int (nI rule_n), .int what, .int a74_3, .int (nI i36), .int ((nI i36) / 16), .int ((nI i36) - (nI i36) / 16 * 16), .int (fn_rulesOn ((nI i36) / 16) (i36 % 16) (am_row (am_row (am_row (am_row (am_row f 1 y3.1) 34 y3.2.1) 35 y3.2.2.1) 36 r36_36) 37 r36_37)), .int ((nI i74) + 1)]) (S' := []) (μ' := (am_S (am_row (am_row (am_row (am_row (am_row f 1 y3.1) 34 y3.2.1) 35 y3.2.2.1) 36 y41.2.1) 37 y41.2.2) (am_row g 1 y3.2.2.2))) 2 rfl ?_
            rw [nI_1 i74]
            subst hKd
            exact ih (i74 + 1) a74_3 y41.2.1 y41.2.2 (by omega)  hK
      · show am_F _ _ 132 [.ref 0, .int (nI rule_n), .int what, .int a74_3, .int (nI i36), .int ((nI i36) / 16), .int ((nI i36) - (nI i36) / 16 * 16), .int (fn_rulesOn ((nI i36) / 16) (i36 % 16) (am_row (am_row (am_row (am_row (am_row f 1 y3.1) 34 y3.2.1) 35 y3.2.2.1) 36 r36_36) 37 r36_37)), .int (nI i74)] [] (am_S (am_row (am_row (am_row (am_row (am_row f 1 y3.1) 34 y3.2.1) 35 y3.2.2.1) 36 y35.2.1) 37 y35.2.2) (am_row g 1 y3.2.2.2)) _
        refine am_F.ops (pc' := 74) (L' := [.ref 0, .int (nI rule_n), .int what, .int a74_3, .int (nI i36), .int ((nI i36) / 16), .int ((nI i36) - (nI i36) / 16 * 16), .int (fn_rulesOn ((nI i36) / 16) (i36 % 16) (am_row (am_row (am_row (am_row (am_row f 1 y3.1) 34 y3.2.1) 35 y3.2.2.1) 36 r36_36) 37 r36_37)), .int ((nI i74) + 1)]) (S' := []) (μ' := (am_S (am_row (am_row (am_row (am_row (am_row f 1 y3.1) 34 y3.2.1) 35 y3.2.2.1) 36 y35.2.1) 37 y35.2.2) (am_row g 1 y3.2.2.2))) 2 rfl ?_
        rw [nI_1 i74]
        subst hKd
        exact ih (i74 + 1) a74_3 y35.2.1 y35.2.2 (by omega)  hK
    · show am_F _ _ 138 [.ref 0, .int (nI rule_n), .int what, .int a74_3, .int (nI i36), .int ((nI i36) / 16), .int ((nI i36) - (nI i36) / 16 * 16), .int (fn_rulesOn ((nI i36) / 16) (i36 % 16) (am_row (am_row (am_row (am_row (am_row f 1 y3.1) 34 y3.2.1) 35 y3.2.2.1) 36 r36_36) 37 r36_37)), .int (nI i74)] [] (am_S (am_row (am_row (am_row (am_row (am_row f 1 y3.1) 34 y3.2.1) 35 y3.2.2.1) 36 r74_36) 37 r74_37) (am_row g 1 y3.2.2.2)) _
      subst hKd
      exact hK (.int (nI i74))
theorem lp_decides_36 (rule_n : Nat) (what : Int32) (f : Nat → Nat → Int32) (g : Nat → Nat → Int64) (y3 : (Nat → Int32) × (Nat → Int32) × (Nat → Int32) × (Nat → Int64)) (hLc : f 11 7 = nI (f 11 7).toNatClampNeg) (hLn : (f 11 7).toNatClampNeg ≤ 40) (hLf : ∀ i, i < (f 11 7).toNatClampNeg → am_inb (f 12 i) 16 = true) (hLt : ∀ i, i < (f 11 7).toNatClampNeg → am_inb (f 13 i) 16 = true) (hLr : ∀ i, i < (f 11 7).toNatClampNeg → am_inb (f 14 i) 20 = true) (hRc : f 18 11 = nI (f 18 11).toNatClampNeg) (hRn : (f 18 11).toNatClampNeg ≤ 30) (hRr : ∀ i, i < (f 18 11).toNatClampNeg → am_inb (f 19 i) 20 = true) (hPa : ∀ t, t < 16 → (f 29 t).toInt < 16) (hCs : ∀ i, i < (f 18 11).toNatClampNeg → f 25 i = nI (f 25 i).toNatClampNeg ∧ (f 25 i).toNatClampNeg ≤ 80) (hrule_n : rule_n < (f 18 11).toNatClampNeg) (res : Option Value × am_M) : ∀ (n i36 : Nat) (a36_3 : Int32) (r36_36 : Nat → Int32) (r36_37 : Nat → Int32) (w36_5 : Value) (w36_6 : Value) (w36_7 : Value) (w36_8 : Value), i36 + n = 128 → (fun (z : Int32 × (Nat → Int32) × (Nat → Int32)) => ∀ (wc : Value) (w36_5 : Value) (w36_6 : Value) (w36_7 : Value) (w36_8 : Value), am_F 6 am_k_132 144 [.ref 0, .int (nI rule_n), .int what, .int z.1, wc, w36_5, w36_6, w36_7, w36_8] [] (am_S (am_row (am_row (am_row (am_row (am_row f 1 y3.1) 34 y3.2.1) 35 y3.2.2.1) 36 z.2.1) 37 z.2.2) (am_row g 1 y3.2.2.2)) res) (am_for (st_decides_36 rule_n what f y3) n i36 (a36_3, r36_36, r36_37)) → am_F 6 am_k_132 36 [.ref 0, .int (nI rule_n), .int what, .int a36_3, .int (nI i36), w36_5, w36_6, w36_7, w36_8] [] (am_S (am_row (am_row (am_row (am_row (am_row f 1 y3.1) 34 y3.2.1) 35 y3.2.2.1) 36 r36_36) 37 r36_37) (am_row g 1 y3.2.2.2)) res := by
  intro n
  induction n with
  | zero =>
    intro i36 a36_3 r36_36 r36_37 w36_5 w36_6 w36_7 w36_8 hi hK
    refine am_F.pos 3 rfl (by show 128 ≤ nI i36; rw [show (128 : Int32) = nI 128 from rfl]; exact nI_le (by omega) (by omega)) ?_
    exact hK _ _ _ _ _
  | succ n ih =>
    intro i36 a36_3 r36_36 r36_37 w36_5 w36_6 w36_7 w36_8 hi hK
    refine am_F.neg 3 rfl (by show ¬ 128 ≤ nI i36; rw [show (128 : Int32) = nI 128 from rfl]; exact nI_ge (by omega) (by omega)) ?_
    have hb36 : i36 < 128 := by omega
    show am_F _ _ 44 [.ref 0, .int (nI rule_n), .int what, .int a36_3, .int (nI i36), w36_5, w36_6, w36_7, w36_8] [] (am_S (am_row (am_row (am_row (am_row (am_row f 1 y3.1) 34 y3.2.1) 35 y3.2.2.1) 36 r36_36) 37 r36_37) (am_row g 1 y3.2.2.2)) _
    obtain ⟨K, hKd⟩ : ∃ K : (Int32 × (Nat → Int32) × (Nat → Int32)) → Prop, K = fun s => (fun (z : Int32 × (Nat → Int32) × (Nat → Int32)) => ∀ (wc : Value) (w36_5 : Value) (w36_6 : Value) (w36_7 : Value) (w36_8 : Value), am_F 6 am_k_132 144 [.ref 0, .int (nI rule_n), .int what, .int z.1, wc, w36_5, w36_6, w36_7, w36_8] [] (am_S (am_row (am_row (am_row (am_row (am_row f 1 y3.1) 34 y3.2.1) 35 y3.2.2.1) 36 z.2.1) 37 z.2.2) (am_row g 1 y3.2.2.2)) res) (am_for (st_decides_36 rule_n what f y3) n (i36 + 1) s) := ⟨_, rfl⟩
    have hK : K ((st_decides_36 rule_n what f y3) i36 (a36_3, r36_36, r36_37)) := by rw [hKd]; exact hK
    unfold st_decides_36 at hK
    simp only at hK
    refine am_F.ops (pc' := 66) (L' := [.ref 0, .int (nI rule_n), .int what, .int a36_3, .int (nI i36), .int ((nI i36) / 16), .int ((nI i36) - (nI i36) / 16 * 16), w36_7, w36_8]) (S' := [.int ((nI i36) - (nI i36) / 16 * 16), .int ((nI i36) / 16), .ref 1]) (μ' := (am_S (am_row (am_row (am_row (am_row (am_row f 1 y3.1) 34 y3.2.1) 35 y3.2.2.1) 36 r36_36) 37 r36_37) (am_row g 1 y3.2.2.2))) 12 rfl ?_
    refine am_F.call rfl rfl (by rw [show ((nI i36) - (nI i36) / 16 * 16 : Int32) = nI (i36 % 16) from (am_remE rfl rfl (by omega) (by decide) (by decide))]; exact (x_rulesOn ((nI i36) / 16) (i36 % 16) (am_row (am_row (am_row (am_row (am_row f 1 y3.1) 34 y3.2.1) 35 y3.2.2.1) 36 r36_36) 37 r36_37) (am_row g 1 y3.2.2.2) hRc hRn hPa (by omega))) (by decide) ?_
    show am_F _ _ 69 [.ref 0, .int (nI rule_n), .int what, .int a36_3, .int (nI i36), .int ((nI i36) / 16), .int ((nI i36) - (nI i36) / 16 * 16), w36_7, w36_8] [.int (fn_rulesOn ((nI i36) / 16) (i36 % 16) (am_row (am_row (am_row (am_row (am_row f 1 y3.1) 34 y3.2.1) 35 y3.2.2.1) 36 r36_36) 37 r36_37))] (am_S (am_row (am_row (am_row (am_row (am_row f 1 y3.1) 34 y3.2.1) 35 y3.2.2.1) 36 r36_36) 37 r36_37) (am_row g 1 y3.2.2.2)) _
    refine am_F.ops (pc' := 74) (L' := [.ref 0, .int (nI rule_n), .int what, .int a36_3, .int (nI i36), .int ((nI i36) / 16), .int ((nI i36) - (nI i36) / 16 * 16), .int (fn_rulesOn ((nI i36) / 16) (i36 % 16) (am_row (am_row (am_row (am_row (am_row f 1 y3.1) 34 y3.2.1) 35 y3.2.2.1) 36 r36_36) 37 r36_37)), .int 0]) (S' := []) (μ' := (am_S (am_row (am_row (am_row (am_row (am_row f 1 y3.1) 34 y3.2.1) 35 y3.2.2.1) 36 r36_36) 37 r36_37) (am_row g 1 y3.2.2.2))) 3 rfl ?_
    show am_F _ _ 74 [.ref 0, .int (nI rule_n), .int what, .int a36_3, .int (nI i36), .int ((nI i36) / 16), .int ((nI i36) - (nI i36) / 16 * 16), .int (fn_rulesOn ((nI i36) / 16) (i36 % 16) (am_row (am_row (am_row (am_row (am_row f 1 y3.1) 34 y3.2.1) 35 y3.2.2.1) 36 r36_36) 37 r36_37)), .int (nI 0)] [] (am_S (am_row (am_row (am_row (am_row (am_row f 1 y3.1) 34 y3.2.1) 35 y3.2.2.1) 36 r36_36) 37 r36_37) (am_row g 1 y3.2.2.2)) _
    refine lp_decides_74 rule_n what f g y3 i36 a36_3 r36_36 r36_37 hLc hLn hLf hLt hLr hRc hRn hRr hPa hCs hrule_n hb36 _ 16 0 a36_3 r36_36 r36_37  (by omega)  ?_
    rw [show am_forX (st_decides_74 rule_n what f y3 i36 r36_36 r36_37) 16 0 (a36_3, r36_36, r36_37) = (lf_decides_74 rule_n what f y3 i36 a36_3 r36_36 r36_37) from rfl]
    revert hK
    cases (lf_decides_74 rule_n what f y3 i36 a36_3 r36_36 r36_37) with
    | inr z =>
      intro hK
      exact z.elim
    | inl z74 =>
      intro hK wc
      refine am_F.ops (pc' := 36) (L' := [.ref 0, .int (nI rule_n), .int what, .int z74.1, .int ((nI i36) + 1), .int ((nI i36) / 16), .int ((nI i36) - (nI i36) / 16 * 16), .int (fn_rulesOn ((nI i36) / 16) (i36 % 16) (am_row (am_row (am_row (am_row (am_row f 1 y3.1) 34 y3.2.1) 35 y3.2.2.1) 36 r36_36) 37 r36_37)), wc]) (S' := []) (μ' := (am_S (am_row (am_row (am_row (am_row (am_row f 1 y3.1) 34 y3.2.1) 35 y3.2.2.1) 36 z74.2.1) 37 z74.2.2) (am_row g 1 y3.2.2.2))) 2 rfl ?_
      rw [nI_1 i36]
      subst hKd
      exact ih (i36 + 1) z74.1 z74.2.1 z74.2.2 (.int ((nI i36) / 16)) (.int ((nI i36) - (nI i36) / 16 * 16)) (.int (fn_rulesOn ((nI i36) / 16) (i36 % 16) (am_row (am_row (am_row (am_row (am_row f 1 y3.1) 34 y3.2.1) 35 y3.2.2.1) 36 r36_36) 37 r36_37))) wc (by omega)  hK
theorem x_decides (rule : Int32) (what : Int32) (f : Nat → Nat → Int32) (g : Nat → Nat → Int64) (hLc : f 11 7 = nI (f 11 7).toNatClampNeg) (hLn : (f 11 7).toNatClampNeg ≤ 40) (hLf : ∀ i, i < (f 11 7).toNatClampNeg → am_inb (f 12 i) 16 = true) (hLt : ∀ i, i < (f 11 7).toNatClampNeg → am_inb (f 13 i) 16 = true) (hLr : ∀ i, i < (f 11 7).toNatClampNeg → am_inb (f 14 i) 20 = true) (hRc : f 18 11 = nI (f 18 11).toNatClampNeg) (hRn : (f 18 11).toNatClampNeg ≤ 30) (hRr : ∀ i, i < (f 18 11).toNatClampNeg → am_inb (f 19 i) 20 = true) (hPa : ∀ t, t < 16 → (f 29 t).toInt < 16) (hCs : ∀ i, i < (f 18 11).toNatClampNeg → f 25 i = nI (f 25 i).toNatClampNeg ∧ (f 25 i).toNatClampNeg ≤ 80) : am_D 6 132 9 [.ref 0, .int rule, .int what] (am_S f g) (some (Value.int ((fn_decides rule what f g).1)), am_S (am_row (am_row (am_row (am_row (am_row f 1 ((fn_decides rule what f g).2.1)) 34 ((fn_decides rule what f g).2.2.1)) 35 ((fn_decides rule what f g).2.2.2.1)) 36 ((fn_decides rule what f g).2.2.2.2.1)) 37 ((fn_decides rule what f g).2.2.2.2.2.1)) (am_row g 1 ((fn_decides rule what f g).2.2.2.2.2.2))) := by
  refine am_D.of (code := am_k_132) rfl (L0 := [.ref 0, .int rule, .int what, am_un, am_un, am_un, am_un, am_un, am_un]) rfl ?_
  generalize hres : (some (Value.int ((fn_decides rule what f g).1)), am_S (am_row (am_row (am_row (am_row (am_row f 1 ((fn_decides rule what f g).2.1)) 34 ((fn_decides rule what f g).2.2.1)) 35 ((fn_decides rule what f g).2.2.2.1)) 36 ((fn_decides rule what f g).2.2.2.2.1)) 37 ((fn_decides rule what f g).2.2.2.2.2.1)) (am_row g 1 ((fn_decides rule what f g).2.2.2.2.2.2))) = res
  obtain ⟨K, hKd⟩ : ∃ K : (Int32 × (Nat → Int32) × (Nat → Int32) × (Nat → Int32) × (Nat → Int32) × (Nat → Int32) × (Nat → Int64)) → Prop, K = fun z => (some (Value.int z.1), am_S (am_row (am_row (am_row (am_row (am_row f 1 z.2.1) 34 z.2.2.1) 35 z.2.2.2.1) 36 z.2.2.2.2.1) 37 z.2.2.2.2.2.1) (am_row g 1 z.2.2.2.2.2.2)) = res := ⟨_, rfl⟩
  have hK : K (fn_decides rule what f g) := by rw [hKd]; exact hres
  clear hres
  unfold fn_decides at hK
  refine am_F.ops (pc' := 2) (L' := [.ref 0, .int rule, .int what, am_un, am_un, am_un, am_un, am_un, am_un]) (S' := [.int rule, .ref 0]) (μ' := (am_S f g)) 2 rfl ?_
  refine am_F.call rfl rfl (x_isRule rule f g hRc hRn) (by decide) ?_
  show am_F _ _ 5 [.ref 0, .int rule, .int what, am_un, am_un, am_un, am_un, am_un, am_un] [.int (am_b (fn_isRule rule f))] (am_S f g) _
  refine am_F.bifK 1 rfl K hK (fun c1 hK => ?_) (fun c1 hK => ?_)
  · obtain ⟨rule_n, hrule_n, erule_n⟩ := (am_iRule hRc (by omega) c1)
    subst erule_n
    try simp only [nI_clamp (show rule_n < 2147483648 by omega)] at hK
    show am_F _ _ 8 [.ref 0, .int (nI rule_n), .int what, am_un, am_un, am_un, am_un, am_un, am_un] [] (am_S f g) _
    refine am_F.ops (pc' := 9) (L' := [.ref 0, .int (nI rule_n), .int what, am_un, am_un, am_un, am_un, am_un, am_un]) (S' := [.int what]) (μ' := (am_S f g)) 1 rfl ?_
    refine am_F.call rfl rfl (x_within01 what f g ) (by decide) ?_
    show am_F _ _ 12 [.ref 0, .int (nI rule_n), .int what, am_un, am_un, am_un, am_un, am_un, am_un] [.int (am_b (fn_within01 what))] (am_S f g) _
    refine am_F.bifK 1 rfl K hK (fun c2 hK => ?_) (fun c2 hK => ?_)
    · show am_F _ _ 17 [.ref 0, .int (nI rule_n), .int what, am_un, am_un, am_un, am_un, am_un, am_un] [] (am_S f g) _
      refine am_F.ops (pc' := 28) (L' := [.ref 0, .int (nI rule_n), .int what, am_un, am_un, am_un, am_un, am_un, am_un]) (S' := [.int (f 2 12), .ref 1]) (μ' := (am_S f g)) 5 rfl ?_
      refine am_F.call rfl rfl (x_settle (f 2 12) f g hLc hLn hLf hLt hLr hRc hRn) (by decide) ?_
      obtain ⟨y3, hy3⟩ : ∃ z, (fn_settle (f 2 12) f g) = z := ⟨_, rfl⟩
      (try rw [hy3] at hK)
      (try rw [hy3])
      refine am_F.mem (F' := (am_row (am_row (am_row f 1 y3.1) 34 y3.2.1) 35 y3.2.2.1)) (G' := (am_row g 1 y3.2.2.2)) ?_ (by first | rfl | (funext a; by_cases z0 : a = 1; (subst z0; rfl); by_cases z1 : a = 34; (subst z1; rfl); by_cases z2 : a = 35; (subst z2; rfl); simp only [am_ui, am_ul, am_row_ne z0, am_row_ne z1, am_row_ne z2])) (by first | rfl | (funext a; by_cases z0 : a = 1; (subst z0; rfl); by_cases z1 : a = 34; (subst z1; rfl); by_cases z2 : a = 35; (subst z2; rfl); simp only [am_ui, am_ul, am_row_ne z0, am_row_ne z1, am_row_ne z2]))
      show am_F _ _ 31 [.ref 0, .int (nI rule_n), .int what, am_un, am_un, am_un, am_un, am_un, am_un] [] (am_S (am_row (am_row (am_row f 1 y3.1) 34 y3.2.1) 35 y3.2.2.1) (am_row g 1 y3.2.2.2)) _
      refine am_F.ops (pc' := 36) (L' := [.ref 0, .int (nI rule_n), .int what, .int 0, .int 0, am_un, am_un, am_un, am_un]) (S' := []) (μ' := (am_S (am_row (am_row (am_row f 1 y3.1) 34 y3.2.1) 35 y3.2.2.1) (am_row g 1 y3.2.2.2))) 4 rfl ?_
      refine am_F.mem (F' := (am_row (am_row (am_row (am_row (am_row f 1 y3.1) 34 y3.2.1) 35 y3.2.2.1) 36 (f 36)) 37 (f 37))) (G' := (am_row g 1 y3.2.2.2)) ?_ (by first | rfl | (funext a; by_cases z0 : a = 1; (subst z0; rfl); by_cases z1 : a = 34; (subst z1; rfl); by_cases z2 : a = 35; (subst z2; rfl); by_cases z3 : a = 36; (subst z3; rfl); by_cases z4 : a = 37; (subst z4; rfl); simp only [am_ui, am_ul, am_row_ne z0, am_row_ne z1, am_row_ne z2, am_row_ne z3, am_row_ne z4])) (by first | rfl | (funext a; by_cases z0 : a = 1; (subst z0; rfl); by_cases z1 : a = 34; (subst z1; rfl); by_cases z2 : a = 35; (subst z2; rfl); by_cases z3 : a = 36; (subst z3; rfl); by_cases z4 : a = 37; (subst z4; rfl); simp only [am_ui, am_ul, am_row_ne z0, am_row_ne z1, am_row_ne z2, am_row_ne z3, am_row_ne z4]))
      show am_F _ _ 36 [.ref 0, .int (nI rule_n), .int what, .int 0, .int (nI 0), am_un, am_un, am_un, am_un] [] (am_S (am_row (am_row (am_row (am_row (am_row f 1 y3.1) 34 y3.2.1) 35 y3.2.2.1) 36 (f 36)) 37 (f 37)) (am_row g 1 y3.2.2.2)) _
      refine lp_decides_36 rule_n what f g y3 hLc hLn hLf hLt hLr hRc hRn hRr hPa hCs hrule_n _ 128 0 0 (f 36) (f 37) am_un am_un am_un am_un (by omega)  ?_
      rw [show am_for (st_decides_36 rule_n what f y3) 128 0 (0, f 36, f 37) = (lf_decides_36 rule_n what f y3) from rfl]
      generalize (lf_decides_36 rule_n what f y3) = z36_44 at hK ⊢
      intro wc w36_5 w36_6 w36_7 w36_8
      show am_F _ _ 144 [.ref 0, .int (nI rule_n), .int what, .int z36_44.1, wc, w36_5, w36_6, w36_7, w36_8] [] (am_S (am_row (am_row (am_row (am_row (am_row f 1 y3.1) 34 y3.2.1) 35 y3.2.2.1) 36 z36_44.2.1) 37 z36_44.2.2) (am_row g 1 y3.2.2.2)) _
      refine am_F.ops (pc' := 145) (L' := [.ref 0, .int (nI rule_n), .int what, .int z36_44.1, wc, w36_5, w36_6, w36_7, w36_8]) (S' := [.int z36_44.1]) (μ' := (am_S (am_row (am_row (am_row (am_row (am_row f 1 y3.1) 34 y3.2.1) 35 y3.2.2.1) 36 z36_44.2.1) 37 z36_44.2.2) (am_row g 1 y3.2.2.2))) 1 rfl ?_
      subst hKd
      exact am_F.eq (am_F.ret rfl rfl) hK
    · show am_F _ _ 15 [.ref 0, .int (nI rule_n), .int what, am_un, am_un, am_un, am_un, am_un, am_un] [] (am_S f g) _
      refine am_F.ops (pc' := 16) (L' := [.ref 0, .int (nI rule_n), .int what, am_un, am_un, am_un, am_un, am_un, am_un]) (S' := [.int (-1)]) (μ' := (am_S f g)) 1 rfl ?_
      refine am_F.mem (F' := (am_row (am_row (am_row (am_row (am_row f 1 (f 1)) 34 (f 34)) 35 (f 35)) 36 (f 36)) 37 (f 37))) (G' := (am_row g 1 (g 1))) ?_ (by first | rfl | (funext a; by_cases z0 : a = 1; (subst z0; rfl); by_cases z1 : a = 34; (subst z1; rfl); by_cases z2 : a = 35; (subst z2; rfl); by_cases z3 : a = 36; (subst z3; rfl); by_cases z4 : a = 37; (subst z4; rfl); simp only [am_ui, am_ul, am_row_ne z0, am_row_ne z1, am_row_ne z2, am_row_ne z3, am_row_ne z4])) (by first | rfl | (funext a; by_cases z0 : a = 1; (subst z0; rfl); by_cases z1 : a = 34; (subst z1; rfl); by_cases z2 : a = 35; (subst z2; rfl); by_cases z3 : a = 36; (subst z3; rfl); by_cases z4 : a = 37; (subst z4; rfl); simp only [am_ui, am_ul, am_row_ne z0, am_row_ne z1, am_row_ne z2, am_row_ne z3, am_row_ne z4]))
      subst hKd
      exact am_F.eq (am_F.ret rfl rfl) hK
  · show am_F _ _ 15 [.ref 0, .int rule, .int what, am_un, am_un, am_un, am_un, am_un, am_un] [] (am_S f g) _
    refine am_F.ops (pc' := 16) (L' := [.ref 0, .int rule, .int what, am_un, am_un, am_un, am_un, am_un, am_un]) (S' := [.int (-1)]) (μ' := (am_S f g)) 1 rfl ?_
    refine am_F.mem (F' := (am_row (am_row (am_row (am_row (am_row f 1 (f 1)) 34 (f 34)) 35 (f 35)) 36 (f 36)) 37 (f 37))) (G' := (am_row g 1 (g 1))) ?_ (by first | rfl | (funext a; by_cases z0 : a = 1; (subst z0; rfl); by_cases z1 : a = 34; (subst z1; rfl); by_cases z2 : a = 35; (subst z2; rfl); by_cases z3 : a = 36; (subst z3; rfl); by_cases z4 : a = 37; (subst z4; rfl); simp only [am_ui, am_ul, am_row_ne z0, am_row_ne z1, am_row_ne z2, am_row_ne z3, am_row_ne z4])) (by first | rfl | (funext a; by_cases z0 : a = 1; (subst z0; rfl); by_cases z1 : a = 34; (subst z1; rfl); by_cases z2 : a = 35; (subst z2; rfl); by_cases z3 : a = 36; (subst z3; rfl); by_cases z4 : a = 37; (subst z4; rfl); simp only [am_ui, am_ul, am_row_ne z0, am_row_ne z1, am_row_ne z2, am_row_ne z3, am_row_ne z4]))
    subst hKd
    exact am_F.eq (am_F.ret rfl rfl) hK
/-- AccessLattice.count -/
def fn_count (what : Int32) (f : Nat → Nat → Int32) (g : Nat → Nat → Int64) : Int32 × (Nat → Int32) × (Nat → Int32) × (Nat → Int32) × (Nat → Int64) := (if what = 0 then ((fn_bitCount (f 18 8)), f 1, f 34, f 35, g 1) else (if what = 1 then (f 11 7, f 1, f 34, f 35, g 1) else (if what = 2 then ((fn_bitCountL ((fn_settle (f 2 12) f g).2.2.2 5)), (fn_settle (f 2 12) f g).1, (fn_settle (f 2 12) f g).2.1, (fn_settle (f 2 12) f g).2.2.1, (fn_settle (f 2 12) f g).2.2.2) else (if what = 3 then (f 3 7, f 1, f 34, f 35, g 1) else (if what = 4 then (f 2 10, f 1, f 34, f 35, g 1) else (if what = 5 then (f 75 1, f 1, f 34, f 35, g 1) else (if what = 6 then (f 33 1, f 1, f 34, f 35, g 1) else (if what = 7 then (f 33 2, f 1, f 34, f 35, g 1) else (if what = 8 then (f 33 0, f 1, f 34, f 35, g 1) else ((-1), f 1, f 34, f 35, g 1))))))))))
theorem x_count (what : Int32) (f : Nat → Nat → Int32) (g : Nat → Nat → Int64) (hLc : f 11 7 = nI (f 11 7).toNatClampNeg) (hLn : (f 11 7).toNatClampNeg ≤ 40) (hLf : ∀ i, i < (f 11 7).toNatClampNeg → am_inb (f 12 i) 16 = true) (hLt : ∀ i, i < (f 11 7).toNatClampNeg → am_inb (f 13 i) 16 = true) (hLr : ∀ i, i < (f 11 7).toNatClampNeg → am_inb (f 14 i) 20 = true) (hRc : f 18 11 = nI (f 18 11).toNatClampNeg) (hRn : (f 18 11).toNatClampNeg ≤ 30) : am_D 4 142 2 [.ref 0, .int what] (am_S f g) (some (Value.int ((fn_count what f g).1)), am_S (am_row (am_row (am_row f 1 ((fn_count what f g).2.1)) 34 ((fn_count what f g).2.2.1)) 35 ((fn_count what f g).2.2.2.1)) (am_row g 1 ((fn_count what f g).2.2.2.2))) := by
  refine am_D.of (code := am_k_142) rfl (L0 := [.ref 0, .int what]) rfl ?_
  generalize hres : (some (Value.int ((fn_count what f g).1)), am_S (am_row (am_row (am_row f 1 ((fn_count what f g).2.1)) 34 ((fn_count what f g).2.2.1)) 35 ((fn_count what f g).2.2.2.1)) (am_row g 1 ((fn_count what f g).2.2.2.2))) = res
  obtain ⟨K, hKd⟩ : ∃ K : (Int32 × (Nat → Int32) × (Nat → Int32) × (Nat → Int32) × (Nat → Int64)) → Prop, K = fun z => (some (Value.int z.1), am_S (am_row (am_row (am_row f 1 z.2.1) 34 z.2.2.1) 35 z.2.2.2.1) (am_row g 1 z.2.2.2.2)) = res := ⟨_, rfl⟩
  have hK : K (fn_count what f g) := by rw [hKd]; exact hres
  clear hres
  unfold fn_count at hK
  refine am_F.ops (pc' := 1) (L' := [.ref 0, .int what]) (S' := [.int what]) (μ' := (am_S f g)) 1 rfl ?_
  refine am_F.ops (pc' := am_ltg [(0, 52), (1, 66), (2, 77), (3, 102), (4, 113), (5, 121), (6, 129), (7, 139), (8, 149)] 159 what) (L' := [.ref 0, .int what]) (S' := []) (μ' := (am_S f g)) 1 (am_tswE (tg := [52, 66, 77, 102, 113, 121, 129, 139, 149]) (lo := 0) rfl rfl (by decide) (by decide)) ?_
  refine am_F.ltg K hK (fun c1 hK => ?_) (fun c1 hK => ?_)
  · show am_F _ _ 52 [.ref 0, .int what] [] (am_S f g) _
    refine am_F.ops (pc' := 62) (L' := [.ref 0, .int what]) (S' := [.int (f 18 8)]) (μ' := (am_S f g)) 4 rfl ?_
    refine am_F.call rfl rfl (x_bitCount (f 18 8) f g ) (by decide) ?_
    show am_F _ _ 65 [.ref 0, .int what] [.int (fn_bitCount (f 18 8))] (am_S f g) _
    refine am_F.mem (F' := (am_row (am_row (am_row f 1 (f 1)) 34 (f 34)) 35 (f 35))) (G' := (am_row g 1 (g 1))) ?_ (by first | rfl | (funext a; by_cases z0 : a = 1; (subst z0; rfl); by_cases z1 : a = 34; (subst z1; rfl); by_cases z2 : a = 35; (subst z2; rfl); simp only [am_ui, am_ul, am_row_ne z0, am_row_ne z1, am_row_ne z2])) (by first | rfl | (funext a; by_cases z0 : a = 1; (subst z0; rfl); by_cases z1 : a = 34; (subst z1; rfl); by_cases z2 : a = 35; (subst z2; rfl); simp only [am_ui, am_ul, am_row_ne z0, am_row_ne z1, am_row_ne z2]))
    subst hKd
    exact am_F.eq (am_F.ret rfl rfl) hK
  · skip
    refine am_F.ltg K hK (fun c2 hK => ?_) (fun c2 hK => ?_)
    · show am_F _ _ 66 [.ref 0, .int what] [] (am_S f g) _
      refine am_F.ops (pc' := 76) (L' := [.ref 0, .int what]) (S' := [.int (f 11 7)]) (μ' := (am_S f g)) 4 rfl ?_
      refine am_F.mem (F' := (am_row (am_row (am_row f 1 (f 1)) 34 (f 34)) 35 (f 35))) (G' := (am_row g 1 (g 1))) ?_ (by first | rfl | (funext a; by_cases z0 : a = 1; (subst z0; rfl); by_cases z1 : a = 34; (subst z1; rfl); by_cases z2 : a = 35; (subst z2; rfl); simp only [am_ui, am_ul, am_row_ne z0, am_row_ne z1, am_row_ne z2])) (by first | rfl | (funext a; by_cases z0 : a = 1; (subst z0; rfl); by_cases z1 : a = 34; (subst z1; rfl); by_cases z2 : a = 35; (subst z2; rfl); simp only [am_ui, am_ul, am_row_ne z0, am_row_ne z1, am_row_ne z2]))
      subst hKd
      exact am_F.eq (am_F.ret rfl rfl) hK
    · skip
      refine am_F.ltg K hK (fun c3 hK => ?_) (fun c3 hK => ?_)
      · show am_F _ _ 77 [.ref 0, .int what] [] (am_S f g) _
        refine am_F.ops (pc' := 88) (L' := [.ref 0, .int what]) (S' := [.int (f 2 12), .ref 1]) (μ' := (am_S f g)) 5 rfl ?_
        refine am_F.call rfl rfl (x_settle (f 2 12) f g hLc hLn hLf hLt hLr hRc hRn) (by decide) ?_
        obtain ⟨y4, hy4⟩ : ∃ z, (fn_settle (f 2 12) f g) = z := ⟨_, rfl⟩
        (try rw [hy4] at hK)
        (try rw [hy4])
        refine am_F.mem (F' := (am_row (am_row (am_row f 1 y4.1) 34 y4.2.1) 35 y4.2.2.1)) (G' := (am_row g 1 y4.2.2.2)) ?_ (by first | rfl | (funext a; by_cases z0 : a = 1; (subst z0; rfl); by_cases z1 : a = 34; (subst z1; rfl); by_cases z2 : a = 35; (subst z2; rfl); simp only [am_ui, am_ul, am_row_ne z0, am_row_ne z1, am_row_ne z2])) (by first | rfl | (funext a; by_cases z0 : a = 1; (subst z0; rfl); by_cases z1 : a = 34; (subst z1; rfl); by_cases z2 : a = 35; (subst z2; rfl); simp only [am_ui, am_ul, am_row_ne z0, am_row_ne z1, am_row_ne z2]))
        show am_F _ _ 91 [.ref 0, .int what] [] (am_S (am_row (am_row (am_row f 1 y4.1) 34 y4.2.1) 35 y4.2.2.1) (am_row g 1 y4.2.2.2)) _
        refine am_F.ops (pc' := 98) (L' := [.ref 0, .int what]) (S' := [.long (y4.2.2.2 5)]) (μ' := (am_S (am_row (am_row (am_row f 1 y4.1) 34 y4.2.1) 35 y4.2.2.1) (am_row g 1 y4.2.2.2))) 3 rfl ?_
        refine am_F.call rfl rfl (x_bitCountL (y4.2.2.2 5) (am_row (am_row (am_row f 1 y4.1) 34 y4.2.1) 35 y4.2.2.1) (am_row g 1 y4.2.2.2) ) (by decide) ?_
        show am_F _ _ 101 [.ref 0, .int what] [.int (fn_bitCountL (y4.2.2.2 5))] (am_S (am_row (am_row (am_row f 1 y4.1) 34 y4.2.1) 35 y4.2.2.1) (am_row g 1 y4.2.2.2)) _
        subst hKd
        exact am_F.eq (am_F.ret rfl rfl) hK
      · skip
        refine am_F.ltg K hK (fun c5 hK => ?_) (fun c5 hK => ?_)
        · show am_F _ _ 102 [.ref 0, .int what] [] (am_S f g) _
          refine am_F.ops (pc' := 112) (L' := [.ref 0, .int what]) (S' := [.int (f 3 7)]) (μ' := (am_S f g)) 4 rfl ?_
          refine am_F.mem (F' := (am_row (am_row (am_row f 1 (f 1)) 34 (f 34)) 35 (f 35))) (G' := (am_row g 1 (g 1))) ?_ (by first | rfl | (funext a; by_cases z0 : a = 1; (subst z0; rfl); by_cases z1 : a = 34; (subst z1; rfl); by_cases z2 : a = 35; (subst z2; rfl); simp only [am_ui, am_ul, am_row_ne z0, am_row_ne z1, am_row_ne z2])) (by first | rfl | (funext a; by_cases z0 : a = 1; (subst z0; rfl); by_cases z1 : a = 34; (subst z1; rfl); by_cases z2 : a = 35; (subst z2; rfl); simp only [am_ui, am_ul, am_row_ne z0, am_row_ne z1, am_row_ne z2]))
          subst hKd
          exact am_F.eq (am_F.ret rfl rfl) hK
        · skip
          refine am_F.ltg K hK (fun c6 hK => ?_) (fun c6 hK => ?_)
          · show am_F _ _ 113 [.ref 0, .int what] [] (am_S f g) _
            refine am_F.ops (pc' := 120) (L' := [.ref 0, .int what]) (S' := [.int (f 2 10)]) (μ' := (am_S f g)) 3 rfl ?_
            refine am_F.mem (F' := (am_row (am_row (am_row f 1 (f 1)) 34 (f 34)) 35 (f 35))) (G' := (am_row g 1 (g 1))) ?_ (by first | rfl | (funext a; by_cases z0 : a = 1; (subst z0; rfl); by_cases z1 : a = 34; (subst z1; rfl); by_cases z2 : a = 35; (subst z2; rfl); simp only [am_ui, am_ul, am_row_ne z0, am_row_ne z1, am_row_ne z2])) (by first | rfl | (funext a; by_cases z0 : a = 1; (subst z0; rfl); by_cases z1 : a = 34; (subst z1; rfl); by_cases z2 : a = 35; (subst z2; rfl); simp only [am_ui, am_ul, am_row_ne z0, am_row_ne z1, am_row_ne z2]))
            subst hKd
            exact am_F.eq (am_F.ret rfl rfl) hK
          · skip
            refine am_F.ltg K hK (fun c7 hK => ?_) (fun c7 hK => ?_)
            · show am_F _ _ 121 [.ref 0, .int what] [] (am_S f g) _
              refine am_F.ops (pc' := 128) (L' := [.ref 0, .int what]) (S' := [.int (f 75 1)]) (μ' := (am_S f g)) 3 rfl ?_
              refine am_F.mem (F' := (am_row (am_row (am_row f 1 (f 1)) 34 (f 34)) 35 (f 35))) (G' := (am_row g 1 (g 1))) ?_ (by first | rfl | (funext a; by_cases z0 : a = 1; (subst z0; rfl); by_cases z1 : a = 34; (subst z1; rfl); by_cases z2 : a = 35; (subst z2; rfl); simp only [am_ui, am_ul, am_row_ne z0, am_row_ne z1, am_row_ne z2])) (by first | rfl | (funext a; by_cases z0 : a = 1; (subst z0; rfl); by_cases z1 : a = 34; (subst z1; rfl); by_cases z2 : a = 35; (subst z2; rfl); simp only [am_ui, am_ul, am_row_ne z0, am_row_ne z1, am_row_ne z2]))
              subst hKd
              exact am_F.eq (am_F.ret rfl rfl) hK
            · skip
              refine am_F.ltg K hK (fun c8 hK => ?_) (fun c8 hK => ?_)
              · show am_F _ _ 129 [.ref 0, .int what] [] (am_S f g) _
                refine am_F.ops (pc' := 137) (L' := [.ref 0, .int what]) (S' := [.int 1, .ref 33]) (μ' := (am_S f g)) 4 rfl ?_
                refine am_F.ialE (m := 1) (N := 3) rfl rfl rfl rfl (by omega) (by decide) ?_
                show am_F _ _ 138 [.ref 0, .int what] [.int (f 33 1)] (am_S f g) _
                refine am_F.mem (F' := (am_row (am_row (am_row f 1 (f 1)) 34 (f 34)) 35 (f 35))) (G' := (am_row g 1 (g 1))) ?_ (by first | rfl | (funext a; by_cases z0 : a = 1; (subst z0; rfl); by_cases z1 : a = 34; (subst z1; rfl); by_cases z2 : a = 35; (subst z2; rfl); simp only [am_ui, am_ul, am_row_ne z0, am_row_ne z1, am_row_ne z2])) (by first | rfl | (funext a; by_cases z0 : a = 1; (subst z0; rfl); by_cases z1 : a = 34; (subst z1; rfl); by_cases z2 : a = 35; (subst z2; rfl); simp only [am_ui, am_ul, am_row_ne z0, am_row_ne z1, am_row_ne z2]))
                subst hKd
                exact am_F.eq (am_F.ret rfl rfl) hK
              · skip
                refine am_F.ltg K hK (fun c9 hK => ?_) (fun c9 hK => ?_)
                · show am_F _ _ 139 [.ref 0, .int what] [] (am_S f g) _
                  refine am_F.ops (pc' := 147) (L' := [.ref 0, .int what]) (S' := [.int 2, .ref 33]) (μ' := (am_S f g)) 4 rfl ?_
                  refine am_F.ialE (m := 2) (N := 3) rfl rfl rfl rfl (by omega) (by decide) ?_
                  show am_F _ _ 148 [.ref 0, .int what] [.int (f 33 2)] (am_S f g) _
                  refine am_F.mem (F' := (am_row (am_row (am_row f 1 (f 1)) 34 (f 34)) 35 (f 35))) (G' := (am_row g 1 (g 1))) ?_ (by first | rfl | (funext a; by_cases z0 : a = 1; (subst z0; rfl); by_cases z1 : a = 34; (subst z1; rfl); by_cases z2 : a = 35; (subst z2; rfl); simp only [am_ui, am_ul, am_row_ne z0, am_row_ne z1, am_row_ne z2])) (by first | rfl | (funext a; by_cases z0 : a = 1; (subst z0; rfl); by_cases z1 : a = 34; (subst z1; rfl); by_cases z2 : a = 35; (subst z2; rfl); simp only [am_ui, am_ul, am_row_ne z0, am_row_ne z1, am_row_ne z2]))
                  subst hKd
                  exact am_F.eq (am_F.ret rfl rfl) hK
                · skip
                  refine am_F.ltg K hK (fun c10 hK => ?_) (fun c10 hK => ?_)
                  · show am_F _ _ 149 [.ref 0, .int what] [] (am_S f g) _
                    refine am_F.ops (pc' := 157) (L' := [.ref 0, .int what]) (S' := [.int 0, .ref 33]) (μ' := (am_S f g)) 4 rfl ?_
                    refine am_F.ialE (m := 0) (N := 3) rfl rfl rfl rfl (by omega) (by decide) ?_
                    show am_F _ _ 158 [.ref 0, .int what] [.int (f 33 0)] (am_S f g) _
                    refine am_F.mem (F' := (am_row (am_row (am_row f 1 (f 1)) 34 (f 34)) 35 (f 35))) (G' := (am_row g 1 (g 1))) ?_ (by first | rfl | (funext a; by_cases z0 : a = 1; (subst z0; rfl); by_cases z1 : a = 34; (subst z1; rfl); by_cases z2 : a = 35; (subst z2; rfl); simp only [am_ui, am_ul, am_row_ne z0, am_row_ne z1, am_row_ne z2])) (by first | rfl | (funext a; by_cases z0 : a = 1; (subst z0; rfl); by_cases z1 : a = 34; (subst z1; rfl); by_cases z2 : a = 35; (subst z2; rfl); simp only [am_ui, am_ul, am_row_ne z0, am_row_ne z1, am_row_ne z2]))
                    subst hKd
                    exact am_F.eq (am_F.ret rfl rfl) hK
                  · skip
                    show am_F _ _ 159 [.ref 0, .int what] [] (am_S f g) _
                    refine am_F.ops (pc' := 160) (L' := [.ref 0, .int what]) (S' := [.int (-1)]) (μ' := (am_S f g)) 1 rfl ?_
                    refine am_F.mem (F' := (am_row (am_row (am_row f 1 (f 1)) 34 (f 34)) 35 (f 35))) (G' := (am_row g 1 (g 1))) ?_ (by first | rfl | (funext a; by_cases z0 : a = 1; (subst z0; rfl); by_cases z1 : a = 34; (subst z1; rfl); by_cases z2 : a = 35; (subst z2; rfl); simp only [am_ui, am_ul, am_row_ne z0, am_row_ne z1, am_row_ne z2])) (by first | rfl | (funext a; by_cases z0 : a = 1; (subst z0; rfl); by_cases z1 : a = 34; (subst z1; rfl); by_cases z2 : a = 35; (subst z2; rfl); simp only [am_ui, am_ul, am_row_ne z0, am_row_ne z1, am_row_ne z2]))
                    subst hKd
                    exact am_F.eq (am_F.ret rfl rfl) hK
