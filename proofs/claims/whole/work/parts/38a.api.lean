/-! the class's calls (wip/whole/m6.py) -/
/-- AccessLattice.isLoan -/
def fn_isLoan (v : Int32) (f : Nat → Nat → Int32) : Bool := (fn_between v 0 ((f 11 7) - 1))
theorem x_isLoan (v : Int32) (f : Nat → Nat → Int32) (g : Nat → Nat → Int64) (hLc : f 11 7 = nI (f 11 7).toNatClampNeg) (hLn : (f 11 7).toNatClampNeg ≤ 40) : am_D 1 41 2 [.ref 0, .int v] (am_S f g) (some (Value.int (am_b (fn_isLoan v f))), am_S f g) := by
  refine am_D.of (code := am_k_41) rfl (L0 := [.ref 0, .int v]) rfl ?_
  generalize hres : (some (Value.int (am_b (fn_isLoan v f))), am_S f g) = res
  obtain ⟨K, hKd⟩ : ∃ K : Bool → Prop, K = fun z => (some (Value.int (am_b z)), am_S f g) = res := ⟨_, rfl⟩
  have hK : K (fn_isLoan v f) := by rw [hKd]; exact hres
  clear hres
  unfold fn_isLoan at hK
  refine am_F.ops (pc' := 14) (L' := [.ref 0, .int v]) (S' := [.int ((f 11 7) - 1), .int 0, .int v]) (μ' := (am_S f g)) 8 rfl ?_
  refine am_F.call rfl rfl (x_between v 0 ((f 11 7) - 1) f g ) (by decide) ?_
  show am_F _ _ 17 [.ref 0, .int v] [.int (am_b (fn_between v 0 ((f 11 7) - 1)))] (am_S f g) _
  subst hKd
  exact am_F.eq (am_F.ret rfl (am_retB _ _)) hK
/-- AccessLattice.isRule -/
def fn_isRule (v : Int32) (f : Nat → Nat → Int32) : Bool := (bif (fn_between v 0 ((f 18 11) - 1)) then (bif (fn_has (f 18 8) v) then true else false) else false)
theorem x_isRule (v : Int32) (f : Nat → Nat → Int32) (g : Nat → Nat → Int64) (hRc : f 18 11 = nI (f 18 11).toNatClampNeg) (hRn : (f 18 11).toNatClampNeg ≤ 30) : am_D 1 66 2 [.ref 0, .int v] (am_S f g) (some (Value.int (am_b (fn_isRule v f))), am_S f g) := by
  refine am_D.of (code := am_k_66) rfl (L0 := [.ref 0, .int v]) rfl ?_
  generalize hres : (some (Value.int (am_b (fn_isRule v f))), am_S f g) = res
  obtain ⟨K, hKd⟩ : ∃ K : Bool → Prop, K = fun z => (some (Value.int (am_b z)), am_S f g) = res := ⟨_, rfl⟩
  have hK : K (fn_isRule v f) := by rw [hKd]; exact hres
  clear hres
  unfold fn_isRule at hK
  refine am_F.ops (pc' := 14) (L' := [.ref 0, .int v]) (S' := [.int ((f 18 11) - 1), .int 0, .int v]) (μ' := (am_S f g)) 8 rfl ?_
  refine am_F.call rfl rfl (x_between v 0 ((f 18 11) - 1) f g ) (by decide) ?_
  show am_F _ _ 17 [.ref 0, .int v] [.int (am_b (fn_between v 0 ((f 18 11) - 1)))] (am_S f g) _
  refine am_F.to (am_To.bifB (pc' := 42) (L2 := [.ref 0, .int v]) (S2 := []) (μ2 := (am_S f g)) (a := (bif (fn_has (f 18 8) v) then true else false)) (b := false) 1 rfl (fun c1 => ?_) (fun c1 => ?_)) ?_
  · intro res9 g9
    show am_F _ _ 20 [.ref 0, .int v] [] (am_S f g) _
    refine am_F.ops (pc' := 31) (L' := [.ref 0, .int v]) (S' := [.int v, .int (f 18 8)]) (μ' := (am_S f g)) 5 rfl ?_
    refine am_F.call rfl rfl (x_has (f 18 8) v f g ) (by decide) ?_
    show am_F _ _ 34 [.ref 0, .int v] [.int (am_b (fn_has (f 18 8) v))] (am_S f g) _
    refine am_F.to (am_To.bifB (pc' := 42) (L2 := [.ref 0, .int v]) (S2 := []) (μ2 := (am_S f g)) (a := true) (b := false) 1 rfl (fun c2 => ?_) (fun c2 => ?_)) g9
    · intro res9 g9
      show am_F _ _ 37 [.ref 0, .int v] [] (am_S f g) _
      refine am_F.ops (pc' := 42) (L' := [.ref 0, .int v]) (S' := [.int 1]) (μ' := (am_S f g)) 2 rfl ?_
      exact g9
    · intro res9 g9
      show am_F _ _ 41 [.ref 0, .int v] [] (am_S f g) _
      refine am_F.ops (pc' := 42) (L' := [.ref 0, .int v]) (S' := [.int 0]) (μ' := (am_S f g)) 1 rfl ?_
      exact g9
  · intro res9 g9
    show am_F _ _ 41 [.ref 0, .int v] [] (am_S f g) _
    refine am_F.ops (pc' := 42) (L' := [.ref 0, .int v]) (S' := [.int 0]) (μ' := (am_S f g)) 1 rfl ?_
    exact g9
  show am_F _ _ 42 [.ref 0, .int v] [.int (am_b (bif (fn_between v 0 ((f 18 11) - 1)) then (bif (fn_has (f 18 8) v) then true else false) else false))] (am_S f g) _
  subst hKd
  exact am_F.eq (am_F.ret rfl (am_retB _ _)) hK
theorem am_iRule {v : Int32} {f : Nat → Nat → Int32} {n : Nat} (hRc : f 18 11 = nI n) (hn : n ≤ 65536) (h : fn_isRule v f = true) : ∃ j : Nat, j < n ∧ v = nI j := by
  unfold fn_isRule at h
  cases h1 : fn_between v 0 (f 18 11 - 1) with
  | true => exact am_btwM h1 hRc hn
  | false => rw [h1] at h; cases h
theorem am_iLoan {v : Int32} {f : Nat → Nat → Int32} {n : Nat} (hLc : f 11 7 = nI n) (hn : n ≤ 65536) (h : fn_isLoan v f = true) : ∃ j : Nat, j < n ∧ v = nI j := by
  unfold fn_isLoan at h
  exact am_btwM h hLc hn
theorem am_btwP {v lo hi : Int32} {N : Nat} (h : fn_between v lo hi = true) (h0 : ¬ v < 0) (hN : hi.toInt = (N : Int) - 1) : ∃ n : Nat, n < N ∧ v = nI n := by
  obtain ⟨-, h2⟩ := am_btw h
  rw [Int32.le_iff_toInt_le] at h2
  obtain ⟨j, h3, h4⟩ := nI_of h0
  refine ⟨j, ?_, h4⟩
  rw [h4, nI_toInt h3] at h2
  omega
/-- AccessLattice.attribute -/
def fn_attribute (side : Int32) (of : Int32) (k : Int32) (v : Int32) (f : Nat → Nat → Int32) : Int32 × (Nat → Int32) × (Nat → Int32) := (bif (fn_within01 side) then (bif (fn_isThing of) then (bif (fn_between k 0 3) then (bif (fn_between v 0 99) then (if side = 0 then (f 27 (((of.toNatClampNeg) * 4) + (k.toNatClampNeg)), upd (f 27) (((of.toNatClampNeg) * 4) + (k.toNatClampNeg)) v, f 28) else (f 28 (((of.toNatClampNeg) * 4) + (k.toNatClampNeg)), f 27, upd (f 28) (((of.toNatClampNeg) * 4) + (k.toNatClampNeg)) v)) else ((-1), f 27, f 28)) else ((-1), f 27, f 28)) else ((-1), f 27, f 28)) else ((-1), f 27, f 28))
theorem x_attribute (side : Int32) (of : Int32) (k : Int32) (v : Int32) (f : Nat → Nat → Int32) (g : Nat → Nat → Int64)  : am_D 2 12 8 [.ref 0, .int side, .int of, .int k, .int v] (am_S f g) (some (Value.int ((fn_attribute side of k v f).1)), am_S (am_row (am_row f 27 ((fn_attribute side of k v f).2.1)) 28 ((fn_attribute side of k v f).2.2)) g) := by
  refine am_D.of (code := am_k_12) rfl (L0 := [.ref 0, .int side, .int of, .int k, .int v, am_un, am_un, am_un]) rfl ?_
  generalize hres : (some (Value.int ((fn_attribute side of k v f).1)), am_S (am_row (am_row f 27 ((fn_attribute side of k v f).2.1)) 28 ((fn_attribute side of k v f).2.2)) g) = res
  obtain ⟨K, hKd⟩ : ∃ K : (Int32 × (Nat → Int32) × (Nat → Int32)) → Prop, K = fun z => (some (Value.int z.1), am_S (am_row (am_row f 27 z.2.1) 28 z.2.2) g) = res := ⟨_, rfl⟩
  have hK : K (fn_attribute side of k v f) := by rw [hKd]; exact hres
  clear hres
  unfold fn_attribute at hK
  refine am_F.ops (pc' := 1) (L' := [.ref 0, .int side, .int of, .int k, .int v, am_un, am_un, am_un]) (S' := [.int side]) (μ' := (am_S f g)) 1 rfl ?_
  refine am_F.call rfl rfl (x_within01 side f g ) (by decide) ?_
  show am_F _ _ 4 [.ref 0, .int side, .int of, .int k, .int v, am_un, am_un, am_un] [.int (am_b (fn_within01 side))] (am_S f g) _
  refine am_F.bifK 1 rfl K hK (fun c1 hK => ?_) (fun c1 hK => ?_)
  · show am_F _ _ 7 [.ref 0, .int side, .int of, .int k, .int v, am_un, am_un, am_un] [] (am_S f g) _
    refine am_F.ops (pc' := 8) (L' := [.ref 0, .int side, .int of, .int k, .int v, am_un, am_un, am_un]) (S' := [.int of]) (μ' := (am_S f g)) 1 rfl ?_
    refine am_F.call rfl rfl (x_isThing of f g ) (by decide) ?_
    show am_F _ _ 11 [.ref 0, .int side, .int of, .int k, .int v, am_un, am_un, am_un] [.int (am_b (fn_isThing of))] (am_S f g) _
    refine am_F.bifK 1 rfl K hK (fun c2 hK => ?_) (fun c2 hK => ?_)
    · obtain ⟨of_n, hof_n, eof_n⟩ := am_iThing c2
      subst eof_n
      try simp only [nI_clamp (show of_n < 2147483648 by omega)] at hK
      show am_F _ _ 14 [.ref 0, .int side, .int (nI of_n), .int k, .int v, am_un, am_un, am_un] [] (am_S f g) _
      refine am_F.ops (pc' := 17) (L' := [.ref 0, .int side, .int (nI of_n), .int k, .int v, am_un, am_un, am_un]) (S' := [.int 3, .int 0, .int k]) (μ' := (am_S f g)) 3 rfl ?_
      refine am_F.call rfl rfl (x_between k 0 3 f g ) (by decide) ?_
      show am_F _ _ 20 [.ref 0, .int side, .int (nI of_n), .int k, .int v, am_un, am_un, am_un] [.int (am_b (fn_between k 0 3))] (am_S f g) _
      refine am_F.bifK 1 rfl K hK (fun c3 hK => ?_) (fun c3 hK => ?_)
      · obtain ⟨k_n, hk_n, ek_n⟩ := am_btwN (N := 4) c3 (by decide)
        subst ek_n
        try simp only [nI_clamp (show k_n < 2147483648 by omega)] at hK
        show am_F _ _ 23 [.ref 0, .int side, .int (nI of_n), .int (nI k_n), .int v, am_un, am_un, am_un] [] (am_S f g) _
        refine am_F.ops (pc' := 28) (L' := [.ref 0, .int side, .int (nI of_n), .int (nI k_n), .int v, am_un, am_un, am_un]) (S' := [.int 99, .int 0, .int v]) (μ' := (am_S f g)) 3 rfl ?_
        refine am_F.call rfl rfl (x_between v 0 99 f g ) (by decide) ?_
        show am_F _ _ 31 [.ref 0, .int side, .int (nI of_n), .int (nI k_n), .int v, am_un, am_un, am_un] [.int (am_b (fn_between v 0 99))] (am_S f g) _
        refine am_F.bifK 1 rfl K hK (fun c4 hK => ?_) (fun c4 hK => ?_)
        · obtain ⟨v_n, hv_n, ev_n⟩ := am_btwN (N := 100) c4 (by decide)
          subst ev_n
          try simp only [nI_clamp (show v_n < 2147483648 by omega)] at hK
          show am_F _ _ 36 [.ref 0, .int side, .int (nI of_n), .int (nI k_n), .int (nI v_n), am_un, am_un, am_un] [] (am_S f g) _
          refine am_F.ops (pc' := 37) (L' := [.ref 0, .int side, .int (nI of_n), .int (nI k_n), .int (nI v_n), am_un, am_un, am_un]) (S' := [.int side]) (μ' := (am_S f g)) 1 rfl ?_
          refine am_F.iteK 1 rfl K hK (fun c6 hK => ?_) (fun c6 hK => ?_)
          · show am_F _ _ 40 [.ref 0, .int side, .int (nI of_n), .int (nI k_n), .int (nI v_n), am_un, am_un, am_un] [] (am_S f g) _
            refine am_F.ops (pc' := 70) (L' := [.ref 0, .int side, .int (nI of_n), .int (nI k_n), .int (nI v_n), .ref 27, .int (((nI of_n) * 4) + (nI k_n)), am_un]) (S' := [.int (((nI of_n) * 4) + (nI k_n)), .ref 27]) (μ' := (am_S f g)) 13 rfl ?_
            refine am_F.ialE (m := ((of_n * 4) + k_n)) (N := 64) rfl rfl rfl (am_addE (am_mulE rfl rfl) rfl) (by omega) (by decide) ?_
            show am_F _ _ 71 [.ref 0, .int side, .int (nI of_n), .int (nI k_n), .int (nI v_n), .ref 27, .int (((nI of_n) * 4) + (nI k_n)), am_un] [.int (f 27 ((of_n * 4) + k_n))] (am_S f g) _
            refine am_F.ops (pc' := 79) (L' := [.ref 0, .int side, .int (nI of_n), .int (nI k_n), .int (nI v_n), .ref 27, .int (((nI of_n) * 4) + (nI k_n)), .int (f 27 ((of_n * 4) + k_n))]) (S' := [.int (nI v_n), .int (((nI of_n) * 4) + (nI k_n)), .ref 27]) (μ' := (am_S f g)) 4 rfl ?_
            refine am_F.iasE (F' := (am_row f 27 (upd (f 27) ((of_n * 4) + k_n) (nI v_n)))) (m := ((of_n * 4) + k_n)) (N := 64) rfl rfl rfl (am_addE (am_mulE rfl rfl) rfl) (by omega) (by decide) (by first | rfl | (funext a; by_cases z0 : a = 27; (subst z0; rfl); simp only [am_ui, am_ul, am_row_ne z0])) ?_
            refine am_F.ops (pc' := 82) (L' := [.ref 0, .int side, .int (nI of_n), .int (nI k_n), .int (nI v_n), .ref 27, .int (((nI of_n) * 4) + (nI k_n)), .int (f 27 ((of_n * 4) + k_n))]) (S' := [.int (f 27 ((of_n * 4) + k_n))]) (μ' := (am_S (am_row f 27 (upd (f 27) ((of_n * 4) + k_n) (nI v_n))) g)) 1 rfl ?_
            refine am_F.mem (F' := (am_row (am_row f 27 (upd (f 27) ((of_n * 4) + k_n) (nI v_n))) 28 (f 28))) (G' := g) ?_ (by first | rfl | (funext a; by_cases z0 : a = 27; (subst z0; rfl); by_cases z1 : a = 28; (subst z1; rfl); simp only [am_ui, am_ul, am_row_ne z0, am_row_ne z1])) (by first | rfl | (funext a; by_cases z0 : a = 27; (subst z0; rfl); by_cases z1 : a = 28; (subst z1; rfl); simp only [am_ui, am_ul, am_row_ne z0, am_row_ne z1]))
            subst hKd
            exact am_F.eq (am_F.ret rfl rfl) hK
          · show am_F _ _ 50 [.ref 0, .int side, .int (nI of_n), .int (nI k_n), .int (nI v_n), am_un, am_un, am_un] [] (am_S f g) _
            refine am_F.ops (pc' := 70) (L' := [.ref 0, .int side, .int (nI of_n), .int (nI k_n), .int (nI v_n), .ref 28, .int (((nI of_n) * 4) + (nI k_n)), am_un]) (S' := [.int (((nI of_n) * 4) + (nI k_n)), .ref 28]) (μ' := (am_S f g)) 12 rfl ?_
            refine am_F.ialE (m := ((of_n * 4) + k_n)) (N := 64) rfl rfl rfl (am_addE (am_mulE rfl rfl) rfl) (by omega) (by decide) ?_
            show am_F _ _ 71 [.ref 0, .int side, .int (nI of_n), .int (nI k_n), .int (nI v_n), .ref 28, .int (((nI of_n) * 4) + (nI k_n)), am_un] [.int (f 28 ((of_n * 4) + k_n))] (am_S f g) _
            refine am_F.ops (pc' := 79) (L' := [.ref 0, .int side, .int (nI of_n), .int (nI k_n), .int (nI v_n), .ref 28, .int (((nI of_n) * 4) + (nI k_n)), .int (f 28 ((of_n * 4) + k_n))]) (S' := [.int (nI v_n), .int (((nI of_n) * 4) + (nI k_n)), .ref 28]) (μ' := (am_S f g)) 4 rfl ?_
            refine am_F.iasE (F' := (am_row f 28 (upd (f 28) ((of_n * 4) + k_n) (nI v_n)))) (m := ((of_n * 4) + k_n)) (N := 64) rfl rfl rfl (am_addE (am_mulE rfl rfl) rfl) (by omega) (by decide) (by first | rfl | (funext a; by_cases z0 : a = 28; (subst z0; rfl); simp only [am_ui, am_ul, am_row_ne z0])) ?_
            refine am_F.ops (pc' := 82) (L' := [.ref 0, .int side, .int (nI of_n), .int (nI k_n), .int (nI v_n), .ref 28, .int (((nI of_n) * 4) + (nI k_n)), .int (f 28 ((of_n * 4) + k_n))]) (S' := [.int (f 28 ((of_n * 4) + k_n))]) (μ' := (am_S (am_row f 28 (upd (f 28) ((of_n * 4) + k_n) (nI v_n))) g)) 1 rfl ?_
            refine am_F.mem (F' := (am_row (am_row f 27 (f 27)) 28 (upd (f 28) ((of_n * 4) + k_n) (nI v_n)))) (G' := g) ?_ (by first | rfl | (funext a; by_cases z0 : a = 27; (subst z0; rfl); by_cases z1 : a = 28; (subst z1; rfl); simp only [am_ui, am_ul, am_row_ne z0, am_row_ne z1])) (by first | rfl | (funext a; by_cases z0 : a = 27; (subst z0; rfl); by_cases z1 : a = 28; (subst z1; rfl); simp only [am_ui, am_ul, am_row_ne z0, am_row_ne z1]))
            subst hKd
            exact am_F.eq (am_F.ret rfl rfl) hK
        · show am_F _ _ 34 [.ref 0, .int side, .int (nI of_n), .int (nI k_n), .int v, am_un, am_un, am_un] [] (am_S f g) _
          refine am_F.ops (pc' := 35) (L' := [.ref 0, .int side, .int (nI of_n), .int (nI k_n), .int v, am_un, am_un, am_un]) (S' := [.int (-1)]) (μ' := (am_S f g)) 1 rfl ?_
          refine am_F.mem (F' := (am_row (am_row f 27 (f 27)) 28 (f 28))) (G' := g) ?_ (by first | rfl | (funext a; by_cases z0 : a = 27; (subst z0; rfl); by_cases z1 : a = 28; (subst z1; rfl); simp only [am_ui, am_ul, am_row_ne z0, am_row_ne z1])) (by first | rfl | (funext a; by_cases z0 : a = 27; (subst z0; rfl); by_cases z1 : a = 28; (subst z1; rfl); simp only [am_ui, am_ul, am_row_ne z0, am_row_ne z1]))
          subst hKd
          exact am_F.eq (am_F.ret rfl rfl) hK
      · show am_F _ _ 34 [.ref 0, .int side, .int (nI of_n), .int k, .int v, am_un, am_un, am_un] [] (am_S f g) _
        refine am_F.ops (pc' := 35) (L' := [.ref 0, .int side, .int (nI of_n), .int k, .int v, am_un, am_un, am_un]) (S' := [.int (-1)]) (μ' := (am_S f g)) 1 rfl ?_
        refine am_F.mem (F' := (am_row (am_row f 27 (f 27)) 28 (f 28))) (G' := g) ?_ (by first | rfl | (funext a; by_cases z0 : a = 27; (subst z0; rfl); by_cases z1 : a = 28; (subst z1; rfl); simp only [am_ui, am_ul, am_row_ne z0, am_row_ne z1])) (by first | rfl | (funext a; by_cases z0 : a = 27; (subst z0; rfl); by_cases z1 : a = 28; (subst z1; rfl); simp only [am_ui, am_ul, am_row_ne z0, am_row_ne z1]))
        subst hKd
        exact am_F.eq (am_F.ret rfl rfl) hK
    · show am_F _ _ 34 [.ref 0, .int side, .int of, .int k, .int v, am_un, am_un, am_un] [] (am_S f g) _
      refine am_F.ops (pc' := 35) (L' := [.ref 0, .int side, .int of, .int k, .int v, am_un, am_un, am_un]) (S' := [.int (-1)]) (μ' := (am_S f g)) 1 rfl ?_
      refine am_F.mem (F' := (am_row (am_row f 27 (f 27)) 28 (f 28))) (G' := g) ?_ (by first | rfl | (funext a; by_cases z0 : a = 27; (subst z0; rfl); by_cases z1 : a = 28; (subst z1; rfl); simp only [am_ui, am_ul, am_row_ne z0, am_row_ne z1])) (by first | rfl | (funext a; by_cases z0 : a = 27; (subst z0; rfl); by_cases z1 : a = 28; (subst z1; rfl); simp only [am_ui, am_ul, am_row_ne z0, am_row_ne z1]))
      subst hKd
      exact am_F.eq (am_F.ret rfl rfl) hK
  · show am_F _ _ 34 [.ref 0, .int side, .int of, .int k, .int v, am_un, am_un, am_un] [] (am_S f g) _
    refine am_F.ops (pc' := 35) (L' := [.ref 0, .int side, .int of, .int k, .int v, am_un, am_un, am_un]) (S' := [.int (-1)]) (μ' := (am_S f g)) 1 rfl ?_
    refine am_F.mem (F' := (am_row (am_row f 27 (f 27)) 28 (f 28))) (G' := g) ?_ (by first | rfl | (funext a; by_cases z0 : a = 27; (subst z0; rfl); by_cases z1 : a = 28; (subst z1; rfl); simp only [am_ui, am_ul, am_row_ne z0, am_row_ne z1])) (by first | rfl | (funext a; by_cases z0 : a = 27; (subst z0; rfl); by_cases z1 : a = 28; (subst z1; rfl); simp only [am_ui, am_ul, am_row_ne z0, am_row_ne z1]))
    subst hKd
    exact am_F.eq (am_F.ret rfl rfl) hK
/-- AccessLattice.within -/
def fn_within (thing : Int32) (other : Int32) (f : Nat → Nat → Int32) : Int32 × (Nat → Int32) := (bif (fn_isThing thing) then (bif (fn_between other (-1) 15) then (if other < 0 then (f 29 (thing.toNatClampNeg), upd (f 29) (thing.toNatClampNeg) other) else (if (fn_stepsUp (other.toNatClampNeg) thing f) < 0 then (f 29 (thing.toNatClampNeg), upd (f 29) (thing.toNatClampNeg) other) else ((-4), f 29))) else ((-1), f 29)) else ((-1), f 29))
theorem x_within (thing : Int32) (other : Int32) (f : Nat → Nat → Int32) (g : Nat → Nat → Int64) (hPa : ∀ t, t < 16 → (f 29 t).toInt < 16) : am_D 2 16 4 [.ref 0, .int thing, .int other] (am_S f g) (some (Value.int ((fn_within thing other f).1)), am_S (am_row f 29 ((fn_within thing other f).2)) g) := by
  refine am_D.of (code := am_k_16) rfl (L0 := [.ref 0, .int thing, .int other, am_un]) rfl ?_
  generalize hres : (some (Value.int ((fn_within thing other f).1)), am_S (am_row f 29 ((fn_within thing other f).2)) g) = res
  obtain ⟨K, hKd⟩ : ∃ K : (Int32 × (Nat → Int32)) → Prop, K = fun z => (some (Value.int z.1), am_S (am_row f 29 z.2) g) = res := ⟨_, rfl⟩
  have hK : K (fn_within thing other f) := by rw [hKd]; exact hres
  clear hres
  unfold fn_within at hK
  refine am_F.ops (pc' := 1) (L' := [.ref 0, .int thing, .int other, am_un]) (S' := [.int thing]) (μ' := (am_S f g)) 1 rfl ?_
  refine am_F.call rfl rfl (x_isThing thing f g ) (by decide) ?_
  show am_F _ _ 4 [.ref 0, .int thing, .int other, am_un] [.int (am_b (fn_isThing thing))] (am_S f g) _
  refine am_F.bifK 1 rfl K hK (fun c1 hK => ?_) (fun c1 hK => ?_)
  · obtain ⟨thing_n, hthing_n, ething_n⟩ := am_iThing c1
    subst ething_n
    try simp only [nI_clamp (show thing_n < 2147483648 by omega)] at hK
    show am_F _ _ 7 [.ref 0, .int (nI thing_n), .int other, am_un] [] (am_S f g) _
    refine am_F.ops (pc' := 11) (L' := [.ref 0, .int (nI thing_n), .int other, am_un]) (S' := [.int 15, .int (-1), .int other]) (μ' := (am_S f g)) 3 rfl ?_
    refine am_F.call rfl rfl (x_between other (-1) 15 f g ) (by decide) ?_
    show am_F _ _ 14 [.ref 0, .int (nI thing_n), .int other, am_un] [.int (am_b (fn_between other (-1) 15))] (am_S f g) _
    refine am_F.bifK 1 rfl K hK (fun c2 hK => ?_) (fun c2 hK => ?_)
    · show am_F _ _ 19 [.ref 0, .int (nI thing_n), .int other, am_un] [] (am_S f g) _
      refine am_F.ops (pc' := 20) (L' := [.ref 0, .int (nI thing_n), .int other, am_un]) (S' := [.int other]) (μ' := (am_S f g)) 1 rfl ?_
      refine am_F.iteK 1 rfl K hK (fun c3 hK => ?_) (fun c3 hK => ?_)
      · show am_F _ _ 38 [.ref 0, .int (nI thing_n), .int other, am_un] [] (am_S f g) _
        refine am_F.ops (pc' := 46) (L' := [.ref 0, .int (nI thing_n), .int other, am_un]) (S' := [.int (nI thing_n), .ref 29]) (μ' := (am_S f g)) 4 rfl ?_
        refine am_F.ialE (m := thing_n) (N := 16) rfl rfl rfl rfl (by omega) (by decide) ?_
        show am_F _ _ 47 [.ref 0, .int (nI thing_n), .int other, am_un] [.int (f 29 thing_n)] (am_S f g) _
        refine am_F.ops (pc' := 57) (L' := [.ref 0, .int (nI thing_n), .int other, .int (f 29 thing_n)]) (S' := [.int other, .int (nI thing_n), .ref 29]) (μ' := (am_S f g)) 6 rfl ?_
        refine am_F.iasE (F' := (am_row f 29 (upd (f 29) thing_n other))) (m := thing_n) (N := 16) rfl rfl rfl rfl (by omega) (by decide) (by first | rfl | (funext a; by_cases z0 : a = 29; (subst z0; rfl); simp only [am_ui, am_ul, am_row_ne z0])) ?_
        refine am_F.ops (pc' := 59) (L' := [.ref 0, .int (nI thing_n), .int other, .int (f 29 thing_n)]) (S' := [.int (f 29 thing_n)]) (μ' := (am_S (am_row f 29 (upd (f 29) thing_n other)) g)) 1 rfl ?_
        subst hKd
        exact am_F.eq (am_F.ret rfl rfl) hK
      · show am_F _ _ 23 [.ref 0, .int (nI thing_n), .int other, am_un] [] (am_S f g) _
        obtain ⟨other_n, hother_n, eother_n⟩ := am_btwP (N := 16) (by assumption) (by assumption) (by decide)
        subst eother_n
        try simp only [nI_clamp (show other_n < 2147483648 by omega)] at hK
        show am_F _ _ 23 [.ref 0, .int (nI thing_n), .int (nI other_n), am_un] [] (am_S f g) _
        refine am_F.ops (pc' := 29) (L' := [.ref 0, .int (nI thing_n), .int (nI other_n), am_un]) (S' := [.int (nI thing_n), .int (nI other_n), .ref 2]) (μ' := (am_S f g)) 4 rfl ?_
        refine am_F.call rfl rfl (x_stepsUp other_n (nI thing_n) f g hPa (by omega)) (by decide) ?_
        show am_F _ _ 32 [.ref 0, .int (nI thing_n), .int (nI other_n), am_un] [.int (fn_stepsUp other_n (nI thing_n) f)] (am_S f g) _
        refine am_F.iteK 1 rfl K hK (fun c4 hK => ?_) (fun c4 hK => ?_)
        · show am_F _ _ 38 [.ref 0, .int (nI thing_n), .int (nI other_n), am_un] [] (am_S f g) _
          refine am_F.ops (pc' := 46) (L' := [.ref 0, .int (nI thing_n), .int (nI other_n), am_un]) (S' := [.int (nI thing_n), .ref 29]) (μ' := (am_S f g)) 4 rfl ?_
          refine am_F.ialE (m := thing_n) (N := 16) rfl rfl rfl rfl (by omega) (by decide) ?_
          show am_F _ _ 47 [.ref 0, .int (nI thing_n), .int (nI other_n), am_un] [.int (f 29 thing_n)] (am_S f g) _
          refine am_F.ops (pc' := 57) (L' := [.ref 0, .int (nI thing_n), .int (nI other_n), .int (f 29 thing_n)]) (S' := [.int (nI other_n), .int (nI thing_n), .ref 29]) (μ' := (am_S f g)) 6 rfl ?_
          refine am_F.iasE (F' := (am_row f 29 (upd (f 29) thing_n (nI other_n)))) (m := thing_n) (N := 16) rfl rfl rfl rfl (by omega) (by decide) (by first | rfl | (funext a; by_cases z0 : a = 29; (subst z0; rfl); simp only [am_ui, am_ul, am_row_ne z0])) ?_
          refine am_F.ops (pc' := 59) (L' := [.ref 0, .int (nI thing_n), .int (nI other_n), .int (f 29 thing_n)]) (S' := [.int (f 29 thing_n)]) (μ' := (am_S (am_row f 29 (upd (f 29) thing_n (nI other_n))) g)) 1 rfl ?_
          subst hKd
          exact am_F.eq (am_F.ret rfl rfl) hK
        · show am_F _ _ 35 [.ref 0, .int (nI thing_n), .int (nI other_n), am_un] [] (am_S f g) _
          refine am_F.ops (pc' := 37) (L' := [.ref 0, .int (nI thing_n), .int (nI other_n), am_un]) (S' := [.int (-4)]) (μ' := (am_S f g)) 1 rfl ?_
          refine am_F.mem (F' := (am_row f 29 (f 29))) (G' := g) ?_ (by first | rfl | (funext a; by_cases z0 : a = 29; (subst z0; rfl); simp only [am_ui, am_ul, am_row_ne z0])) (by first | rfl | (funext a; by_cases z0 : a = 29; (subst z0; rfl); simp only [am_ui, am_ul, am_row_ne z0]))
          subst hKd
          exact am_F.eq (am_F.ret rfl rfl) hK
    · show am_F _ _ 17 [.ref 0, .int (nI thing_n), .int other, am_un] [] (am_S f g) _
      refine am_F.ops (pc' := 18) (L' := [.ref 0, .int (nI thing_n), .int other, am_un]) (S' := [.int (-1)]) (μ' := (am_S f g)) 1 rfl ?_
      refine am_F.mem (F' := (am_row f 29 (f 29))) (G' := g) ?_ (by first | rfl | (funext a; by_cases z0 : a = 29; (subst z0; rfl); simp only [am_ui, am_ul, am_row_ne z0])) (by first | rfl | (funext a; by_cases z0 : a = 29; (subst z0; rfl); simp only [am_ui, am_ul, am_row_ne z0]))
      subst hKd
      exact am_F.eq (am_F.ret rfl rfl) hK
  · show am_F _ _ 17 [.ref 0, .int thing, .int other, am_un] [] (am_S f g) _
    refine am_F.ops (pc' := 18) (L' := [.ref 0, .int thing, .int other, am_un]) (S' := [.int (-1)]) (μ' := (am_S f g)) 1 rfl ?_
    refine am_F.mem (F' := (am_row f 29 (f 29))) (G' := g) ?_ (by first | rfl | (funext a; by_cases z0 : a = 29; (subst z0; rfl); simp only [am_ui, am_ul, am_row_ne z0])) (by first | rfl | (funext a; by_cases z0 : a = 29; (subst z0; rfl); simp only [am_ui, am_ul, am_row_ne z0]))
    subst hKd
    exact am_F.eq (am_F.ret rfl rfl) hK
/-- AccessLattice.addSenior -/
def fn_addSenior (role : Nat) (other : Nat) (f : Nat → Nat → Int32) (g : Nat → Nat → Int64) : Int32 × (Nat → Int32) × (Nat → Int32) × (Nat → Int32) × (Nat → Int32) × (Nat → Int32) × (Nat → Int32) × (Nat → Int32) × (Nat → Int32) × (Nat → Int64) := (bif (fn_has (f 4 role) (nI other)) then ((-2), f 1, f 3, f 4, f 5, f 6, f 7, f 34, f 35, g 1) else (if (f 3 7) < 40 then (bif (fn_has (f 6 other) (nI role)) then ((-4), f 1, f 3, f 4, f 5, f 6, f 7, f 34, f 35, g 1) else (bif ((fn_someBarred (am_row (am_row (am_row (am_row (am_row f 3 (fn_put role other true f).1) 4 (fn_put role other true f).2.1) 5 (fn_put role other true f).2.2.1) 6 (fn_put role other true f).2.2.2.1) 7 (fn_put role other true f).2.2.2.2) g).1) then ((-6), (fn_someBarred (am_row (am_row (am_row (am_row (am_row f 3 (fn_put role other true f).1) 4 (fn_put role other true f).2.1) 5 (fn_put role other true f).2.2.1) 6 (fn_put role other true f).2.2.2.1) 7 (fn_put role other true f).2.2.2.2) g).2.1, (fn_put role other false (am_row (am_row (am_row (am_row (am_row (am_row (am_row (am_row f 1 (fn_someBarred (am_row (am_row (am_row (am_row (am_row f 3 (fn_put role other true f).1) 4 (fn_put role other true f).2.1) 5 (fn_put role other true f).2.2.1) 6 (fn_put role other true f).2.2.2.1) 7 (fn_put role other true f).2.2.2.2) g).2.1) 3 (fn_put role other true f).1) 4 (fn_put role other true f).2.1) 5 (fn_put role other true f).2.2.1) 6 (fn_put role other true f).2.2.2.1) 7 (fn_put role other true f).2.2.2.2) 34 (fn_someBarred (am_row (am_row (am_row (am_row (am_row f 3 (fn_put role other true f).1) 4 (fn_put role other true f).2.1) 5 (fn_put role other true f).2.2.1) 6 (fn_put role other true f).2.2.2.1) 7 (fn_put role other true f).2.2.2.2) g).2.2.1) 35 (fn_someBarred (am_row (am_row (am_row (am_row (am_row f 3 (fn_put role other true f).1) 4 (fn_put role other true f).2.1) 5 (fn_put role other true f).2.2.1) 6 (fn_put role other true f).2.2.2.1) 7 (fn_put role other true f).2.2.2.2) g).2.2.2.1)).1, (fn_put role other false (am_row (am_row (am_row (am_row (am_row (am_row (am_row (am_row f 1 (fn_someBarred (am_row (am_row (am_row (am_row (am_row f 3 (fn_put role other true f).1) 4 (fn_put role other true f).2.1) 5 (fn_put role other true f).2.2.1) 6 (fn_put role other true f).2.2.2.1) 7 (fn_put role other true f).2.2.2.2) g).2.1) 3 (fn_put role other true f).1) 4 (fn_put role other true f).2.1) 5 (fn_put role other true f).2.2.1) 6 (fn_put role other true f).2.2.2.1) 7 (fn_put role other true f).2.2.2.2) 34 (fn_someBarred (am_row (am_row (am_row (am_row (am_row f 3 (fn_put role other true f).1) 4 (fn_put role other true f).2.1) 5 (fn_put role other true f).2.2.1) 6 (fn_put role other true f).2.2.2.1) 7 (fn_put role other true f).2.2.2.2) g).2.2.1) 35 (fn_someBarred (am_row (am_row (am_row (am_row (am_row f 3 (fn_put role other true f).1) 4 (fn_put role other true f).2.1) 5 (fn_put role other true f).2.2.1) 6 (fn_put role other true f).2.2.2.1) 7 (fn_put role other true f).2.2.2.2) g).2.2.2.1)).2.1, (fn_put role other false (am_row (am_row (am_row (am_row (am_row (am_row (am_row (am_row f 1 (fn_someBarred (am_row (am_row (am_row (am_row (am_row f 3 (fn_put role other true f).1) 4 (fn_put role other true f).2.1) 5 (fn_put role other true f).2.2.1) 6 (fn_put role other true f).2.2.2.1) 7 (fn_put role other true f).2.2.2.2) g).2.1) 3 (fn_put role other true f).1) 4 (fn_put role other true f).2.1) 5 (fn_put role other true f).2.2.1) 6 (fn_put role other true f).2.2.2.1) 7 (fn_put role other true f).2.2.2.2) 34 (fn_someBarred (am_row (am_row (am_row (am_row (am_row f 3 (fn_put role other true f).1) 4 (fn_put role other true f).2.1) 5 (fn_put role other true f).2.2.1) 6 (fn_put role other true f).2.2.2.1) 7 (fn_put role other true f).2.2.2.2) g).2.2.1) 35 (fn_someBarred (am_row (am_row (am_row (am_row (am_row f 3 (fn_put role other true f).1) 4 (fn_put role other true f).2.1) 5 (fn_put role other true f).2.2.1) 6 (fn_put role other true f).2.2.2.1) 7 (fn_put role other true f).2.2.2.2) g).2.2.2.1)).2.2.1, (fn_put role other false (am_row (am_row (am_row (am_row (am_row (am_row (am_row (am_row f 1 (fn_someBarred (am_row (am_row (am_row (am_row (am_row f 3 (fn_put role other true f).1) 4 (fn_put role other true f).2.1) 5 (fn_put role other true f).2.2.1) 6 (fn_put role other true f).2.2.2.1) 7 (fn_put role other true f).2.2.2.2) g).2.1) 3 (fn_put role other true f).1) 4 (fn_put role other true f).2.1) 5 (fn_put role other true f).2.2.1) 6 (fn_put role other true f).2.2.2.1) 7 (fn_put role other true f).2.2.2.2) 34 (fn_someBarred (am_row (am_row (am_row (am_row (am_row f 3 (fn_put role other true f).1) 4 (fn_put role other true f).2.1) 5 (fn_put role other true f).2.2.1) 6 (fn_put role other true f).2.2.2.1) 7 (fn_put role other true f).2.2.2.2) g).2.2.1) 35 (fn_someBarred (am_row (am_row (am_row (am_row (am_row f 3 (fn_put role other true f).1) 4 (fn_put role other true f).2.1) 5 (fn_put role other true f).2.2.1) 6 (fn_put role other true f).2.2.2.1) 7 (fn_put role other true f).2.2.2.2) g).2.2.2.1)).2.2.2.1, (fn_put role other false (am_row (am_row (am_row (am_row (am_row (am_row (am_row (am_row f 1 (fn_someBarred (am_row (am_row (am_row (am_row (am_row f 3 (fn_put role other true f).1) 4 (fn_put role other true f).2.1) 5 (fn_put role other true f).2.2.1) 6 (fn_put role other true f).2.2.2.1) 7 (fn_put role other true f).2.2.2.2) g).2.1) 3 (fn_put role other true f).1) 4 (fn_put role other true f).2.1) 5 (fn_put role other true f).2.2.1) 6 (fn_put role other true f).2.2.2.1) 7 (fn_put role other true f).2.2.2.2) 34 (fn_someBarred (am_row (am_row (am_row (am_row (am_row f 3 (fn_put role other true f).1) 4 (fn_put role other true f).2.1) 5 (fn_put role other true f).2.2.1) 6 (fn_put role other true f).2.2.2.1) 7 (fn_put role other true f).2.2.2.2) g).2.2.1) 35 (fn_someBarred (am_row (am_row (am_row (am_row (am_row f 3 (fn_put role other true f).1) 4 (fn_put role other true f).2.1) 5 (fn_put role other true f).2.2.1) 6 (fn_put role other true f).2.2.2.1) 7 (fn_put role other true f).2.2.2.2) g).2.2.2.1)).2.2.2.2, (fn_someBarred (am_row (am_row (am_row (am_row (am_row f 3 (fn_put role other true f).1) 4 (fn_put role other true f).2.1) 5 (fn_put role other true f).2.2.1) 6 (fn_put role other true f).2.2.2.1) 7 (fn_put role other true f).2.2.2.2) g).2.2.1, (fn_someBarred (am_row (am_row (am_row (am_row (am_row f 3 (fn_put role other true f).1) 4 (fn_put role other true f).2.1) 5 (fn_put role other true f).2.2.1) 6 (fn_put role other true f).2.2.2.1) 7 (fn_put role other true f).2.2.2.2) g).2.2.2.1, (fn_someBarred (am_row (am_row (am_row (am_row (am_row f 3 (fn_put role other true f).1) 4 (fn_put role other true f).2.1) 5 (fn_put role other true f).2.2.1) 6 (fn_put role other true f).2.2.2.1) 7 (fn_put role other true f).2.2.2.2) g).2.2.2.2) else ((fn_put role other true f).1 7, (fn_someBarred (am_row (am_row (am_row (am_row (am_row f 3 (fn_put role other true f).1) 4 (fn_put role other true f).2.1) 5 (fn_put role other true f).2.2.1) 6 (fn_put role other true f).2.2.2.1) 7 (fn_put role other true f).2.2.2.2) g).2.1, (fn_put role other true f).1, (fn_put role other true f).2.1, (fn_put role other true f).2.2.1, (fn_put role other true f).2.2.2.1, (fn_put role other true f).2.2.2.2, (fn_someBarred (am_row (am_row (am_row (am_row (am_row f 3 (fn_put role other true f).1) 4 (fn_put role other true f).2.1) 5 (fn_put role other true f).2.2.1) 6 (fn_put role other true f).2.2.2.1) 7 (fn_put role other true f).2.2.2.2) g).2.2.1, (fn_someBarred (am_row (am_row (am_row (am_row (am_row f 3 (fn_put role other true f).1) 4 (fn_put role other true f).2.1) 5 (fn_put role other true f).2.2.1) 6 (fn_put role other true f).2.2.2.1) 7 (fn_put role other true f).2.2.2.2) g).2.2.2.1, (fn_someBarred (am_row (am_row (am_row (am_row (am_row f 3 (fn_put role other true f).1) 4 (fn_put role other true f).2.1) 5 (fn_put role other true f).2.2.1) 6 (fn_put role other true f).2.2.2.1) 7 (fn_put role other true f).2.2.2.2) g).2.2.2.2))) else ((-3), f 1, f 3, f 4, f 5, f 6, f 7, f 34, f 35, g 1)))
theorem x_addSenior (role : Nat) (other : Nat) (f : Nat → Nat → Int32) (g : Nat → Nat → Int64) (hLc : f 11 7 = nI (f 11 7).toNatClampNeg) (hLn : (f 11 7).toNatClampNeg ≤ 40) (hLf : ∀ i, i < (f 11 7).toNatClampNeg → am_inb (f 12 i) 16 = true) (hLt : ∀ i, i < (f 11 7).toNatClampNeg → am_inb (f 13 i) 16 = true) (hLr : ∀ i, i < (f 11 7).toNatClampNeg → am_inb (f 14 i) 20 = true) (hRc : f 18 11 = nI (f 18 11).toNatClampNeg) (hRn : (f 18 11).toNatClampNeg ≤ 30) (hrole : role < 20) (hother : other < 20) : am_D 5 20 4 [.ref 0, .int (nI role), .int (nI other)] (am_S f g) (some (Value.int ((fn_addSenior role other f g).1)), am_S (am_row (am_row (am_row (am_row (am_row (am_row (am_row (am_row f 1 ((fn_addSenior role other f g).2.1)) 3 ((fn_addSenior role other f g).2.2.1)) 4 ((fn_addSenior role other f g).2.2.2.1)) 5 ((fn_addSenior role other f g).2.2.2.2.1)) 6 ((fn_addSenior role other f g).2.2.2.2.2.1)) 7 ((fn_addSenior role other f g).2.2.2.2.2.2.1)) 34 ((fn_addSenior role other f g).2.2.2.2.2.2.2.1)) 35 ((fn_addSenior role other f g).2.2.2.2.2.2.2.2.1)) (am_row g 1 ((fn_addSenior role other f g).2.2.2.2.2.2.2.2.2))) := by
  refine am_D.of (code := am_k_20) rfl (L0 := [.ref 0, .int (nI role), .int (nI other), am_un]) rfl ?_
  generalize hres : (some (Value.int ((fn_addSenior role other f g).1)), am_S (am_row (am_row (am_row (am_row (am_row (am_row (am_row (am_row f 1 ((fn_addSenior role other f g).2.1)) 3 ((fn_addSenior role other f g).2.2.1)) 4 ((fn_addSenior role other f g).2.2.2.1)) 5 ((fn_addSenior role other f g).2.2.2.2.1)) 6 ((fn_addSenior role other f g).2.2.2.2.2.1)) 7 ((fn_addSenior role other f g).2.2.2.2.2.2.1)) 34 ((fn_addSenior role other f g).2.2.2.2.2.2.2.1)) 35 ((fn_addSenior role other f g).2.2.2.2.2.2.2.2.1)) (am_row g 1 ((fn_addSenior role other f g).2.2.2.2.2.2.2.2.2))) = res
  obtain ⟨K, hKd⟩ : ∃ K : (Int32 × (Nat → Int32) × (Nat → Int32) × (Nat → Int32) × (Nat → Int32) × (Nat → Int32) × (Nat → Int32) × (Nat → Int32) × (Nat → Int32) × (Nat → Int64)) → Prop, K = fun z => (some (Value.int z.1), am_S (am_row (am_row (am_row (am_row (am_row (am_row (am_row (am_row f 1 z.2.1) 3 z.2.2.1) 4 z.2.2.2.1) 5 z.2.2.2.2.1) 6 z.2.2.2.2.2.1) 7 z.2.2.2.2.2.2.1) 34 z.2.2.2.2.2.2.2.1) 35 z.2.2.2.2.2.2.2.2.1) (am_row g 1 z.2.2.2.2.2.2.2.2.2)) = res := ⟨_, rfl⟩
  have hK : K (fn_addSenior role other f g) := by rw [hKd]; exact hres
  clear hres
  unfold fn_addSenior at hK
  refine am_F.ops (pc' := 13) (L' := [.ref 0, .int (nI role), .int (nI other), .ref 3]) (S' := [.int (nI role), .ref 4]) (μ' := (am_S f g)) 7 rfl ?_
  refine am_F.ialE (m := role) (N := 20) rfl rfl rfl rfl (by omega) (by decide) ?_
  show am_F _ _ 14 [.ref 0, .int (nI role), .int (nI other), .ref 3] [.int (f 4 role)] (am_S f g) _
  refine am_F.ops (pc' := 15) (L' := [.ref 0, .int (nI role), .int (nI other), .ref 3]) (S' := [.int (nI other), .int (f 4 role)]) (μ' := (am_S f g)) 1 rfl ?_
  refine am_F.call rfl rfl (x_has (f 4 role) (nI other) f g ) (by decide) ?_
  show am_F _ _ 18 [.ref 0, .int (nI role), .int (nI other), .ref 3] [.int (am_b (fn_has (f 4 role) (nI other)))] (am_S f g) _
  refine am_F.bifK 1 rfl K hK (fun c1 hK => ?_) (fun c1 hK => ?_)
  · show am_F _ _ 21 [.ref 0, .int (nI role), .int (nI other), .ref 3] [] (am_S f g) _
    refine am_F.ops (pc' := 23) (L' := [.ref 0, .int (nI role), .int (nI other), .ref 3]) (S' := [.int (-2)]) (μ' := (am_S f g)) 1 rfl ?_
    refine am_F.mem (F' := (am_row (am_row (am_row (am_row (am_row (am_row (am_row (am_row f 1 (f 1)) 3 (f 3)) 4 (f 4)) 5 (f 5)) 6 (f 6)) 7 (f 7)) 34 (f 34)) 35 (f 35))) (G' := (am_row g 1 (g 1))) ?_ (by first | rfl | (funext a; by_cases z0 : a = 1; (subst z0; rfl); by_cases z1 : a = 3; (subst z1; rfl); by_cases z2 : a = 4; (subst z2; rfl); by_cases z3 : a = 5; (subst z3; rfl); by_cases z4 : a = 6; (subst z4; rfl); by_cases z5 : a = 7; (subst z5; rfl); by_cases z6 : a = 34; (subst z6; rfl); by_cases z7 : a = 35; (subst z7; rfl); simp only [am_ui, am_ul, am_row_ne z0, am_row_ne z1, am_row_ne z2, am_row_ne z3, am_row_ne z4, am_row_ne z5, am_row_ne z6, am_row_ne z7])) (by first | rfl | (funext a; by_cases z0 : a = 1; (subst z0; rfl); by_cases z1 : a = 3; (subst z1; rfl); by_cases z2 : a = 4; (subst z2; rfl); by_cases z3 : a = 5; (subst z3; rfl); by_cases z4 : a = 6; (subst z4; rfl); by_cases z5 : a = 7; (subst z5; rfl); by_cases z6 : a = 34; (subst z6; rfl); by_cases z7 : a = 35; (subst z7; rfl); simp only [am_ui, am_ul, am_row_ne z0, am_row_ne z1, am_row_ne z2, am_row_ne z3, am_row_ne z4, am_row_ne z5, am_row_ne z6, am_row_ne z7]))
    subst hKd
    exact am_F.eq (am_F.ret rfl rfl) hK
  · show am_F _ _ 24 [.ref 0, .int (nI role), .int (nI other), .ref 3] [] (am_S f g) _
    refine am_F.ops (pc' := 30) (L' := [.ref 0, .int (nI role), .int (nI other), .ref 3]) (S' := [.int 40, .int (f 3 7)]) (μ' := (am_S f g)) 3 rfl ?_
    refine am_F.iteK 1 rfl K hK (fun c2 hK => ?_) (fun c2 hK => ?_)
    · show am_F _ _ 36 [.ref 0, .int (nI role), .int (nI other), .ref 3] [] (am_S f g) _
      refine am_F.ops (pc' := 41) (L' := [.ref 0, .int (nI role), .int (nI other), .ref 3]) (S' := [.int (nI other), .ref 6]) (μ' := (am_S f g)) 3 rfl ?_
      refine am_F.ialE (m := other) (N := 20) rfl rfl rfl rfl (by omega) (by decide) ?_
      show am_F _ _ 42 [.ref 0, .int (nI role), .int (nI other), .ref 3] [.int (f 6 other)] (am_S f g) _
      refine am_F.ops (pc' := 43) (L' := [.ref 0, .int (nI role), .int (nI other), .ref 3]) (S' := [.int (nI role), .int (f 6 other)]) (μ' := (am_S f g)) 1 rfl ?_
      refine am_F.call rfl rfl (x_has (f 6 other) (nI role) f g ) (by decide) ?_
      show am_F _ _ 46 [.ref 0, .int (nI role), .int (nI other), .ref 3] [.int (am_b (fn_has (f 6 other) (nI role)))] (am_S f g) _
      refine am_F.bifK 1 rfl K hK (fun c3 hK => ?_) (fun c3 hK => ?_)
      · show am_F _ _ 49 [.ref 0, .int (nI role), .int (nI other), .ref 3] [] (am_S f g) _
        refine am_F.ops (pc' := 51) (L' := [.ref 0, .int (nI role), .int (nI other), .ref 3]) (S' := [.int (-4)]) (μ' := (am_S f g)) 1 rfl ?_
        refine am_F.mem (F' := (am_row (am_row (am_row (am_row (am_row (am_row (am_row (am_row f 1 (f 1)) 3 (f 3)) 4 (f 4)) 5 (f 5)) 6 (f 6)) 7 (f 7)) 34 (f 34)) 35 (f 35))) (G' := (am_row g 1 (g 1))) ?_ (by first | rfl | (funext a; by_cases z0 : a = 1; (subst z0; rfl); by_cases z1 : a = 3; (subst z1; rfl); by_cases z2 : a = 4; (subst z2; rfl); by_cases z3 : a = 5; (subst z3; rfl); by_cases z4 : a = 6; (subst z4; rfl); by_cases z5 : a = 7; (subst z5; rfl); by_cases z6 : a = 34; (subst z6; rfl); by_cases z7 : a = 35; (subst z7; rfl); simp only [am_ui, am_ul, am_row_ne z0, am_row_ne z1, am_row_ne z2, am_row_ne z3, am_row_ne z4, am_row_ne z5, am_row_ne z6, am_row_ne z7])) (by first | rfl | (funext a; by_cases z0 : a = 1; (subst z0; rfl); by_cases z1 : a = 3; (subst z1; rfl); by_cases z2 : a = 4; (subst z2; rfl); by_cases z3 : a = 5; (subst z3; rfl); by_cases z4 : a = 6; (subst z4; rfl); by_cases z5 : a = 7; (subst z5; rfl); by_cases z6 : a = 34; (subst z6; rfl); by_cases z7 : a = 35; (subst z7; rfl); simp only [am_ui, am_ul, am_row_ne z0, am_row_ne z1, am_row_ne z2, am_row_ne z3, am_row_ne z4, am_row_ne z5, am_row_ne z6, am_row_ne z7]))
        subst hKd
        exact am_F.eq (am_F.ret rfl rfl) hK
      · show am_F _ _ 52 [.ref 0, .int (nI role), .int (nI other), .ref 3] [] (am_S f g) _
        refine am_F.ops (pc' := 56) (L' := [.ref 0, .int (nI role), .int (nI other), .ref 3]) (S' := [.int 1, .int (nI other), .int (nI role), .ref 3]) (μ' := (am_S f g)) 4 rfl ?_
        refine am_F.call rfl rfl (x_put role other true f g (by omega) (by omega)) (by decide) ?_
        obtain ⟨y4, hy4⟩ : ∃ z, (fn_put role other true f) = z := ⟨_, rfl⟩
        (try rw [hy4] at hK)
        (try rw [hy4])
        refine am_F.mem (F' := (am_row (am_row (am_row (am_row (am_row f 3 y4.1) 4 y4.2.1) 5 y4.2.2.1) 6 y4.2.2.2.1) 7 y4.2.2.2.2)) (G' := g) ?_ (by first | rfl | (funext a; by_cases z0 : a = 3; (subst z0; rfl); by_cases z1 : a = 4; (subst z1; rfl); by_cases z2 : a = 5; (subst z2; rfl); by_cases z3 : a = 6; (subst z3; rfl); by_cases z4 : a = 7; (subst z4; rfl); simp only [am_ui, am_ul, am_row_ne z0, am_row_ne z1, am_row_ne z2, am_row_ne z3, am_row_ne z4])) (by first | rfl | (funext a; by_cases z0 : a = 3; (subst z0; rfl); by_cases z1 : a = 4; (subst z1; rfl); by_cases z2 : a = 5; (subst z2; rfl); by_cases z3 : a = 6; (subst z3; rfl); by_cases z4 : a = 7; (subst z4; rfl); simp only [am_ui, am_ul, am_row_ne z0, am_row_ne z1, am_row_ne z2, am_row_ne z3, am_row_ne z4]))
        show am_F _ _ 59 [.ref 0, .int (nI role), .int (nI other), .ref 3] [] (am_S (am_row (am_row (am_row (am_row (am_row f 3 y4.1) 4 y4.2.1) 5 y4.2.2.1) 6 y4.2.2.2.1) 7 y4.2.2.2.2) g) _
        refine am_F.ops (pc' := 63) (L' := [.ref 0, .int (nI role), .int (nI other), .ref 3]) (S' := [.ref 1]) (μ' := (am_S (am_row (am_row (am_row (am_row (am_row f 3 y4.1) 4 y4.2.1) 5 y4.2.2.1) 6 y4.2.2.2.1) 7 y4.2.2.2.2) g)) 2 rfl ?_
        refine am_F.call rfl rfl (x_someBarred  (am_row (am_row (am_row (am_row (am_row f 3 y4.1) 4 y4.2.1) 5 y4.2.2.1) 6 y4.2.2.2.1) 7 y4.2.2.2.2) g hLc hLn hLf hLt hLr hRc hRn) (by decide) ?_
        obtain ⟨y5, hy5⟩ : ∃ z, (fn_someBarred (am_row (am_row (am_row (am_row (am_row f 3 y4.1) 4 y4.2.1) 5 y4.2.2.1) 6 y4.2.2.2.1) 7 y4.2.2.2.2) g) = z := ⟨_, rfl⟩
        (try rw [hy5] at hK)
        (try rw [hy5])
        refine am_F.mem (F' := (am_row (am_row (am_row (am_row (am_row (am_row (am_row (am_row f 1 y5.2.1) 3 y4.1) 4 y4.2.1) 5 y4.2.2.1) 6 y4.2.2.2.1) 7 y4.2.2.2.2) 34 y5.2.2.1) 35 y5.2.2.2.1)) (G' := (am_row g 1 y5.2.2.2.2)) ?_ (by first | rfl | (funext a; by_cases z0 : a = 1; (subst z0; rfl); by_cases z1 : a = 3; (subst z1; rfl); by_cases z2 : a = 4; (subst z2; rfl); by_cases z3 : a = 5; (subst z3; rfl); by_cases z4 : a = 6; (subst z4; rfl); by_cases z5 : a = 7; (subst z5; rfl); by_cases z6 : a = 34; (subst z6; rfl); by_cases z7 : a = 35; (subst z7; rfl); simp only [am_ui, am_ul, am_row_ne z0, am_row_ne z1, am_row_ne z2, am_row_ne z3, am_row_ne z4, am_row_ne z5, am_row_ne z6, am_row_ne z7])) (by first | rfl | (funext a; by_cases z0 : a = 1; (subst z0; rfl); by_cases z1 : a = 3; (subst z1; rfl); by_cases z2 : a = 4; (subst z2; rfl); by_cases z3 : a = 5; (subst z3; rfl); by_cases z4 : a = 6; (subst z4; rfl); by_cases z5 : a = 7; (subst z5; rfl); by_cases z6 : a = 34; (subst z6; rfl); by_cases z7 : a = 35; (subst z7; rfl); simp only [am_ui, am_ul, am_row_ne z0, am_row_ne z1, am_row_ne z2, am_row_ne z3, am_row_ne z4, am_row_ne z5, am_row_ne z6, am_row_ne z7]))
        show am_F _ _ 66 [.ref 0, .int (nI role), .int (nI other), .ref 3] [.int (am_b (y5.1))] (am_S (am_row (am_row (am_row (am_row (am_row (am_row (am_row (am_row f 1 y5.2.1) 3 y4.1) 4 y4.2.1) 5 y4.2.2.1) 6 y4.2.2.2.1) 7 y4.2.2.2.2) 34 y5.2.2.1) 35 y5.2.2.2.1) (am_row g 1 y5.2.2.2.2)) _
        refine am_F.bifK 1 rfl K hK (fun c6 hK => ?_) (fun c6 hK => ?_)
        · show am_F _ _ 69 [.ref 0, .int (nI role), .int (nI other), .ref 3] [] (am_S (am_row (am_row (am_row (am_row (am_row (am_row (am_row (am_row f 1 y5.2.1) 3 y4.1) 4 y4.2.1) 5 y4.2.2.1) 6 y4.2.2.2.1) 7 y4.2.2.2.2) 34 y5.2.2.1) 35 y5.2.2.2.1) (am_row g 1 y5.2.2.2.2)) _
          refine am_F.ops (pc' := 73) (L' := [.ref 0, .int (nI role), .int (nI other), .ref 3]) (S' := [.int 0, .int (nI other), .int (nI role), .ref 3]) (μ' := (am_S (am_row (am_row (am_row (am_row (am_row (am_row (am_row (am_row f 1 y5.2.1) 3 y4.1) 4 y4.2.1) 5 y4.2.2.1) 6 y4.2.2.2.1) 7 y4.2.2.2.2) 34 y5.2.2.1) 35 y5.2.2.2.1) (am_row g 1 y5.2.2.2.2))) 4 rfl ?_
          refine am_F.call rfl rfl (x_put role other false (am_row (am_row (am_row (am_row (am_row (am_row (am_row (am_row f 1 y5.2.1) 3 y4.1) 4 y4.2.1) 5 y4.2.2.1) 6 y4.2.2.2.1) 7 y4.2.2.2.2) 34 y5.2.2.1) 35 y5.2.2.2.1) (am_row g 1 y5.2.2.2.2) (by omega) (by omega)) (by decide) ?_
          obtain ⟨y7, hy7⟩ : ∃ z, (fn_put role other false (am_row (am_row (am_row (am_row (am_row (am_row (am_row (am_row f 1 y5.2.1) 3 y4.1) 4 y4.2.1) 5 y4.2.2.1) 6 y4.2.2.2.1) 7 y4.2.2.2.2) 34 y5.2.2.1) 35 y5.2.2.2.1)) = z := ⟨_, rfl⟩
          (try rw [hy7] at hK)
          (try rw [hy7])
          refine am_F.mem (F' := (am_row (am_row (am_row (am_row (am_row (am_row (am_row (am_row f 1 y5.2.1) 3 y7.1) 4 y7.2.1) 5 y7.2.2.1) 6 y7.2.2.2.1) 7 y7.2.2.2.2) 34 y5.2.2.1) 35 y5.2.2.2.1)) (G' := (am_row g 1 y5.2.2.2.2)) ?_ (by first | rfl | (funext a; by_cases z0 : a = 1; (subst z0; rfl); by_cases z1 : a = 3; (subst z1; rfl); by_cases z2 : a = 4; (subst z2; rfl); by_cases z3 : a = 5; (subst z3; rfl); by_cases z4 : a = 6; (subst z4; rfl); by_cases z5 : a = 7; (subst z5; rfl); by_cases z6 : a = 34; (subst z6; rfl); by_cases z7 : a = 35; (subst z7; rfl); simp only [am_ui, am_ul, am_row_ne z0, am_row_ne z1, am_row_ne z2, am_row_ne z3, am_row_ne z4, am_row_ne z5, am_row_ne z6, am_row_ne z7])) (by first | rfl | (funext a; by_cases z0 : a = 1; (subst z0; rfl); by_cases z1 : a = 3; (subst z1; rfl); by_cases z2 : a = 4; (subst z2; rfl); by_cases z3 : a = 5; (subst z3; rfl); by_cases z4 : a = 6; (subst z4; rfl); by_cases z5 : a = 7; (subst z5; rfl); by_cases z6 : a = 34; (subst z6; rfl); by_cases z7 : a = 35; (subst z7; rfl); simp only [am_ui, am_ul, am_row_ne z0, am_row_ne z1, am_row_ne z2, am_row_ne z3, am_row_ne z4, am_row_ne z5, am_row_ne z6, am_row_ne z7]))
          show am_F _ _ 76 [.ref 0, .int (nI role), .int (nI other), .ref 3] [] (am_S (am_row (am_row (am_row (am_row (am_row (am_row (am_row (am_row f 1 y5.2.1) 3 y7.1) 4 y7.2.1) 5 y7.2.2.1) 6 y7.2.2.2.1) 7 y7.2.2.2.2) 34 y5.2.2.1) 35 y5.2.2.2.1) (am_row g 1 y5.2.2.2.2)) _
          refine am_F.ops (pc' := 78) (L' := [.ref 0, .int (nI role), .int (nI other), .ref 3]) (S' := [.int (-6)]) (μ' := (am_S (am_row (am_row (am_row (am_row (am_row (am_row (am_row (am_row f 1 y5.2.1) 3 y7.1) 4 y7.2.1) 5 y7.2.2.1) 6 y7.2.2.2.1) 7 y7.2.2.2.2) 34 y5.2.2.1) 35 y5.2.2.2.1) (am_row g 1 y5.2.2.2.2))) 1 rfl ?_
          subst hKd
          exact am_F.eq (am_F.ret rfl rfl) hK
        · show am_F _ _ 79 [.ref 0, .int (nI role), .int (nI other), .ref 3] [] (am_S (am_row (am_row (am_row (am_row (am_row (am_row (am_row (am_row f 1 y5.2.1) 3 y4.1) 4 y4.2.1) 5 y4.2.2.1) 6 y4.2.2.2.1) 7 y4.2.2.2.2) 34 y5.2.2.1) 35 y5.2.2.2.1) (am_row g 1 y5.2.2.2.2)) _
          refine am_F.ops (pc' := 83) (L' := [.ref 0, .int (nI role), .int (nI other), .ref 3]) (S' := [.int (y4.1 7)]) (μ' := (am_S (am_row (am_row (am_row (am_row (am_row (am_row (am_row (am_row f 1 y5.2.1) 3 y4.1) 4 y4.2.1) 5 y4.2.2.1) 6 y4.2.2.2.1) 7 y4.2.2.2.2) 34 y5.2.2.1) 35 y5.2.2.2.1) (am_row g 1 y5.2.2.2.2))) 2 rfl ?_
          subst hKd
          exact am_F.eq (am_F.ret rfl rfl) hK
    · show am_F _ _ 33 [.ref 0, .int (nI role), .int (nI other), .ref 3] [] (am_S f g) _
      refine am_F.ops (pc' := 35) (L' := [.ref 0, .int (nI role), .int (nI other), .ref 3]) (S' := [.int (-3)]) (μ' := (am_S f g)) 1 rfl ?_
      refine am_F.mem (F' := (am_row (am_row (am_row (am_row (am_row (am_row (am_row (am_row f 1 (f 1)) 3 (f 3)) 4 (f 4)) 5 (f 5)) 6 (f 6)) 7 (f 7)) 34 (f 34)) 35 (f 35))) (G' := (am_row g 1 (g 1))) ?_ (by first | rfl | (funext a; by_cases z0 : a = 1; (subst z0; rfl); by_cases z1 : a = 3; (subst z1; rfl); by_cases z2 : a = 4; (subst z2; rfl); by_cases z3 : a = 5; (subst z3; rfl); by_cases z4 : a = 6; (subst z4; rfl); by_cases z5 : a = 7; (subst z5; rfl); by_cases z6 : a = 34; (subst z6; rfl); by_cases z7 : a = 35; (subst z7; rfl); simp only [am_ui, am_ul, am_row_ne z0, am_row_ne z1, am_row_ne z2, am_row_ne z3, am_row_ne z4, am_row_ne z5, am_row_ne z6, am_row_ne z7])) (by first | rfl | (funext a; by_cases z0 : a = 1; (subst z0; rfl); by_cases z1 : a = 3; (subst z1; rfl); by_cases z2 : a = 4; (subst z2; rfl); by_cases z3 : a = 5; (subst z3; rfl); by_cases z4 : a = 6; (subst z4; rfl); by_cases z5 : a = 7; (subst z5; rfl); by_cases z6 : a = 34; (subst z6; rfl); by_cases z7 : a = 35; (subst z7; rfl); simp only [am_ui, am_ul, am_row_ne z0, am_row_ne z1, am_row_ne z2, am_row_ne z3, am_row_ne z4, am_row_ne z5, am_row_ne z6, am_row_ne z7]))
      subst hKd
      exact am_F.eq (am_F.ret rfl rfl) hK
/-- AccessLattice.senior -/
def fn_senior (role : Int32) (other : Int32) (on : Int32) (f : Nat → Nat → Int32) (g : Nat → Nat → Int64) : Int32 × (Nat → Int32) × (Nat → Int32) × (Nat → Int32) × (Nat → Int32) × (Nat → Int32) × (Nat → Int32) × (Nat → Int32) × (Nat → Int32) × (Nat → Int64) := (bif (fn_isRole role) then (bif (fn_isRole other) then (bif (fn_within01 on) then (if on = 1 then ((fn_addSenior (role.toNatClampNeg) (other.toNatClampNeg) f g).1, (fn_addSenior (role.toNatClampNeg) (other.toNatClampNeg) f g).2.1, (fn_addSenior (role.toNatClampNeg) (other.toNatClampNeg) f g).2.2.1, (fn_addSenior (role.toNatClampNeg) (other.toNatClampNeg) f g).2.2.2.1, (fn_addSenior (role.toNatClampNeg) (other.toNatClampNeg) f g).2.2.2.2.1, (fn_addSenior (role.toNatClampNeg) (other.toNatClampNeg) f g).2.2.2.2.2.1, (fn_addSenior (role.toNatClampNeg) (other.toNatClampNeg) f g).2.2.2.2.2.2.1, (fn_addSenior (role.toNatClampNeg) (other.toNatClampNeg) f g).2.2.2.2.2.2.2.1, (fn_addSenior (role.toNatClampNeg) (other.toNatClampNeg) f g).2.2.2.2.2.2.2.2.1, (fn_addSenior (role.toNatClampNeg) (other.toNatClampNeg) f g).2.2.2.2.2.2.2.2.2) else (bif (fn_has (f 4 (role.toNatClampNeg)) other) then ((fn_put (role.toNatClampNeg) (other.toNatClampNeg) false f).1 7, f 1, (fn_put (role.toNatClampNeg) (other.toNatClampNeg) false f).1, (fn_put (role.toNatClampNeg) (other.toNatClampNeg) false f).2.1, (fn_put (role.toNatClampNeg) (other.toNatClampNeg) false f).2.2.1, (fn_put (role.toNatClampNeg) (other.toNatClampNeg) false f).2.2.2.1, (fn_put (role.toNatClampNeg) (other.toNatClampNeg) false f).2.2.2.2, f 34, f 35, g 1) else ((-2), f 1, f 3, f 4, f 5, f 6, f 7, f 34, f 35, g 1))) else ((-1), f 1, f 3, f 4, f 5, f 6, f 7, f 34, f 35, g 1)) else ((-1), f 1, f 3, f 4, f 5, f 6, f 7, f 34, f 35, g 1)) else ((-1), f 1, f 3, f 4, f 5, f 6, f 7, f 34, f 35, g 1))
theorem x_senior (role : Int32) (other : Int32) (on : Int32) (f : Nat → Nat → Int32) (g : Nat → Nat → Int64) (hLc : f 11 7 = nI (f 11 7).toNatClampNeg) (hLn : (f 11 7).toNatClampNeg ≤ 40) (hLf : ∀ i, i < (f 11 7).toNatClampNeg → am_inb (f 12 i) 16 = true) (hLt : ∀ i, i < (f 11 7).toNatClampNeg → am_inb (f 13 i) 16 = true) (hLr : ∀ i, i < (f 11 7).toNatClampNeg → am_inb (f 14 i) 20 = true) (hRc : f 18 11 = nI (f 18 11).toNatClampNeg) (hRn : (f 18 11).toNatClampNeg ≤ 30) : am_D 6 18 4 [.ref 0, .int role, .int other, .int on] (am_S f g) (some (Value.int ((fn_senior role other on f g).1)), am_S (am_row (am_row (am_row (am_row (am_row (am_row (am_row (am_row f 1 ((fn_senior role other on f g).2.1)) 3 ((fn_senior role other on f g).2.2.1)) 4 ((fn_senior role other on f g).2.2.2.1)) 5 ((fn_senior role other on f g).2.2.2.2.1)) 6 ((fn_senior role other on f g).2.2.2.2.2.1)) 7 ((fn_senior role other on f g).2.2.2.2.2.2.1)) 34 ((fn_senior role other on f g).2.2.2.2.2.2.2.1)) 35 ((fn_senior role other on f g).2.2.2.2.2.2.2.2.1)) (am_row g 1 ((fn_senior role other on f g).2.2.2.2.2.2.2.2.2))) := by
  refine am_D.of (code := am_k_18) rfl (L0 := [.ref 0, .int role, .int other, .int on]) rfl ?_
  generalize hres : (some (Value.int ((fn_senior role other on f g).1)), am_S (am_row (am_row (am_row (am_row (am_row (am_row (am_row (am_row f 1 ((fn_senior role other on f g).2.1)) 3 ((fn_senior role other on f g).2.2.1)) 4 ((fn_senior role other on f g).2.2.2.1)) 5 ((fn_senior role other on f g).2.2.2.2.1)) 6 ((fn_senior role other on f g).2.2.2.2.2.1)) 7 ((fn_senior role other on f g).2.2.2.2.2.2.1)) 34 ((fn_senior role other on f g).2.2.2.2.2.2.2.1)) 35 ((fn_senior role other on f g).2.2.2.2.2.2.2.2.1)) (am_row g 1 ((fn_senior role other on f g).2.2.2.2.2.2.2.2.2))) = res
  obtain ⟨K, hKd⟩ : ∃ K : (Int32 × (Nat → Int32) × (Nat → Int32) × (Nat → Int32) × (Nat → Int32) × (Nat → Int32) × (Nat → Int32) × (Nat → Int32) × (Nat → Int32) × (Nat → Int64)) → Prop, K = fun z => (some (Value.int z.1), am_S (am_row (am_row (am_row (am_row (am_row (am_row (am_row (am_row f 1 z.2.1) 3 z.2.2.1) 4 z.2.2.2.1) 5 z.2.2.2.2.1) 6 z.2.2.2.2.2.1) 7 z.2.2.2.2.2.2.1) 34 z.2.2.2.2.2.2.2.1) 35 z.2.2.2.2.2.2.2.2.1) (am_row g 1 z.2.2.2.2.2.2.2.2.2)) = res := ⟨_, rfl⟩
  have hK : K (fn_senior role other on f g) := by rw [hKd]; exact hres
  clear hres
  unfold fn_senior at hK
  refine am_F.ops (pc' := 1) (L' := [.ref 0, .int role, .int other, .int on]) (S' := [.int role]) (μ' := (am_S f g)) 1 rfl ?_
  refine am_F.call rfl rfl (x_isRole role f g ) (by decide) ?_
  show am_F _ _ 4 [.ref 0, .int role, .int other, .int on] [.int (am_b (fn_isRole role))] (am_S f g) _
  refine am_F.bifK 1 rfl K hK (fun c1 hK => ?_) (fun c1 hK => ?_)
  · obtain ⟨role_n, hrole_n, erole_n⟩ := am_iRole c1
    subst erole_n
    try simp only [nI_clamp (show role_n < 2147483648 by omega)] at hK
    show am_F _ _ 7 [.ref 0, .int (nI role_n), .int other, .int on] [] (am_S f g) _
    refine am_F.ops (pc' := 8) (L' := [.ref 0, .int (nI role_n), .int other, .int on]) (S' := [.int other]) (μ' := (am_S f g)) 1 rfl ?_
    refine am_F.call rfl rfl (x_isRole other f g ) (by decide) ?_
    show am_F _ _ 11 [.ref 0, .int (nI role_n), .int other, .int on] [.int (am_b (fn_isRole other))] (am_S f g) _
    refine am_F.bifK 1 rfl K hK (fun c2 hK => ?_) (fun c2 hK => ?_)
    · obtain ⟨other_n, hother_n, eother_n⟩ := am_iRole c2
      subst eother_n
      try simp only [nI_clamp (show other_n < 2147483648 by omega)] at hK
      show am_F _ _ 14 [.ref 0, .int (nI role_n), .int (nI other_n), .int on] [] (am_S f g) _
      refine am_F.ops (pc' := 15) (L' := [.ref 0, .int (nI role_n), .int (nI other_n), .int on]) (S' := [.int on]) (μ' := (am_S f g)) 1 rfl ?_
      refine am_F.call rfl rfl (x_within01 on f g ) (by decide) ?_
      show am_F _ _ 18 [.ref 0, .int (nI role_n), .int (nI other_n), .int on] [.int (am_b (fn_within01 on))] (am_S f g) _
      refine am_F.bifK 1 rfl K hK (fun c3 hK => ?_) (fun c3 hK => ?_)
      · show am_F _ _ 23 [.ref 0, .int (nI role_n), .int (nI other_n), .int on] [] (am_S f g) _
        refine am_F.ops (pc' := 25) (L' := [.ref 0, .int (nI role_n), .int (nI other_n), .int on]) (S' := [.int 1, .int on]) (μ' := (am_S f g)) 2 rfl ?_
        refine am_F.iteK 1 rfl K hK (fun c4 hK => ?_) (fun c4 hK => ?_)
        · show am_F _ _ 28 [.ref 0, .int (nI role_n), .int (nI other_n), .int on] [] (am_S f g) _
          refine am_F.ops (pc' := 31) (L' := [.ref 0, .int (nI role_n), .int (nI other_n), .int on]) (S' := [.int (nI other_n), .int (nI role_n), .ref 0]) (μ' := (am_S f g)) 3 rfl ?_
          refine am_F.call rfl rfl (x_addSenior role_n other_n f g hLc hLn hLf hLt hLr hRc hRn (by omega) (by omega)) (by decide) ?_
          obtain ⟨y5, hy5⟩ : ∃ z, (fn_addSenior role_n other_n f g) = z := ⟨_, rfl⟩
          (try rw [hy5] at hK)
          (try rw [hy5])
          refine am_F.mem (F' := (am_row (am_row (am_row (am_row (am_row (am_row (am_row (am_row f 1 y5.2.1) 3 y5.2.2.1) 4 y5.2.2.2.1) 5 y5.2.2.2.2.1) 6 y5.2.2.2.2.2.1) 7 y5.2.2.2.2.2.2.1) 34 y5.2.2.2.2.2.2.2.1) 35 y5.2.2.2.2.2.2.2.2.1)) (G' := (am_row g 1 y5.2.2.2.2.2.2.2.2.2)) ?_ (by first | rfl | (funext a; by_cases z0 : a = 1; (subst z0; rfl); by_cases z1 : a = 3; (subst z1; rfl); by_cases z2 : a = 4; (subst z2; rfl); by_cases z3 : a = 5; (subst z3; rfl); by_cases z4 : a = 6; (subst z4; rfl); by_cases z5 : a = 7; (subst z5; rfl); by_cases z6 : a = 34; (subst z6; rfl); by_cases z7 : a = 35; (subst z7; rfl); simp only [am_ui, am_ul, am_row_ne z0, am_row_ne z1, am_row_ne z2, am_row_ne z3, am_row_ne z4, am_row_ne z5, am_row_ne z6, am_row_ne z7])) (by first | rfl | (funext a; by_cases z0 : a = 1; (subst z0; rfl); by_cases z1 : a = 3; (subst z1; rfl); by_cases z2 : a = 4; (subst z2; rfl); by_cases z3 : a = 5; (subst z3; rfl); by_cases z4 : a = 6; (subst z4; rfl); by_cases z5 : a = 7; (subst z5; rfl); by_cases z6 : a = 34; (subst z6; rfl); by_cases z7 : a = 35; (subst z7; rfl); simp only [am_ui, am_ul, am_row_ne z0, am_row_ne z1, am_row_ne z2, am_row_ne z3, am_row_ne z4, am_row_ne z5, am_row_ne z6, am_row_ne z7]))
          show am_F _ _ 34 [.ref 0, .int (nI role_n), .int (nI other_n), .int on] [.int y5.1] (am_S (am_row (am_row (am_row (am_row (am_row (am_row (am_row (am_row f 1 y5.2.1) 3 y5.2.2.1) 4 y5.2.2.2.1) 5 y5.2.2.2.2.1) 6 y5.2.2.2.2.2.1) 7 y5.2.2.2.2.2.2.1) 34 y5.2.2.2.2.2.2.2.1) 35 y5.2.2.2.2.2.2.2.2.1) (am_row g 1 y5.2.2.2.2.2.2.2.2.2)) _
          subst hKd
          exact am_F.eq (am_F.ret rfl rfl) hK
        · show am_F _ _ 35 [.ref 0, .int (nI role_n), .int (nI other_n), .int on] [] (am_S f g) _
          refine am_F.ops (pc' := 46) (L' := [.ref 0, .int (nI role_n), .int (nI other_n), .int on]) (S' := [.int (nI role_n), .ref 4]) (μ' := (am_S f g)) 5 rfl ?_
          refine am_F.ialE (m := role_n) (N := 20) rfl rfl rfl rfl (by omega) (by decide) ?_
          show am_F _ _ 47 [.ref 0, .int (nI role_n), .int (nI other_n), .int on] [.int (f 4 role_n)] (am_S f g) _
          refine am_F.ops (pc' := 48) (L' := [.ref 0, .int (nI role_n), .int (nI other_n), .int on]) (S' := [.int (nI other_n), .int (f 4 role_n)]) (μ' := (am_S f g)) 1 rfl ?_
          refine am_F.call rfl rfl (x_has (f 4 role_n) (nI other_n) f g ) (by decide) ?_
          show am_F _ _ 51 [.ref 0, .int (nI role_n), .int (nI other_n), .int on] [.int (am_b (fn_has (f 4 role_n) (nI other_n)))] (am_S f g) _
          refine am_F.bifK 1 rfl K hK (fun c6 hK => ?_) (fun c6 hK => ?_)
          · show am_F _ _ 57 [.ref 0, .int (nI role_n), .int (nI other_n), .int on] [] (am_S f g) _
            refine am_F.ops (pc' := 67) (L' := [.ref 0, .int (nI role_n), .int (nI other_n), .int on]) (S' := [.int 0, .int (nI other_n), .int (nI role_n), .ref 3]) (μ' := (am_S f g)) 6 rfl ?_
            refine am_F.call rfl rfl (x_put role_n other_n false f g (by omega) (by omega)) (by decide) ?_
            obtain ⟨y7, hy7⟩ : ∃ z, (fn_put role_n other_n false f) = z := ⟨_, rfl⟩
            (try rw [hy7] at hK)
            (try rw [hy7])
            refine am_F.mem (F' := (am_row (am_row (am_row (am_row (am_row f 3 y7.1) 4 y7.2.1) 5 y7.2.2.1) 6 y7.2.2.2.1) 7 y7.2.2.2.2)) (G' := g) ?_ (by first | rfl | (funext a; by_cases z0 : a = 3; (subst z0; rfl); by_cases z1 : a = 4; (subst z1; rfl); by_cases z2 : a = 5; (subst z2; rfl); by_cases z3 : a = 6; (subst z3; rfl); by_cases z4 : a = 7; (subst z4; rfl); simp only [am_ui, am_ul, am_row_ne z0, am_row_ne z1, am_row_ne z2, am_row_ne z3, am_row_ne z4])) (by first | rfl | (funext a; by_cases z0 : a = 3; (subst z0; rfl); by_cases z1 : a = 4; (subst z1; rfl); by_cases z2 : a = 5; (subst z2; rfl); by_cases z3 : a = 6; (subst z3; rfl); by_cases z4 : a = 7; (subst z4; rfl); simp only [am_ui, am_ul, am_row_ne z0, am_row_ne z1, am_row_ne z2, am_row_ne z3, am_row_ne z4]))
            show am_F _ _ 70 [.ref 0, .int (nI role_n), .int (nI other_n), .int on] [] (am_S (am_row (am_row (am_row (am_row (am_row f 3 y7.1) 4 y7.2.1) 5 y7.2.2.1) 6 y7.2.2.2.1) 7 y7.2.2.2.2) g) _
            refine am_F.ops (pc' := 80) (L' := [.ref 0, .int (nI role_n), .int (nI other_n), .int on]) (S' := [.int (y7.1 7)]) (μ' := (am_S (am_row (am_row (am_row (am_row (am_row f 3 y7.1) 4 y7.2.1) 5 y7.2.2.1) 6 y7.2.2.2.1) 7 y7.2.2.2.2) g)) 4 rfl ?_
            refine am_F.mem (F' := (am_row (am_row (am_row (am_row (am_row (am_row (am_row (am_row f 1 (f 1)) 3 y7.1) 4 y7.2.1) 5 y7.2.2.1) 6 y7.2.2.2.1) 7 y7.2.2.2.2) 34 (f 34)) 35 (f 35))) (G' := (am_row g 1 (g 1))) ?_ (by first | rfl | (funext a; by_cases z0 : a = 1; (subst z0; rfl); by_cases z1 : a = 3; (subst z1; rfl); by_cases z2 : a = 4; (subst z2; rfl); by_cases z3 : a = 5; (subst z3; rfl); by_cases z4 : a = 6; (subst z4; rfl); by_cases z5 : a = 7; (subst z5; rfl); by_cases z6 : a = 34; (subst z6; rfl); by_cases z7 : a = 35; (subst z7; rfl); simp only [am_ui, am_ul, am_row_ne z0, am_row_ne z1, am_row_ne z2, am_row_ne z3, am_row_ne z4, am_row_ne z5, am_row_ne z6, am_row_ne z7])) (by first | rfl | (funext a; by_cases z0 : a = 1; (subst z0; rfl); by_cases z1 : a = 3; (subst z1; rfl); by_cases z2 : a = 4; (subst z2; rfl); by_cases z3 : a = 5; (subst z3; rfl); by_cases z4 : a = 6; (subst z4; rfl); by_cases z5 : a = 7; (subst z5; rfl); by_cases z6 : a = 34; (subst z6; rfl); by_cases z7 : a = 35; (subst z7; rfl); simp only [am_ui, am_ul, am_row_ne z0, am_row_ne z1, am_row_ne z2, am_row_ne z3, am_row_ne z4, am_row_ne z5, am_row_ne z6, am_row_ne z7]))
            subst hKd
            exact am_F.eq (am_F.ret rfl rfl) hK
          · show am_F _ _ 54 [.ref 0, .int (nI role_n), .int (nI other_n), .int on] [] (am_S f g) _
            refine am_F.ops (pc' := 56) (L' := [.ref 0, .int (nI role_n), .int (nI other_n), .int on]) (S' := [.int (-2)]) (μ' := (am_S f g)) 1 rfl ?_
            refine am_F.mem (F' := (am_row (am_row (am_row (am_row (am_row (am_row (am_row (am_row f 1 (f 1)) 3 (f 3)) 4 (f 4)) 5 (f 5)) 6 (f 6)) 7 (f 7)) 34 (f 34)) 35 (f 35))) (G' := (am_row g 1 (g 1))) ?_ (by first | rfl | (funext a; by_cases z0 : a = 1; (subst z0; rfl); by_cases z1 : a = 3; (subst z1; rfl); by_cases z2 : a = 4; (subst z2; rfl); by_cases z3 : a = 5; (subst z3; rfl); by_cases z4 : a = 6; (subst z4; rfl); by_cases z5 : a = 7; (subst z5; rfl); by_cases z6 : a = 34; (subst z6; rfl); by_cases z7 : a = 35; (subst z7; rfl); simp only [am_ui, am_ul, am_row_ne z0, am_row_ne z1, am_row_ne z2, am_row_ne z3, am_row_ne z4, am_row_ne z5, am_row_ne z6, am_row_ne z7])) (by first | rfl | (funext a; by_cases z0 : a = 1; (subst z0; rfl); by_cases z1 : a = 3; (subst z1; rfl); by_cases z2 : a = 4; (subst z2; rfl); by_cases z3 : a = 5; (subst z3; rfl); by_cases z4 : a = 6; (subst z4; rfl); by_cases z5 : a = 7; (subst z5; rfl); by_cases z6 : a = 34; (subst z6; rfl); by_cases z7 : a = 35; (subst z7; rfl); simp only [am_ui, am_ul, am_row_ne z0, am_row_ne z1, am_row_ne z2, am_row_ne z3, am_row_ne z4, am_row_ne z5, am_row_ne z6, am_row_ne z7]))
            subst hKd
            exact am_F.eq (am_F.ret rfl rfl) hK
      · show am_F _ _ 21 [.ref 0, .int (nI role_n), .int (nI other_n), .int on] [] (am_S f g) _
        refine am_F.ops (pc' := 22) (L' := [.ref 0, .int (nI role_n), .int (nI other_n), .int on]) (S' := [.int (-1)]) (μ' := (am_S f g)) 1 rfl ?_
        refine am_F.mem (F' := (am_row (am_row (am_row (am_row (am_row (am_row (am_row (am_row f 1 (f 1)) 3 (f 3)) 4 (f 4)) 5 (f 5)) 6 (f 6)) 7 (f 7)) 34 (f 34)) 35 (f 35))) (G' := (am_row g 1 (g 1))) ?_ (by first | rfl | (funext a; by_cases z0 : a = 1; (subst z0; rfl); by_cases z1 : a = 3; (subst z1; rfl); by_cases z2 : a = 4; (subst z2; rfl); by_cases z3 : a = 5; (subst z3; rfl); by_cases z4 : a = 6; (subst z4; rfl); by_cases z5 : a = 7; (subst z5; rfl); by_cases z6 : a = 34; (subst z6; rfl); by_cases z7 : a = 35; (subst z7; rfl); simp only [am_ui, am_ul, am_row_ne z0, am_row_ne z1, am_row_ne z2, am_row_ne z3, am_row_ne z4, am_row_ne z5, am_row_ne z6, am_row_ne z7])) (by first | rfl | (funext a; by_cases z0 : a = 1; (subst z0; rfl); by_cases z1 : a = 3; (subst z1; rfl); by_cases z2 : a = 4; (subst z2; rfl); by_cases z3 : a = 5; (subst z3; rfl); by_cases z4 : a = 6; (subst z4; rfl); by_cases z5 : a = 7; (subst z5; rfl); by_cases z6 : a = 34; (subst z6; rfl); by_cases z7 : a = 35; (subst z7; rfl); simp only [am_ui, am_ul, am_row_ne z0, am_row_ne z1, am_row_ne z2, am_row_ne z3, am_row_ne z4, am_row_ne z5, am_row_ne z6, am_row_ne z7]))
        subst hKd
        exact am_F.eq (am_F.ret rfl rfl) hK
    · show am_F _ _ 21 [.ref 0, .int (nI role_n), .int other, .int on] [] (am_S f g) _
      refine am_F.ops (pc' := 22) (L' := [.ref 0, .int (nI role_n), .int other, .int on]) (S' := [.int (-1)]) (μ' := (am_S f g)) 1 rfl ?_
      refine am_F.mem (F' := (am_row (am_row (am_row (am_row (am_row (am_row (am_row (am_row f 1 (f 1)) 3 (f 3)) 4 (f 4)) 5 (f 5)) 6 (f 6)) 7 (f 7)) 34 (f 34)) 35 (f 35))) (G' := (am_row g 1 (g 1))) ?_ (by first | rfl | (funext a; by_cases z0 : a = 1; (subst z0; rfl); by_cases z1 : a = 3; (subst z1; rfl); by_cases z2 : a = 4; (subst z2; rfl); by_cases z3 : a = 5; (subst z3; rfl); by_cases z4 : a = 6; (subst z4; rfl); by_cases z5 : a = 7; (subst z5; rfl); by_cases z6 : a = 34; (subst z6; rfl); by_cases z7 : a = 35; (subst z7; rfl); simp only [am_ui, am_ul, am_row_ne z0, am_row_ne z1, am_row_ne z2, am_row_ne z3, am_row_ne z4, am_row_ne z5, am_row_ne z6, am_row_ne z7])) (by first | rfl | (funext a; by_cases z0 : a = 1; (subst z0; rfl); by_cases z1 : a = 3; (subst z1; rfl); by_cases z2 : a = 4; (subst z2; rfl); by_cases z3 : a = 5; (subst z3; rfl); by_cases z4 : a = 6; (subst z4; rfl); by_cases z5 : a = 7; (subst z5; rfl); by_cases z6 : a = 34; (subst z6; rfl); by_cases z7 : a = 35; (subst z7; rfl); simp only [am_ui, am_ul, am_row_ne z0, am_row_ne z1, am_row_ne z2, am_row_ne z3, am_row_ne z4, am_row_ne z5, am_row_ne z6, am_row_ne z7]))
      subst hKd
      exact am_F.eq (am_F.ret rfl rfl) hK
  · show am_F _ _ 21 [.ref 0, .int role, .int other, .int on] [] (am_S f g) _
    refine am_F.ops (pc' := 22) (L' := [.ref 0, .int role, .int other, .int on]) (S' := [.int (-1)]) (μ' := (am_S f g)) 1 rfl ?_
    refine am_F.mem (F' := (am_row (am_row (am_row (am_row (am_row (am_row (am_row (am_row f 1 (f 1)) 3 (f 3)) 4 (f 4)) 5 (f 5)) 6 (f 6)) 7 (f 7)) 34 (f 34)) 35 (f 35))) (G' := (am_row g 1 (g 1))) ?_ (by first | rfl | (funext a; by_cases z0 : a = 1; (subst z0; rfl); by_cases z1 : a = 3; (subst z1; rfl); by_cases z2 : a = 4; (subst z2; rfl); by_cases z3 : a = 5; (subst z3; rfl); by_cases z4 : a = 6; (subst z4; rfl); by_cases z5 : a = 7; (subst z5; rfl); by_cases z6 : a = 34; (subst z6; rfl); by_cases z7 : a = 35; (subst z7; rfl); simp only [am_ui, am_ul, am_row_ne z0, am_row_ne z1, am_row_ne z2, am_row_ne z3, am_row_ne z4, am_row_ne z5, am_row_ne z6, am_row_ne z7])) (by first | rfl | (funext a; by_cases z0 : a = 1; (subst z0; rfl); by_cases z1 : a = 3; (subst z1; rfl); by_cases z2 : a = 4; (subst z2; rfl); by_cases z3 : a = 5; (subst z3; rfl); by_cases z4 : a = 6; (subst z4; rfl); by_cases z5 : a = 7; (subst z5; rfl); by_cases z6 : a = 34; (subst z6; rfl); by_cases z7 : a = 35; (subst z7; rfl); simp only [am_ui, am_ul, am_row_ne z0, am_row_ne z1, am_row_ne z2, am_row_ne z3, am_row_ne z4, am_row_ne z5, am_row_ne z6, am_row_ne z7]))
    subst hKd
    exact am_F.eq (am_F.ret rfl rfl) hK
/-- AccessLattice.assign -/
def fn_assign (user : Int32) (role : Int32) (on : Int32) (f : Nat → Nat → Int32) (g : Nat → Nat → Int64) : Int32 × (Nat → Int32) × (Nat → Int32) × (Nat → Int32) × (Nat → Int32) × (Nat → Int64) := (bif (fn_isUser user) then (bif (fn_isRole role) then (bif (fn_within01 on) then (if am_b (fn_has (f 30 (user.toNatClampNeg)) role) = am_b (if on = 1 then true else false) then ((-2), f 1, f 30, f 34, f 35, g 1) else (if on = 1 then (bif ((fn_someBarred (am_row f 30 (upd (f 30) (user.toNatClampNeg) ((f 30 (user.toNatClampNeg)) ^^^ (1 <<< (role &&& 31))))) g).1) then ((-6), (fn_someBarred (am_row f 30 (upd (f 30) (user.toNatClampNeg) ((f 30 (user.toNatClampNeg)) ^^^ (1 <<< (role &&& 31))))) g).2.1, upd (upd (f 30) (user.toNatClampNeg) ((f 30 (user.toNatClampNeg)) ^^^ (1 <<< (role &&& 31)))) (user.toNatClampNeg) (f 30 (user.toNatClampNeg)), (fn_someBarred (am_row f 30 (upd (f 30) (user.toNatClampNeg) ((f 30 (user.toNatClampNeg)) ^^^ (1 <<< (role &&& 31))))) g).2.2.1, (fn_someBarred (am_row f 30 (upd (f 30) (user.toNatClampNeg) ((f 30 (user.toNatClampNeg)) ^^^ (1 <<< (role &&& 31))))) g).2.2.2.1, (fn_someBarred (am_row f 30 (upd (f 30) (user.toNatClampNeg) ((f 30 (user.toNatClampNeg)) ^^^ (1 <<< (role &&& 31))))) g).2.2.2.2) else ((fn_bitCount ((upd (f 30) (user.toNatClampNeg) ((f 30 (user.toNatClampNeg)) ^^^ (1 <<< (role &&& 31)))) (user.toNatClampNeg))), (fn_someBarred (am_row f 30 (upd (f 30) (user.toNatClampNeg) ((f 30 (user.toNatClampNeg)) ^^^ (1 <<< (role &&& 31))))) g).2.1, upd (f 30) (user.toNatClampNeg) ((f 30 (user.toNatClampNeg)) ^^^ (1 <<< (role &&& 31))), (fn_someBarred (am_row f 30 (upd (f 30) (user.toNatClampNeg) ((f 30 (user.toNatClampNeg)) ^^^ (1 <<< (role &&& 31))))) g).2.2.1, (fn_someBarred (am_row f 30 (upd (f 30) (user.toNatClampNeg) ((f 30 (user.toNatClampNeg)) ^^^ (1 <<< (role &&& 31))))) g).2.2.2.1, (fn_someBarred (am_row f 30 (upd (f 30) (user.toNatClampNeg) ((f 30 (user.toNatClampNeg)) ^^^ (1 <<< (role &&& 31))))) g).2.2.2.2)) else ((fn_bitCount ((upd (f 30) (user.toNatClampNeg) ((f 30 (user.toNatClampNeg)) ^^^ (1 <<< (role &&& 31)))) (user.toNatClampNeg))), f 1, upd (f 30) (user.toNatClampNeg) ((f 30 (user.toNatClampNeg)) ^^^ (1 <<< (role &&& 31))), f 34, f 35, g 1))) else ((-1), f 1, f 30, f 34, f 35, g 1)) else ((-1), f 1, f 30, f 34, f 35, g 1)) else ((-1), f 1, f 30, f 34, f 35, g 1))
theorem x_assign (user : Int32) (role : Int32) (on : Int32) (f : Nat → Nat → Int32) (g : Nat → Nat → Int64) (hLc : f 11 7 = nI (f 11 7).toNatClampNeg) (hLn : (f 11 7).toNatClampNeg ≤ 40) (hLf : ∀ i, i < (f 11 7).toNatClampNeg → am_inb (f 12 i) 16 = true) (hLt : ∀ i, i < (f 11 7).toNatClampNeg → am_inb (f 13 i) 16 = true) (hLr : ∀ i, i < (f 11 7).toNatClampNeg → am_inb (f 14 i) 20 = true) (hRc : f 18 11 = nI (f 18 11).toNatClampNeg) (hRn : (f 18 11).toNatClampNeg ≤ 30) : am_D 5 31 5 [.ref 0, .int user, .int role, .int on] (am_S f g) (some (Value.int ((fn_assign user role on f g).1)), am_S (am_row (am_row (am_row (am_row f 1 ((fn_assign user role on f g).2.1)) 30 ((fn_assign user role on f g).2.2.1)) 34 ((fn_assign user role on f g).2.2.2.1)) 35 ((fn_assign user role on f g).2.2.2.2.1)) (am_row g 1 ((fn_assign user role on f g).2.2.2.2.2))) := by
  refine am_D.of (code := am_k_31) rfl (L0 := [.ref 0, .int user, .int role, .int on, am_un]) rfl ?_
  generalize hres : (some (Value.int ((fn_assign user role on f g).1)), am_S (am_row (am_row (am_row (am_row f 1 ((fn_assign user role on f g).2.1)) 30 ((fn_assign user role on f g).2.2.1)) 34 ((fn_assign user role on f g).2.2.2.1)) 35 ((fn_assign user role on f g).2.2.2.2.1)) (am_row g 1 ((fn_assign user role on f g).2.2.2.2.2))) = res
  obtain ⟨K, hKd⟩ : ∃ K : (Int32 × (Nat → Int32) × (Nat → Int32) × (Nat → Int32) × (Nat → Int32) × (Nat → Int64)) → Prop, K = fun z => (some (Value.int z.1), am_S (am_row (am_row (am_row (am_row f 1 z.2.1) 30 z.2.2.1) 34 z.2.2.2.1) 35 z.2.2.2.2.1) (am_row g 1 z.2.2.2.2.2)) = res := ⟨_, rfl⟩
  have hK : K (fn_assign user role on f g) := by rw [hKd]; exact hres
  clear hres
  unfold fn_assign at hK
  refine am_F.ops (pc' := 1) (L' := [.ref 0, .int user, .int role, .int on, am_un]) (S' := [.int user]) (μ' := (am_S f g)) 1 rfl ?_
  refine am_F.call rfl rfl (x_isUser user f g ) (by decide) ?_
  show am_F _ _ 4 [.ref 0, .int user, .int role, .int on, am_un] [.int (am_b (fn_isUser user))] (am_S f g) _
  refine am_F.bifK 1 rfl K hK (fun c1 hK => ?_) (fun c1 hK => ?_)
  · obtain ⟨user_n, huser_n, euser_n⟩ := am_iUser c1
    subst euser_n
    try simp only [nI_clamp (show user_n < 2147483648 by omega)] at hK
    show am_F _ _ 7 [.ref 0, .int (nI user_n), .int role, .int on, am_un] [] (am_S f g) _
    refine am_F.ops (pc' := 8) (L' := [.ref 0, .int (nI user_n), .int role, .int on, am_un]) (S' := [.int role]) (μ' := (am_S f g)) 1 rfl ?_
    refine am_F.call rfl rfl (x_isRole role f g ) (by decide) ?_
    show am_F _ _ 11 [.ref 0, .int (nI user_n), .int role, .int on, am_un] [.int (am_b (fn_isRole role))] (am_S f g) _
    refine am_F.bifK 1 rfl K hK (fun c2 hK => ?_) (fun c2 hK => ?_)
    · obtain ⟨role_n, hrole_n, erole_n⟩ := am_iRole c2
      subst erole_n
      try simp only [nI_clamp (show role_n < 2147483648 by omega)] at hK
      show am_F _ _ 14 [.ref 0, .int (nI user_n), .int (nI role_n), .int on, am_un] [] (am_S f g) _
      refine am_F.ops (pc' := 15) (L' := [.ref 0, .int (nI user_n), .int (nI role_n), .int on, am_un]) (S' := [.int on]) (μ' := (am_S f g)) 1 rfl ?_
      refine am_F.call rfl rfl (x_within01 on f g ) (by decide) ?_
      show am_F _ _ 18 [.ref 0, .int (nI user_n), .int (nI role_n), .int on, am_un] [.int (am_b (fn_within01 on))] (am_S f g) _
      refine am_F.bifK 1 rfl K hK (fun c3 hK => ?_) (fun c3 hK => ?_)
      · show am_F _ _ 23 [.ref 0, .int (nI user_n), .int (nI role_n), .int on, am_un] [] (am_S f g) _
        refine am_F.ops (pc' := 31) (L' := [.ref 0, .int (nI user_n), .int (nI role_n), .int on, am_un]) (S' := [.int (nI user_n), .ref 30]) (μ' := (am_S f g)) 4 rfl ?_
        refine am_F.ialE (m := user_n) (N := 16) rfl rfl rfl rfl (by omega) (by decide) ?_
        show am_F _ _ 32 [.ref 0, .int (nI user_n), .int (nI role_n), .int on, am_un] [.int (f 30 user_n)] (am_S f g) _
        refine am_F.ops (pc' := 37) (L' := [.ref 0, .int (nI user_n), .int (nI role_n), .int on, .int (f 30 user_n)]) (S' := [.int (nI role_n), .int (f 30 user_n)]) (μ' := (am_S f g)) 3 rfl ?_
        refine am_F.call rfl rfl (x_has (f 30 user_n) (nI role_n) f g ) (by decide) ?_
        show am_F _ _ 40 [.ref 0, .int (nI user_n), .int (nI role_n), .int on, .int (f 30 user_n)] [.int (am_b (fn_has (f 30 user_n) (nI role_n)))] (am_S f g) _
        refine am_F.ops (pc' := 42) (L' := [.ref 0, .int (nI user_n), .int (nI role_n), .int on, .int (f 30 user_n)]) (S' := [.int 1, .int on, .int (am_b (fn_has (f 30 user_n) (nI role_n)))]) (μ' := (am_S f g)) 2 rfl ?_
        refine am_F.to (am_To.iteB (pc' := 50) (L2 := [.ref 0, .int (nI user_n), .int (nI role_n), .int on, .int (f 30 user_n)]) (S2 := [.int (am_b (fn_has (f 30 user_n) (nI role_n)))]) (μ2 := (am_S f g)) (a := true) (b := false) 1 rfl (fun c4 => ?_) (fun c4 => ?_)) ?_
        · intro res9 g9
          show am_F _ _ 45 [.ref 0, .int (nI user_n), .int (nI role_n), .int on, .int (f 30 user_n)] [.int (am_b (fn_has (f 30 user_n) (nI role_n)))] (am_S f g) _
          refine am_F.ops (pc' := 50) (L' := [.ref 0, .int (nI user_n), .int (nI role_n), .int on, .int (f 30 user_n)]) (S' := [.int 1, .int (am_b (fn_has (f 30 user_n) (nI role_n)))]) (μ' := (am_S f g)) 2 rfl ?_
          exact g9
        · intro res9 g9
          show am_F _ _ 49 [.ref 0, .int (nI user_n), .int (nI role_n), .int on, .int (f 30 user_n)] [.int (am_b (fn_has (f 30 user_n) (nI role_n)))] (am_S f g) _
          refine am_F.ops (pc' := 50) (L' := [.ref 0, .int (nI user_n), .int (nI role_n), .int on, .int (f 30 user_n)]) (S' := [.int 0, .int (am_b (fn_has (f 30 user_n) (nI role_n)))]) (μ' := (am_S f g)) 1 rfl ?_
          exact g9
        show am_F _ _ 50 [.ref 0, .int (nI user_n), .int (nI role_n), .int on, .int (f 30 user_n)] [.int (am_b (if on = 1 then true else false)), .int (am_b (fn_has (f 30 user_n) (nI role_n)))] (am_S f g) _
        refine am_F.iteK 1 rfl K hK (fun c5 hK => ?_) (fun c5 hK => ?_)
        · show am_F _ _ 53 [.ref 0, .int (nI user_n), .int (nI role_n), .int on, .int (f 30 user_n)] [] (am_S f g) _
          refine am_F.ops (pc' := 55) (L' := [.ref 0, .int (nI user_n), .int (nI role_n), .int on, .int (f 30 user_n)]) (S' := [.int (-2)]) (μ' := (am_S f g)) 1 rfl ?_
          refine am_F.mem (F' := (am_row (am_row (am_row (am_row f 1 (f 1)) 30 (f 30)) 34 (f 34)) 35 (f 35))) (G' := (am_row g 1 (g 1))) ?_ (by first | rfl | (funext a; by_cases z0 : a = 1; (subst z0; rfl); by_cases z1 : a = 30; (subst z1; rfl); by_cases z2 : a = 34; (subst z2; rfl); by_cases z3 : a = 35; (subst z3; rfl); simp only [am_ui, am_ul, am_row_ne z0, am_row_ne z1, am_row_ne z2, am_row_ne z3])) (by first | rfl | (funext a; by_cases z0 : a = 1; (subst z0; rfl); by_cases z1 : a = 30; (subst z1; rfl); by_cases z2 : a = 34; (subst z2; rfl); by_cases z3 : a = 35; (subst z3; rfl); simp only [am_ui, am_ul, am_row_ne z0, am_row_ne z1, am_row_ne z2, am_row_ne z3]))
          subst hKd
          exact am_F.eq (am_F.ret rfl rfl) hK
        · show am_F _ _ 56 [.ref 0, .int (nI user_n), .int (nI role_n), .int on, .int (f 30 user_n)] [] (am_S f g) _
          refine am_F.ops (pc' := 70) (L' := [.ref 0, .int (nI user_n), .int (nI role_n), .int on, .int (f 30 user_n)]) (S' := [.int ((f 30 user_n) ^^^ (1 <<< ((nI role_n) &&& 31))), .int (nI user_n), .ref 30]) (μ' := (am_S f g)) 9 rfl ?_
          refine am_F.iasE (F' := (am_row f 30 (upd (f 30) user_n ((f 30 user_n) ^^^ (1 <<< ((nI role_n) &&& 31)))))) (m := user_n) (N := 16) rfl rfl rfl rfl (by omega) (by decide) (by first | rfl | (funext a; by_cases z0 : a = 30; (subst z0; rfl); simp only [am_ui, am_ul, am_row_ne z0])) ?_
          refine am_F.ops (pc' := 73) (L' := [.ref 0, .int (nI user_n), .int (nI role_n), .int on, .int (f 30 user_n)]) (S' := [.int 1, .int on]) (μ' := (am_S (am_row f 30 (upd (f 30) user_n ((f 30 user_n) ^^^ (1 <<< ((nI role_n) &&& 31))))) g)) 2 rfl ?_
          refine am_F.iteK 1 rfl K hK (fun c6 hK => ?_) (fun c6 hK => ?_)
          · show am_F _ _ 76 [.ref 0, .int (nI user_n), .int (nI role_n), .int on, .int (f 30 user_n)] [] (am_S (am_row f 30 (upd (f 30) user_n ((f 30 user_n) ^^^ (1 <<< ((nI role_n) &&& 31))))) g) _
            refine am_F.ops (pc' := 80) (L' := [.ref 0, .int (nI user_n), .int (nI role_n), .int on, .int (f 30 user_n)]) (S' := [.ref 1]) (μ' := (am_S (am_row f 30 (upd (f 30) user_n ((f 30 user_n) ^^^ (1 <<< ((nI role_n) &&& 31))))) g)) 2 rfl ?_
            refine am_F.call rfl rfl (x_someBarred  (am_row f 30 (upd (f 30) user_n ((f 30 user_n) ^^^ (1 <<< ((nI role_n) &&& 31))))) g hLc hLn hLf hLt hLr hRc hRn) (by decide) ?_
            obtain ⟨y7, hy7⟩ : ∃ z, (fn_someBarred (am_row f 30 (upd (f 30) user_n ((f 30 user_n) ^^^ (1 <<< ((nI role_n) &&& 31))))) g) = z := ⟨_, rfl⟩
            (try rw [hy7] at hK)
            (try rw [hy7])
            refine am_F.mem (F' := (am_row (am_row (am_row (am_row f 1 y7.2.1) 30 (upd (f 30) user_n ((f 30 user_n) ^^^ (1 <<< ((nI role_n) &&& 31))))) 34 y7.2.2.1) 35 y7.2.2.2.1)) (G' := (am_row g 1 y7.2.2.2.2)) ?_ (by first | rfl | (funext a; by_cases z0 : a = 1; (subst z0; rfl); by_cases z1 : a = 30; (subst z1; rfl); by_cases z2 : a = 34; (subst z2; rfl); by_cases z3 : a = 35; (subst z3; rfl); simp only [am_ui, am_ul, am_row_ne z0, am_row_ne z1, am_row_ne z2, am_row_ne z3])) (by first | rfl | (funext a; by_cases z0 : a = 1; (subst z0; rfl); by_cases z1 : a = 30; (subst z1; rfl); by_cases z2 : a = 34; (subst z2; rfl); by_cases z3 : a = 35; (subst z3; rfl); simp only [am_ui, am_ul, am_row_ne z0, am_row_ne z1, am_row_ne z2, am_row_ne z3]))
            show am_F _ _ 83 [.ref 0, .int (nI user_n), .int (nI role_n), .int on, .int (f 30 user_n)] [.int (am_b (y7.1))] (am_S (am_row (am_row (am_row (am_row f 1 y7.2.1) 30 (upd (f 30) user_n ((f 30 user_n) ^^^ (1 <<< ((nI role_n) &&& 31))))) 34 y7.2.2.1) 35 y7.2.2.2.1) (am_row g 1 y7.2.2.2.2)) _
            refine am_F.bifK 1 rfl K hK (fun c8 hK => ?_) (fun c8 hK => ?_)
            · show am_F _ _ 86 [.ref 0, .int (nI user_n), .int (nI role_n), .int on, .int (f 30 user_n)] [] (am_S (am_row (am_row (am_row (am_row f 1 y7.2.1) 30 (upd (f 30) user_n ((f 30 user_n) ^^^ (1 <<< ((nI role_n) &&& 31))))) 34 y7.2.2.1) 35 y7.2.2.2.1) (am_row g 1 y7.2.2.2.2)) _
              refine am_F.ops (pc' := 96) (L' := [.ref 0, .int (nI user_n), .int (nI role_n), .int on, .int (f 30 user_n)]) (S' := [.int (f 30 user_n), .int (nI user_n), .ref 30]) (μ' := (am_S (am_row (am_row (am_row (am_row f 1 y7.2.1) 30 (upd (f 30) user_n ((f 30 user_n) ^^^ (1 <<< ((nI role_n) &&& 31))))) 34 y7.2.2.1) 35 y7.2.2.2.1) (am_row g 1 y7.2.2.2.2))) 5 rfl ?_
              refine am_F.iasE (F' := (am_row (am_row (am_row (am_row f 1 y7.2.1) 30 (upd (upd (f 30) user_n ((f 30 user_n) ^^^ (1 <<< ((nI role_n) &&& 31)))) user_n (f 30 user_n))) 34 y7.2.2.1) 35 y7.2.2.2.1)) (m := user_n) (N := 16) rfl rfl rfl rfl (by omega) (by decide) (by first | rfl | (funext a; by_cases z0 : a = 1; (subst z0; rfl); by_cases z1 : a = 30; (subst z1; rfl); by_cases z2 : a = 34; (subst z2; rfl); by_cases z3 : a = 35; (subst z3; rfl); simp only [am_ui, am_ul, am_row_ne z0, am_row_ne z1, am_row_ne z2, am_row_ne z3])) ?_
              refine am_F.ops (pc' := 99) (L' := [.ref 0, .int (nI user_n), .int (nI role_n), .int on, .int (f 30 user_n)]) (S' := [.int (-6)]) (μ' := (am_S (am_row (am_row (am_row (am_row f 1 y7.2.1) 30 (upd (upd (f 30) user_n ((f 30 user_n) ^^^ (1 <<< ((nI role_n) &&& 31)))) user_n (f 30 user_n))) 34 y7.2.2.1) 35 y7.2.2.2.1) (am_row g 1 y7.2.2.2.2))) 1 rfl ?_
              subst hKd
              exact am_F.eq (am_F.ret rfl rfl) hK
            · show am_F _ _ 100 [.ref 0, .int (nI user_n), .int (nI role_n), .int on, .int (f 30 user_n)] [] (am_S (am_row (am_row (am_row (am_row f 1 y7.2.1) 30 (upd (f 30) user_n ((f 30 user_n) ^^^ (1 <<< ((nI role_n) &&& 31))))) 34 y7.2.2.1) 35 y7.2.2.2.1) (am_row g 1 y7.2.2.2.2)) _
              refine am_F.ops (pc' := 108) (L' := [.ref 0, .int (nI user_n), .int (nI role_n), .int on, .int (f 30 user_n)]) (S' := [.int (nI user_n), .ref 30]) (μ' := (am_S (am_row (am_row (am_row (am_row f 1 y7.2.1) 30 (upd (f 30) user_n ((f 30 user_n) ^^^ (1 <<< ((nI role_n) &&& 31))))) 34 y7.2.2.1) 35 y7.2.2.2.1) (am_row g 1 y7.2.2.2.2))) 4 rfl ?_
              refine am_F.ialE (m := user_n) (N := 16) rfl rfl rfl rfl (by omega) (by decide) ?_
              show am_F _ _ 109 [.ref 0, .int (nI user_n), .int (nI role_n), .int on, .int (f 30 user_n)] [.int ((upd (f 30) user_n ((f 30 user_n) ^^^ (1 <<< ((nI role_n) &&& 31)))) user_n)] (am_S (am_row (am_row (am_row (am_row f 1 y7.2.1) 30 (upd (f 30) user_n ((f 30 user_n) ^^^ (1 <<< ((nI role_n) &&& 31))))) 34 y7.2.2.1) 35 y7.2.2.2.1) (am_row g 1 y7.2.2.2.2)) _
              refine am_F.call rfl rfl (x_bitCount ((upd (f 30) user_n ((f 30 user_n) ^^^ (1 <<< ((nI role_n) &&& 31)))) user_n) (am_row (am_row (am_row (am_row f 1 y7.2.1) 30 (upd (f 30) user_n ((f 30 user_n) ^^^ (1 <<< ((nI role_n) &&& 31))))) 34 y7.2.2.1) 35 y7.2.2.2.1) (am_row g 1 y7.2.2.2.2) ) (by decide) ?_
              show am_F _ _ 112 [.ref 0, .int (nI user_n), .int (nI role_n), .int on, .int (f 30 user_n)] [.int (fn_bitCount ((upd (f 30) user_n ((f 30 user_n) ^^^ (1 <<< ((nI role_n) &&& 31)))) user_n))] (am_S (am_row (am_row (am_row (am_row f 1 y7.2.1) 30 (upd (f 30) user_n ((f 30 user_n) ^^^ (1 <<< ((nI role_n) &&& 31))))) 34 y7.2.2.1) 35 y7.2.2.2.1) (am_row g 1 y7.2.2.2.2)) _
              subst hKd
              exact am_F.eq (am_F.ret rfl rfl) hK
          · show am_F _ _ 100 [.ref 0, .int (nI user_n), .int (nI role_n), .int on, .int (f 30 user_n)] [] (am_S (am_row f 30 (upd (f 30) user_n ((f 30 user_n) ^^^ (1 <<< ((nI role_n) &&& 31))))) g) _
            refine am_F.ops (pc' := 108) (L' := [.ref 0, .int (nI user_n), .int (nI role_n), .int on, .int (f 30 user_n)]) (S' := [.int (nI user_n), .ref 30]) (μ' := (am_S (am_row f 30 (upd (f 30) user_n ((f 30 user_n) ^^^ (1 <<< ((nI role_n) &&& 31))))) g)) 4 rfl ?_
            refine am_F.ialE (m := user_n) (N := 16) rfl rfl rfl rfl (by omega) (by decide) ?_
            show am_F _ _ 109 [.ref 0, .int (nI user_n), .int (nI role_n), .int on, .int (f 30 user_n)] [.int ((upd (f 30) user_n ((f 30 user_n) ^^^ (1 <<< ((nI role_n) &&& 31)))) user_n)] (am_S (am_row f 30 (upd (f 30) user_n ((f 30 user_n) ^^^ (1 <<< ((nI role_n) &&& 31))))) g) _
            refine am_F.call rfl rfl (x_bitCount ((upd (f 30) user_n ((f 30 user_n) ^^^ (1 <<< ((nI role_n) &&& 31)))) user_n) (am_row f 30 (upd (f 30) user_n ((f 30 user_n) ^^^ (1 <<< ((nI role_n) &&& 31))))) g ) (by decide) ?_
            show am_F _ _ 112 [.ref 0, .int (nI user_n), .int (nI role_n), .int on, .int (f 30 user_n)] [.int (fn_bitCount ((upd (f 30) user_n ((f 30 user_n) ^^^ (1 <<< ((nI role_n) &&& 31)))) user_n))] (am_S (am_row f 30 (upd (f 30) user_n ((f 30 user_n) ^^^ (1 <<< ((nI role_n) &&& 31))))) g) _
            refine am_F.mem (F' := (am_row (am_row (am_row (am_row f 1 (f 1)) 30 (upd (f 30) user_n ((f 30 user_n) ^^^ (1 <<< ((nI role_n) &&& 31))))) 34 (f 34)) 35 (f 35))) (G' := (am_row g 1 (g 1))) ?_ (by first | rfl | (funext a; by_cases z0 : a = 1; (subst z0; rfl); by_cases z1 : a = 30; (subst z1; rfl); by_cases z2 : a = 34; (subst z2; rfl); by_cases z3 : a = 35; (subst z3; rfl); simp only [am_ui, am_ul, am_row_ne z0, am_row_ne z1, am_row_ne z2, am_row_ne z3])) (by first | rfl | (funext a; by_cases z0 : a = 1; (subst z0; rfl); by_cases z1 : a = 30; (subst z1; rfl); by_cases z2 : a = 34; (subst z2; rfl); by_cases z3 : a = 35; (subst z3; rfl); simp only [am_ui, am_ul, am_row_ne z0, am_row_ne z1, am_row_ne z2, am_row_ne z3]))
            subst hKd
            exact am_F.eq (am_F.ret rfl rfl) hK
      · show am_F _ _ 21 [.ref 0, .int (nI user_n), .int (nI role_n), .int on, am_un] [] (am_S f g) _
        refine am_F.ops (pc' := 22) (L' := [.ref 0, .int (nI user_n), .int (nI role_n), .int on, am_un]) (S' := [.int (-1)]) (μ' := (am_S f g)) 1 rfl ?_
        refine am_F.mem (F' := (am_row (am_row (am_row (am_row f 1 (f 1)) 30 (f 30)) 34 (f 34)) 35 (f 35))) (G' := (am_row g 1 (g 1))) ?_ (by first | rfl | (funext a; by_cases z0 : a = 1; (subst z0; rfl); by_cases z1 : a = 30; (subst z1; rfl); by_cases z2 : a = 34; (subst z2; rfl); by_cases z3 : a = 35; (subst z3; rfl); simp only [am_ui, am_ul, am_row_ne z0, am_row_ne z1, am_row_ne z2, am_row_ne z3])) (by first | rfl | (funext a; by_cases z0 : a = 1; (subst z0; rfl); by_cases z1 : a = 30; (subst z1; rfl); by_cases z2 : a = 34; (subst z2; rfl); by_cases z3 : a = 35; (subst z3; rfl); simp only [am_ui, am_ul, am_row_ne z0, am_row_ne z1, am_row_ne z2, am_row_ne z3]))
        subst hKd
        exact am_F.eq (am_F.ret rfl rfl) hK
    · show am_F _ _ 21 [.ref 0, .int (nI user_n), .int role, .int on, am_un] [] (am_S f g) _
      refine am_F.ops (pc' := 22) (L' := [.ref 0, .int (nI user_n), .int role, .int on, am_un]) (S' := [.int (-1)]) (μ' := (am_S f g)) 1 rfl ?_
      refine am_F.mem (F' := (am_row (am_row (am_row (am_row f 1 (f 1)) 30 (f 30)) 34 (f 34)) 35 (f 35))) (G' := (am_row g 1 (g 1))) ?_ (by first | rfl | (funext a; by_cases z0 : a = 1; (subst z0; rfl); by_cases z1 : a = 30; (subst z1; rfl); by_cases z2 : a = 34; (subst z2; rfl); by_cases z3 : a = 35; (subst z3; rfl); simp only [am_ui, am_ul, am_row_ne z0, am_row_ne z1, am_row_ne z2, am_row_ne z3])) (by first | rfl | (funext a; by_cases z0 : a = 1; (subst z0; rfl); by_cases z1 : a = 30; (subst z1; rfl); by_cases z2 : a = 34; (subst z2; rfl); by_cases z3 : a = 35; (subst z3; rfl); simp only [am_ui, am_ul, am_row_ne z0, am_row_ne z1, am_row_ne z2, am_row_ne z3]))
      subst hKd
      exact am_F.eq (am_F.ret rfl rfl) hK
  · show am_F _ _ 21 [.ref 0, .int user, .int role, .int on, am_un] [] (am_S f g) _
    refine am_F.ops (pc' := 22) (L' := [.ref 0, .int user, .int role, .int on, am_un]) (S' := [.int (-1)]) (μ' := (am_S f g)) 1 rfl ?_
    refine am_F.mem (F' := (am_row (am_row (am_row (am_row f 1 (f 1)) 30 (f 30)) 34 (f 34)) 35 (f 35))) (G' := (am_row g 1 (g 1))) ?_ (by first | rfl | (funext a; by_cases z0 : a = 1; (subst z0; rfl); by_cases z1 : a = 30; (subst z1; rfl); by_cases z2 : a = 34; (subst z2; rfl); by_cases z3 : a = 35; (subst z3; rfl); simp only [am_ui, am_ul, am_row_ne z0, am_row_ne z1, am_row_ne z2, am_row_ne z3])) (by first | rfl | (funext a; by_cases z0 : a = 1; (subst z0; rfl); by_cases z1 : a = 30; (subst z1; rfl); by_cases z2 : a = 34; (subst z2; rfl); by_cases z3 : a = 35; (subst z3; rfl); simp only [am_ui, am_ul, am_row_ne z0, am_row_ne z1, am_row_ne z2, am_row_ne z3]))
    subst hKd
    exact am_F.eq (am_F.ret rfl rfl) hK
/-- AccessLattice.exclude -/
def fn_exclude (a : Int32) (b : Int32) (on : Int32) (f : Nat → Nat → Int32) (g : Nat → Nat → Int64) : Int32 × (Nat → Int32) × (Nat → Int32) × (Nat → Int32) × (Nat → Int32) × (Nat → Int32) × (Nat → Int64) := (bif (fn_isRole a) then (bif (fn_isRole b) then (if a = b then ((-1), f 1, f 2, f 31, f 34, f 35, g 1) else (bif (fn_within01 on) then (if am_b (fn_has (f 31 (a.toNatClampNeg)) b) = am_b (if on = 1 then true else false) then ((-2), f 1, f 2, f 31, f 34, f 35, g 1) else (if on = 1 then (if (f 2 10) < 10 then (if on = 1 then (bif ((fn_someBarred (am_row (am_row f 2 (fn_toggleBarred (a.toNatClampNeg) (b.toNatClampNeg) f).1) 31 (fn_toggleBarred (a.toNatClampNeg) (b.toNatClampNeg) f).2) g).1) then ((-6), (fn_someBarred (am_row (am_row f 2 (fn_toggleBarred (a.toNatClampNeg) (b.toNatClampNeg) f).1) 31 (fn_toggleBarred (a.toNatClampNeg) (b.toNatClampNeg) f).2) g).2.1, (fn_toggleBarred (a.toNatClampNeg) (b.toNatClampNeg) (am_row (am_row (am_row (am_row (am_row f 1 (fn_someBarred (am_row (am_row f 2 (fn_toggleBarred (a.toNatClampNeg) (b.toNatClampNeg) f).1) 31 (fn_toggleBarred (a.toNatClampNeg) (b.toNatClampNeg) f).2) g).2.1) 2 (fn_toggleBarred (a.toNatClampNeg) (b.toNatClampNeg) f).1) 31 (fn_toggleBarred (a.toNatClampNeg) (b.toNatClampNeg) f).2) 34 (fn_someBarred (am_row (am_row f 2 (fn_toggleBarred (a.toNatClampNeg) (b.toNatClampNeg) f).1) 31 (fn_toggleBarred (a.toNatClampNeg) (b.toNatClampNeg) f).2) g).2.2.1) 35 (fn_someBarred (am_row (am_row f 2 (fn_toggleBarred (a.toNatClampNeg) (b.toNatClampNeg) f).1) 31 (fn_toggleBarred (a.toNatClampNeg) (b.toNatClampNeg) f).2) g).2.2.2.1)).1, (fn_toggleBarred (a.toNatClampNeg) (b.toNatClampNeg) (am_row (am_row (am_row (am_row (am_row f 1 (fn_someBarred (am_row (am_row f 2 (fn_toggleBarred (a.toNatClampNeg) (b.toNatClampNeg) f).1) 31 (fn_toggleBarred (a.toNatClampNeg) (b.toNatClampNeg) f).2) g).2.1) 2 (fn_toggleBarred (a.toNatClampNeg) (b.toNatClampNeg) f).1) 31 (fn_toggleBarred (a.toNatClampNeg) (b.toNatClampNeg) f).2) 34 (fn_someBarred (am_row (am_row f 2 (fn_toggleBarred (a.toNatClampNeg) (b.toNatClampNeg) f).1) 31 (fn_toggleBarred (a.toNatClampNeg) (b.toNatClampNeg) f).2) g).2.2.1) 35 (fn_someBarred (am_row (am_row f 2 (fn_toggleBarred (a.toNatClampNeg) (b.toNatClampNeg) f).1) 31 (fn_toggleBarred (a.toNatClampNeg) (b.toNatClampNeg) f).2) g).2.2.2.1)).2, (fn_someBarred (am_row (am_row f 2 (fn_toggleBarred (a.toNatClampNeg) (b.toNatClampNeg) f).1) 31 (fn_toggleBarred (a.toNatClampNeg) (b.toNatClampNeg) f).2) g).2.2.1, (fn_someBarred (am_row (am_row f 2 (fn_toggleBarred (a.toNatClampNeg) (b.toNatClampNeg) f).1) 31 (fn_toggleBarred (a.toNatClampNeg) (b.toNatClampNeg) f).2) g).2.2.2.1, (fn_someBarred (am_row (am_row f 2 (fn_toggleBarred (a.toNatClampNeg) (b.toNatClampNeg) f).1) 31 (fn_toggleBarred (a.toNatClampNeg) (b.toNatClampNeg) f).2) g).2.2.2.2) else ((fn_toggleBarred (a.toNatClampNeg) (b.toNatClampNeg) f).1 10, (fn_someBarred (am_row (am_row f 2 (fn_toggleBarred (a.toNatClampNeg) (b.toNatClampNeg) f).1) 31 (fn_toggleBarred (a.toNatClampNeg) (b.toNatClampNeg) f).2) g).2.1, (fn_toggleBarred (a.toNatClampNeg) (b.toNatClampNeg) f).1, (fn_toggleBarred (a.toNatClampNeg) (b.toNatClampNeg) f).2, (fn_someBarred (am_row (am_row f 2 (fn_toggleBarred (a.toNatClampNeg) (b.toNatClampNeg) f).1) 31 (fn_toggleBarred (a.toNatClampNeg) (b.toNatClampNeg) f).2) g).2.2.1, (fn_someBarred (am_row (am_row f 2 (fn_toggleBarred (a.toNatClampNeg) (b.toNatClampNeg) f).1) 31 (fn_toggleBarred (a.toNatClampNeg) (b.toNatClampNeg) f).2) g).2.2.2.1, (fn_someBarred (am_row (am_row f 2 (fn_toggleBarred (a.toNatClampNeg) (b.toNatClampNeg) f).1) 31 (fn_toggleBarred (a.toNatClampNeg) (b.toNatClampNeg) f).2) g).2.2.2.2)) else ((fn_toggleBarred (a.toNatClampNeg) (b.toNatClampNeg) f).1 10, f 1, (fn_toggleBarred (a.toNatClampNeg) (b.toNatClampNeg) f).1, (fn_toggleBarred (a.toNatClampNeg) (b.toNatClampNeg) f).2, f 34, f 35, g 1)) else ((-3), f 1, f 2, f 31, f 34, f 35, g 1)) else (if on = 1 then (bif ((fn_someBarred (am_row (am_row f 2 (fn_toggleBarred (a.toNatClampNeg) (b.toNatClampNeg) f).1) 31 (fn_toggleBarred (a.toNatClampNeg) (b.toNatClampNeg) f).2) g).1) then ((-6), (fn_someBarred (am_row (am_row f 2 (fn_toggleBarred (a.toNatClampNeg) (b.toNatClampNeg) f).1) 31 (fn_toggleBarred (a.toNatClampNeg) (b.toNatClampNeg) f).2) g).2.1, (fn_toggleBarred (a.toNatClampNeg) (b.toNatClampNeg) (am_row (am_row (am_row (am_row (am_row f 1 (fn_someBarred (am_row (am_row f 2 (fn_toggleBarred (a.toNatClampNeg) (b.toNatClampNeg) f).1) 31 (fn_toggleBarred (a.toNatClampNeg) (b.toNatClampNeg) f).2) g).2.1) 2 (fn_toggleBarred (a.toNatClampNeg) (b.toNatClampNeg) f).1) 31 (fn_toggleBarred (a.toNatClampNeg) (b.toNatClampNeg) f).2) 34 (fn_someBarred (am_row (am_row f 2 (fn_toggleBarred (a.toNatClampNeg) (b.toNatClampNeg) f).1) 31 (fn_toggleBarred (a.toNatClampNeg) (b.toNatClampNeg) f).2) g).2.2.1) 35 (fn_someBarred (am_row (am_row f 2 (fn_toggleBarred (a.toNatClampNeg) (b.toNatClampNeg) f).1) 31 (fn_toggleBarred (a.toNatClampNeg) (b.toNatClampNeg) f).2) g).2.2.2.1)).1, (fn_toggleBarred (a.toNatClampNeg) (b.toNatClampNeg) (am_row (am_row (am_row (am_row (am_row f 1 (fn_someBarred (am_row (am_row f 2 (fn_toggleBarred (a.toNatClampNeg) (b.toNatClampNeg) f).1) 31 (fn_toggleBarred (a.toNatClampNeg) (b.toNatClampNeg) f).2) g).2.1) 2 (fn_toggleBarred (a.toNatClampNeg) (b.toNatClampNeg) f).1) 31 (fn_toggleBarred (a.toNatClampNeg) (b.toNatClampNeg) f).2) 34 (fn_someBarred (am_row (am_row f 2 (fn_toggleBarred (a.toNatClampNeg) (b.toNatClampNeg) f).1) 31 (fn_toggleBarred (a.toNatClampNeg) (b.toNatClampNeg) f).2) g).2.2.1) 35 (fn_someBarred (am_row (am_row f 2 (fn_toggleBarred (a.toNatClampNeg) (b.toNatClampNeg) f).1) 31 (fn_toggleBarred (a.toNatClampNeg) (b.toNatClampNeg) f).2) g).2.2.2.1)).2, (fn_someBarred (am_row (am_row f 2 (fn_toggleBarred (a.toNatClampNeg) (b.toNatClampNeg) f).1) 31 (fn_toggleBarred (a.toNatClampNeg) (b.toNatClampNeg) f).2) g).2.2.1, (fn_someBarred (am_row (am_row f 2 (fn_toggleBarred (a.toNatClampNeg) (b.toNatClampNeg) f).1) 31 (fn_toggleBarred (a.toNatClampNeg) (b.toNatClampNeg) f).2) g).2.2.2.1, (fn_someBarred (am_row (am_row f 2 (fn_toggleBarred (a.toNatClampNeg) (b.toNatClampNeg) f).1) 31 (fn_toggleBarred (a.toNatClampNeg) (b.toNatClampNeg) f).2) g).2.2.2.2) else ((fn_toggleBarred (a.toNatClampNeg) (b.toNatClampNeg) f).1 10, (fn_someBarred (am_row (am_row f 2 (fn_toggleBarred (a.toNatClampNeg) (b.toNatClampNeg) f).1) 31 (fn_toggleBarred (a.toNatClampNeg) (b.toNatClampNeg) f).2) g).2.1, (fn_toggleBarred (a.toNatClampNeg) (b.toNatClampNeg) f).1, (fn_toggleBarred (a.toNatClampNeg) (b.toNatClampNeg) f).2, (fn_someBarred (am_row (am_row f 2 (fn_toggleBarred (a.toNatClampNeg) (b.toNatClampNeg) f).1) 31 (fn_toggleBarred (a.toNatClampNeg) (b.toNatClampNeg) f).2) g).2.2.1, (fn_someBarred (am_row (am_row f 2 (fn_toggleBarred (a.toNatClampNeg) (b.toNatClampNeg) f).1) 31 (fn_toggleBarred (a.toNatClampNeg) (b.toNatClampNeg) f).2) g).2.2.2.1, (fn_someBarred (am_row (am_row f 2 (fn_toggleBarred (a.toNatClampNeg) (b.toNatClampNeg) f).1) 31 (fn_toggleBarred (a.toNatClampNeg) (b.toNatClampNeg) f).2) g).2.2.2.2)) else ((fn_toggleBarred (a.toNatClampNeg) (b.toNatClampNeg) f).1 10, f 1, (fn_toggleBarred (a.toNatClampNeg) (b.toNatClampNeg) f).1, (fn_toggleBarred (a.toNatClampNeg) (b.toNatClampNeg) f).2, f 34, f 35, g 1)))) else ((-1), f 1, f 2, f 31, f 34, f 35, g 1))) else ((-1), f 1, f 2, f 31, f 34, f 35, g 1)) else ((-1), f 1, f 2, f 31, f 34, f 35, g 1))
theorem x_exclude (a : Int32) (b : Int32) (on : Int32) (f : Nat → Nat → Int32) (g : Nat → Nat → Int64) (hLc : f 11 7 = nI (f 11 7).toNatClampNeg) (hLn : (f 11 7).toNatClampNeg ≤ 40) (hLf : ∀ i, i < (f 11 7).toNatClampNeg → am_inb (f 12 i) 16 = true) (hLt : ∀ i, i < (f 11 7).toNatClampNeg → am_inb (f 13 i) 16 = true) (hLr : ∀ i, i < (f 11 7).toNatClampNeg → am_inb (f 14 i) 20 = true) (hRc : f 18 11 = nI (f 18 11).toNatClampNeg) (hRn : (f 18 11).toNatClampNeg ≤ 30) : am_D 5 34 4 [.ref 0, .int a, .int b, .int on] (am_S f g) (some (Value.int ((fn_exclude a b on f g).1)), am_S (am_row (am_row (am_row (am_row (am_row f 1 ((fn_exclude a b on f g).2.1)) 2 ((fn_exclude a b on f g).2.2.1)) 31 ((fn_exclude a b on f g).2.2.2.1)) 34 ((fn_exclude a b on f g).2.2.2.2.1)) 35 ((fn_exclude a b on f g).2.2.2.2.2.1)) (am_row g 1 ((fn_exclude a b on f g).2.2.2.2.2.2))) := by
  refine am_D.of (code := am_k_34) rfl (L0 := [.ref 0, .int a, .int b, .int on]) rfl ?_
  generalize hres : (some (Value.int ((fn_exclude a b on f g).1)), am_S (am_row (am_row (am_row (am_row (am_row f 1 ((fn_exclude a b on f g).2.1)) 2 ((fn_exclude a b on f g).2.2.1)) 31 ((fn_exclude a b on f g).2.2.2.1)) 34 ((fn_exclude a b on f g).2.2.2.2.1)) 35 ((fn_exclude a b on f g).2.2.2.2.2.1)) (am_row g 1 ((fn_exclude a b on f g).2.2.2.2.2.2))) = res
  obtain ⟨K, hKd⟩ : ∃ K : (Int32 × (Nat → Int32) × (Nat → Int32) × (Nat → Int32) × (Nat → Int32) × (Nat → Int32) × (Nat → Int64)) → Prop, K = fun z => (some (Value.int z.1), am_S (am_row (am_row (am_row (am_row (am_row f 1 z.2.1) 2 z.2.2.1) 31 z.2.2.2.1) 34 z.2.2.2.2.1) 35 z.2.2.2.2.2.1) (am_row g 1 z.2.2.2.2.2.2)) = res := ⟨_, rfl⟩
  have hK : K (fn_exclude a b on f g) := by rw [hKd]; exact hres
  clear hres
  unfold fn_exclude at hK
  refine am_F.ops (pc' := 1) (L' := [.ref 0, .int a, .int b, .int on]) (S' := [.int a]) (μ' := (am_S f g)) 1 rfl ?_
  refine am_F.call rfl rfl (x_isRole a f g ) (by decide) ?_
  show am_F _ _ 4 [.ref 0, .int a, .int b, .int on] [.int (am_b (fn_isRole a))] (am_S f g) _
  refine am_F.bifK 1 rfl K hK (fun c1 hK => ?_) (fun c1 hK => ?_)
  · obtain ⟨a_n, ha_n, ea_n⟩ := am_iRole c1
    subst ea_n
    try simp only [nI_clamp (show a_n < 2147483648 by omega)] at hK
    show am_F _ _ 7 [.ref 0, .int (nI a_n), .int b, .int on] [] (am_S f g) _
    refine am_F.ops (pc' := 8) (L' := [.ref 0, .int (nI a_n), .int b, .int on]) (S' := [.int b]) (μ' := (am_S f g)) 1 rfl ?_
    refine am_F.call rfl rfl (x_isRole b f g ) (by decide) ?_
    show am_F _ _ 11 [.ref 0, .int (nI a_n), .int b, .int on] [.int (am_b (fn_isRole b))] (am_S f g) _
    refine am_F.bifK 1 rfl K hK (fun c2 hK => ?_) (fun c2 hK => ?_)
    · obtain ⟨b_n, hb_n, eb_n⟩ := am_iRole c2
      subst eb_n
      try simp only [nI_clamp (show b_n < 2147483648 by omega)] at hK
      show am_F _ _ 14 [.ref 0, .int (nI a_n), .int (nI b_n), .int on] [] (am_S f g) _
      refine am_F.ops (pc' := 16) (L' := [.ref 0, .int (nI a_n), .int (nI b_n), .int on]) (S' := [.int (nI b_n), .int (nI a_n)]) (μ' := (am_S f g)) 2 rfl ?_
      refine am_F.iteK 1 rfl K hK (fun c3 hK => ?_) (fun c3 hK => ?_)
      · show am_F _ _ 26 [.ref 0, .int (nI a_n), .int (nI b_n), .int on] [] (am_S f g) _
        refine am_F.ops (pc' := 27) (L' := [.ref 0, .int (nI a_n), .int (nI b_n), .int on]) (S' := [.int (-1)]) (μ' := (am_S f g)) 1 rfl ?_
        refine am_F.mem (F' := (am_row (am_row (am_row (am_row (am_row f 1 (f 1)) 2 (f 2)) 31 (f 31)) 34 (f 34)) 35 (f 35))) (G' := (am_row g 1 (g 1))) ?_ (by first | rfl | (funext a; by_cases z0 : a = 1; (subst z0; rfl); by_cases z1 : a = 2; (subst z1; rfl); by_cases z2 : a = 31; (subst z2; rfl); by_cases z3 : a = 34; (subst z3; rfl); by_cases z4 : a = 35; (subst z4; rfl); simp only [am_ui, am_ul, am_row_ne z0, am_row_ne z1, am_row_ne z2, am_row_ne z3, am_row_ne z4])) (by first | rfl | (funext a; by_cases z0 : a = 1; (subst z0; rfl); by_cases z1 : a = 2; (subst z1; rfl); by_cases z2 : a = 31; (subst z2; rfl); by_cases z3 : a = 34; (subst z3; rfl); by_cases z4 : a = 35; (subst z4; rfl); simp only [am_ui, am_ul, am_row_ne z0, am_row_ne z1, am_row_ne z2, am_row_ne z3, am_row_ne z4]))
        subst hKd
        exact am_F.eq (am_F.ret rfl rfl) hK
      · show am_F _ _ 19 [.ref 0, .int (nI a_n), .int (nI b_n), .int on] [] (am_S f g) _
        refine am_F.ops (pc' := 20) (L' := [.ref 0, .int (nI a_n), .int (nI b_n), .int on]) (S' := [.int on]) (μ' := (am_S f g)) 1 rfl ?_
        refine am_F.call rfl rfl (x_within01 on f g ) (by decide) ?_
        show am_F _ _ 23 [.ref 0, .int (nI a_n), .int (nI b_n), .int on] [.int (am_b (fn_within01 on))] (am_S f g) _
        refine am_F.bifK 1 rfl K hK (fun c4 hK => ?_) (fun c4 hK => ?_)
        · show am_F _ _ 28 [.ref 0, .int (nI a_n), .int (nI b_n), .int on] [] (am_S f g) _
          refine am_F.ops (pc' := 36) (L' := [.ref 0, .int (nI a_n), .int (nI b_n), .int on]) (S' := [.int (nI a_n), .ref 31]) (μ' := (am_S f g)) 4 rfl ?_
          refine am_F.ialE (m := a_n) (N := 20) rfl rfl rfl rfl (by omega) (by decide) ?_
          show am_F _ _ 37 [.ref 0, .int (nI a_n), .int (nI b_n), .int on] [.int (f 31 a_n)] (am_S f g) _
          refine am_F.ops (pc' := 38) (L' := [.ref 0, .int (nI a_n), .int (nI b_n), .int on]) (S' := [.int (nI b_n), .int (f 31 a_n)]) (μ' := (am_S f g)) 1 rfl ?_
          refine am_F.call rfl rfl (x_has (f 31 a_n) (nI b_n) f g ) (by decide) ?_
          show am_F _ _ 41 [.ref 0, .int (nI a_n), .int (nI b_n), .int on] [.int (am_b (fn_has (f 31 a_n) (nI b_n)))] (am_S f g) _
          refine am_F.ops (pc' := 43) (L' := [.ref 0, .int (nI a_n), .int (nI b_n), .int on]) (S' := [.int 1, .int on, .int (am_b (fn_has (f 31 a_n) (nI b_n)))]) (μ' := (am_S f g)) 2 rfl ?_
          refine am_F.to (am_To.iteB (pc' := 51) (L2 := [.ref 0, .int (nI a_n), .int (nI b_n), .int on]) (S2 := [.int (am_b (fn_has (f 31 a_n) (nI b_n)))]) (μ2 := (am_S f g)) (a := true) (b := false) 1 rfl (fun c5 => ?_) (fun c5 => ?_)) ?_
          · intro res9 g9
            show am_F _ _ 46 [.ref 0, .int (nI a_n), .int (nI b_n), .int on] [.int (am_b (fn_has (f 31 a_n) (nI b_n)))] (am_S f g) _
            refine am_F.ops (pc' := 51) (L' := [.ref 0, .int (nI a_n), .int (nI b_n), .int on]) (S' := [.int 1, .int (am_b (fn_has (f 31 a_n) (nI b_n)))]) (μ' := (am_S f g)) 2 rfl ?_
            exact g9
          · intro res9 g9
            show am_F _ _ 50 [.ref 0, .int (nI a_n), .int (nI b_n), .int on] [.int (am_b (fn_has (f 31 a_n) (nI b_n)))] (am_S f g) _
            refine am_F.ops (pc' := 51) (L' := [.ref 0, .int (nI a_n), .int (nI b_n), .int on]) (S' := [.int 0, .int (am_b (fn_has (f 31 a_n) (nI b_n)))]) (μ' := (am_S f g)) 1 rfl ?_
            exact g9
          show am_F _ _ 51 [.ref 0, .int (nI a_n), .int (nI b_n), .int on] [.int (am_b (if on = 1 then true else false)), .int (am_b (fn_has (f 31 a_n) (nI b_n)))] (am_S f g) _
          refine am_F.iteK 1 rfl K hK (fun c6 hK => ?_) (fun c6 hK => ?_)
          · show am_F _ _ 54 [.ref 0, .int (nI a_n), .int (nI b_n), .int on] [] (am_S f g) _
            refine am_F.ops (pc' := 56) (L' := [.ref 0, .int (nI a_n), .int (nI b_n), .int on]) (S' := [.int (-2)]) (μ' := (am_S f g)) 1 rfl ?_
            refine am_F.mem (F' := (am_row (am_row (am_row (am_row (am_row f 1 (f 1)) 2 (f 2)) 31 (f 31)) 34 (f 34)) 35 (f 35))) (G' := (am_row g 1 (g 1))) ?_ (by first | rfl | (funext a; by_cases z0 : a = 1; (subst z0; rfl); by_cases z1 : a = 2; (subst z1; rfl); by_cases z2 : a = 31; (subst z2; rfl); by_cases z3 : a = 34; (subst z3; rfl); by_cases z4 : a = 35; (subst z4; rfl); simp only [am_ui, am_ul, am_row_ne z0, am_row_ne z1, am_row_ne z2, am_row_ne z3, am_row_ne z4])) (by first | rfl | (funext a; by_cases z0 : a = 1; (subst z0; rfl); by_cases z1 : a = 2; (subst z1; rfl); by_cases z2 : a = 31; (subst z2; rfl); by_cases z3 : a = 34; (subst z3; rfl); by_cases z4 : a = 35; (subst z4; rfl); simp only [am_ui, am_ul, am_row_ne z0, am_row_ne z1, am_row_ne z2, am_row_ne z3, am_row_ne z4]))
            subst hKd
            exact am_F.eq (am_F.ret rfl rfl) hK
          · show am_F _ _ 57 [.ref 0, .int (nI a_n), .int (nI b_n), .int on] [] (am_S f g) _
            refine am_F.ops (pc' := 59) (L' := [.ref 0, .int (nI a_n), .int (nI b_n), .int on]) (S' := [.int 1, .int on]) (μ' := (am_S f g)) 2 rfl ?_
            refine am_F.iteK 1 rfl K hK (fun c7 hK => ?_) (fun c7 hK => ?_)
            · show am_F _ _ 62 [.ref 0, .int (nI a_n), .int (nI b_n), .int on] [] (am_S f g) _
              refine am_F.ops (pc' := 71) (L' := [.ref 0, .int (nI a_n), .int (nI b_n), .int on]) (S' := [.int 10, .int (f 2 10)]) (μ' := (am_S f g)) 4 rfl ?_
              refine am_F.iteK 1 rfl K hK (fun c8 hK => ?_) (fun c8 hK => ?_)
              · show am_F _ _ 77 [.ref 0, .int (nI a_n), .int (nI b_n), .int on] [] (am_S f g) _
                refine am_F.ops (pc' := 83) (L' := [.ref 0, .int (nI a_n), .int (nI b_n), .int on]) (S' := [.int (nI b_n), .int (nI a_n), .ref 2]) (μ' := (am_S f g)) 4 rfl ?_
                refine am_F.call rfl rfl (x_toggleBarred a_n b_n f g (by omega) (by omega)) (by decide) ?_
                obtain ⟨y9, hy9⟩ : ∃ z, (fn_toggleBarred a_n b_n f) = z := ⟨_, rfl⟩
                (try rw [hy9] at hK)
                (try rw [hy9])
                refine am_F.mem (F' := (am_row (am_row f 2 y9.1) 31 y9.2)) (G' := g) ?_ (by first | rfl | (funext a; by_cases z0 : a = 2; (subst z0; rfl); by_cases z1 : a = 31; (subst z1; rfl); simp only [am_ui, am_ul, am_row_ne z0, am_row_ne z1])) (by first | rfl | (funext a; by_cases z0 : a = 2; (subst z0; rfl); by_cases z1 : a = 31; (subst z1; rfl); simp only [am_ui, am_ul, am_row_ne z0, am_row_ne z1]))
                show am_F _ _ 86 [.ref 0, .int (nI a_n), .int (nI b_n), .int on] [] (am_S (am_row (am_row f 2 y9.1) 31 y9.2) g) _
                refine am_F.ops (pc' := 88) (L' := [.ref 0, .int (nI a_n), .int (nI b_n), .int on]) (S' := [.int 1, .int on]) (μ' := (am_S (am_row (am_row f 2 y9.1) 31 y9.2) g)) 2 rfl ?_
                refine am_F.iteK 1 rfl K hK (fun c10 hK => ?_) (fun c10 hK => ?_)
                · show am_F _ _ 91 [.ref 0, .int (nI a_n), .int (nI b_n), .int on] [] (am_S (am_row (am_row f 2 y9.1) 31 y9.2) g) _
                  refine am_F.ops (pc' := 95) (L' := [.ref 0, .int (nI a_n), .int (nI b_n), .int on]) (S' := [.ref 1]) (μ' := (am_S (am_row (am_row f 2 y9.1) 31 y9.2) g)) 2 rfl ?_
                  refine am_F.call rfl rfl (x_someBarred  (am_row (am_row f 2 y9.1) 31 y9.2) g hLc hLn hLf hLt hLr hRc hRn) (by decide) ?_
                  obtain ⟨y11, hy11⟩ : ∃ z, (fn_someBarred (am_row (am_row f 2 y9.1) 31 y9.2) g) = z := ⟨_, rfl⟩
                  (try rw [hy11] at hK)
                  (try rw [hy11])
                  refine am_F.mem (F' := (am_row (am_row (am_row (am_row (am_row f 1 y11.2.1) 2 y9.1) 31 y9.2) 34 y11.2.2.1) 35 y11.2.2.2.1)) (G' := (am_row g 1 y11.2.2.2.2)) ?_ (by first | rfl | (funext a; by_cases z0 : a = 1; (subst z0; rfl); by_cases z1 : a = 2; (subst z1; rfl); by_cases z2 : a = 31; (subst z2; rfl); by_cases z3 : a = 34; (subst z3; rfl); by_cases z4 : a = 35; (subst z4; rfl); simp only [am_ui, am_ul, am_row_ne z0, am_row_ne z1, am_row_ne z2, am_row_ne z3, am_row_ne z4])) (by first | rfl | (funext a; by_cases z0 : a = 1; (subst z0; rfl); by_cases z1 : a = 2; (subst z1; rfl); by_cases z2 : a = 31; (subst z2; rfl); by_cases z3 : a = 34; (subst z3; rfl); by_cases z4 : a = 35; (subst z4; rfl); simp only [am_ui, am_ul, am_row_ne z0, am_row_ne z1, am_row_ne z2, am_row_ne z3, am_row_ne z4]))
                  show am_F _ _ 98 [.ref 0, .int (nI a_n), .int (nI b_n), .int on] [.int (am_b (y11.1))] (am_S (am_row (am_row (am_row (am_row (am_row f 1 y11.2.1) 2 y9.1) 31 y9.2) 34 y11.2.2.1) 35 y11.2.2.2.1) (am_row g 1 y11.2.2.2.2)) _
                  refine am_F.bifK 1 rfl K hK (fun c12 hK => ?_) (fun c12 hK => ?_)
                  · show am_F _ _ 101 [.ref 0, .int (nI a_n), .int (nI b_n), .int on] [] (am_S (am_row (am_row (am_row (am_row (am_row f 1 y11.2.1) 2 y9.1) 31 y9.2) 34 y11.2.2.1) 35 y11.2.2.2.1) (am_row g 1 y11.2.2.2.2)) _
                    refine am_F.ops (pc' := 107) (L' := [.ref 0, .int (nI a_n), .int (nI b_n), .int on]) (S' := [.int (nI b_n), .int (nI a_n), .ref 2]) (μ' := (am_S (am_row (am_row (am_row (am_row (am_row f 1 y11.2.1) 2 y9.1) 31 y9.2) 34 y11.2.2.1) 35 y11.2.2.2.1) (am_row g 1 y11.2.2.2.2))) 4 rfl ?_
                    refine am_F.call rfl rfl (x_toggleBarred a_n b_n (am_row (am_row (am_row (am_row (am_row f 1 y11.2.1) 2 y9.1) 31 y9.2) 34 y11.2.2.1) 35 y11.2.2.2.1) (am_row g 1 y11.2.2.2.2) (by omega) (by omega)) (by decide) ?_
                    obtain ⟨y13, hy13⟩ : ∃ z, (fn_toggleBarred a_n b_n (am_row (am_row (am_row (am_row (am_row f 1 y11.2.1) 2 y9.1) 31 y9.2) 34 y11.2.2.1) 35 y11.2.2.2.1)) = z := ⟨_, rfl⟩
                    (try rw [hy13] at hK)
                    (try rw [hy13])
                    refine am_F.mem (F' := (am_row (am_row (am_row (am_row (am_row f 1 y11.2.1) 2 y13.1) 31 y13.2) 34 y11.2.2.1) 35 y11.2.2.2.1)) (G' := (am_row g 1 y11.2.2.2.2)) ?_ (by first | rfl | (funext a; by_cases z0 : a = 1; (subst z0; rfl); by_cases z1 : a = 2; (subst z1; rfl); by_cases z2 : a = 31; (subst z2; rfl); by_cases z3 : a = 34; (subst z3; rfl); by_cases z4 : a = 35; (subst z4; rfl); simp only [am_ui, am_ul, am_row_ne z0, am_row_ne z1, am_row_ne z2, am_row_ne z3, am_row_ne z4])) (by first | rfl | (funext a; by_cases z0 : a = 1; (subst z0; rfl); by_cases z1 : a = 2; (subst z1; rfl); by_cases z2 : a = 31; (subst z2; rfl); by_cases z3 : a = 34; (subst z3; rfl); by_cases z4 : a = 35; (subst z4; rfl); simp only [am_ui, am_ul, am_row_ne z0, am_row_ne z1, am_row_ne z2, am_row_ne z3, am_row_ne z4]))
                    show am_F _ _ 110 [.ref 0, .int (nI a_n), .int (nI b_n), .int on] [] (am_S (am_row (am_row (am_row (am_row (am_row f 1 y11.2.1) 2 y13.1) 31 y13.2) 34 y11.2.2.1) 35 y11.2.2.2.1) (am_row g 1 y11.2.2.2.2)) _
                    refine am_F.ops (pc' := 112) (L' := [.ref 0, .int (nI a_n), .int (nI b_n), .int on]) (S' := [.int (-6)]) (μ' := (am_S (am_row (am_row (am_row (am_row (am_row f 1 y11.2.1) 2 y13.1) 31 y13.2) 34 y11.2.2.1) 35 y11.2.2.2.1) (am_row g 1 y11.2.2.2.2))) 1 rfl ?_
                    subst hKd
                    exact am_F.eq (am_F.ret rfl rfl) hK
                  · show am_F _ _ 113 [.ref 0, .int (nI a_n), .int (nI b_n), .int on] [] (am_S (am_row (am_row (am_row (am_row (am_row f 1 y11.2.1) 2 y9.1) 31 y9.2) 34 y11.2.2.1) 35 y11.2.2.2.1) (am_row g 1 y11.2.2.2.2)) _
                    refine am_F.ops (pc' := 120) (L' := [.ref 0, .int (nI a_n), .int (nI b_n), .int on]) (S' := [.int (y9.1 10)]) (μ' := (am_S (am_row (am_row (am_row (am_row (am_row f 1 y11.2.1) 2 y9.1) 31 y9.2) 34 y11.2.2.1) 35 y11.2.2.2.1) (am_row g 1 y11.2.2.2.2))) 3 rfl ?_
                    subst hKd
                    exact am_F.eq (am_F.ret rfl rfl) hK
                · show am_F _ _ 113 [.ref 0, .int (nI a_n), .int (nI b_n), .int on] [] (am_S (am_row (am_row f 2 y9.1) 31 y9.2) g) _
                  refine am_F.ops (pc' := 120) (L' := [.ref 0, .int (nI a_n), .int (nI b_n), .int on]) (S' := [.int (y9.1 10)]) (μ' := (am_S (am_row (am_row f 2 y9.1) 31 y9.2) g)) 3 rfl ?_
                  refine am_F.mem (F' := (am_row (am_row (am_row (am_row (am_row f 1 (f 1)) 2 y9.1) 31 y9.2) 34 (f 34)) 35 (f 35))) (G' := (am_row g 1 (g 1))) ?_ (by first | rfl | (funext a; by_cases z0 : a = 1; (subst z0; rfl); by_cases z1 : a = 2; (subst z1; rfl); by_cases z2 : a = 31; (subst z2; rfl); by_cases z3 : a = 34; (subst z3; rfl); by_cases z4 : a = 35; (subst z4; rfl); simp only [am_ui, am_ul, am_row_ne z0, am_row_ne z1, am_row_ne z2, am_row_ne z3, am_row_ne z4])) (by first | rfl | (funext a; by_cases z0 : a = 1; (subst z0; rfl); by_cases z1 : a = 2; (subst z1; rfl); by_cases z2 : a = 31; (subst z2; rfl); by_cases z3 : a = 34; (subst z3; rfl); by_cases z4 : a = 35; (subst z4; rfl); simp only [am_ui, am_ul, am_row_ne z0, am_row_ne z1, am_row_ne z2, am_row_ne z3, am_row_ne z4]))
                  subst hKd
                  exact am_F.eq (am_F.ret rfl rfl) hK
              · show am_F _ _ 74 [.ref 0, .int (nI a_n), .int (nI b_n), .int on] [] (am_S f g) _
                refine am_F.ops (pc' := 76) (L' := [.ref 0, .int (nI a_n), .int (nI b_n), .int on]) (S' := [.int (-3)]) (μ' := (am_S f g)) 1 rfl ?_
                refine am_F.mem (F' := (am_row (am_row (am_row (am_row (am_row f 1 (f 1)) 2 (f 2)) 31 (f 31)) 34 (f 34)) 35 (f 35))) (G' := (am_row g 1 (g 1))) ?_ (by first | rfl | (funext a; by_cases z0 : a = 1; (subst z0; rfl); by_cases z1 : a = 2; (subst z1; rfl); by_cases z2 : a = 31; (subst z2; rfl); by_cases z3 : a = 34; (subst z3; rfl); by_cases z4 : a = 35; (subst z4; rfl); simp only [am_ui, am_ul, am_row_ne z0, am_row_ne z1, am_row_ne z2, am_row_ne z3, am_row_ne z4])) (by first | rfl | (funext a; by_cases z0 : a = 1; (subst z0; rfl); by_cases z1 : a = 2; (subst z1; rfl); by_cases z2 : a = 31; (subst z2; rfl); by_cases z3 : a = 34; (subst z3; rfl); by_cases z4 : a = 35; (subst z4; rfl); simp only [am_ui, am_ul, am_row_ne z0, am_row_ne z1, am_row_ne z2, am_row_ne z3, am_row_ne z4]))
                subst hKd
                exact am_F.eq (am_F.ret rfl rfl) hK
            · show am_F _ _ 77 [.ref 0, .int (nI a_n), .int (nI b_n), .int on] [] (am_S f g) _
              refine am_F.ops (pc' := 83) (L' := [.ref 0, .int (nI a_n), .int (nI b_n), .int on]) (S' := [.int (nI b_n), .int (nI a_n), .ref 2]) (μ' := (am_S f g)) 4 rfl ?_
              refine am_F.call rfl rfl (x_toggleBarred a_n b_n f g (by omega) (by omega)) (by decide) ?_
              obtain ⟨y14, hy14⟩ : ∃ z, (fn_toggleBarred a_n b_n f) = z := ⟨_, rfl⟩
              (try rw [hy14] at hK)
              (try rw [hy14])
              refine am_F.mem (F' := (am_row (am_row f 2 y14.1) 31 y14.2)) (G' := g) ?_ (by first | rfl | (funext a; by_cases z0 : a = 2; (subst z0; rfl); by_cases z1 : a = 31; (subst z1; rfl); simp only [am_ui, am_ul, am_row_ne z0, am_row_ne z1])) (by first | rfl | (funext a; by_cases z0 : a = 2; (subst z0; rfl); by_cases z1 : a = 31; (subst z1; rfl); simp only [am_ui, am_ul, am_row_ne z0, am_row_ne z1]))
              show am_F _ _ 86 [.ref 0, .int (nI a_n), .int (nI b_n), .int on] [] (am_S (am_row (am_row f 2 y14.1) 31 y14.2) g) _
              refine am_F.ops (pc' := 88) (L' := [.ref 0, .int (nI a_n), .int (nI b_n), .int on]) (S' := [.int 1, .int on]) (μ' := (am_S (am_row (am_row f 2 y14.1) 31 y14.2) g)) 2 rfl ?_
              refine am_F.iteK 1 rfl K hK (fun c15 hK => ?_) (fun c15 hK => ?_)
              · show am_F _ _ 91 [.ref 0, .int (nI a_n), .int (nI b_n), .int on] [] (am_S (am_row (am_row f 2 y14.1) 31 y14.2) g) _
                refine am_F.ops (pc' := 95) (L' := [.ref 0, .int (nI a_n), .int (nI b_n), .int on]) (S' := [.ref 1]) (μ' := (am_S (am_row (am_row f 2 y14.1) 31 y14.2) g)) 2 rfl ?_
                refine am_F.call rfl rfl (x_someBarred  (am_row (am_row f 2 y14.1) 31 y14.2) g hLc hLn hLf hLt hLr hRc hRn) (by decide) ?_
                obtain ⟨y16, hy16⟩ : ∃ z, (fn_someBarred (am_row (am_row f 2 y14.1) 31 y14.2) g) = z := ⟨_, rfl⟩
                (try rw [hy16] at hK)
                (try rw [hy16])
                refine am_F.mem (F' := (am_row (am_row (am_row (am_row (am_row f 1 y16.2.1) 2 y14.1) 31 y14.2) 34 y16.2.2.1) 35 y16.2.2.2.1)) (G' := (am_row g 1 y16.2.2.2.2)) ?_ (by first | rfl | (funext a; by_cases z0 : a = 1; (subst z0; rfl); by_cases z1 : a = 2; (subst z1; rfl); by_cases z2 : a = 31; (subst z2; rfl); by_cases z3 : a = 34; (subst z3; rfl); by_cases z4 : a = 35; (subst z4; rfl); simp only [am_ui, am_ul, am_row_ne z0, am_row_ne z1, am_row_ne z2, am_row_ne z3, am_row_ne z4])) (by first | rfl | (funext a; by_cases z0 : a = 1; (subst z0; rfl); by_cases z1 : a = 2; (subst z1; rfl); by_cases z2 : a = 31; (subst z2; rfl); by_cases z3 : a = 34; (subst z3; rfl); by_cases z4 : a = 35; (subst z4; rfl); simp only [am_ui, am_ul, am_row_ne z0, am_row_ne z1, am_row_ne z2, am_row_ne z3, am_row_ne z4]))
                show am_F _ _ 98 [.ref 0, .int (nI a_n), .int (nI b_n), .int on] [.int (am_b (y16.1))] (am_S (am_row (am_row (am_row (am_row (am_row f 1 y16.2.1) 2 y14.1) 31 y14.2) 34 y16.2.2.1) 35 y16.2.2.2.1) (am_row g 1 y16.2.2.2.2)) _
                refine am_F.bifK 1 rfl K hK (fun c17 hK => ?_) (fun c17 hK => ?_)
                · show am_F _ _ 101 [.ref 0, .int (nI a_n), .int (nI b_n), .int on] [] (am_S (am_row (am_row (am_row (am_row (am_row f 1 y16.2.1) 2 y14.1) 31 y14.2) 34 y16.2.2.1) 35 y16.2.2.2.1) (am_row g 1 y16.2.2.2.2)) _
                  refine am_F.ops (pc' := 107) (L' := [.ref 0, .int (nI a_n), .int (nI b_n), .int on]) (S' := [.int (nI b_n), .int (nI a_n), .ref 2]) (μ' := (am_S (am_row (am_row (am_row (am_row (am_row f 1 y16.2.1) 2 y14.1) 31 y14.2) 34 y16.2.2.1) 35 y16.2.2.2.1) (am_row g 1 y16.2.2.2.2))) 4 rfl ?_
                  refine am_F.call rfl rfl (x_toggleBarred a_n b_n (am_row (am_row (am_row (am_row (am_row f 1 y16.2.1) 2 y14.1) 31 y14.2) 34 y16.2.2.1) 35 y16.2.2.2.1) (am_row g 1 y16.2.2.2.2) (by omega) (by omega)) (by decide) ?_
                  obtain ⟨y18, hy18⟩ : ∃ z, (fn_toggleBarred a_n b_n (am_row (am_row (am_row (am_row (am_row f 1 y16.2.1) 2 y14.1) 31 y14.2) 34 y16.2.2.1) 35 y16.2.2.2.1)) = z := ⟨_, rfl⟩
                  (try rw [hy18] at hK)
                  (try rw [hy18])
                  refine am_F.mem (F' := (am_row (am_row (am_row (am_row (am_row f 1 y16.2.1) 2 y18.1) 31 y18.2) 34 y16.2.2.1) 35 y16.2.2.2.1)) (G' := (am_row g 1 y16.2.2.2.2)) ?_ (by first | rfl | (funext a; by_cases z0 : a = 1; (subst z0; rfl); by_cases z1 : a = 2; (subst z1; rfl); by_cases z2 : a = 31; (subst z2; rfl); by_cases z3 : a = 34; (subst z3; rfl); by_cases z4 : a = 35; (subst z4; rfl); simp only [am_ui, am_ul, am_row_ne z0, am_row_ne z1, am_row_ne z2, am_row_ne z3, am_row_ne z4])) (by first | rfl | (funext a; by_cases z0 : a = 1; (subst z0; rfl); by_cases z1 : a = 2; (subst z1; rfl); by_cases z2 : a = 31; (subst z2; rfl); by_cases z3 : a = 34; (subst z3; rfl); by_cases z4 : a = 35; (subst z4; rfl); simp only [am_ui, am_ul, am_row_ne z0, am_row_ne z1, am_row_ne z2, am_row_ne z3, am_row_ne z4]))
                  show am_F _ _ 110 [.ref 0, .int (nI a_n), .int (nI b_n), .int on] [] (am_S (am_row (am_row (am_row (am_row (am_row f 1 y16.2.1) 2 y18.1) 31 y18.2) 34 y16.2.2.1) 35 y16.2.2.2.1) (am_row g 1 y16.2.2.2.2)) _
                  refine am_F.ops (pc' := 112) (L' := [.ref 0, .int (nI a_n), .int (nI b_n), .int on]) (S' := [.int (-6)]) (μ' := (am_S (am_row (am_row (am_row (am_row (am_row f 1 y16.2.1) 2 y18.1) 31 y18.2) 34 y16.2.2.1) 35 y16.2.2.2.1) (am_row g 1 y16.2.2.2.2))) 1 rfl ?_
                  subst hKd
                  exact am_F.eq (am_F.ret rfl rfl) hK
                · show am_F _ _ 113 [.ref 0, .int (nI a_n), .int (nI b_n), .int on] [] (am_S (am_row (am_row (am_row (am_row (am_row f 1 y16.2.1) 2 y14.1) 31 y14.2) 34 y16.2.2.1) 35 y16.2.2.2.1) (am_row g 1 y16.2.2.2.2)) _
                  refine am_F.ops (pc' := 120) (L' := [.ref 0, .int (nI a_n), .int (nI b_n), .int on]) (S' := [.int (y14.1 10)]) (μ' := (am_S (am_row (am_row (am_row (am_row (am_row f 1 y16.2.1) 2 y14.1) 31 y14.2) 34 y16.2.2.1) 35 y16.2.2.2.1) (am_row g 1 y16.2.2.2.2))) 3 rfl ?_
                  subst hKd
                  exact am_F.eq (am_F.ret rfl rfl) hK
              · show am_F _ _ 113 [.ref 0, .int (nI a_n), .int (nI b_n), .int on] [] (am_S (am_row (am_row f 2 y14.1) 31 y14.2) g) _
                refine am_F.ops (pc' := 120) (L' := [.ref 0, .int (nI a_n), .int (nI b_n), .int on]) (S' := [.int (y14.1 10)]) (μ' := (am_S (am_row (am_row f 2 y14.1) 31 y14.2) g)) 3 rfl ?_
                refine am_F.mem (F' := (am_row (am_row (am_row (am_row (am_row f 1 (f 1)) 2 y14.1) 31 y14.2) 34 (f 34)) 35 (f 35))) (G' := (am_row g 1 (g 1))) ?_ (by first | rfl | (funext a; by_cases z0 : a = 1; (subst z0; rfl); by_cases z1 : a = 2; (subst z1; rfl); by_cases z2 : a = 31; (subst z2; rfl); by_cases z3 : a = 34; (subst z3; rfl); by_cases z4 : a = 35; (subst z4; rfl); simp only [am_ui, am_ul, am_row_ne z0, am_row_ne z1, am_row_ne z2, am_row_ne z3, am_row_ne z4])) (by first | rfl | (funext a; by_cases z0 : a = 1; (subst z0; rfl); by_cases z1 : a = 2; (subst z1; rfl); by_cases z2 : a = 31; (subst z2; rfl); by_cases z3 : a = 34; (subst z3; rfl); by_cases z4 : a = 35; (subst z4; rfl); simp only [am_ui, am_ul, am_row_ne z0, am_row_ne z1, am_row_ne z2, am_row_ne z3, am_row_ne z4]))
                subst hKd
                exact am_F.eq (am_F.ret rfl rfl) hK
        · show am_F _ _ 26 [.ref 0, .int (nI a_n), .int (nI b_n), .int on] [] (am_S f g) _
          refine am_F.ops (pc' := 27) (L' := [.ref 0, .int (nI a_n), .int (nI b_n), .int on]) (S' := [.int (-1)]) (μ' := (am_S f g)) 1 rfl ?_
          refine am_F.mem (F' := (am_row (am_row (am_row (am_row (am_row f 1 (f 1)) 2 (f 2)) 31 (f 31)) 34 (f 34)) 35 (f 35))) (G' := (am_row g 1 (g 1))) ?_ (by first | rfl | (funext a; by_cases z0 : a = 1; (subst z0; rfl); by_cases z1 : a = 2; (subst z1; rfl); by_cases z2 : a = 31; (subst z2; rfl); by_cases z3 : a = 34; (subst z3; rfl); by_cases z4 : a = 35; (subst z4; rfl); simp only [am_ui, am_ul, am_row_ne z0, am_row_ne z1, am_row_ne z2, am_row_ne z3, am_row_ne z4])) (by first | rfl | (funext a; by_cases z0 : a = 1; (subst z0; rfl); by_cases z1 : a = 2; (subst z1; rfl); by_cases z2 : a = 31; (subst z2; rfl); by_cases z3 : a = 34; (subst z3; rfl); by_cases z4 : a = 35; (subst z4; rfl); simp only [am_ui, am_ul, am_row_ne z0, am_row_ne z1, am_row_ne z2, am_row_ne z3, am_row_ne z4]))
          subst hKd
          exact am_F.eq (am_F.ret rfl rfl) hK
    · show am_F _ _ 26 [.ref 0, .int (nI a_n), .int b, .int on] [] (am_S f g) _
      refine am_F.ops (pc' := 27) (L' := [.ref 0, .int (nI a_n), .int b, .int on]) (S' := [.int (-1)]) (μ' := (am_S f g)) 1 rfl ?_
      refine am_F.mem (F' := (am_row (am_row (am_row (am_row (am_row f 1 (f 1)) 2 (f 2)) 31 (f 31)) 34 (f 34)) 35 (f 35))) (G' := (am_row g 1 (g 1))) ?_ (by first | rfl | (funext a; by_cases z0 : a = 1; (subst z0; rfl); by_cases z1 : a = 2; (subst z1; rfl); by_cases z2 : a = 31; (subst z2; rfl); by_cases z3 : a = 34; (subst z3; rfl); by_cases z4 : a = 35; (subst z4; rfl); simp only [am_ui, am_ul, am_row_ne z0, am_row_ne z1, am_row_ne z2, am_row_ne z3, am_row_ne z4])) (by first | rfl | (funext a; by_cases z0 : a = 1; (subst z0; rfl); by_cases z1 : a = 2; (subst z1; rfl); by_cases z2 : a = 31; (subst z2; rfl); by_cases z3 : a = 34; (subst z3; rfl); by_cases z4 : a = 35; (subst z4; rfl); simp only [am_ui, am_ul, am_row_ne z0, am_row_ne z1, am_row_ne z2, am_row_ne z3, am_row_ne z4]))
      subst hKd
      exact am_F.eq (am_F.ret rfl rfl) hK
  · show am_F _ _ 26 [.ref 0, .int a, .int b, .int on] [] (am_S f g) _
    refine am_F.ops (pc' := 27) (L' := [.ref 0, .int a, .int b, .int on]) (S' := [.int (-1)]) (μ' := (am_S f g)) 1 rfl ?_
    refine am_F.mem (F' := (am_row (am_row (am_row (am_row (am_row f 1 (f 1)) 2 (f 2)) 31 (f 31)) 34 (f 34)) 35 (f 35))) (G' := (am_row g 1 (g 1))) ?_ (by first | rfl | (funext a; by_cases z0 : a = 1; (subst z0; rfl); by_cases z1 : a = 2; (subst z1; rfl); by_cases z2 : a = 31; (subst z2; rfl); by_cases z3 : a = 34; (subst z3; rfl); by_cases z4 : a = 35; (subst z4; rfl); simp only [am_ui, am_ul, am_row_ne z0, am_row_ne z1, am_row_ne z2, am_row_ne z3, am_row_ne z4])) (by first | rfl | (funext a; by_cases z0 : a = 1; (subst z0; rfl); by_cases z1 : a = 2; (subst z1; rfl); by_cases z2 : a = 31; (subst z2; rfl); by_cases z3 : a = 34; (subst z3; rfl); by_cases z4 : a = 35; (subst z4; rfl); simp only [am_ui, am_ul, am_row_ne z0, am_row_ne z1, am_row_ne z2, am_row_ne z3, am_row_ne z4]))
    subst hKd
    exact am_F.eq (am_F.ret rfl rfl) hK
/-- AccessLattice.step -/
def fn_step (n : Int32) (f : Nat → Nat → Int32) : Int32 × (Nat → Int32) := (bif (fn_between n 1 500) then (if ((f 2 12) + n) ≤ 9999 then ((f 2 12) + n, upd (f 2) 12 ((f 2 12) + n)) else ((-3), f 2)) else ((-1), f 2))
theorem x_step (n : Int32) (f : Nat → Nat → Int32) (g : Nat → Nat → Int64)  : am_D 1 36 2 [.ref 0, .int n] (am_S f g) (some (Value.int ((fn_step n f).1)), am_S (am_row f 2 ((fn_step n f).2)) g) := by
  refine am_D.of (code := am_k_36) rfl (L0 := [.ref 0, .int n]) rfl ?_
  generalize hres : (some (Value.int ((fn_step n f).1)), am_S (am_row f 2 ((fn_step n f).2)) g) = res
  obtain ⟨K, hKd⟩ : ∃ K : (Int32 × (Nat → Int32)) → Prop, K = fun z => (some (Value.int z.1), am_S (am_row f 2 z.2) g) = res := ⟨_, rfl⟩
  have hK : K (fn_step n f) := by rw [hKd]; exact hres
  clear hres
  unfold fn_step at hK
  refine am_F.ops (pc' := 5) (L' := [.ref 0, .int n]) (S' := [.int 500, .int 1, .int n]) (μ' := (am_S f g)) 3 rfl ?_
  refine am_F.call rfl rfl (x_between n 1 500 f g ) (by decide) ?_
  show am_F _ _ 8 [.ref 0, .int n] [.int (am_b (fn_between n 1 500))] (am_S f g) _
  refine am_F.bifK 1 rfl K hK (fun c1 hK => ?_) (fun c1 hK => ?_)
  · show am_F _ _ 13 [.ref 0, .int n] [] (am_S f g) _
    refine am_F.ops (pc' := 25) (L' := [.ref 0, .int n]) (S' := [.int 9999, .int ((f 2 12) + n)]) (μ' := (am_S f g)) 6 rfl ?_
    refine am_F.iteK 1 rfl K hK (fun c2 hK => ?_) (fun c2 hK => ?_)
    · show am_F _ _ 31 [.ref 0, .int n] [] (am_S f g) _
      refine am_F.ops (pc' := 41) (L' := [.ref 0, .int n]) (S' := [.int ((f 2 12) + n), .ref 2]) (μ' := (am_S f g)) 6 rfl ?_
      refine am_F.pfi (F' := (am_row f 2 (upd (f 2) 12 ((f 2 12) + n)))) rfl rfl (by first | rfl | (funext a; by_cases z0 : a = 2; (subst z0; rfl); simp only [am_ui, am_ul, am_row_ne z0])) ?_
      refine am_F.ops (pc' := 51) (L' := [.ref 0, .int n]) (S' := [.int ((f 2 12) + n)]) (μ' := (am_S (am_row f 2 (upd (f 2) 12 ((f 2 12) + n))) g)) 3 rfl ?_
      subst hKd
      exact am_F.eq (am_F.ret rfl rfl) hK
    · show am_F _ _ 28 [.ref 0, .int n] [] (am_S f g) _
      refine am_F.ops (pc' := 30) (L' := [.ref 0, .int n]) (S' := [.int (-3)]) (μ' := (am_S f g)) 1 rfl ?_
      refine am_F.mem (F' := (am_row f 2 (f 2))) (G' := g) ?_ (by first | rfl | (funext a; by_cases z0 : a = 2; (subst z0; rfl); simp only [am_ui, am_ul, am_row_ne z0])) (by first | rfl | (funext a; by_cases z0 : a = 2; (subst z0; rfl); simp only [am_ui, am_ul, am_row_ne z0]))
      subst hKd
      exact am_F.eq (am_F.ret rfl rfl) hK
  · show am_F _ _ 11 [.ref 0, .int n] [] (am_S f g) _
    refine am_F.ops (pc' := 12) (L' := [.ref 0, .int n]) (S' := [.int (-1)]) (μ' := (am_S f g)) 1 rfl ?_
    refine am_F.mem (F' := (am_row f 2 (f 2))) (G' := g) ?_ (by first | rfl | (funext a; by_cases z0 : a = 2; (subst z0; rfl); simp only [am_ui, am_ul, am_row_ne z0])) (by first | rfl | (funext a; by_cases z0 : a = 2; (subst z0; rfl); simp only [am_ui, am_ul, am_row_ne z0]))
    subst hKd
    exact am_F.eq (am_F.ret rfl rfl) hK
/-- AccessLattice.takeBack -/
def fn_takeBack (loan : Int32) (f : Nat → Nat → Int32) (g : Nat → Nat → Int64) : Int32 × (Nat → Int32) × (Nat → Int32) × (Nat → Int32) × (Nat → Int64) × (Nat → Int64) := (bif (fn_isLoan loan f) then (bif (fn_isStanding loan (am_row g 1 (fn_settle (f 2 12) f g).2.2.2)) then ((fn_bitCountL ((fn_settle (f 2 12) f g).2.2.2 5)) - (fn_bitCountL ((fn_settle (f 2 12) (am_row (am_row (am_row f 1 (fn_settle (f 2 12) f g).1) 34 (fn_settle (f 2 12) f g).2.1) 35 (fn_settle (f 2 12) f g).2.2.1) (am_row (am_row g 1 (fn_settle (f 2 12) f g).2.2.2) 11 (vp_updL (g 11) 6 ((g 11 6) ||| ((1 : Int64) <<< (loan.toInt64 &&& 63)))))).2.2.2 5)), (fn_settle (f 2 12) (am_row (am_row (am_row f 1 (fn_settle (f 2 12) f g).1) 34 (fn_settle (f 2 12) f g).2.1) 35 (fn_settle (f 2 12) f g).2.2.1) (am_row (am_row g 1 (fn_settle (f 2 12) f g).2.2.2) 11 (vp_updL (g 11) 6 ((g 11 6) ||| ((1 : Int64) <<< (loan.toInt64 &&& 63)))))).1, (fn_settle (f 2 12) (am_row (am_row (am_row f 1 (fn_settle (f 2 12) f g).1) 34 (fn_settle (f 2 12) f g).2.1) 35 (fn_settle (f 2 12) f g).2.2.1) (am_row (am_row g 1 (fn_settle (f 2 12) f g).2.2.2) 11 (vp_updL (g 11) 6 ((g 11 6) ||| ((1 : Int64) <<< (loan.toInt64 &&& 63)))))).2.1, (fn_settle (f 2 12) (am_row (am_row (am_row f 1 (fn_settle (f 2 12) f g).1) 34 (fn_settle (f 2 12) f g).2.1) 35 (fn_settle (f 2 12) f g).2.2.1) (am_row (am_row g 1 (fn_settle (f 2 12) f g).2.2.2) 11 (vp_updL (g 11) 6 ((g 11 6) ||| ((1 : Int64) <<< (loan.toInt64 &&& 63)))))).2.2.1, (fn_settle (f 2 12) (am_row (am_row (am_row f 1 (fn_settle (f 2 12) f g).1) 34 (fn_settle (f 2 12) f g).2.1) 35 (fn_settle (f 2 12) f g).2.2.1) (am_row (am_row g 1 (fn_settle (f 2 12) f g).2.2.2) 11 (vp_updL (g 11) 6 ((g 11 6) ||| ((1 : Int64) <<< (loan.toInt64 &&& 63)))))).2.2.2, vp_updL (g 11) 6 ((g 11 6) ||| ((1 : Int64) <<< (loan.toInt64 &&& 63)))) else ((-5), (fn_settle (f 2 12) f g).1, (fn_settle (f 2 12) f g).2.1, (fn_settle (f 2 12) f g).2.2.1, (fn_settle (f 2 12) f g).2.2.2, g 11)) else ((-1), f 1, f 34, f 35, g 1, g 11))
theorem x_takeBack (loan : Int32) (f : Nat → Nat → Int32) (g : Nat → Nat → Int64) (hLc : f 11 7 = nI (f 11 7).toNatClampNeg) (hLn : (f 11 7).toNatClampNeg ≤ 40) (hLf : ∀ i, i < (f 11 7).toNatClampNeg → am_inb (f 12 i) 16 = true) (hLt : ∀ i, i < (f 11 7).toNatClampNeg → am_inb (f 13 i) 16 = true) (hLr : ∀ i, i < (f 11 7).toNatClampNeg → am_inb (f 14 i) 20 = true) (hRc : f 18 11 = nI (f 18 11).toNatClampNeg) (hRn : (f 18 11).toNatClampNeg ≤ 30) : am_D 4 40 3 [.ref 0, .int loan] (am_S f g) (some (Value.int ((fn_takeBack loan f g).1)), am_S (am_row (am_row (am_row f 1 ((fn_takeBack loan f g).2.1)) 34 ((fn_takeBack loan f g).2.2.1)) 35 ((fn_takeBack loan f g).2.2.2.1)) (am_row (am_row g 1 ((fn_takeBack loan f g).2.2.2.2.1)) 11 ((fn_takeBack loan f g).2.2.2.2.2))) := by
  refine am_D.of (code := am_k_40) rfl (L0 := [.ref 0, .int loan, am_un]) rfl ?_
  generalize hres : (some (Value.int ((fn_takeBack loan f g).1)), am_S (am_row (am_row (am_row f 1 ((fn_takeBack loan f g).2.1)) 34 ((fn_takeBack loan f g).2.2.1)) 35 ((fn_takeBack loan f g).2.2.2.1)) (am_row (am_row g 1 ((fn_takeBack loan f g).2.2.2.2.1)) 11 ((fn_takeBack loan f g).2.2.2.2.2))) = res
  obtain ⟨K, hKd⟩ : ∃ K : (Int32 × (Nat → Int32) × (Nat → Int32) × (Nat → Int32) × (Nat → Int64) × (Nat → Int64)) → Prop, K = fun z => (some (Value.int z.1), am_S (am_row (am_row (am_row f 1 z.2.1) 34 z.2.2.1) 35 z.2.2.2.1) (am_row (am_row g 1 z.2.2.2.2.1) 11 z.2.2.2.2.2)) = res := ⟨_, rfl⟩
  have hK : K (fn_takeBack loan f g) := by rw [hKd]; exact hres
  clear hres
  unfold fn_takeBack at hK
  refine am_F.ops (pc' := 2) (L' := [.ref 0, .int loan, am_un]) (S' := [.int loan, .ref 0]) (μ' := (am_S f g)) 2 rfl ?_
  refine am_F.call rfl rfl (x_isLoan loan f g hLc hLn) (by decide) ?_
  show am_F _ _ 5 [.ref 0, .int loan, am_un] [.int (am_b (fn_isLoan loan f))] (am_S f g) _
  refine am_F.bifK 1 rfl K hK (fun c1 hK => ?_) (fun c1 hK => ?_)
  · obtain ⟨loan_n, hloan_n, eloan_n⟩ := (am_iLoan hLc (by omega) c1)
    subst eloan_n
    try simp only [nI_clamp (show loan_n < 2147483648 by omega)] at hK
    show am_F _ _ 10 [.ref 0, .int (nI loan_n), am_un] [] (am_S f g) _
    refine am_F.ops (pc' := 21) (L' := [.ref 0, .int (nI loan_n), am_un]) (S' := [.int (f 2 12), .ref 1]) (μ' := (am_S f g)) 5 rfl ?_
    refine am_F.call rfl rfl (x_settle (f 2 12) f g hLc hLn hLf hLt hLr hRc hRn) (by decide) ?_
    obtain ⟨y2, hy2⟩ : ∃ z, (fn_settle (f 2 12) f g) = z := ⟨_, rfl⟩
    (try rw [hy2] at hK)
    (try rw [hy2])
    refine am_F.mem (F' := (am_row (am_row (am_row f 1 y2.1) 34 y2.2.1) 35 y2.2.2.1)) (G' := (am_row g 1 y2.2.2.2)) ?_ (by first | rfl | (funext a; by_cases z0 : a = 1; (subst z0; rfl); by_cases z1 : a = 34; (subst z1; rfl); by_cases z2 : a = 35; (subst z2; rfl); simp only [am_ui, am_ul, am_row_ne z0, am_row_ne z1, am_row_ne z2])) (by first | rfl | (funext a; by_cases z0 : a = 1; (subst z0; rfl); by_cases z1 : a = 34; (subst z1; rfl); by_cases z2 : a = 35; (subst z2; rfl); simp only [am_ui, am_ul, am_row_ne z0, am_row_ne z1, am_row_ne z2]))
    show am_F _ _ 24 [.ref 0, .int (nI loan_n), am_un] [] (am_S (am_row (am_row (am_row f 1 y2.1) 34 y2.2.1) 35 y2.2.2.1) (am_row g 1 y2.2.2.2)) _
    refine am_F.ops (pc' := 29) (L' := [.ref 0, .int (nI loan_n), am_un]) (S' := [.int (nI loan_n), .ref 1]) (μ' := (am_S (am_row (am_row (am_row f 1 y2.1) 34 y2.2.1) 35 y2.2.2.1) (am_row g 1 y2.2.2.2))) 3 rfl ?_
    refine am_F.call rfl rfl (x_isStanding (nI loan_n) (am_row (am_row (am_row f 1 y2.1) 34 y2.2.1) 35 y2.2.2.1) (am_row g 1 y2.2.2.2) ) (by decide) ?_
    show am_F _ _ 32 [.ref 0, .int (nI loan_n), am_un] [.int (am_b (fn_isStanding (nI loan_n) (am_row g 1 y2.2.2.2)))] (am_S (am_row (am_row (am_row f 1 y2.1) 34 y2.2.1) 35 y2.2.2.1) (am_row g 1 y2.2.2.2)) _
    refine am_F.bifK 1 rfl K hK (fun c3 hK => ?_) (fun c3 hK => ?_)
    · show am_F _ _ 38 [.ref 0, .int (nI loan_n), am_un] [] (am_S (am_row (am_row (am_row f 1 y2.1) 34 y2.2.1) 35 y2.2.2.1) (am_row g 1 y2.2.2.2)) _
      refine am_F.ops (pc' := 45) (L' := [.ref 0, .int (nI loan_n), am_un]) (S' := [.long (y2.2.2.2 5)]) (μ' := (am_S (am_row (am_row (am_row f 1 y2.1) 34 y2.2.1) 35 y2.2.2.1) (am_row g 1 y2.2.2.2))) 3 rfl ?_
      refine am_F.call rfl rfl (x_bitCountL (y2.2.2.2 5) (am_row (am_row (am_row f 1 y2.1) 34 y2.2.1) 35 y2.2.2.1) (am_row g 1 y2.2.2.2) ) (by decide) ?_
      show am_F _ _ 48 [.ref 0, .int (nI loan_n), am_un] [.int (fn_bitCountL (y2.2.2.2 5))] (am_S (am_row (am_row (am_row f 1 y2.1) 34 y2.2.1) 35 y2.2.2.1) (am_row g 1 y2.2.2.2)) _
      refine am_F.ops (pc' := 64) (L' := [.ref 0, .int (nI loan_n), .int (fn_bitCountL (y2.2.2.2 5))]) (S' := [.long ((g 11 6) ||| ((1 : Int64) <<< ((nI loan_n).toInt64 &&& 63))), .ref 11]) (μ' := (am_S (am_row (am_row (am_row f 1 y2.1) 34 y2.2.1) 35 y2.2.2.1) (am_row g 1 y2.2.2.2))) 10 rfl ?_
      refine am_F.pfl (G' := (am_row (am_row g 1 y2.2.2.2) 11 (vp_updL (g 11) 6 ((g 11 6) ||| ((1 : Int64) <<< ((nI loan_n).toInt64 &&& 63)))))) rfl rfl (by first | rfl | (funext a; by_cases z0 : a = 1; (subst z0; rfl); by_cases z1 : a = 11; (subst z1; rfl); simp only [am_ui, am_ul, am_row_ne z0, am_row_ne z1])) ?_
      refine am_F.ops (pc' := 78) (L' := [.ref 0, .int (nI loan_n), .int (fn_bitCountL (y2.2.2.2 5))]) (S' := [.int (f 2 12), .ref 1]) (μ' := (am_S (am_row (am_row (am_row f 1 y2.1) 34 y2.2.1) 35 y2.2.2.1) (am_row (am_row g 1 y2.2.2.2) 11 (vp_updL (g 11) 6 ((g 11 6) ||| ((1 : Int64) <<< ((nI loan_n).toInt64 &&& 63))))))) 5 rfl ?_
      refine am_F.call rfl rfl (x_settle (f 2 12) (am_row (am_row (am_row f 1 y2.1) 34 y2.2.1) 35 y2.2.2.1) (am_row (am_row g 1 y2.2.2.2) 11 (vp_updL (g 11) 6 ((g 11 6) ||| ((1 : Int64) <<< ((nI loan_n).toInt64 &&& 63))))) hLc hLn hLf hLt hLr hRc hRn) (by decide) ?_
      obtain ⟨y4, hy4⟩ : ∃ z, (fn_settle (f 2 12) (am_row (am_row (am_row f 1 y2.1) 34 y2.2.1) 35 y2.2.2.1) (am_row (am_row g 1 y2.2.2.2) 11 (vp_updL (g 11) 6 ((g 11 6) ||| ((1 : Int64) <<< ((nI loan_n).toInt64 &&& 63)))))) = z := ⟨_, rfl⟩
      (try rw [hy4] at hK)
      (try rw [hy4])
      refine am_F.mem (F' := (am_row (am_row (am_row f 1 y4.1) 34 y4.2.1) 35 y4.2.2.1)) (G' := (am_row (am_row g 1 y4.2.2.2) 11 (vp_updL (g 11) 6 ((g 11 6) ||| ((1 : Int64) <<< ((nI loan_n).toInt64 &&& 63)))))) ?_ (by first | rfl | (funext a; by_cases z0 : a = 1; (subst z0; rfl); by_cases z1 : a = 11; (subst z1; rfl); by_cases z2 : a = 34; (subst z2; rfl); by_cases z3 : a = 35; (subst z3; rfl); simp only [am_ui, am_ul, am_row_ne z0, am_row_ne z1, am_row_ne z2, am_row_ne z3])) (by first | rfl | (funext a; by_cases z0 : a = 1; (subst z0; rfl); by_cases z1 : a = 11; (subst z1; rfl); by_cases z2 : a = 34; (subst z2; rfl); by_cases z3 : a = 35; (subst z3; rfl); simp only [am_ui, am_ul, am_row_ne z0, am_row_ne z1, am_row_ne z2, am_row_ne z3]))
      show am_F _ _ 81 [.ref 0, .int (nI loan_n), .int (fn_bitCountL (y2.2.2.2 5))] [] (am_S (am_row (am_row (am_row f 1 y4.1) 34 y4.2.1) 35 y4.2.2.1) (am_row (am_row g 1 y4.2.2.2) 11 (vp_updL (g 11) 6 ((g 11 6) ||| ((1 : Int64) <<< ((nI loan_n).toInt64 &&& 63)))))) _
      refine am_F.ops (pc' := 89) (L' := [.ref 0, .int (nI loan_n), .int (fn_bitCountL (y2.2.2.2 5))]) (S' := [.long (y4.2.2.2 5), .int (fn_bitCountL (y2.2.2.2 5))]) (μ' := (am_S (am_row (am_row (am_row f 1 y4.1) 34 y4.2.1) 35 y4.2.2.1) (am_row (am_row g 1 y4.2.2.2) 11 (vp_updL (g 11) 6 ((g 11 6) ||| ((1 : Int64) <<< ((nI loan_n).toInt64 &&& 63))))))) 4 rfl ?_
      refine am_F.call rfl rfl (x_bitCountL (y4.2.2.2 5) (am_row (am_row (am_row f 1 y4.1) 34 y4.2.1) 35 y4.2.2.1) (am_row (am_row g 1 y4.2.2.2) 11 (vp_updL (g 11) 6 ((g 11 6) ||| ((1 : Int64) <<< ((nI loan_n).toInt64 &&& 63))))) ) (by decide) ?_
      show am_F _ _ 92 [.ref 0, .int (nI loan_n), .int (fn_bitCountL (y2.2.2.2 5))] [.int (fn_bitCountL (y4.2.2.2 5)), .int (fn_bitCountL (y2.2.2.2 5))] (am_S (am_row (am_row (am_row f 1 y4.1) 34 y4.2.1) 35 y4.2.2.1) (am_row (am_row g 1 y4.2.2.2) 11 (vp_updL (g 11) 6 ((g 11 6) ||| ((1 : Int64) <<< ((nI loan_n).toInt64 &&& 63)))))) _
      refine am_F.ops (pc' := 93) (L' := [.ref 0, .int (nI loan_n), .int (fn_bitCountL (y2.2.2.2 5))]) (S' := [.int ((fn_bitCountL (y2.2.2.2 5)) - (fn_bitCountL (y4.2.2.2 5)))]) (μ' := (am_S (am_row (am_row (am_row f 1 y4.1) 34 y4.2.1) 35 y4.2.2.1) (am_row (am_row g 1 y4.2.2.2) 11 (vp_updL (g 11) 6 ((g 11 6) ||| ((1 : Int64) <<< ((nI loan_n).toInt64 &&& 63))))))) 1 rfl ?_
      subst hKd
      exact am_F.eq (am_F.ret rfl rfl) hK
    · show am_F _ _ 35 [.ref 0, .int (nI loan_n), am_un] [] (am_S (am_row (am_row (am_row f 1 y2.1) 34 y2.2.1) 35 y2.2.2.1) (am_row g 1 y2.2.2.2)) _
      refine am_F.ops (pc' := 37) (L' := [.ref 0, .int (nI loan_n), am_un]) (S' := [.int (-5)]) (μ' := (am_S (am_row (am_row (am_row f 1 y2.1) 34 y2.2.1) 35 y2.2.2.1) (am_row g 1 y2.2.2.2))) 1 rfl ?_
      refine am_F.mem (F' := (am_row (am_row (am_row f 1 y2.1) 34 y2.2.1) 35 y2.2.2.1)) (G' := (am_row (am_row g 1 y2.2.2.2) 11 (g 11))) ?_ (by first | rfl | (funext a; by_cases z0 : a = 1; (subst z0; rfl); by_cases z1 : a = 11; (subst z1; rfl); by_cases z2 : a = 34; (subst z2; rfl); by_cases z3 : a = 35; (subst z3; rfl); simp only [am_ui, am_ul, am_row_ne z0, am_row_ne z1, am_row_ne z2, am_row_ne z3])) (by first | rfl | (funext a; by_cases z0 : a = 1; (subst z0; rfl); by_cases z1 : a = 11; (subst z1; rfl); by_cases z2 : a = 34; (subst z2; rfl); by_cases z3 : a = 35; (subst z3; rfl); simp only [am_ui, am_ul, am_row_ne z0, am_row_ne z1, am_row_ne z2, am_row_ne z3]))
      subst hKd
      exact am_F.eq (am_F.ret rfl rfl) hK
  · show am_F _ _ 8 [.ref 0, .int loan, am_un] [] (am_S f g) _
    refine am_F.ops (pc' := 9) (L' := [.ref 0, .int loan, am_un]) (S' := [.int (-1)]) (μ' := (am_S f g)) 1 rfl ?_
    refine am_F.mem (F' := (am_row (am_row (am_row f 1 (f 1)) 34 (f 34)) 35 (f 35))) (G' := (am_row (am_row g 1 (g 1)) 11 (g 11))) ?_ (by first | rfl | (funext a; by_cases z0 : a = 1; (subst z0; rfl); by_cases z1 : a = 11; (subst z1; rfl); by_cases z2 : a = 34; (subst z2; rfl); by_cases z3 : a = 35; (subst z3; rfl); simp only [am_ui, am_ul, am_row_ne z0, am_row_ne z1, am_row_ne z2, am_row_ne z3])) (by first | rfl | (funext a; by_cases z0 : a = 1; (subst z0; rfl); by_cases z1 : a = 11; (subst z1; rfl); by_cases z2 : a = 34; (subst z2; rfl); by_cases z3 : a = 35; (subst z3; rfl); simp only [am_ui, am_ul, am_row_ne z0, am_row_ne z1, am_row_ne z2, am_row_ne z3]))
    subst hKd
    exact am_F.eq (am_F.ret rfl rfl) hK
/-- AccessLattice.loan -/
def fn_loan (loan : Int32) (what : Int32) (f : Nat → Nat → Int32) (g : Nat → Nat → Int64) : Int32 × (Nat → Int32) × (Nat → Int32) × (Nat → Int32) × (Nat → Int64) := (bif (fn_isLoan loan f) then (if what = 0 then (f 12 (loan.toNatClampNeg), f 1, f 34, f 35, g 1) else (if what = 1 then (f 13 (loan.toNatClampNeg), f 1, f 34, f 35, g 1) else (if what = 2 then (f 14 (loan.toNatClampNeg), f 1, f 34, f 35, g 1) else (if what = 3 then (f 15 (loan.toNatClampNeg), f 1, f 34, f 35, g 1) else (if what = 4 then (f 16 (loan.toNatClampNeg), f 1, f 34, f 35, g 1) else (if what = 5 then (f 17 (loan.toNatClampNeg), f 1, f 34, f 35, g 1) else (if what = 6 then (am_b (bif (fn_isStanding loan (am_row g 1 (fn_settle (f 2 12) f g).2.2.2)) then true else false), (fn_settle (f 2 12) f g).1, (fn_settle (f 2 12) f g).2.1, (fn_settle (f 2 12) f g).2.2.1, (fn_settle (f 2 12) f g).2.2.2) else ((-1), f 1, f 34, f 35, g 1)))))))) else ((-1), f 1, f 34, f 35, g 1))
theorem x_loan (loan : Int32) (what : Int32) (f : Nat → Nat → Int32) (g : Nat → Nat → Int64) (hLc : f 11 7 = nI (f 11 7).toNatClampNeg) (hLn : (f 11 7).toNatClampNeg ≤ 40) (hLf : ∀ i, i < (f 11 7).toNatClampNeg → am_inb (f 12 i) 16 = true) (hLt : ∀ i, i < (f 11 7).toNatClampNeg → am_inb (f 13 i) 16 = true) (hLr : ∀ i, i < (f 11 7).toNatClampNeg → am_inb (f 14 i) 20 = true) (hRc : f 18 11 = nI (f 18 11).toNatClampNeg) (hRn : (f 18 11).toNatClampNeg ≤ 30) : am_D 4 43 4 [.ref 0, .int loan, .int what] (am_S f g) (some (Value.int ((fn_loan loan what f g).1)), am_S (am_row (am_row (am_row f 1 ((fn_loan loan what f g).2.1)) 34 ((fn_loan loan what f g).2.2.1)) 35 ((fn_loan loan what f g).2.2.2.1)) (am_row g 1 ((fn_loan loan what f g).2.2.2.2))) := by
  refine am_D.of (code := am_k_43) rfl (L0 := [.ref 0, .int loan, .int what, am_un]) rfl ?_
  generalize hres : (some (Value.int ((fn_loan loan what f g).1)), am_S (am_row (am_row (am_row f 1 ((fn_loan loan what f g).2.1)) 34 ((fn_loan loan what f g).2.2.1)) 35 ((fn_loan loan what f g).2.2.2.1)) (am_row g 1 ((fn_loan loan what f g).2.2.2.2))) = res
  obtain ⟨K, hKd⟩ : ∃ K : (Int32 × (Nat → Int32) × (Nat → Int32) × (Nat → Int32) × (Nat → Int64)) → Prop, K = fun z => (some (Value.int z.1), am_S (am_row (am_row (am_row f 1 z.2.1) 34 z.2.2.1) 35 z.2.2.2.1) (am_row g 1 z.2.2.2.2)) = res := ⟨_, rfl⟩
  have hK : K (fn_loan loan what f g) := by rw [hKd]; exact hres
  clear hres
  unfold fn_loan at hK
  refine am_F.ops (pc' := 2) (L' := [.ref 0, .int loan, .int what, am_un]) (S' := [.int loan, .ref 0]) (μ' := (am_S f g)) 2 rfl ?_
  refine am_F.call rfl rfl (x_isLoan loan f g hLc hLn) (by decide) ?_
  show am_F _ _ 5 [.ref 0, .int loan, .int what, am_un] [.int (am_b (fn_isLoan loan f))] (am_S f g) _
  refine am_F.bifK 1 rfl K hK (fun c1 hK => ?_) (fun c1 hK => ?_)
  · obtain ⟨loan_n, hloan_n, eloan_n⟩ := (am_iLoan hLc (by omega) c1)
    subst eloan_n
    try simp only [nI_clamp (show loan_n < 2147483648 by omega)] at hK
    show am_F _ _ 10 [.ref 0, .int (nI loan_n), .int what, am_un] [] (am_S f g) _
    refine am_F.ops (pc' := 19) (L' := [.ref 0, .int (nI loan_n), .int what, .ref 11]) (S' := [.int what]) (μ' := (am_S f g)) 5 rfl ?_
    refine am_F.ops (pc' := am_ltg [(0, 60), (1, 67), (2, 74), (3, 81), (4, 88), (5, 95), (6, 102)] 133 what) (L' := [.ref 0, .int (nI loan_n), .int what, .ref 11]) (S' := []) (μ' := (am_S f g)) 1 (am_tswE (tg := [60, 67, 74, 81, 88, 95, 102]) (lo := 0) rfl rfl (by decide) (by decide)) ?_
    refine am_F.ltg K hK (fun c2 hK => ?_) (fun c2 hK => ?_)
    · show am_F _ _ 60 [.ref 0, .int (nI loan_n), .int what, .ref 11] [] (am_S f g) _
      refine am_F.ops (pc' := 65) (L' := [.ref 0, .int (nI loan_n), .int what, .ref 11]) (S' := [.int (nI loan_n), .ref 12]) (μ' := (am_S f g)) 3 rfl ?_
      refine am_F.ialE (m := loan_n) (N := 40) rfl rfl rfl rfl (by omega) (by decide) ?_
      show am_F _ _ 66 [.ref 0, .int (nI loan_n), .int what, .ref 11] [.int (f 12 loan_n)] (am_S f g) _
      refine am_F.mem (F' := (am_row (am_row (am_row f 1 (f 1)) 34 (f 34)) 35 (f 35))) (G' := (am_row g 1 (g 1))) ?_ (by first | rfl | (funext a; by_cases z0 : a = 1; (subst z0; rfl); by_cases z1 : a = 34; (subst z1; rfl); by_cases z2 : a = 35; (subst z2; rfl); simp only [am_ui, am_ul, am_row_ne z0, am_row_ne z1, am_row_ne z2])) (by first | rfl | (funext a; by_cases z0 : a = 1; (subst z0; rfl); by_cases z1 : a = 34; (subst z1; rfl); by_cases z2 : a = 35; (subst z2; rfl); simp only [am_ui, am_ul, am_row_ne z0, am_row_ne z1, am_row_ne z2]))
      subst hKd
      exact am_F.eq (am_F.ret rfl rfl) hK
    · skip
      refine am_F.ltg K hK (fun c3 hK => ?_) (fun c3 hK => ?_)
      · show am_F _ _ 67 [.ref 0, .int (nI loan_n), .int what, .ref 11] [] (am_S f g) _
        refine am_F.ops (pc' := 72) (L' := [.ref 0, .int (nI loan_n), .int what, .ref 11]) (S' := [.int (nI loan_n), .ref 13]) (μ' := (am_S f g)) 3 rfl ?_
        refine am_F.ialE (m := loan_n) (N := 40) rfl rfl rfl rfl (by omega) (by decide) ?_
        show am_F _ _ 73 [.ref 0, .int (nI loan_n), .int what, .ref 11] [.int (f 13 loan_n)] (am_S f g) _
        refine am_F.mem (F' := (am_row (am_row (am_row f 1 (f 1)) 34 (f 34)) 35 (f 35))) (G' := (am_row g 1 (g 1))) ?_ (by first | rfl | (funext a; by_cases z0 : a = 1; (subst z0; rfl); by_cases z1 : a = 34; (subst z1; rfl); by_cases z2 : a = 35; (subst z2; rfl); simp only [am_ui, am_ul, am_row_ne z0, am_row_ne z1, am_row_ne z2])) (by first | rfl | (funext a; by_cases z0 : a = 1; (subst z0; rfl); by_cases z1 : a = 34; (subst z1; rfl); by_cases z2 : a = 35; (subst z2; rfl); simp only [am_ui, am_ul, am_row_ne z0, am_row_ne z1, am_row_ne z2]))
        subst hKd
        exact am_F.eq (am_F.ret rfl rfl) hK
      · skip
        refine am_F.ltg K hK (fun c4 hK => ?_) (fun c4 hK => ?_)
        · show am_F _ _ 74 [.ref 0, .int (nI loan_n), .int what, .ref 11] [] (am_S f g) _
          refine am_F.ops (pc' := 79) (L' := [.ref 0, .int (nI loan_n), .int what, .ref 11]) (S' := [.int (nI loan_n), .ref 14]) (μ' := (am_S f g)) 3 rfl ?_
          refine am_F.ialE (m := loan_n) (N := 40) rfl rfl rfl rfl (by omega) (by decide) ?_
          show am_F _ _ 80 [.ref 0, .int (nI loan_n), .int what, .ref 11] [.int (f 14 loan_n)] (am_S f g) _
          refine am_F.mem (F' := (am_row (am_row (am_row f 1 (f 1)) 34 (f 34)) 35 (f 35))) (G' := (am_row g 1 (g 1))) ?_ (by first | rfl | (funext a; by_cases z0 : a = 1; (subst z0; rfl); by_cases z1 : a = 34; (subst z1; rfl); by_cases z2 : a = 35; (subst z2; rfl); simp only [am_ui, am_ul, am_row_ne z0, am_row_ne z1, am_row_ne z2])) (by first | rfl | (funext a; by_cases z0 : a = 1; (subst z0; rfl); by_cases z1 : a = 34; (subst z1; rfl); by_cases z2 : a = 35; (subst z2; rfl); simp only [am_ui, am_ul, am_row_ne z0, am_row_ne z1, am_row_ne z2]))
          subst hKd
          exact am_F.eq (am_F.ret rfl rfl) hK
        · skip
          refine am_F.ltg K hK (fun c5 hK => ?_) (fun c5 hK => ?_)
          · show am_F _ _ 81 [.ref 0, .int (nI loan_n), .int what, .ref 11] [] (am_S f g) _
            refine am_F.ops (pc' := 86) (L' := [.ref 0, .int (nI loan_n), .int what, .ref 11]) (S' := [.int (nI loan_n), .ref 15]) (μ' := (am_S f g)) 3 rfl ?_
            refine am_F.ialE (m := loan_n) (N := 40) rfl rfl rfl rfl (by omega) (by decide) ?_
            show am_F _ _ 87 [.ref 0, .int (nI loan_n), .int what, .ref 11] [.int (f 15 loan_n)] (am_S f g) _
            refine am_F.mem (F' := (am_row (am_row (am_row f 1 (f 1)) 34 (f 34)) 35 (f 35))) (G' := (am_row g 1 (g 1))) ?_ (by first | rfl | (funext a; by_cases z0 : a = 1; (subst z0; rfl); by_cases z1 : a = 34; (subst z1; rfl); by_cases z2 : a = 35; (subst z2; rfl); simp only [am_ui, am_ul, am_row_ne z0, am_row_ne z1, am_row_ne z2])) (by first | rfl | (funext a; by_cases z0 : a = 1; (subst z0; rfl); by_cases z1 : a = 34; (subst z1; rfl); by_cases z2 : a = 35; (subst z2; rfl); simp only [am_ui, am_ul, am_row_ne z0, am_row_ne z1, am_row_ne z2]))
            subst hKd
            exact am_F.eq (am_F.ret rfl rfl) hK
          · skip
            refine am_F.ltg K hK (fun c6 hK => ?_) (fun c6 hK => ?_)
            · show am_F _ _ 88 [.ref 0, .int (nI loan_n), .int what, .ref 11] [] (am_S f g) _
              refine am_F.ops (pc' := 93) (L' := [.ref 0, .int (nI loan_n), .int what, .ref 11]) (S' := [.int (nI loan_n), .ref 16]) (μ' := (am_S f g)) 3 rfl ?_
              refine am_F.ialE (m := loan_n) (N := 40) rfl rfl rfl rfl (by omega) (by decide) ?_
              show am_F _ _ 94 [.ref 0, .int (nI loan_n), .int what, .ref 11] [.int (f 16 loan_n)] (am_S f g) _
              refine am_F.mem (F' := (am_row (am_row (am_row f 1 (f 1)) 34 (f 34)) 35 (f 35))) (G' := (am_row g 1 (g 1))) ?_ (by first | rfl | (funext a; by_cases z0 : a = 1; (subst z0; rfl); by_cases z1 : a = 34; (subst z1; rfl); by_cases z2 : a = 35; (subst z2; rfl); simp only [am_ui, am_ul, am_row_ne z0, am_row_ne z1, am_row_ne z2])) (by first | rfl | (funext a; by_cases z0 : a = 1; (subst z0; rfl); by_cases z1 : a = 34; (subst z1; rfl); by_cases z2 : a = 35; (subst z2; rfl); simp only [am_ui, am_ul, am_row_ne z0, am_row_ne z1, am_row_ne z2]))
              subst hKd
              exact am_F.eq (am_F.ret rfl rfl) hK
            · skip
              refine am_F.ltg K hK (fun c7 hK => ?_) (fun c7 hK => ?_)
              · show am_F _ _ 95 [.ref 0, .int (nI loan_n), .int what, .ref 11] [] (am_S f g) _
                refine am_F.ops (pc' := 100) (L' := [.ref 0, .int (nI loan_n), .int what, .ref 11]) (S' := [.int (nI loan_n), .ref 17]) (μ' := (am_S f g)) 3 rfl ?_
                refine am_F.ialE (m := loan_n) (N := 40) rfl rfl rfl rfl (by omega) (by decide) ?_
                show am_F _ _ 101 [.ref 0, .int (nI loan_n), .int what, .ref 11] [.int (f 17 loan_n)] (am_S f g) _
                refine am_F.mem (F' := (am_row (am_row (am_row f 1 (f 1)) 34 (f 34)) 35 (f 35))) (G' := (am_row g 1 (g 1))) ?_ (by first | rfl | (funext a; by_cases z0 : a = 1; (subst z0; rfl); by_cases z1 : a = 34; (subst z1; rfl); by_cases z2 : a = 35; (subst z2; rfl); simp only [am_ui, am_ul, am_row_ne z0, am_row_ne z1, am_row_ne z2])) (by first | rfl | (funext a; by_cases z0 : a = 1; (subst z0; rfl); by_cases z1 : a = 34; (subst z1; rfl); by_cases z2 : a = 35; (subst z2; rfl); simp only [am_ui, am_ul, am_row_ne z0, am_row_ne z1, am_row_ne z2]))
                subst hKd
                exact am_F.eq (am_F.ret rfl rfl) hK
              · skip
                refine am_F.ltg K hK (fun c8 hK => ?_) (fun c8 hK => ?_)
                · show am_F _ _ 102 [.ref 0, .int (nI loan_n), .int what, .ref 11] [] (am_S f g) _
                  refine am_F.ops (pc' := 113) (L' := [.ref 0, .int (nI loan_n), .int what, .ref 11]) (S' := [.int (f 2 12), .ref 1]) (μ' := (am_S f g)) 5 rfl ?_
                  refine am_F.call rfl rfl (x_settle (f 2 12) f g hLc hLn hLf hLt hLr hRc hRn) (by decide) ?_
                  obtain ⟨y9, hy9⟩ : ∃ z, (fn_settle (f 2 12) f g) = z := ⟨_, rfl⟩
                  (try rw [hy9] at hK)
                  (try rw [hy9])
                  refine am_F.mem (F' := (am_row (am_row (am_row f 1 y9.1) 34 y9.2.1) 35 y9.2.2.1)) (G' := (am_row g 1 y9.2.2.2)) ?_ (by first | rfl | (funext a; by_cases z0 : a = 1; (subst z0; rfl); by_cases z1 : a = 34; (subst z1; rfl); by_cases z2 : a = 35; (subst z2; rfl); simp only [am_ui, am_ul, am_row_ne z0, am_row_ne z1, am_row_ne z2])) (by first | rfl | (funext a; by_cases z0 : a = 1; (subst z0; rfl); by_cases z1 : a = 34; (subst z1; rfl); by_cases z2 : a = 35; (subst z2; rfl); simp only [am_ui, am_ul, am_row_ne z0, am_row_ne z1, am_row_ne z2]))
                  show am_F _ _ 116 [.ref 0, .int (nI loan_n), .int what, .ref 11] [] (am_S (am_row (am_row (am_row f 1 y9.1) 34 y9.2.1) 35 y9.2.2.1) (am_row g 1 y9.2.2.2)) _
                  refine am_F.ops (pc' := 121) (L' := [.ref 0, .int (nI loan_n), .int what, .ref 11]) (S' := [.int (nI loan_n), .ref 1]) (μ' := (am_S (am_row (am_row (am_row f 1 y9.1) 34 y9.2.1) 35 y9.2.2.1) (am_row g 1 y9.2.2.2))) 3 rfl ?_
                  refine am_F.call rfl rfl (x_isStanding (nI loan_n) (am_row (am_row (am_row f 1 y9.1) 34 y9.2.1) 35 y9.2.2.1) (am_row g 1 y9.2.2.2) ) (by decide) ?_
                  show am_F _ _ 124 [.ref 0, .int (nI loan_n), .int what, .ref 11] [.int (am_b (fn_isStanding (nI loan_n) (am_row g 1 y9.2.2.2)))] (am_S (am_row (am_row (am_row f 1 y9.1) 34 y9.2.1) 35 y9.2.2.1) (am_row g 1 y9.2.2.2)) _
                  refine am_F.to (am_To.bifB (pc' := 132) (L2 := [.ref 0, .int (nI loan_n), .int what, .ref 11]) (S2 := []) (μ2 := (am_S (am_row (am_row (am_row f 1 y9.1) 34 y9.2.1) 35 y9.2.2.1) (am_row g 1 y9.2.2.2))) (a := true) (b := false) 1 rfl (fun c10 => ?_) (fun c10 => ?_)) ?_
                  · intro res9 g9
                    show am_F _ _ 127 [.ref 0, .int (nI loan_n), .int what, .ref 11] [] (am_S (am_row (am_row (am_row f 1 y9.1) 34 y9.2.1) 35 y9.2.2.1) (am_row g 1 y9.2.2.2)) _
                    refine am_F.ops (pc' := 132) (L' := [.ref 0, .int (nI loan_n), .int what, .ref 11]) (S' := [.int 1]) (μ' := (am_S (am_row (am_row (am_row f 1 y9.1) 34 y9.2.1) 35 y9.2.2.1) (am_row g 1 y9.2.2.2))) 2 rfl ?_
                    exact g9
                  · intro res9 g9
                    show am_F _ _ 131 [.ref 0, .int (nI loan_n), .int what, .ref 11] [] (am_S (am_row (am_row (am_row f 1 y9.1) 34 y9.2.1) 35 y9.2.2.1) (am_row g 1 y9.2.2.2)) _
                    refine am_F.ops (pc' := 132) (L' := [.ref 0, .int (nI loan_n), .int what, .ref 11]) (S' := [.int 0]) (μ' := (am_S (am_row (am_row (am_row f 1 y9.1) 34 y9.2.1) 35 y9.2.2.1) (am_row g 1 y9.2.2.2))) 1 rfl ?_
                    exact g9
                  show am_F _ _ 132 [.ref 0, .int (nI loan_n), .int what, .ref 11] [.int (am_b (bif (fn_isStanding (nI loan_n) (am_row g 1 y9.2.2.2)) then true else false))] (am_S (am_row (am_row (am_row f 1 y9.1) 34 y9.2.1) 35 y9.2.2.1) (am_row g 1 y9.2.2.2)) _
                  subst hKd
                  exact am_F.eq (am_F.ret rfl rfl) hK
                · skip
                  show am_F _ _ 133 [.ref 0, .int (nI loan_n), .int what, .ref 11] [] (am_S f g) _
                  refine am_F.ops (pc' := 134) (L' := [.ref 0, .int (nI loan_n), .int what, .ref 11]) (S' := [.int (-1)]) (μ' := (am_S f g)) 1 rfl ?_
                  refine am_F.mem (F' := (am_row (am_row (am_row f 1 (f 1)) 34 (f 34)) 35 (f 35))) (G' := (am_row g 1 (g 1))) ?_ (by first | rfl | (funext a; by_cases z0 : a = 1; (subst z0; rfl); by_cases z1 : a = 34; (subst z1; rfl); by_cases z2 : a = 35; (subst z2; rfl); simp only [am_ui, am_ul, am_row_ne z0, am_row_ne z1, am_row_ne z2])) (by first | rfl | (funext a; by_cases z0 : a = 1; (subst z0; rfl); by_cases z1 : a = 34; (subst z1; rfl); by_cases z2 : a = 35; (subst z2; rfl); simp only [am_ui, am_ul, am_row_ne z0, am_row_ne z1, am_row_ne z2]))
                  subst hKd
                  exact am_F.eq (am_F.ret rfl rfl) hK
  · show am_F _ _ 8 [.ref 0, .int loan, .int what, am_un] [] (am_S f g) _
    refine am_F.ops (pc' := 9) (L' := [.ref 0, .int loan, .int what, am_un]) (S' := [.int (-1)]) (μ' := (am_S f g)) 1 rfl ?_
    refine am_F.mem (F' := (am_row (am_row (am_row f 1 (f 1)) 34 (f 34)) 35 (f 35))) (G' := (am_row g 1 (g 1))) ?_ (by first | rfl | (funext a; by_cases z0 : a = 1; (subst z0; rfl); by_cases z1 : a = 34; (subst z1; rfl); by_cases z2 : a = 35; (subst z2; rfl); simp only [am_ui, am_ul, am_row_ne z0, am_row_ne z1, am_row_ne z2])) (by first | rfl | (funext a; by_cases z0 : a = 1; (subst z0; rfl); by_cases z1 : a = 34; (subst z1; rfl); by_cases z2 : a = 35; (subst z2; rfl); simp only [am_ui, am_ul, am_row_ne z0, am_row_ne z1, am_row_ne z2]))
    subst hKd
    exact am_F.eq (am_F.ret rfl rfl) hK
/-- AccessLattice.holds -/
def fn_holds (user : Int32) (way : Int32) (f : Nat → Nat → Int32) (g : Nat → Nat → Int64) : Int32 × (Nat → Int32) × (Nat → Int32) × (Nat → Int32) × (Nat → Int64) := (bif (fn_isUser user) then (bif (fn_between way 0 2) then (if way = 1 then (f 30 (user.toNatClampNeg), f 1, f 34, f 35, g 1) else ((if way = 0 then (fn_settle (f 2 12) f g).2.2.1 (user.toNatClampNeg) else (fn_settle (f 2 12) f g).2.1 (user.toNatClampNeg)), (fn_settle (f 2 12) f g).1, (fn_settle (f 2 12) f g).2.1, (fn_settle (f 2 12) f g).2.2.1, (fn_settle (f 2 12) f g).2.2.2)) else ((-1), f 1, f 34, f 35, g 1)) else ((-1), f 1, f 34, f 35, g 1))
theorem x_holds (user : Int32) (way : Int32) (f : Nat → Nat → Int32) (g : Nat → Nat → Int64) (hLc : f 11 7 = nI (f 11 7).toNatClampNeg) (hLn : (f 11 7).toNatClampNeg ≤ 40) (hLf : ∀ i, i < (f 11 7).toNatClampNeg → am_inb (f 12 i) 16 = true) (hLt : ∀ i, i < (f 11 7).toNatClampNeg → am_inb (f 13 i) 16 = true) (hLr : ∀ i, i < (f 11 7).toNatClampNeg → am_inb (f 14 i) 20 = true) (hRc : f 18 11 = nI (f 18 11).toNatClampNeg) (hRn : (f 18 11).toNatClampNeg ≤ 30) : am_D 4 44 3 [.ref 0, .int user, .int way] (am_S f g) (some (Value.int ((fn_holds user way f g).1)), am_S (am_row (am_row (am_row f 1 ((fn_holds user way f g).2.1)) 34 ((fn_holds user way f g).2.2.1)) 35 ((fn_holds user way f g).2.2.2.1)) (am_row g 1 ((fn_holds user way f g).2.2.2.2))) := by
  refine am_D.of (code := am_k_44) rfl (L0 := [.ref 0, .int user, .int way]) rfl ?_
  generalize hres : (some (Value.int ((fn_holds user way f g).1)), am_S (am_row (am_row (am_row f 1 ((fn_holds user way f g).2.1)) 34 ((fn_holds user way f g).2.2.1)) 35 ((fn_holds user way f g).2.2.2.1)) (am_row g 1 ((fn_holds user way f g).2.2.2.2))) = res
  obtain ⟨K, hKd⟩ : ∃ K : (Int32 × (Nat → Int32) × (Nat → Int32) × (Nat → Int32) × (Nat → Int64)) → Prop, K = fun z => (some (Value.int z.1), am_S (am_row (am_row (am_row f 1 z.2.1) 34 z.2.2.1) 35 z.2.2.2.1) (am_row g 1 z.2.2.2.2)) = res := ⟨_, rfl⟩
  have hK : K (fn_holds user way f g) := by rw [hKd]; exact hres
  clear hres
  unfold fn_holds at hK
  refine am_F.ops (pc' := 1) (L' := [.ref 0, .int user, .int way]) (S' := [.int user]) (μ' := (am_S f g)) 1 rfl ?_
  refine am_F.call rfl rfl (x_isUser user f g ) (by decide) ?_
  show am_F _ _ 4 [.ref 0, .int user, .int way] [.int (am_b (fn_isUser user))] (am_S f g) _
  refine am_F.bifK 1 rfl K hK (fun c1 hK => ?_) (fun c1 hK => ?_)
  · obtain ⟨user_n, huser_n, euser_n⟩ := am_iUser c1
    subst euser_n
    try simp only [nI_clamp (show user_n < 2147483648 by omega)] at hK
    show am_F _ _ 7 [.ref 0, .int (nI user_n), .int way] [] (am_S f g) _
    refine am_F.ops (pc' := 10) (L' := [.ref 0, .int (nI user_n), .int way]) (S' := [.int 2, .int 0, .int way]) (μ' := (am_S f g)) 3 rfl ?_
    refine am_F.call rfl rfl (x_between way 0 2 f g ) (by decide) ?_
    show am_F _ _ 13 [.ref 0, .int (nI user_n), .int way] [.int (am_b (fn_between way 0 2))] (am_S f g) _
    refine am_F.bifK 1 rfl K hK (fun c2 hK => ?_) (fun c2 hK => ?_)
    · obtain ⟨way_n, hway_n, eway_n⟩ := am_btwN (N := 3) c2 (by decide)
      subst eway_n
      try simp only [nI_clamp (show way_n < 2147483648 by omega)] at hK
      show am_F _ _ 18 [.ref 0, .int (nI user_n), .int (nI way_n)] [] (am_S f g) _
      refine am_F.ops (pc' := 20) (L' := [.ref 0, .int (nI user_n), .int (nI way_n)]) (S' := [.int 1, .int (nI way_n)]) (μ' := (am_S f g)) 2 rfl ?_
      refine am_F.iteK 1 rfl K hK (fun c3 hK => ?_) (fun c3 hK => ?_)
      · show am_F _ _ 23 [.ref 0, .int (nI user_n), .int (nI way_n)] [] (am_S f g) _
        refine am_F.ops (pc' := 31) (L' := [.ref 0, .int (nI user_n), .int (nI way_n)]) (S' := [.int (nI user_n), .ref 30]) (μ' := (am_S f g)) 4 rfl ?_
        refine am_F.ialE (m := user_n) (N := 16) rfl rfl rfl rfl (by omega) (by decide) ?_
        show am_F _ _ 32 [.ref 0, .int (nI user_n), .int (nI way_n)] [.int (f 30 user_n)] (am_S f g) _
        refine am_F.mem (F' := (am_row (am_row (am_row f 1 (f 1)) 34 (f 34)) 35 (f 35))) (G' := (am_row g 1 (g 1))) ?_ (by first | rfl | (funext a; by_cases z0 : a = 1; (subst z0; rfl); by_cases z1 : a = 34; (subst z1; rfl); by_cases z2 : a = 35; (subst z2; rfl); simp only [am_ui, am_ul, am_row_ne z0, am_row_ne z1, am_row_ne z2])) (by first | rfl | (funext a; by_cases z0 : a = 1; (subst z0; rfl); by_cases z1 : a = 34; (subst z1; rfl); by_cases z2 : a = 35; (subst z2; rfl); simp only [am_ui, am_ul, am_row_ne z0, am_row_ne z1, am_row_ne z2]))
        subst hKd
        exact am_F.eq (am_F.ret rfl rfl) hK
      · show am_F _ _ 33 [.ref 0, .int (nI user_n), .int (nI way_n)] [] (am_S f g) _
        refine am_F.ops (pc' := 44) (L' := [.ref 0, .int (nI user_n), .int (nI way_n)]) (S' := [.int (f 2 12), .ref 1]) (μ' := (am_S f g)) 5 rfl ?_
        refine am_F.call rfl rfl (x_settle (f 2 12) f g hLc hLn hLf hLt hLr hRc hRn) (by decide) ?_
        obtain ⟨y4, hy4⟩ : ∃ z, (fn_settle (f 2 12) f g) = z := ⟨_, rfl⟩
        (try rw [hy4] at hK)
        (try rw [hy4])
        refine am_F.mem (F' := (am_row (am_row (am_row f 1 y4.1) 34 y4.2.1) 35 y4.2.2.1)) (G' := (am_row g 1 y4.2.2.2)) ?_ (by first | rfl | (funext a; by_cases z0 : a = 1; (subst z0; rfl); by_cases z1 : a = 34; (subst z1; rfl); by_cases z2 : a = 35; (subst z2; rfl); simp only [am_ui, am_ul, am_row_ne z0, am_row_ne z1, am_row_ne z2])) (by first | rfl | (funext a; by_cases z0 : a = 1; (subst z0; rfl); by_cases z1 : a = 34; (subst z1; rfl); by_cases z2 : a = 35; (subst z2; rfl); simp only [am_ui, am_ul, am_row_ne z0, am_row_ne z1, am_row_ne z2]))
        show am_F _ _ 47 [.ref 0, .int (nI user_n), .int (nI way_n)] [] (am_S (am_row (am_row (am_row f 1 y4.1) 34 y4.2.1) 35 y4.2.2.1) (am_row g 1 y4.2.2.2)) _
        refine am_F.ops (pc' := 48) (L' := [.ref 0, .int (nI user_n), .int (nI way_n)]) (S' := [.int (nI way_n)]) (μ' := (am_S (am_row (am_row (am_row f 1 y4.1) 34 y4.2.1) 35 y4.2.2.1) (am_row g 1 y4.2.2.2))) 1 rfl ?_
        refine am_F.to (am_To.ite (pc' := 72) (L2 := [.ref 0, .int (nI user_n), .int (nI way_n)]) (S2 := []) (μ2 := (am_S (am_row (am_row (am_row f 1 y4.1) 34 y4.2.1) 35 y4.2.2.1) (am_row g 1 y4.2.2.2))) (a := y4.2.2.1 user_n) (b := y4.2.1 user_n) 1 rfl (fun c5 => ?_) (fun c5 => ?_)) ?_
        · intro res9 g9
          show am_F _ _ 51 [.ref 0, .int (nI user_n), .int (nI way_n)] [] (am_S (am_row (am_row (am_row f 1 y4.1) 34 y4.2.1) 35 y4.2.2.1) (am_row g 1 y4.2.2.2)) _
          refine am_F.ops (pc' := 59) (L' := [.ref 0, .int (nI user_n), .int (nI way_n)]) (S' := [.int (nI user_n), .ref 35]) (μ' := (am_S (am_row (am_row (am_row f 1 y4.1) 34 y4.2.1) 35 y4.2.2.1) (am_row g 1 y4.2.2.2))) 4 rfl ?_
          refine am_F.ialE (m := user_n) (N := 16) rfl rfl rfl rfl (by omega) (by decide) ?_
          show am_F _ _ 60 [.ref 0, .int (nI user_n), .int (nI way_n)] [.int (y4.2.2.1 user_n)] (am_S (am_row (am_row (am_row f 1 y4.1) 34 y4.2.1) 35 y4.2.2.1) (am_row g 1 y4.2.2.2)) _
          refine am_F.ops (pc' := 72) (L' := [.ref 0, .int (nI user_n), .int (nI way_n)]) (S' := [.int (y4.2.2.1 user_n)]) (μ' := (am_S (am_row (am_row (am_row f 1 y4.1) 34 y4.2.1) 35 y4.2.2.1) (am_row g 1 y4.2.2.2))) 1 rfl ?_
          exact g9
        · intro res9 g9
          show am_F _ _ 63 [.ref 0, .int (nI user_n), .int (nI way_n)] [] (am_S (am_row (am_row (am_row f 1 y4.1) 34 y4.2.1) 35 y4.2.2.1) (am_row g 1 y4.2.2.2)) _
          refine am_F.ops (pc' := 71) (L' := [.ref 0, .int (nI user_n), .int (nI way_n)]) (S' := [.int (nI user_n), .ref 34]) (μ' := (am_S (am_row (am_row (am_row f 1 y4.1) 34 y4.2.1) 35 y4.2.2.1) (am_row g 1 y4.2.2.2))) 4 rfl ?_
          refine am_F.ialE (m := user_n) (N := 16) rfl rfl rfl rfl (by omega) (by decide) ?_
          show am_F _ _ 72 [.ref 0, .int (nI user_n), .int (nI way_n)] [.int (y4.2.1 user_n)] (am_S (am_row (am_row (am_row f 1 y4.1) 34 y4.2.1) 35 y4.2.2.1) (am_row g 1 y4.2.2.2)) _
          exact g9
        show am_F _ _ 72 [.ref 0, .int (nI user_n), .int (nI way_n)] [.int (if (nI way_n) = 0 then y4.2.2.1 user_n else y4.2.1 user_n)] (am_S (am_row (am_row (am_row f 1 y4.1) 34 y4.2.1) 35 y4.2.2.1) (am_row g 1 y4.2.2.2)) _
        subst hKd
        exact am_F.eq (am_F.ret rfl rfl) hK
    · show am_F _ _ 16 [.ref 0, .int (nI user_n), .int way] [] (am_S f g) _
      refine am_F.ops (pc' := 17) (L' := [.ref 0, .int (nI user_n), .int way]) (S' := [.int (-1)]) (μ' := (am_S f g)) 1 rfl ?_
      refine am_F.mem (F' := (am_row (am_row (am_row f 1 (f 1)) 34 (f 34)) 35 (f 35))) (G' := (am_row g 1 (g 1))) ?_ (by first | rfl | (funext a; by_cases z0 : a = 1; (subst z0; rfl); by_cases z1 : a = 34; (subst z1; rfl); by_cases z2 : a = 35; (subst z2; rfl); simp only [am_ui, am_ul, am_row_ne z0, am_row_ne z1, am_row_ne z2])) (by first | rfl | (funext a; by_cases z0 : a = 1; (subst z0; rfl); by_cases z1 : a = 34; (subst z1; rfl); by_cases z2 : a = 35; (subst z2; rfl); simp only [am_ui, am_ul, am_row_ne z0, am_row_ne z1, am_row_ne z2]))
      subst hKd
      exact am_F.eq (am_F.ret rfl rfl) hK
  · show am_F _ _ 16 [.ref 0, .int user, .int way] [] (am_S f g) _
    refine am_F.ops (pc' := 17) (L' := [.ref 0, .int user, .int way]) (S' := [.int (-1)]) (μ' := (am_S f g)) 1 rfl ?_
    refine am_F.mem (F' := (am_row (am_row (am_row f 1 (f 1)) 34 (f 34)) 35 (f 35))) (G' := (am_row g 1 (g 1))) ?_ (by first | rfl | (funext a; by_cases z0 : a = 1; (subst z0; rfl); by_cases z1 : a = 34; (subst z1; rfl); by_cases z2 : a = 35; (subst z2; rfl); simp only [am_ui, am_ul, am_row_ne z0, am_row_ne z1, am_row_ne z2])) (by first | rfl | (funext a; by_cases z0 : a = 1; (subst z0; rfl); by_cases z1 : a = 34; (subst z1; rfl); by_cases z2 : a = 35; (subst z2; rfl); simp only [am_ui, am_ul, am_row_ne z0, am_row_ne z1, am_row_ne z2]))
    subst hKd
    exact am_F.eq (am_F.ret rfl rfl) hK
