/-! the reference, on (wip/whole/m11.py) -/
set_option linter.constructorNameAsVariable false
/-- AccessLatticeModel.standAgain -/
def st_m_standAgain_157_2 (f : Nat → Nat → Int32) : Nat → (Nat → Int32) → (Nat → Int32) := fun i2 r2_96 => (upd r2_96 i2 (am_b (if (if (fn_m_loanAt i2 5 (am_row f 96 r2_96)) < 0 then am_b (fn_m_has (f 93 ((fn_m_loanAt i2 0 (am_row f 96 r2_96)).toNatClampNeg)) (fn_m_loanAt i2 2 (am_row f 96 r2_96))) else r2_96 ((fn_m_loanAt i2 5 (am_row f 96 r2_96)).toNatClampNeg)) = 0 then false else (if (fn_m_loanAt i2 3 (am_row f 96 r2_96)) ≤ (f 89 200) then false else (if (fn_m_loanAt i2 6 (am_row f 96 r2_96)) = 0 then true else false)))))
def lf_m_standAgain_157_2 (f : Nat → Nat → Int32) : (Nat → Int32) := am_for (st_m_standAgain_157_2 f) ((f 89 201).toNatClampNeg) 0 (f 96)
def fn_m_standAgain_157 (f : Nat → Nat → Int32) : (Nat → Int32) := (lf_m_standAgain_157_2 f)
theorem lp_m_standAgain_157_2 (f : Nat → Nat → Int32) (g : Nat → Nat → Int64) (hlC : f 89 201 = nI (f 89 201).toNatClampNeg) (hlN : (f 89 201).toNatClampNeg ≤ 40) (hrC : f 89 202 = nI (f 89 202).toNatClampNeg) (hrN : (f 89 202).toNatClampNeg ≤ 30) (hl0 : ∀ i, i < (f 89 201).toNatClampNeg → am_inb (fn_m_loanAt i 0 f) 16 = true) (hl5 : ∀ i, i < (f 89 201).toNatClampNeg → ¬ fn_m_loanAt i 5 f < 0 → am_inb (fn_m_loanAt i 5 f) 40 = true) (hl2 : ∀ i, i < (f 89 201).toNatClampNeg → am_inb (fn_m_loanAt i 2 f) 20 = true) (res : Option Value × am_M) : ∀ (n i2 : Nat) (r2_96 : Nat → Int32) (w2_2 : Value) (w2_3 : Value), i2 + n = (f 89 201).toNatClampNeg → (fun (z : (Nat → Int32)) => ∀ (wc : Value) (w2_2 : Value) (w2_3 : Value), am_F 1 am_k_157 103 [.ref 88, wc, w2_2, w2_3] [] (am_S (am_row f 96 z) g) res) (am_for (st_m_standAgain_157_2 f) n i2 r2_96) → am_F 1 am_k_157 2 [.ref 88, .int (nI i2), w2_2, w2_3] [] (am_S (am_row f 96 r2_96) g) res := by
  intro n
  induction n with
  | zero =>
    intro i2 r2_96 w2_2 w2_3 hi hK
    refine am_F.pos 6 rfl (by show (f 89 201) ≤ nI i2; rw [show (f 89 201 : Int32) = nI ((f 89 201).toNatClampNeg) from hlC]; exact nI_le (by omega) (by omega)) ?_
    exact hK _ _ _
  | succ n ih =>
    intro i2 r2_96 w2_2 w2_3 hi hK
    refine am_F.neg 6 rfl (by show ¬ (f 89 201) ≤ nI i2; rw [show (f 89 201 : Int32) = nI ((f 89 201).toNatClampNeg) from hlC]; exact nI_ge (by omega) (by omega)) ?_
    have hb2 : i2 < (f 89 201).toNatClampNeg := by omega
    show am_F _ _ 14 [.ref 88, .int (nI i2), w2_2, w2_3] [] (am_S (am_row f 96 r2_96) g) _
    obtain ⟨K, hKd⟩ : ∃ K : ((Nat → Int32)) → Prop, K = fun s => (fun (z : (Nat → Int32)) => ∀ (wc : Value) (w2_2 : Value) (w2_3 : Value), am_F 1 am_k_157 103 [.ref 88, wc, w2_2, w2_3] [] (am_S (am_row f 96 z) g) res) (am_for (st_m_standAgain_157_2 f) n (i2 + 1) s) := ⟨_, rfl⟩
    have hK : K ((st_m_standAgain_157_2 f) i2 r2_96) := by rw [hKd]; exact hK
    unfold st_m_standAgain_157_2 at hK
    refine am_F.ops (pc' := 17) (L' := [.ref 88, .int (nI i2), w2_2, w2_3]) (S' := [.int 5, .int (nI i2), .ref 88]) (μ' := (am_S (am_row f 96 r2_96) g)) 3 rfl ?_
    refine am_F.call rfl rfl (by rw [show (5 : Int32) = nI 5 from rfl]; exact (x_m_loanAt i2 5 (am_row f 96 r2_96) g (by omega) (by omega))) (by decide) ?_
    show am_F _ _ 20 [.ref 88, .int (nI i2), w2_2, w2_3] [.int (fn_m_loanAt i2 5 (am_row f 96 r2_96))] (am_S (am_row f 96 r2_96) g) _
    refine am_F.ops (pc' := 22) (L' := [.ref 88, .int (nI i2), .int (fn_m_loanAt i2 5 (am_row f 96 r2_96)), w2_3]) (S' := [.int (fn_m_loanAt i2 5 (am_row f 96 r2_96))]) (μ' := (am_S (am_row f 96 r2_96) g)) 2 rfl ?_
    refine am_F.to (am_To.ite (pc' := 54) (L2 := [.ref 88, .int (nI i2), .int (fn_m_loanAt i2 5 (am_row f 96 r2_96)), w2_3]) (S2 := []) (μ2 := (am_S (am_row f 96 r2_96) g)) (a := am_b (fn_m_has (f 93 ((fn_m_loanAt i2 0 (am_row f 96 r2_96)).toNatClampNeg)) (fn_m_loanAt i2 2 (am_row f 96 r2_96)))) (b := r2_96 ((fn_m_loanAt i2 5 (am_row f 96 r2_96)).toNatClampNeg)) 1 rfl (fun c5 => ?_) (fun c5 => ?_)) ?_
    · intro res9 g9
      show am_F _ _ 34 [.ref 88, .int (nI i2), .int (fn_m_loanAt i2 5 (am_row f 96 r2_96)), w2_3] [] (am_S (am_row f 96 r2_96) g) _
      refine am_F.ops (pc' := 41) (L' := [.ref 88, .int (nI i2), .int (fn_m_loanAt i2 5 (am_row f 96 r2_96)), w2_3]) (S' := [.int 0, .int (nI i2), .ref 88, .ref 93]) (μ' := (am_S (am_row f 96 r2_96) g)) 5 rfl ?_
      refine am_F.call rfl rfl (by rw [show (0 : Int32) = nI 0 from rfl]; exact (x_m_loanAt i2 0 (am_row f 96 r2_96) g (by omega) (by omega))) (by decide) ?_
      show am_F _ _ 44 [.ref 88, .int (nI i2), .int (fn_m_loanAt i2 5 (am_row f 96 r2_96)), w2_3] [.int (fn_m_loanAt i2 0 (am_row f 96 r2_96)), .ref 93] (am_S (am_row f 96 r2_96) g) _
      refine am_F.ial (N := 16) rfl rfl rfl (hl0 i2 (by omega)) ?_
      show am_F _ _ 45 [.ref 88, .int (nI i2), .int (fn_m_loanAt i2 5 (am_row f 96 r2_96)), w2_3] [.int (f 93 ((fn_m_loanAt i2 0 (am_row f 96 r2_96)).toNatClampNeg))] (am_S (am_row f 96 r2_96) g) _
      refine am_F.ops (pc' := 48) (L' := [.ref 88, .int (nI i2), .int (fn_m_loanAt i2 5 (am_row f 96 r2_96)), w2_3]) (S' := [.int 2, .int (nI i2), .ref 88, .int (f 93 ((fn_m_loanAt i2 0 (am_row f 96 r2_96)).toNatClampNeg))]) (μ' := (am_S (am_row f 96 r2_96) g)) 3 rfl ?_
      refine am_F.call rfl rfl (by rw [show (2 : Int32) = nI 2 from rfl]; exact (x_m_loanAt i2 2 (am_row f 96 r2_96) g (by omega) (by omega))) (by decide) ?_
      show am_F _ _ 51 [.ref 88, .int (nI i2), .int (fn_m_loanAt i2 5 (am_row f 96 r2_96)), w2_3] [.int (fn_m_loanAt i2 2 (am_row f 96 r2_96)), .int (f 93 ((fn_m_loanAt i2 0 (am_row f 96 r2_96)).toNatClampNeg))] (am_S (am_row f 96 r2_96) g) _
      refine am_F.call rfl rfl (x_m_has (f 93 ((fn_m_loanAt i2 0 (am_row f 96 r2_96)).toNatClampNeg)) (fn_m_loanAt i2 2 (am_row f 96 r2_96)) (am_row f 96 r2_96) g ) (by decide) ?_
      show am_F _ _ 54 [.ref 88, .int (nI i2), .int (fn_m_loanAt i2 5 (am_row f 96 r2_96)), w2_3] [.int (am_b (fn_m_has (f 93 ((fn_m_loanAt i2 0 (am_row f 96 r2_96)).toNatClampNeg)) (fn_m_loanAt i2 2 (am_row f 96 r2_96))))] (am_S (am_row f 96 r2_96) g) _
      exact g9
    · intro res9 g9
      show am_F _ _ 25 [.ref 88, .int (nI i2), .int (fn_m_loanAt i2 5 (am_row f 96 r2_96)), w2_3] [] (am_S (am_row f 96 r2_96) g) _
      refine am_F.ops (pc' := 30) (L' := [.ref 88, .int (nI i2), .int (fn_m_loanAt i2 5 (am_row f 96 r2_96)), w2_3]) (S' := [.int (fn_m_loanAt i2 5 (am_row f 96 r2_96)), .ref 96]) (μ' := (am_S (am_row f 96 r2_96) g)) 3 rfl ?_
      refine am_F.ial (N := 40) rfl rfl rfl (hl5 i2 (by omega) (by assumption)) ?_
      show am_F _ _ 31 [.ref 88, .int (nI i2), .int (fn_m_loanAt i2 5 (am_row f 96 r2_96)), w2_3] [.int (r2_96 ((fn_m_loanAt i2 5 (am_row f 96 r2_96)).toNatClampNeg))] (am_S (am_row f 96 r2_96) g) _
      refine am_F.ops (pc' := 54) (L' := [.ref 88, .int (nI i2), .int (fn_m_loanAt i2 5 (am_row f 96 r2_96)), w2_3]) (S' := [.int (r2_96 ((fn_m_loanAt i2 5 (am_row f 96 r2_96)).toNatClampNeg))]) (μ' := (am_S (am_row f 96 r2_96) g)) 1 rfl ?_
      exact g9
    show am_F _ _ 54 [.ref 88, .int (nI i2), .int (fn_m_loanAt i2 5 (am_row f 96 r2_96)), w2_3] [.int (if (fn_m_loanAt i2 5 (am_row f 96 r2_96)) < 0 then am_b (fn_m_has (f 93 ((fn_m_loanAt i2 0 (am_row f 96 r2_96)).toNatClampNeg)) (fn_m_loanAt i2 2 (am_row f 96 r2_96))) else r2_96 ((fn_m_loanAt i2 5 (am_row f 96 r2_96)).toNatClampNeg))] (am_S (am_row f 96 r2_96) g) _
    refine am_F.ops (pc' := 61) (L' := [.ref 88, .int (nI i2), .int (fn_m_loanAt i2 5 (am_row f 96 r2_96)), .int (if (fn_m_loanAt i2 5 (am_row f 96 r2_96)) < 0 then am_b (fn_m_has (f 93 ((fn_m_loanAt i2 0 (am_row f 96 r2_96)).toNatClampNeg)) (fn_m_loanAt i2 2 (am_row f 96 r2_96))) else r2_96 ((fn_m_loanAt i2 5 (am_row f 96 r2_96)).toNatClampNeg))]) (S' := [.int (if (fn_m_loanAt i2 5 (am_row f 96 r2_96)) < 0 then am_b (fn_m_has (f 93 ((fn_m_loanAt i2 0 (am_row f 96 r2_96)).toNatClampNeg)) (fn_m_loanAt i2 2 (am_row f 96 r2_96))) else r2_96 ((fn_m_loanAt i2 5 (am_row f 96 r2_96)).toNatClampNeg)), .int (nI i2), .ref 96]) (μ' := (am_S (am_row f 96 r2_96) g)) 5 rfl ?_
    refine am_F.to (am_To.iteB (pc' := 96) (L2 := [.ref 88, .int (nI i2), .int (fn_m_loanAt i2 5 (am_row f 96 r2_96)), .int (if (fn_m_loanAt i2 5 (am_row f 96 r2_96)) < 0 then am_b (fn_m_has (f 93 ((fn_m_loanAt i2 0 (am_row f 96 r2_96)).toNatClampNeg)) (fn_m_loanAt i2 2 (am_row f 96 r2_96))) else r2_96 ((fn_m_loanAt i2 5 (am_row f 96 r2_96)).toNatClampNeg))]) (S2 := [.int (nI i2), .ref 96]) (μ2 := (am_S (am_row f 96 r2_96) g)) (a := false) (b := (if (fn_m_loanAt i2 3 (am_row f 96 r2_96)) ≤ (f 89 200) then false else (if (fn_m_loanAt i2 6 (am_row f 96 r2_96)) = 0 then true else false))) 1 rfl (fun c6 => ?_) (fun c6 => ?_)) ?_
    · intro res9 g9
      show am_F _ _ 95 [.ref 88, .int (nI i2), .int (fn_m_loanAt i2 5 (am_row f 96 r2_96)), .int (if (fn_m_loanAt i2 5 (am_row f 96 r2_96)) < 0 then am_b (fn_m_has (f 93 ((fn_m_loanAt i2 0 (am_row f 96 r2_96)).toNatClampNeg)) (fn_m_loanAt i2 2 (am_row f 96 r2_96))) else r2_96 ((fn_m_loanAt i2 5 (am_row f 96 r2_96)).toNatClampNeg))] [.int (nI i2), .ref 96] (am_S (am_row f 96 r2_96) g) _
      refine am_F.ops (pc' := 96) (L' := [.ref 88, .int (nI i2), .int (fn_m_loanAt i2 5 (am_row f 96 r2_96)), .int (if (fn_m_loanAt i2 5 (am_row f 96 r2_96)) < 0 then am_b (fn_m_has (f 93 ((fn_m_loanAt i2 0 (am_row f 96 r2_96)).toNatClampNeg)) (fn_m_loanAt i2 2 (am_row f 96 r2_96))) else r2_96 ((fn_m_loanAt i2 5 (am_row f 96 r2_96)).toNatClampNeg))]) (S' := [.int 0, .int (nI i2), .ref 96]) (μ' := (am_S (am_row f 96 r2_96) g)) 1 rfl ?_
      exact g9
    · intro res9 g9
      show am_F _ _ 64 [.ref 88, .int (nI i2), .int (fn_m_loanAt i2 5 (am_row f 96 r2_96)), .int (if (fn_m_loanAt i2 5 (am_row f 96 r2_96)) < 0 then am_b (fn_m_has (f 93 ((fn_m_loanAt i2 0 (am_row f 96 r2_96)).toNatClampNeg)) (fn_m_loanAt i2 2 (am_row f 96 r2_96))) else r2_96 ((fn_m_loanAt i2 5 (am_row f 96 r2_96)).toNatClampNeg))] [.int (nI i2), .ref 96] (am_S (am_row f 96 r2_96) g) _
      refine am_F.ops (pc' := 75) (L' := [.ref 88, .int (nI i2), .int (fn_m_loanAt i2 5 (am_row f 96 r2_96)), .int (if (fn_m_loanAt i2 5 (am_row f 96 r2_96)) < 0 then am_b (fn_m_has (f 93 ((fn_m_loanAt i2 0 (am_row f 96 r2_96)).toNatClampNeg)) (fn_m_loanAt i2 2 (am_row f 96 r2_96))) else r2_96 ((fn_m_loanAt i2 5 (am_row f 96 r2_96)).toNatClampNeg))]) (S' := [.int 3, .int (nI i2), .ref 88, .int (f 89 200), .int (nI i2), .ref 96]) (μ' := (am_S (am_row f 96 r2_96) g)) 7 rfl ?_
      refine am_F.call rfl rfl (by rw [show (3 : Int32) = nI 3 from rfl]; exact (x_m_loanAt i2 3 (am_row f 96 r2_96) g (by omega) (by omega))) (by decide) ?_
      show am_F _ _ 78 [.ref 88, .int (nI i2), .int (fn_m_loanAt i2 5 (am_row f 96 r2_96)), .int (if (fn_m_loanAt i2 5 (am_row f 96 r2_96)) < 0 then am_b (fn_m_has (f 93 ((fn_m_loanAt i2 0 (am_row f 96 r2_96)).toNatClampNeg)) (fn_m_loanAt i2 2 (am_row f 96 r2_96))) else r2_96 ((fn_m_loanAt i2 5 (am_row f 96 r2_96)).toNatClampNeg))] [.int (fn_m_loanAt i2 3 (am_row f 96 r2_96)), .int (f 89 200), .int (nI i2), .ref 96] (am_S (am_row f 96 r2_96) g) _
      refine am_F.to (am_To.iteB (pc' := 96) (L2 := [.ref 88, .int (nI i2), .int (fn_m_loanAt i2 5 (am_row f 96 r2_96)), .int (if (fn_m_loanAt i2 5 (am_row f 96 r2_96)) < 0 then am_b (fn_m_has (f 93 ((fn_m_loanAt i2 0 (am_row f 96 r2_96)).toNatClampNeg)) (fn_m_loanAt i2 2 (am_row f 96 r2_96))) else r2_96 ((fn_m_loanAt i2 5 (am_row f 96 r2_96)).toNatClampNeg))]) (S2 := [.int (nI i2), .ref 96]) (μ2 := (am_S (am_row f 96 r2_96) g)) (a := false) (b := (if (fn_m_loanAt i2 6 (am_row f 96 r2_96)) = 0 then true else false)) 1 rfl (fun c7 => ?_) (fun c7 => ?_)) g9
      · intro res9 g9
        show am_F _ _ 95 [.ref 88, .int (nI i2), .int (fn_m_loanAt i2 5 (am_row f 96 r2_96)), .int (if (fn_m_loanAt i2 5 (am_row f 96 r2_96)) < 0 then am_b (fn_m_has (f 93 ((fn_m_loanAt i2 0 (am_row f 96 r2_96)).toNatClampNeg)) (fn_m_loanAt i2 2 (am_row f 96 r2_96))) else r2_96 ((fn_m_loanAt i2 5 (am_row f 96 r2_96)).toNatClampNeg))] [.int (nI i2), .ref 96] (am_S (am_row f 96 r2_96) g) _
        refine am_F.ops (pc' := 96) (L' := [.ref 88, .int (nI i2), .int (fn_m_loanAt i2 5 (am_row f 96 r2_96)), .int (if (fn_m_loanAt i2 5 (am_row f 96 r2_96)) < 0 then am_b (fn_m_has (f 93 ((fn_m_loanAt i2 0 (am_row f 96 r2_96)).toNatClampNeg)) (fn_m_loanAt i2 2 (am_row f 96 r2_96))) else r2_96 ((fn_m_loanAt i2 5 (am_row f 96 r2_96)).toNatClampNeg))]) (S' := [.int 0, .int (nI i2), .ref 96]) (μ' := (am_S (am_row f 96 r2_96) g)) 1 rfl ?_
        exact g9
      · intro res9 g9
        show am_F _ _ 81 [.ref 88, .int (nI i2), .int (fn_m_loanAt i2 5 (am_row f 96 r2_96)), .int (if (fn_m_loanAt i2 5 (am_row f 96 r2_96)) < 0 then am_b (fn_m_has (f 93 ((fn_m_loanAt i2 0 (am_row f 96 r2_96)).toNatClampNeg)) (fn_m_loanAt i2 2 (am_row f 96 r2_96))) else r2_96 ((fn_m_loanAt i2 5 (am_row f 96 r2_96)).toNatClampNeg))] [.int (nI i2), .ref 96] (am_S (am_row f 96 r2_96) g) _
        refine am_F.ops (pc' := 85) (L' := [.ref 88, .int (nI i2), .int (fn_m_loanAt i2 5 (am_row f 96 r2_96)), .int (if (fn_m_loanAt i2 5 (am_row f 96 r2_96)) < 0 then am_b (fn_m_has (f 93 ((fn_m_loanAt i2 0 (am_row f 96 r2_96)).toNatClampNeg)) (fn_m_loanAt i2 2 (am_row f 96 r2_96))) else r2_96 ((fn_m_loanAt i2 5 (am_row f 96 r2_96)).toNatClampNeg))]) (S' := [.int 6, .int (nI i2), .ref 88, .int (nI i2), .ref 96]) (μ' := (am_S (am_row f 96 r2_96) g)) 3 rfl ?_
        refine am_F.call rfl rfl (by rw [show (6 : Int32) = nI 6 from rfl]; exact (x_m_loanAt i2 6 (am_row f 96 r2_96) g (by omega) (by omega))) (by decide) ?_
        show am_F _ _ 88 [.ref 88, .int (nI i2), .int (fn_m_loanAt i2 5 (am_row f 96 r2_96)), .int (if (fn_m_loanAt i2 5 (am_row f 96 r2_96)) < 0 then am_b (fn_m_has (f 93 ((fn_m_loanAt i2 0 (am_row f 96 r2_96)).toNatClampNeg)) (fn_m_loanAt i2 2 (am_row f 96 r2_96))) else r2_96 ((fn_m_loanAt i2 5 (am_row f 96 r2_96)).toNatClampNeg))] [.int (fn_m_loanAt i2 6 (am_row f 96 r2_96)), .int (nI i2), .ref 96] (am_S (am_row f 96 r2_96) g) _
        refine am_F.to (am_To.iteB (pc' := 96) (L2 := [.ref 88, .int (nI i2), .int (fn_m_loanAt i2 5 (am_row f 96 r2_96)), .int (if (fn_m_loanAt i2 5 (am_row f 96 r2_96)) < 0 then am_b (fn_m_has (f 93 ((fn_m_loanAt i2 0 (am_row f 96 r2_96)).toNatClampNeg)) (fn_m_loanAt i2 2 (am_row f 96 r2_96))) else r2_96 ((fn_m_loanAt i2 5 (am_row f 96 r2_96)).toNatClampNeg))]) (S2 := [.int (nI i2), .ref 96]) (μ2 := (am_S (am_row f 96 r2_96) g)) (a := true) (b := false) 1 rfl (fun c8 => ?_) (fun c8 => ?_)) g9
        · intro res9 g9
          show am_F _ _ 91 [.ref 88, .int (nI i2), .int (fn_m_loanAt i2 5 (am_row f 96 r2_96)), .int (if (fn_m_loanAt i2 5 (am_row f 96 r2_96)) < 0 then am_b (fn_m_has (f 93 ((fn_m_loanAt i2 0 (am_row f 96 r2_96)).toNatClampNeg)) (fn_m_loanAt i2 2 (am_row f 96 r2_96))) else r2_96 ((fn_m_loanAt i2 5 (am_row f 96 r2_96)).toNatClampNeg))] [.int (nI i2), .ref 96] (am_S (am_row f 96 r2_96) g) _
          refine am_F.ops (pc' := 96) (L' := [.ref 88, .int (nI i2), .int (fn_m_loanAt i2 5 (am_row f 96 r2_96)), .int (if (fn_m_loanAt i2 5 (am_row f 96 r2_96)) < 0 then am_b (fn_m_has (f 93 ((fn_m_loanAt i2 0 (am_row f 96 r2_96)).toNatClampNeg)) (fn_m_loanAt i2 2 (am_row f 96 r2_96))) else r2_96 ((fn_m_loanAt i2 5 (am_row f 96 r2_96)).toNatClampNeg))]) (S' := [.int 1, .int (nI i2), .ref 96]) (μ' := (am_S (am_row f 96 r2_96) g)) 2 rfl ?_
          exact g9
        · intro res9 g9
          show am_F _ _ 95 [.ref 88, .int (nI i2), .int (fn_m_loanAt i2 5 (am_row f 96 r2_96)), .int (if (fn_m_loanAt i2 5 (am_row f 96 r2_96)) < 0 then am_b (fn_m_has (f 93 ((fn_m_loanAt i2 0 (am_row f 96 r2_96)).toNatClampNeg)) (fn_m_loanAt i2 2 (am_row f 96 r2_96))) else r2_96 ((fn_m_loanAt i2 5 (am_row f 96 r2_96)).toNatClampNeg))] [.int (nI i2), .ref 96] (am_S (am_row f 96 r2_96) g) _
          refine am_F.ops (pc' := 96) (L' := [.ref 88, .int (nI i2), .int (fn_m_loanAt i2 5 (am_row f 96 r2_96)), .int (if (fn_m_loanAt i2 5 (am_row f 96 r2_96)) < 0 then am_b (fn_m_has (f 93 ((fn_m_loanAt i2 0 (am_row f 96 r2_96)).toNatClampNeg)) (fn_m_loanAt i2 2 (am_row f 96 r2_96))) else r2_96 ((fn_m_loanAt i2 5 (am_row f 96 r2_96)).toNatClampNeg))]) (S' := [.int 0, .int (nI i2), .ref 96]) (μ' := (am_S (am_row f 96 r2_96) g)) 1 rfl ?_
          exact g9
    show am_F _ _ 96 [.ref 88, .int (nI i2), .int (fn_m_loanAt i2 5 (am_row f 96 r2_96)), .int (if (fn_m_loanAt i2 5 (am_row f 96 r2_96)) < 0 then am_b (fn_m_has (f 93 ((fn_m_loanAt i2 0 (am_row f 96 r2_96)).toNatClampNeg)) (fn_m_loanAt i2 2 (am_row f 96 r2_96))) else r2_96 ((fn_m_loanAt i2 5 (am_row f 96 r2_96)).toNatClampNeg))] [.int (am_b (if (if (fn_m_loanAt i2 5 (am_row f 96 r2_96)) < 0 then am_b (fn_m_has (f 93 ((fn_m_loanAt i2 0 (am_row f 96 r2_96)).toNatClampNeg)) (fn_m_loanAt i2 2 (am_row f 96 r2_96))) else r2_96 ((fn_m_loanAt i2 5 (am_row f 96 r2_96)).toNatClampNeg)) = 0 then false else (if (fn_m_loanAt i2 3 (am_row f 96 r2_96)) ≤ (f 89 200) then false else (if (fn_m_loanAt i2 6 (am_row f 96 r2_96)) = 0 then true else false)))), .int (nI i2), .ref 96] (am_S (am_row f 96 r2_96) g) _
    refine am_F.zasE (F' := (am_row f 96 (upd r2_96 i2 (am_b (if (if (fn_m_loanAt i2 5 (am_row f 96 r2_96)) < 0 then am_b (fn_m_has (f 93 ((fn_m_loanAt i2 0 (am_row f 96 r2_96)).toNatClampNeg)) (fn_m_loanAt i2 2 (am_row f 96 r2_96))) else r2_96 ((fn_m_loanAt i2 5 (am_row f 96 r2_96)).toNatClampNeg)) = 0 then false else (if (fn_m_loanAt i2 3 (am_row f 96 r2_96)) ≤ (f 89 200) then false else (if (fn_m_loanAt i2 6 (am_row f 96 r2_96)) = 0 then true else false))))))) (m := i2) (N := 40) rfl rfl rfl rfl (by omega) (by decide) (am_b01 _) (by first | rfl | (funext a; by_cases z0 : a = 96; (subst z0; rfl); simp only [am_ui, am_ul, am_row_ne z0])) ?_
    refine am_F.ops (pc' := 2) (L' := [.ref 88, .int ((nI i2) + 1), .int (fn_m_loanAt i2 5 (am_row f 96 r2_96)), .int (if (fn_m_loanAt i2 5 (am_row f 96 r2_96)) < 0 then am_b (fn_m_has (f 93 ((fn_m_loanAt i2 0 (am_row f 96 r2_96)).toNatClampNeg)) (fn_m_loanAt i2 2 (am_row f 96 r2_96))) else r2_96 ((fn_m_loanAt i2 5 (am_row f 96 r2_96)).toNatClampNeg))]) (S' := []) (μ' := (am_S (am_row f 96 (upd r2_96 i2 (am_b (if (if (fn_m_loanAt i2 5 (am_row f 96 r2_96)) < 0 then am_b (fn_m_has (f 93 ((fn_m_loanAt i2 0 (am_row f 96 r2_96)).toNatClampNeg)) (fn_m_loanAt i2 2 (am_row f 96 r2_96))) else r2_96 ((fn_m_loanAt i2 5 (am_row f 96 r2_96)).toNatClampNeg)) = 0 then false else (if (fn_m_loanAt i2 3 (am_row f 96 r2_96)) ≤ (f 89 200) then false else (if (fn_m_loanAt i2 6 (am_row f 96 r2_96)) = 0 then true else false)))))) g)) 2 rfl ?_
    rw [nI_1 i2]
    subst hKd
    exact ih (i2 + 1) (upd r2_96 i2 (am_b (if (if (fn_m_loanAt i2 5 (am_row f 96 r2_96)) < 0 then am_b (fn_m_has (f 93 ((fn_m_loanAt i2 0 (am_row f 96 r2_96)).toNatClampNeg)) (fn_m_loanAt i2 2 (am_row f 96 r2_96))) else r2_96 ((fn_m_loanAt i2 5 (am_row f 96 r2_96)).toNatClampNeg)) = 0 then false else (if (fn_m_loanAt i2 3 (am_row f 96 r2_96)) ≤ (f 89 200) then false else (if (fn_m_loanAt i2 6 (am_row f 96 r2_96)) = 0 then true else false))))) (.int (fn_m_loanAt i2 5 (am_row f 96 r2_96))) (.int (if (fn_m_loanAt i2 5 (am_row f 96 r2_96)) < 0 then am_b (fn_m_has (f 93 ((fn_m_loanAt i2 0 (am_row f 96 r2_96)).toNatClampNeg)) (fn_m_loanAt i2 2 (am_row f 96 r2_96))) else r2_96 ((fn_m_loanAt i2 5 (am_row f 96 r2_96)).toNatClampNeg))) (by omega)  hK
theorem x_m_standAgain_157 (f : Nat → Nat → Int32) (g : Nat → Nat → Int64) (hlC : f 89 201 = nI (f 89 201).toNatClampNeg) (hlN : (f 89 201).toNatClampNeg ≤ 40) (hrC : f 89 202 = nI (f 89 202).toNatClampNeg) (hrN : (f 89 202).toNatClampNeg ≤ 30) (hl0 : ∀ i, i < (f 89 201).toNatClampNeg → am_inb (fn_m_loanAt i 0 f) 16 = true) (hl5 : ∀ i, i < (f 89 201).toNatClampNeg → ¬ fn_m_loanAt i 5 f < 0 → am_inb (fn_m_loanAt i 5 f) 40 = true) (hl2 : ∀ i, i < (f 89 201).toNatClampNeg → am_inb (fn_m_loanAt i 2 f) 20 = true) : am_D 1 157 4 [.ref 88] (am_S f g) ((none : Option Value), am_S (am_row f 96 (fn_m_standAgain_157 f)) g) := by
  refine am_D.of (code := am_k_157) rfl (L0 := [.ref 88, am_un, am_un, am_un]) rfl ?_
  generalize hres : ((none : Option Value), am_S (am_row f 96 (fn_m_standAgain_157 f)) g) = res
  obtain ⟨K, hKd⟩ : ∃ K : (Nat → Int32) → Prop, K = fun z => ((none : Option Value), am_S (am_row f 96 z) g) = res := ⟨_, rfl⟩
  have hK : K (fn_m_standAgain_157 f) := by rw [hKd]; exact hres
  clear hres
  unfold fn_m_standAgain_157 at hK
  refine am_F.ops (pc' := 2) (L' := [.ref 88, .int 0, am_un, am_un]) (S' := []) (μ' := (am_S f g)) 2 rfl ?_
  refine am_F.mem (F' := (am_row f 96 (f 96))) (G' := g) ?_ (by first | rfl | (funext a; by_cases z0 : a = 96; (subst z0; rfl); simp only [am_ui, am_ul, am_row_ne z0])) (by first | rfl | (funext a; by_cases z0 : a = 96; (subst z0; rfl); simp only [am_ui, am_ul, am_row_ne z0]))
  show am_F _ _ 2 [.ref 88, .int (nI 0), am_un, am_un] [] (am_S (am_row f 96 (f 96)) g) _
  refine lp_m_standAgain_157_2 f g hlC hlN hrC hrN hl0 hl5 hl2 _ ((f 89 201).toNatClampNeg) 0 (f 96) am_un am_un (by omega)  ?_
  rw [show am_for (st_m_standAgain_157_2 f) ((f 89 201).toNatClampNeg) 0 (f 96) = (lf_m_standAgain_157_2 f) from rfl]
  generalize (lf_m_standAgain_157_2 f) = z2_9 at hK ⊢
  intro wc w2_2 w2_3
  show am_F _ _ 103 [.ref 88, wc, w2_2, w2_3] [] (am_S (am_row f 96 z2_9) g) _
  subst hKd
  exact am_F.eq (am_F.ret rfl rfl) hK
/-- AccessLatticeModel.heldBy -/
def st_m_heldBy_159_13 (a0 : Nat) (f : Nat → Nat → Int32) : Nat → Int32 → Int32 := fun i13 a13_2 => (a13_2 ||| (if (f 96 i13) = 0 then 0 else (if (fn_m_loanAt i13 1 f) = (nI a0) then (1 : Int32) <<< ((fn_m_loanAt i13 2 f) &&& 31) else 0)))
def lf_m_heldBy_159_13 (a0 : Nat) (f : Nat → Nat → Int32) : Int32 := am_for (st_m_heldBy_159_13 a0 f) ((f 89 201).toNatClampNeg) 0 (f 89 (184 + a0))
def fn_m_heldBy_159 (a0 : Nat) (f : Nat → Nat → Int32) : Int32 := (fn_m_allUnder (lf_m_heldBy_159_13 a0 f) f)
theorem lp_m_heldBy_159_13 (a0 : Nat) (f : Nat → Nat → Int32) (g : Nat → Nat → Int64) (hlC : f 89 201 = nI (f 89 201).toNatClampNeg) (hlN : (f 89 201).toNatClampNeg ≤ 40) (hrC : f 89 202 = nI (f 89 202).toNatClampNeg) (hrN : (f 89 202).toNatClampNeg ≤ 30) (hl0 : ∀ i, i < (f 89 201).toNatClampNeg → am_inb (fn_m_loanAt i 0 f) 16 = true) (hl5 : ∀ i, i < (f 89 201).toNatClampNeg → ¬ fn_m_loanAt i 5 f < 0 → am_inb (fn_m_loanAt i 5 f) 40 = true) (hl2 : ∀ i, i < (f 89 201).toNatClampNeg → am_inb (fn_m_loanAt i 2 f) 20 = true) (ha0 : a0 < 16) (res : Option Value × am_M) : ∀ (n i13 : Nat) (a13_2 : Int32) , i13 + n = (f 89 201).toNatClampNeg → (fun (z : Int32) => ∀ (wc : Value), am_F 2 am_k_159 65 [.ref 88, .int (nI a0), .int z, wc] [] (am_S f g) res) (am_for (st_m_heldBy_159_13 a0 f) n i13 a13_2) → am_F 2 am_k_159 13 [.ref 88, .int (nI a0), .int a13_2, .int (nI i13)] [] (am_S f g) res := by
  intro n
  induction n with
  | zero =>
    intro i13 a13_2 hi hK
    refine am_F.pos 6 rfl (by show (f 89 201) ≤ nI i13; rw [show (f 89 201 : Int32) = nI ((f 89 201).toNatClampNeg) from hlC]; exact nI_le (by omega) (by omega)) ?_
    exact hK _
  | succ n ih =>
    intro i13 a13_2 hi hK
    refine am_F.neg 6 rfl (by show ¬ (f 89 201) ≤ nI i13; rw [show (f 89 201 : Int32) = nI ((f 89 201).toNatClampNeg) from hlC]; exact nI_ge (by omega) (by omega)) ?_
    have hb13 : i13 < (f 89 201).toNatClampNeg := by omega
    show am_F _ _ 25 [.ref 88, .int (nI a0), .int a13_2, .int (nI i13)] [] (am_S f g) _
    obtain ⟨K, hKd⟩ : ∃ K : (Int32) → Prop, K = fun s => (fun (z : Int32) => ∀ (wc : Value), am_F 2 am_k_159 65 [.ref 88, .int (nI a0), .int z, wc] [] (am_S f g) res) (am_for (st_m_heldBy_159_13 a0 f) n (i13 + 1) s) := ⟨_, rfl⟩
    have hK : K ((st_m_heldBy_159_13 a0 f) i13 a13_2) := by rw [hKd]; exact hK
    unfold st_m_heldBy_159_13 at hK
    refine am_F.ops (pc' := 31) (L' := [.ref 88, .int (nI a0), .int a13_2, .int (nI i13)]) (S' := [.int (nI i13), .ref 96, .int a13_2]) (μ' := (am_S f g)) 4 rfl ?_
    refine am_F.ialE (m := i13) (N := 40) rfl rfl rfl rfl (by omega) (by decide) ?_
    show am_F _ _ 32 [.ref 88, .int (nI a0), .int a13_2, .int (nI i13)] [.int (f 96 i13), .int a13_2] (am_S f g) _
    refine am_F.to (am_To.ite (pc' := 57) (L2 := [.ref 88, .int (nI a0), .int a13_2, .int (nI i13)]) (S2 := [.int a13_2]) (μ2 := (am_S f g)) (a := 0) (b := (if (fn_m_loanAt i13 1 f) = (nI a0) then (1 : Int32) <<< ((fn_m_loanAt i13 2 f) &&& 31) else 0)) 1 rfl (fun c1 => ?_) (fun c1 => ?_)) ?_
    · intro res9 g9
      show am_F _ _ 56 [.ref 88, .int (nI a0), .int a13_2, .int (nI i13)] [.int a13_2] (am_S f g) _
      refine am_F.ops (pc' := 57) (L' := [.ref 88, .int (nI a0), .int a13_2, .int (nI i13)]) (S' := [.int 0, .int a13_2]) (μ' := (am_S f g)) 1 rfl ?_
      exact g9
    · intro res9 g9
      show am_F _ _ 35 [.ref 88, .int (nI a0), .int a13_2, .int (nI i13)] [.int a13_2] (am_S f g) _
      refine am_F.ops (pc' := 38) (L' := [.ref 88, .int (nI a0), .int a13_2, .int (nI i13)]) (S' := [.int 1, .int (nI i13), .ref 88, .int a13_2]) (μ' := (am_S f g)) 3 rfl ?_
      refine am_F.call rfl rfl (by rw [show (1 : Int32) = nI 1 from rfl]; exact (x_m_loanAt i13 1 f g (by omega) (by omega))) (by decide) ?_
      show am_F _ _ 41 [.ref 88, .int (nI a0), .int a13_2, .int (nI i13)] [.int (fn_m_loanAt i13 1 f), .int a13_2] (am_S f g) _
      refine am_F.ops (pc' := 42) (L' := [.ref 88, .int (nI a0), .int a13_2, .int (nI i13)]) (S' := [.int (nI a0), .int (fn_m_loanAt i13 1 f), .int a13_2]) (μ' := (am_S f g)) 1 rfl ?_
      refine am_F.to (am_To.ite (pc' := 57) (L2 := [.ref 88, .int (nI a0), .int a13_2, .int (nI i13)]) (S2 := [.int a13_2]) (μ2 := (am_S f g)) (a := 1 <<< ((fn_m_loanAt i13 2 f) &&& 31)) (b := 0) 1 rfl (fun c2 => ?_) (fun c2 => ?_)) g9
      · intro res9 g9
        show am_F _ _ 45 [.ref 88, .int (nI a0), .int a13_2, .int (nI i13)] [.int a13_2] (am_S f g) _
        refine am_F.ops (pc' := 49) (L' := [.ref 88, .int (nI a0), .int a13_2, .int (nI i13)]) (S' := [.int 2, .int (nI i13), .ref 88, .int 1, .int a13_2]) (μ' := (am_S f g)) 4 rfl ?_
        refine am_F.call rfl rfl (by rw [show (2 : Int32) = nI 2 from rfl]; exact (x_m_loanAt i13 2 f g (by omega) (by omega))) (by decide) ?_
        show am_F _ _ 52 [.ref 88, .int (nI a0), .int a13_2, .int (nI i13)] [.int (fn_m_loanAt i13 2 f), .int 1, .int a13_2] (am_S f g) _
        refine am_F.ops (pc' := 57) (L' := [.ref 88, .int (nI a0), .int a13_2, .int (nI i13)]) (S' := [.int (1 <<< ((fn_m_loanAt i13 2 f) &&& 31)), .int a13_2]) (μ' := (am_S f g)) 2 rfl ?_
        exact g9
      · intro res9 g9
        show am_F _ _ 56 [.ref 88, .int (nI a0), .int a13_2, .int (nI i13)] [.int a13_2] (am_S f g) _
        refine am_F.ops (pc' := 57) (L' := [.ref 88, .int (nI a0), .int a13_2, .int (nI i13)]) (S' := [.int 0, .int a13_2]) (μ' := (am_S f g)) 1 rfl ?_
        exact g9
    show am_F _ _ 57 [.ref 88, .int (nI a0), .int a13_2, .int (nI i13)] [.int (if (f 96 i13) = 0 then 0 else (if (fn_m_loanAt i13 1 f) = (nI a0) then (1 : Int32) <<< ((fn_m_loanAt i13 2 f) &&& 31) else 0)), .int a13_2] (am_S f g) _
    refine am_F.ops (pc' := 13) (L' := [.ref 88, .int (nI a0), .int (a13_2 ||| (if (f 96 i13) = 0 then 0 else (if (fn_m_loanAt i13 1 f) = (nI a0) then (1 : Int32) <<< ((fn_m_loanAt i13 2 f) &&& 31) else 0))), .int ((nI i13) + 1)]) (S' := []) (μ' := (am_S f g)) 4 rfl ?_
    rw [nI_1 i13]
    subst hKd
    exact ih (i13 + 1) (a13_2 ||| (if (f 96 i13) = 0 then 0 else (if (fn_m_loanAt i13 1 f) = (nI a0) then (1 : Int32) <<< ((fn_m_loanAt i13 2 f) &&& 31) else 0))) (by omega)  hK
theorem x_m_heldBy_159 (a0 : Nat) (f : Nat → Nat → Int32) (g : Nat → Nat → Int64) (hlC : f 89 201 = nI (f 89 201).toNatClampNeg) (hlN : (f 89 201).toNatClampNeg ≤ 40) (hrC : f 89 202 = nI (f 89 202).toNatClampNeg) (hrN : (f 89 202).toNatClampNeg ≤ 30) (hl0 : ∀ i, i < (f 89 201).toNatClampNeg → am_inb (fn_m_loanAt i 0 f) 16 = true) (hl5 : ∀ i, i < (f 89 201).toNatClampNeg → ¬ fn_m_loanAt i 5 f < 0 → am_inb (fn_m_loanAt i 5 f) 40 = true) (hl2 : ∀ i, i < (f 89 201).toNatClampNeg → am_inb (fn_m_loanAt i 2 f) 20 = true) (ha0 : a0 < 16) : am_D 2 159 4 [.ref 88, .int (nI a0)] (am_S f g) (some (Value.int (fn_m_heldBy_159 a0 f)), am_S f g) := by
  refine am_D.of (code := am_k_159) rfl (L0 := [.ref 88, .int (nI a0), am_un, am_un]) rfl ?_
  generalize hres : (some (Value.int (fn_m_heldBy_159 a0 f)), am_S f g) = res
  obtain ⟨K, hKd⟩ : ∃ K : Int32 → Prop, K = fun z => (some (Value.int z), am_S f g) = res := ⟨_, rfl⟩
  have hK : K (fn_m_heldBy_159 a0 f) := by rw [hKd]; exact hres
  clear hres
  unfold fn_m_heldBy_159 at hK
  refine am_F.ops (pc' := 9) (L' := [.ref 88, .int (nI a0), am_un, am_un]) (S' := [.int (184 + (nI a0)), .ref 89]) (μ' := (am_S f g)) 5 rfl ?_
  refine am_F.ialE (m := (184 + a0)) (N := 3340) rfl rfl rfl (am_addE rfl rfl) (by omega) (by decide) ?_
  show am_F _ _ 10 [.ref 88, .int (nI a0), am_un, am_un] [.int (f 89 (184 + a0))] (am_S f g) _
  refine am_F.ops (pc' := 13) (L' := [.ref 88, .int (nI a0), .int (f 89 (184 + a0)), .int 0]) (S' := []) (μ' := (am_S f g)) 3 rfl ?_
  show am_F _ _ 13 [.ref 88, .int (nI a0), .int (f 89 (184 + a0)), .int (nI 0)] [] (am_S f g) _
  refine lp_m_heldBy_159_13 a0 f g hlC hlN hrC hrN hl0 hl5 hl2 ha0 _ ((f 89 201).toNatClampNeg) 0 (f 89 (184 + a0))  (by omega)  ?_
  rw [show am_for (st_m_heldBy_159_13 a0 f) ((f 89 201).toNatClampNeg) 0 (f 89 (184 + a0)) = (lf_m_heldBy_159_13 a0 f) from rfl]
  generalize (lf_m_heldBy_159_13 a0 f) = z13_3 at hK ⊢
  intro wc
  show am_F _ _ 65 [.ref 88, .int (nI a0), .int z13_3, wc] [] (am_S f g) _
  refine am_F.ops (pc' := 67) (L' := [.ref 88, .int (nI a0), .int z13_3, wc]) (S' := [.int z13_3, .ref 88]) (μ' := (am_S f g)) 2 rfl ?_
  refine am_F.call rfl rfl (x_m_allUnder z13_3 f g ) (by decide) ?_
  show am_F _ _ 70 [.ref 88, .int (nI a0), .int z13_3, wc] [.int (fn_m_allUnder z13_3 f)] (am_S f g) _
  subst hKd
  exact am_F.eq (am_F.ret rfl rfl) hK
/-- AccessLatticeModel.sourceFor -/
def st_m_sourceFor_166_26 (a0 : Nat) (a1 : Int32) (a2 : Int32) (f : Nat → Nat → Int32) : Nat → Unit → Unit ⊕ (Unit ⊕ Int32) := fun i26 _ => (if (f 96 i26) = 0 then .inl () else (if (fn_m_loanAt i26 1 f) = (nI a0) then (if (fn_m_loanAt i26 4 f) ≤ a2 then .inl () else (bif (fn_m_has (f 92 ((fn_m_loanAt i26 2 f).toNatClampNeg)) a1) then .inr (.inr (nI i26)) else .inl ())) else .inl ()))
def lf_m_sourceFor_166_26 (a0 : Nat) (a1 : Int32) (a2 : Int32) (f : Nat → Nat → Int32) : Unit ⊕ Int32 := am_forX (st_m_sourceFor_166_26 a0 a1 a2 f) ((f 89 201).toNatClampNeg) 0 ()
def fn_m_sourceFor_166 (a0 : Nat) (a1 : Int32) (a2 : Int32) (f : Nat → Nat → Int32) : Int32 := (bif (fn_m_has (fn_m_allUnder (f 89 (184 + a0)) f) a1) then (-1) else (Sum.elim (fun (z26 : Unit) => (-5)) (fun (z : Int32) => z) (lf_m_sourceFor_166_26 a0 a1 a2 f)))
theorem lp_m_sourceFor_166_26 (a0 : Nat) (a1 : Int32) (a2 : Int32) (f : Nat → Nat → Int32) (g : Nat → Nat → Int64) (hlC : f 89 201 = nI (f 89 201).toNatClampNeg) (hlN : (f 89 201).toNatClampNeg ≤ 40) (hrC : f 89 202 = nI (f 89 202).toNatClampNeg) (hrN : (f 89 202).toNatClampNeg ≤ 30) (hl0 : ∀ i, i < (f 89 201).toNatClampNeg → am_inb (fn_m_loanAt i 0 f) 16 = true) (hl5 : ∀ i, i < (f 89 201).toNatClampNeg → ¬ fn_m_loanAt i 5 f < 0 → am_inb (fn_m_loanAt i 5 f) 40 = true) (hl2 : ∀ i, i < (f 89 201).toNatClampNeg → am_inb (fn_m_loanAt i 2 f) 20 = true) (ha0 : a0 < 16) (res : Option Value × am_M) : ∀ (n i26 : Nat)  , i26 + n = (f 89 201).toNatClampNeg → am_KX (fun (z : Unit) => ∀ (wc : Value), am_F 2 am_k_166 99 [.ref 88, .int (nI a0), .int a1, .int a2, wc] [] (am_S f g) res) (fun (z : Int32) => (some (Value.int z), am_S f g) = res) (am_forX (st_m_sourceFor_166_26 a0 a1 a2 f) n i26 ()) → am_F 2 am_k_166 26 [.ref 88, .int (nI a0), .int a1, .int a2, .int (nI i26)] [] (am_S f g) res := by
  intro n
  induction n with
  | zero =>
    intro i26 hi hK
    refine am_F.pos 6 rfl (by show (f 89 201) ≤ nI i26; rw [show (f 89 201 : Int32) = nI ((f 89 201).toNatClampNeg) from hlC]; exact nI_le (by omega) (by omega)) ?_
    exact hK _
  | succ n ih =>
    intro i26 hi hK
    refine am_F.neg 6 rfl (by show ¬ (f 89 201) ≤ nI i26; rw [show (f 89 201 : Int32) = nI ((f 89 201).toNatClampNeg) from hlC]; exact nI_ge (by omega) (by omega)) ?_
    have hb26 : i26 < (f 89 201).toNatClampNeg := by omega
    show am_F _ _ 39 [.ref 88, .int (nI a0), .int a1, .int a2, .int (nI i26)] [] (am_S f g) _
    obtain ⟨K, hKd⟩ : ∃ K : (Unit ⊕ (Unit ⊕ Int32)) → Prop, K = fun s => am_KX (fun (z : Unit) => ∀ (wc : Value), am_F 2 am_k_166 99 [.ref 88, .int (nI a0), .int a1, .int a2, wc] [] (am_S f g) res) (fun (z : Int32) => (some (Value.int z), am_S f g) = res) (am_nxt (fun z => am_forX (st_m_sourceFor_166_26 a0 a1 a2 f) n (i26 + 1) z) s) := ⟨_, rfl⟩
    have hK : K ((st_m_sourceFor_166_26 a0 a1 a2 f) i26 ()) := by rw [am_forX_s] at hK; rw [hKd]; with_reducible exact hK
    unfold st_m_sourceFor_166_26 at hK
    refine am_F.ops (pc' := 45) (L' := [.ref 88, .int (nI a0), .int a1, .int a2, .int (nI i26)]) (S' := [.int (nI i26), .ref 96]) (μ' := (am_S f g)) 3 rfl ?_
    refine am_F.ialE (m := i26) (N := 40) rfl rfl rfl rfl (by omega) (by decide) ?_
    show am_F _ _ 46 [.ref 88, .int (nI a0), .int a1, .int a2, .int (nI i26)] [.int (f 96 i26)] (am_S f g) _
    refine am_F.iteK 1 rfl K hK (fun c2 hK => ?_) (fun c2 hK => ?_)
    · show am_F _ _ 93 [.ref 88, .int (nI a0), .int a1, .int a2, .int (nI i26)] [] (am_S f g) _
      refine am_F.ops (pc' := 26) (L' := [.ref 88, .int (nI a0), .int a1, .int a2, .int ((nI i26) + 1)]) (S' := []) (μ' := (am_S f g)) 2 rfl ?_
      rw [nI_1 i26]
      subst hKd
      exact ih (i26 + 1)  (by omega)  hK
    · show am_F _ _ 49 [.ref 88, .int (nI a0), .int a1, .int a2, .int (nI i26)] [] (am_S f g) _
      refine am_F.ops (pc' := 53) (L' := [.ref 88, .int (nI a0), .int a1, .int a2, .int (nI i26)]) (S' := [.int 1, .int (nI i26), .ref 88]) (μ' := (am_S f g)) 3 rfl ?_
      refine am_F.call rfl rfl (by rw [show (1 : Int32) = nI 1 from rfl]; exact (x_m_loanAt i26 1 f g (by omega) (by omega))) (by decide) ?_
      show am_F _ _ 56 [.ref 88, .int (nI a0), .int a1, .int a2, .int (nI i26)] [.int (fn_m_loanAt i26 1 f)] (am_S f g) _
      refine am_F.ops (pc' := 57) (L' := [.ref 88, .int (nI a0), .int a1, .int a2, .int (nI i26)]) (S' := [.int (nI a0), .int (fn_m_loanAt i26 1 f)]) (μ' := (am_S f g)) 1 rfl ?_
      refine am_F.iteK 1 rfl K hK (fun c3 hK => ?_) (fun c3 hK => ?_)
      · show am_F _ _ 60 [.ref 88, .int (nI a0), .int a1, .int a2, .int (nI i26)] [] (am_S f g) _
        refine am_F.ops (pc' := 64) (L' := [.ref 88, .int (nI a0), .int a1, .int a2, .int (nI i26)]) (S' := [.int 4, .int (nI i26), .ref 88]) (μ' := (am_S f g)) 3 rfl ?_
        refine am_F.call rfl rfl (by rw [show (4 : Int32) = nI 4 from rfl]; exact (x_m_loanAt i26 4 f g (by omega) (by omega))) (by decide) ?_
        show am_F _ _ 67 [.ref 88, .int (nI a0), .int a1, .int a2, .int (nI i26)] [.int (fn_m_loanAt i26 4 f)] (am_S f g) _
        refine am_F.ops (pc' := 68) (L' := [.ref 88, .int (nI a0), .int a1, .int a2, .int (nI i26)]) (S' := [.int a2, .int (fn_m_loanAt i26 4 f)]) (μ' := (am_S f g)) 1 rfl ?_
        refine am_F.iteK 1 rfl K hK (fun c4 hK => ?_) (fun c4 hK => ?_)
        · show am_F _ _ 93 [.ref 88, .int (nI a0), .int a1, .int a2, .int (nI i26)] [] (am_S f g) _
          refine am_F.ops (pc' := 26) (L' := [.ref 88, .int (nI a0), .int a1, .int a2, .int ((nI i26) + 1)]) (S' := []) (μ' := (am_S f g)) 2 rfl ?_
          rw [nI_1 i26]
          subst hKd
          exact ih (i26 + 1)  (by omega)  hK
        · show am_F _ _ 71 [.ref 88, .int (nI a0), .int a1, .int a2, .int (nI i26)] [] (am_S f g) _
          refine am_F.ops (pc' := 79) (L' := [.ref 88, .int (nI a0), .int a1, .int a2, .int (nI i26)]) (S' := [.int 2, .int (nI i26), .ref 88, .ref 92]) (μ' := (am_S f g)) 5 rfl ?_
          refine am_F.call rfl rfl (by rw [show (2 : Int32) = nI 2 from rfl]; exact (x_m_loanAt i26 2 f g (by omega) (by omega))) (by decide) ?_
          show am_F _ _ 82 [.ref 88, .int (nI a0), .int a1, .int a2, .int (nI i26)] [.int (fn_m_loanAt i26 2 f), .ref 92] (am_S f g) _
          refine am_F.ial (N := 20) rfl rfl rfl (hl2 i26 (by omega)) ?_
          show am_F _ _ 83 [.ref 88, .int (nI a0), .int a1, .int a2, .int (nI i26)] [.int (f 92 ((fn_m_loanAt i26 2 f).toNatClampNeg))] (am_S f g) _
          refine am_F.ops (pc' := 84) (L' := [.ref 88, .int (nI a0), .int a1, .int a2, .int (nI i26)]) (S' := [.int a1, .int (f 92 ((fn_m_loanAt i26 2 f).toNatClampNeg))]) (μ' := (am_S f g)) 1 rfl ?_
          refine am_F.call rfl rfl (x_m_has (f 92 ((fn_m_loanAt i26 2 f).toNatClampNeg)) a1 f g ) (by decide) ?_
          show am_F _ _ 87 [.ref 88, .int (nI a0), .int a1, .int a2, .int (nI i26)] [.int (am_b (fn_m_has (f 92 ((fn_m_loanAt i26 2 f).toNatClampNeg)) a1))] (am_S f g) _
          refine am_F.bifK 1 rfl K hK (fun c5 hK => ?_) (fun c5 hK => ?_)
          · show am_F _ _ 90 [.ref 88, .int (nI a0), .int a1, .int a2, .int (nI i26)] [] (am_S f g) _
            refine am_F.ops (pc' := 92) (L' := [.ref 88, .int (nI a0), .int a1, .int a2, .int (nI i26)]) (S' := [.int (nI i26)]) (μ' := (am_S f g)) 1 rfl ?_
            subst hKd
            exact am_F.eq (am_F.ret rfl rfl) hK
          · show am_F _ _ 93 [.ref 88, .int (nI a0), .int a1, .int a2, .int (nI i26)] [] (am_S f g) _
            refine am_F.ops (pc' := 26) (L' := [.ref 88, .int (nI a0), .int a1, .int a2, .int ((nI i26) + 1)]) (S' := []) (μ' := (am_S f g)) 2 rfl ?_
            rw [nI_1 i26]
            subst hKd
            exact ih (i26 + 1)  (by omega)  hK
      · show am_F _ _ 93 [.ref 88, .int (nI a0), .int a1, .int a2, .int (nI i26)] [] (am_S f g) _
        refine am_F.ops (pc' := 26) (L' := [.ref 88, .int (nI a0), .int a1, .int a2, .int ((nI i26) + 1)]) (S' := []) (μ' := (am_S f g)) 2 rfl ?_
        rw [nI_1 i26]
        subst hKd
        exact ih (i26 + 1)  (by omega)  hK
theorem x_m_sourceFor_166 (a0 : Nat) (a1 : Int32) (a2 : Int32) (f : Nat → Nat → Int32) (g : Nat → Nat → Int64) (hlC : f 89 201 = nI (f 89 201).toNatClampNeg) (hlN : (f 89 201).toNatClampNeg ≤ 40) (hrC : f 89 202 = nI (f 89 202).toNatClampNeg) (hrN : (f 89 202).toNatClampNeg ≤ 30) (hl0 : ∀ i, i < (f 89 201).toNatClampNeg → am_inb (fn_m_loanAt i 0 f) 16 = true) (hl5 : ∀ i, i < (f 89 201).toNatClampNeg → ¬ fn_m_loanAt i 5 f < 0 → am_inb (fn_m_loanAt i 5 f) 40 = true) (hl2 : ∀ i, i < (f 89 201).toNatClampNeg → am_inb (fn_m_loanAt i 2 f) 20 = true) (ha0 : a0 < 16) : am_D 2 166 5 [.ref 88, .int (nI a0), .int a1, .int a2] (am_S f g) (some (Value.int (fn_m_sourceFor_166 a0 a1 a2 f)), am_S f g) := by
  refine am_D.of (code := am_k_166) rfl (L0 := [.ref 88, .int (nI a0), .int a1, .int a2, am_un]) rfl ?_
  generalize hres : (some (Value.int (fn_m_sourceFor_166 a0 a1 a2 f)), am_S f g) = res
  obtain ⟨K, hKd⟩ : ∃ K : Int32 → Prop, K = fun z => (some (Value.int z), am_S f g) = res := ⟨_, rfl⟩
  have hK : K (fn_m_sourceFor_166 a0 a1 a2 f) := by rw [hKd]; exact hres
  clear hres
  unfold fn_m_sourceFor_166 at hK
  refine am_F.ops (pc' := 10) (L' := [.ref 88, .int (nI a0), .int a1, .int a2, am_un]) (S' := [.int (184 + (nI a0)), .ref 89, .ref 88]) (μ' := (am_S f g)) 6 rfl ?_
  refine am_F.ialE (m := (184 + a0)) (N := 3340) rfl rfl rfl (am_addE rfl rfl) (by omega) (by decide) ?_
  show am_F _ _ 11 [.ref 88, .int (nI a0), .int a1, .int a2, am_un] [.int (f 89 (184 + a0)), .ref 88] (am_S f g) _
  refine am_F.call rfl rfl (x_m_allUnder (f 89 (184 + a0)) f g ) (by decide) ?_
  show am_F _ _ 14 [.ref 88, .int (nI a0), .int a1, .int a2, am_un] [.int (fn_m_allUnder (f 89 (184 + a0)) f)] (am_S f g) _
  refine am_F.ops (pc' := 15) (L' := [.ref 88, .int (nI a0), .int a1, .int a2, am_un]) (S' := [.int a1, .int (fn_m_allUnder (f 89 (184 + a0)) f)]) (μ' := (am_S f g)) 1 rfl ?_
  refine am_F.call rfl rfl (x_m_has (fn_m_allUnder (f 89 (184 + a0)) f) a1 f g ) (by decide) ?_
  show am_F _ _ 18 [.ref 88, .int (nI a0), .int a1, .int a2, am_un] [.int (am_b (fn_m_has (fn_m_allUnder (f 89 (184 + a0)) f) a1))] (am_S f g) _
  refine am_F.bifK 1 rfl K hK (fun c1 hK => ?_) (fun c1 hK => ?_)
  · show am_F _ _ 21 [.ref 88, .int (nI a0), .int a1, .int a2, am_un] [] (am_S f g) _
    refine am_F.ops (pc' := 22) (L' := [.ref 88, .int (nI a0), .int a1, .int a2, am_un]) (S' := [.int (-1)]) (μ' := (am_S f g)) 1 rfl ?_
    subst hKd
    exact am_F.eq (am_F.ret rfl rfl) hK
  · show am_F _ _ 23 [.ref 88, .int (nI a0), .int a1, .int a2, am_un] [] (am_S f g) _
    refine am_F.ops (pc' := 26) (L' := [.ref 88, .int (nI a0), .int a1, .int a2, .int 0]) (S' := []) (μ' := (am_S f g)) 2 rfl ?_
    show am_F _ _ 26 [.ref 88, .int (nI a0), .int a1, .int a2, .int (nI 0)] [] (am_S f g) _
    refine lp_m_sourceFor_166_26 a0 a1 a2 f g hlC hlN hrC hrN hl0 hl5 hl2 ha0 _ ((f 89 201).toNatClampNeg) 0   (by omega)  ?_
    rw [show am_forX (st_m_sourceFor_166_26 a0 a1 a2 f) ((f 89 201).toNatClampNeg) 0 () = (lf_m_sourceFor_166_26 a0 a1 a2 f) from rfl]
    revert hK
    cases (lf_m_sourceFor_166_26 a0 a1 a2 f) with
    | inr z =>
      intro hK
      subst hKd
      exact hK
    | inl z26 =>
      intro hK wc
      (try simp only [Sum.elim_inl] at hK)
      refine am_F.ops (pc' := 101) (L' := [.ref 88, .int (nI a0), .int a1, .int a2, wc]) (S' := [.int (-5)]) (μ' := (am_S f g)) 1 rfl ?_
      subst hKd
      exact am_F.eq (am_F.ret rfl rfl) hK
/-- AccessLatticeModel.seesDigit -/
def fn_m_seesDigit_181 (f : Nat → Nat → Int32) : Bool := (if 0 ≤ (f 88 13) then false else (if (f 88 11) ≤ (f 88 12) then false else (bif (fn_m_isIn (f 97 ((f 88 12).toNatClampNeg)) 48 57) then true else false)))
theorem x_m_seesDigit_181 (f : Nat → Nat → Int32) (g : Nat → Nat → Int64) (hlC : f 89 201 = nI (f 89 201).toNatClampNeg) (hlN : (f 89 201).toNatClampNeg ≤ 40) (hrC : f 89 202 = nI (f 89 202).toNatClampNeg) (hrN : (f 89 202).toNatClampNeg ≤ 30) (hpI : ¬ f 88 11 ≤ f 88 12 → am_inb (f 88 12) 80 = true) : am_D 1 181 1 [.ref 88] (am_S f g) (some (Value.int (am_b (fn_m_seesDigit_181 f))), am_S f g) := by
  refine am_D.of (code := am_k_181) rfl (L0 := [.ref 88]) rfl ?_
  generalize hres : (some (Value.int (am_b (fn_m_seesDigit_181 f))), am_S f g) = res
  obtain ⟨K, hKd⟩ : ∃ K : Bool → Prop, K = fun z => (some (Value.int (am_b z)), am_S f g) = res := ⟨_, rfl⟩
  have hK : K (fn_m_seesDigit_181 f) := by rw [hKd]; exact hres
  clear hres
  unfold fn_m_seesDigit_181 at hK
  refine am_F.ops (pc' := 4) (L' := [.ref 88]) (S' := [.int (f 88 13)]) (μ' := (am_S f g)) 2 rfl ?_
  refine am_F.to (am_To.iteB (pc' := 42) (L2 := [.ref 88]) (S2 := []) (μ2 := (am_S f g)) (a := false) (b := (if (f 88 11) ≤ (f 88 12) then false else (bif (fn_m_isIn (f 97 ((f 88 12).toNatClampNeg)) 48 57) then true else false))) 1 rfl (fun c1 => ?_) (fun c1 => ?_)) ?_
  · intro res9 g9
    show am_F _ _ 41 [.ref 88] [] (am_S f g) _
    refine am_F.ops (pc' := 42) (L' := [.ref 88]) (S' := [.int 0]) (μ' := (am_S f g)) 1 rfl ?_
    exact g9
  · intro res9 g9
    show am_F _ _ 7 [.ref 88] [] (am_S f g) _
    refine am_F.ops (pc' := 15) (L' := [.ref 88]) (S' := [.int (f 88 11), .int (f 88 12)]) (μ' := (am_S f g)) 4 rfl ?_
    refine am_F.to (am_To.iteB (pc' := 42) (L2 := [.ref 88]) (S2 := []) (μ2 := (am_S f g)) (a := false) (b := (bif (fn_m_isIn (f 97 ((f 88 12).toNatClampNeg)) 48 57) then true else false)) 1 rfl (fun c2 => ?_) (fun c2 => ?_)) g9
    · intro res9 g9
      show am_F _ _ 41 [.ref 88] [] (am_S f g) _
      refine am_F.ops (pc' := 42) (L' := [.ref 88]) (S' := [.int 0]) (μ' := (am_S f g)) 1 rfl ?_
      exact g9
    · intro res9 g9
      show am_F _ _ 18 [.ref 88] [] (am_S f g) _
      refine am_F.ops (pc' := 26) (L' := [.ref 88]) (S' := [.int (f 88 12), .ref 97]) (μ' := (am_S f g)) 4 rfl ?_
      refine am_F.ial (N := 80) rfl rfl rfl (hpI (by assumption)) ?_
      show am_F _ _ 27 [.ref 88] [.int (f 97 ((f 88 12).toNatClampNeg))] (am_S f g) _
      refine am_F.ops (pc' := 31) (L' := [.ref 88]) (S' := [.int 57, .int 48, .int (f 97 ((f 88 12).toNatClampNeg))]) (μ' := (am_S f g)) 2 rfl ?_
      refine am_F.call rfl rfl (x_m_isIn (f 97 ((f 88 12).toNatClampNeg)) 48 57 f g ) (by decide) ?_
      show am_F _ _ 34 [.ref 88] [.int (am_b (fn_m_isIn (f 97 ((f 88 12).toNatClampNeg)) 48 57))] (am_S f g) _
      refine am_F.to (am_To.bifB (pc' := 42) (L2 := [.ref 88]) (S2 := []) (μ2 := (am_S f g)) (a := true) (b := false) 1 rfl (fun c3 => ?_) (fun c3 => ?_)) g9
      · intro res9 g9
        show am_F _ _ 37 [.ref 88] [] (am_S f g) _
        refine am_F.ops (pc' := 42) (L' := [.ref 88]) (S' := [.int 1]) (μ' := (am_S f g)) 2 rfl ?_
        exact g9
      · intro res9 g9
        show am_F _ _ 41 [.ref 88] [] (am_S f g) _
        refine am_F.ops (pc' := 42) (L' := [.ref 88]) (S' := [.int 0]) (μ' := (am_S f g)) 1 rfl ?_
        exact g9
  show am_F _ _ 42 [.ref 88] [.int (am_b (if 0 ≤ (f 88 13) then false else (if (f 88 11) ≤ (f 88 12) then false else (bif (fn_m_isIn (f 97 ((f 88 12).toNatClampNeg)) 48 57) then true else false))))] (am_S f g) _
  subst hKd
  exact am_F.eq (am_F.ret rfl (am_retB _ _)) hK
/-- AccessLatticeModel.puts -/
def fn_m_puts_184 (a0 : Int32) (f : Nat → Nat → Int32) : (Nat → Int32) × (Nat → Int32) := (upd (f 88) 15 ((f 88 15) + 1), upd (f 98) ((f 88 15).toNatClampNeg) a0)
theorem x_m_puts_184 (a0 : Int32) (f : Nat → Nat → Int32) (g : Nat → Nat → Int64) (hlC : f 89 201 = nI (f 89 201).toNatClampNeg) (hlN : (f 89 201).toNatClampNeg ≤ 40) (hrC : f 89 202 = nI (f 89 202).toNatClampNeg) (hrN : (f 89 202).toNatClampNeg ≤ 30) (huI : am_inb (f 88 15) 81 = true) : am_D 0 184 2 [.ref 88, .int a0] (am_S f g) ((none : Option Value), am_S (am_row (am_row f 88 ((fn_m_puts_184 a0 f).1)) 98 ((fn_m_puts_184 a0 f).2)) g) := by
  refine am_D.of (code := am_k_184) rfl (L0 := [.ref 88, .int a0]) rfl ?_
  generalize hres : ((none : Option Value), am_S (am_row (am_row f 88 ((fn_m_puts_184 a0 f).1)) 98 ((fn_m_puts_184 a0 f).2)) g) = res
  obtain ⟨K, hKd⟩ : ∃ K : ((Nat → Int32) × (Nat → Int32)) → Prop, K = fun z => ((none : Option Value), am_S (am_row (am_row f 88 z.1) 98 z.2) g) = res := ⟨_, rfl⟩
  have hK : K (fn_m_puts_184 a0 f) := by rw [hKd]; exact hres
  clear hres
  unfold fn_m_puts_184 at hK
  refine am_F.ops (pc' := 9) (L' := [.ref 88, .int a0]) (S' := [.int a0, .int (f 88 15), .ref 98]) (μ' := (am_S f g)) 5 rfl ?_
  refine am_F.ias (F' := (am_row f 98 (upd (f 98) ((f 88 15).toNatClampNeg) a0))) (N := 81) rfl rfl rfl (by assumption) (by first | rfl | (funext a; by_cases z0 : a = 98; (subst z0; rfl); simp only [am_ui, am_ul, am_row_ne z0])) ?_
  refine am_F.ops (pc' := 17) (L' := [.ref 88, .int a0]) (S' := [.int ((f 88 15) + 1), .ref 88]) (μ' := (am_S (am_row f 98 (upd (f 98) ((f 88 15).toNatClampNeg) a0)) g)) 5 rfl ?_
  refine am_F.pfi (F' := (am_row (am_row f 88 (upd (f 88) 15 ((f 88 15) + 1))) 98 (upd (f 98) ((f 88 15).toNatClampNeg) a0))) rfl rfl (by first | rfl | (funext a; by_cases z0 : a = 88; (subst z0; rfl); by_cases z1 : a = 98; (subst z1; rfl); simp only [am_ui, am_ul, am_row_ne z0, am_row_ne z1])) ?_
  subst hKd
  exact am_F.eq (am_F.ret rfl rfl) hK
/-- AccessLatticeModel.sees -/
def fn_m_sees_186 (a0 : Int32) (f : Nat → Nat → Int32) : Bool := (if 0 ≤ (f 88 13) then false else (if (f 88 11) ≤ (f 88 12) then false else (if (f 97 ((f 88 12).toNatClampNeg)) = a0 then true else false)))
theorem x_m_sees_186 (a0 : Int32) (f : Nat → Nat → Int32) (g : Nat → Nat → Int64) (hlC : f 89 201 = nI (f 89 201).toNatClampNeg) (hlN : (f 89 201).toNatClampNeg ≤ 40) (hrC : f 89 202 = nI (f 89 202).toNatClampNeg) (hrN : (f 89 202).toNatClampNeg ≤ 30) (hpI : ¬ f 88 11 ≤ f 88 12 → am_inb (f 88 12) 80 = true) : am_D 0 186 2 [.ref 88, .int a0] (am_S f g) (some (Value.int (am_b (fn_m_sees_186 a0 f))), am_S f g) := by
  refine am_D.of (code := am_k_186) rfl (L0 := [.ref 88, .int a0]) rfl ?_
  generalize hres : (some (Value.int (am_b (fn_m_sees_186 a0 f))), am_S f g) = res
  obtain ⟨K, hKd⟩ : ∃ K : Bool → Prop, K = fun z => (some (Value.int (am_b z)), am_S f g) = res := ⟨_, rfl⟩
  have hK : K (fn_m_sees_186 a0 f) := by rw [hKd]; exact hres
  clear hres
  unfold fn_m_sees_186 at hK
  refine am_F.ops (pc' := 4) (L' := [.ref 88, .int a0]) (S' := [.int (f 88 13)]) (μ' := (am_S f g)) 2 rfl ?_
  refine am_F.to (am_To.iteB (pc' := 36) (L2 := [.ref 88, .int a0]) (S2 := []) (μ2 := (am_S f g)) (a := false) (b := (if (f 88 11) ≤ (f 88 12) then false else (if (f 97 ((f 88 12).toNatClampNeg)) = a0 then true else false))) 1 rfl (fun c1 => ?_) (fun c1 => ?_)) ?_
  · intro res9 g9
    show am_F _ _ 35 [.ref 88, .int a0] [] (am_S f g) _
    refine am_F.ops (pc' := 36) (L' := [.ref 88, .int a0]) (S' := [.int 0]) (μ' := (am_S f g)) 1 rfl ?_
    exact g9
  · intro res9 g9
    show am_F _ _ 7 [.ref 88, .int a0] [] (am_S f g) _
    refine am_F.ops (pc' := 15) (L' := [.ref 88, .int a0]) (S' := [.int (f 88 11), .int (f 88 12)]) (μ' := (am_S f g)) 4 rfl ?_
    refine am_F.to (am_To.iteB (pc' := 36) (L2 := [.ref 88, .int a0]) (S2 := []) (μ2 := (am_S f g)) (a := false) (b := (if (f 97 ((f 88 12).toNatClampNeg)) = a0 then true else false)) 1 rfl (fun c2 => ?_) (fun c2 => ?_)) g9
    · intro res9 g9
      show am_F _ _ 35 [.ref 88, .int a0] [] (am_S f g) _
      refine am_F.ops (pc' := 36) (L' := [.ref 88, .int a0]) (S' := [.int 0]) (μ' := (am_S f g)) 1 rfl ?_
      exact g9
    · intro res9 g9
      show am_F _ _ 18 [.ref 88, .int a0] [] (am_S f g) _
      refine am_F.ops (pc' := 26) (L' := [.ref 88, .int a0]) (S' := [.int (f 88 12), .ref 97]) (μ' := (am_S f g)) 4 rfl ?_
      refine am_F.ial (N := 80) rfl rfl rfl (hpI (by assumption)) ?_
      show am_F _ _ 27 [.ref 88, .int a0] [.int (f 97 ((f 88 12).toNatClampNeg))] (am_S f g) _
      refine am_F.ops (pc' := 28) (L' := [.ref 88, .int a0]) (S' := [.int a0, .int (f 97 ((f 88 12).toNatClampNeg))]) (μ' := (am_S f g)) 1 rfl ?_
      refine am_F.to (am_To.iteB (pc' := 36) (L2 := [.ref 88, .int a0]) (S2 := []) (μ2 := (am_S f g)) (a := true) (b := false) 1 rfl (fun c3 => ?_) (fun c3 => ?_)) g9
      · intro res9 g9
        show am_F _ _ 31 [.ref 88, .int a0] [] (am_S f g) _
        refine am_F.ops (pc' := 36) (L' := [.ref 88, .int a0]) (S' := [.int 1]) (μ' := (am_S f g)) 2 rfl ?_
        exact g9
      · intro res9 g9
        show am_F _ _ 35 [.ref 88, .int a0] [] (am_S f g) _
        refine am_F.ops (pc' := 36) (L' := [.ref 88, .int a0]) (S' := [.int 0]) (μ' := (am_S f g)) 1 rfl ?_
        exact g9
  show am_F _ _ 36 [.ref 88, .int a0] [.int (am_b (if 0 ≤ (f 88 13) then false else (if (f 88 11) ≤ (f 88 12) then false else (if (f 97 ((f 88 12).toNatClampNeg)) = a0 then true else false))))] (am_S f g) _
  subst hKd
  exact am_F.eq (am_F.ret rfl (am_retB _ _)) hK
/-- AccessLatticeModel.answerBy -/
def st_m_answerBy_217_21 (a0 : Int32) (f : Nat → Nat → Int32) (i14 : Nat) : Nat → (Nat → Int32) → (Nat → Int32) ⊕ ((Nat → Int32) ⊕ Int32 × (Nat → Int32)) := fun i21 r21_88 => (bif (fn_m_has ((f 88 28) &&& ((f 88 29) ^^^ (-1))) (nI i21)) then (if (fn_m_ruleAt i21 0 (am_row f 88 r21_88)) = (nI i14) then (bif (fn_m_has a0 (fn_m_ruleAt i21 1 (am_row f 88 r21_88))) then (if (nI i14) = 1 then .inr (.inr (2, upd r21_88 24 (nI i21))) else .inr (.inr (1, upd r21_88 24 (nI i21)))) else .inl r21_88) else .inl r21_88) else .inl r21_88)
def lf_m_answerBy_217_21 (a0 : Int32) (f : Nat → Nat → Int32) (i14 : Nat) (r14_88 : Nat → Int32) : (Nat → Int32) ⊕ Int32 × (Nat → Int32) := am_forX (st_m_answerBy_217_21 a0 f i14) ((f 89 202).toNatClampNeg) 0 r14_88
def st_m_answerBy_217_14 (a0 : Int32) (f : Nat → Nat → Int32) : Nat → (Nat → Int32) → (Nat → Int32) ⊕ ((Nat → Int32) ⊕ Int32 × (Nat → Int32)) := fun i14 r14_88 => (Sum.elim (fun (z21 : (Nat → Int32)) => .inl z21) (fun (z : Int32 × (Nat → Int32)) => .inr (.inr z)) (lf_m_answerBy_217_21 a0 f i14 r14_88))
def lf_m_answerBy_217_14 (a0 : Int32) (f : Nat → Nat → Int32) : (Nat → Int32) ⊕ Int32 × (Nat → Int32) := am_dnX (st_m_answerBy_217_14 a0 f) 2 (f 88)
def fn_m_answerBy_217 (a0 : Int32) (f : Nat → Nat → Int32) : Int32 × (Nat → Int32) := (Sum.elim (fun (z14 : (Nat → Int32)) => (0, upd z14 24 (-1))) (fun (z : Int32 × (Nat → Int32)) => z) (lf_m_answerBy_217_14 a0 f))
theorem lp_m_answerBy_217_21 (a0 : Int32) (f : Nat → Nat → Int32) (g : Nat → Nat → Int64) (i14 : Nat) (r14_88 : Nat → Int32) (hlC : f 89 201 = nI (f 89 201).toNatClampNeg) (hlN : (f 89 201).toNatClampNeg ≤ 40) (hrC : f 89 202 = nI (f 89 202).toNatClampNeg) (hrN : (f 89 202).toNatClampNeg ≤ 30) (hb14 : i14 < 2) (res : Option Value × am_M) : ∀ (n i21 : Nat) (r21_88 : Nat → Int32) , i21 + n = (f 89 202).toNatClampNeg → am_KX (fun (z : (Nat → Int32)) => ∀ (wc : Value), am_F 1 am_k_217 91 [.ref 88, .int a0, .int ((f 88 28) &&& ((f 88 29) ^^^ (-1))), .int (nI i14), wc] [] (am_S (am_row f 88 z) g) res) (fun (z : Int32 × (Nat → Int32)) => (some (Value.int z.1), am_S (am_row f 88 z.2) g) = res) (am_forX (st_m_answerBy_217_21 a0 f i14) n i21 r21_88) → am_F 1 am_k_217 21 [.ref 88, .int a0, .int ((f 88 28) &&& ((f 88 29) ^^^ (-1))), .int (nI i14), .int (nI i21)] [] (am_S (am_row f 88 r21_88) g) res := by
  intro n
  induction n with
  | zero =>
    intro i21 r21_88 hi hK
    refine am_F.pos 6 rfl (by show (f 89 202) ≤ nI i21; rw [show (f 89 202 : Int32) = nI ((f 89 202).toNatClampNeg) from hrC]; exact nI_le (by omega) (by omega)) ?_
    exact hK _
  | succ n ih =>
    intro i21 r21_88 hi hK
    refine am_F.neg 6 rfl (by show ¬ (f 89 202) ≤ nI i21; rw [show (f 89 202 : Int32) = nI ((f 89 202).toNatClampNeg) from hrC]; exact nI_ge (by omega) (by omega)) ?_
    have hb21 : i21 < (f 89 202).toNatClampNeg := by omega
    show am_F _ _ 34 [.ref 88, .int a0, .int ((f 88 28) &&& ((f 88 29) ^^^ (-1))), .int (nI i14), .int (nI i21)] [] (am_S (am_row f 88 r21_88) g) _
    obtain ⟨K, hKd⟩ : ∃ K : ((Nat → Int32) ⊕ ((Nat → Int32) ⊕ Int32 × (Nat → Int32))) → Prop, K = fun s => am_KX (fun (z : (Nat → Int32)) => ∀ (wc : Value), am_F 1 am_k_217 91 [.ref 88, .int a0, .int ((f 88 28) &&& ((f 88 29) ^^^ (-1))), .int (nI i14), wc] [] (am_S (am_row f 88 z) g) res) (fun (z : Int32 × (Nat → Int32)) => (some (Value.int z.1), am_S (am_row f 88 z.2) g) = res) (am_nxt (fun z => am_forX (st_m_answerBy_217_21 a0 f i14) n (i21 + 1) z) s) := ⟨_, rfl⟩
    have hK : K ((st_m_answerBy_217_21 a0 f i14) i21 r21_88) := by rw [am_forX_s] at hK; rw [hKd]; with_reducible exact hK
    unfold st_m_answerBy_217_21 at hK
    refine am_F.ops (pc' := 37) (L' := [.ref 88, .int a0, .int ((f 88 28) &&& ((f 88 29) ^^^ (-1))), .int (nI i14), .int (nI i21)]) (S' := [.int (nI i21), .int ((f 88 28) &&& ((f 88 29) ^^^ (-1)))]) (μ' := (am_S (am_row f 88 r21_88) g)) 2 rfl ?_
    refine am_F.call rfl rfl (x_m_has ((f 88 28) &&& ((f 88 29) ^^^ (-1))) (nI i21) (am_row f 88 r21_88) g ) (by decide) ?_
    show am_F _ _ 40 [.ref 88, .int a0, .int ((f 88 28) &&& ((f 88 29) ^^^ (-1))), .int (nI i14), .int (nI i21)] [.int (am_b (fn_m_has ((f 88 28) &&& ((f 88 29) ^^^ (-1))) (nI i21)))] (am_S (am_row f 88 r21_88) g) _
    refine am_F.bifK 1 rfl K hK (fun c13 hK => ?_) (fun c13 hK => ?_)
    · show am_F _ _ 43 [.ref 88, .int a0, .int ((f 88 28) &&& ((f 88 29) ^^^ (-1))), .int (nI i14), .int (nI i21)] [] (am_S (am_row f 88 r21_88) g) _
      refine am_F.ops (pc' := 47) (L' := [.ref 88, .int a0, .int ((f 88 28) &&& ((f 88 29) ^^^ (-1))), .int (nI i14), .int (nI i21)]) (S' := [.int 0, .int (nI i21), .ref 88]) (μ' := (am_S (am_row f 88 r21_88) g)) 3 rfl ?_
      refine am_F.call rfl rfl (by rw [show (0 : Int32) = nI 0 from rfl]; exact (x_m_ruleAt i21 0 (am_row f 88 r21_88) g (by omega) (by omega))) (by decide) ?_
      show am_F _ _ 50 [.ref 88, .int a0, .int ((f 88 28) &&& ((f 88 29) ^^^ (-1))), .int (nI i14), .int (nI i21)] [.int (fn_m_ruleAt i21 0 (am_row f 88 r21_88))] (am_S (am_row f 88 r21_88) g) _
      refine am_F.ops (pc' := 51) (L' := [.ref 88, .int a0, .int ((f 88 28) &&& ((f 88 29) ^^^ (-1))), .int (nI i14), .int (nI i21)]) (S' := [.int (nI i14), .int (fn_m_ruleAt i21 0 (am_row f 88 r21_88))]) (μ' := (am_S (am_row f 88 r21_88) g)) 1 rfl ?_
      refine am_F.iteK 1 rfl K hK (fun c14 hK => ?_) (fun c14 hK => ?_)
      · show am_F _ _ 54 [.ref 88, .int a0, .int ((f 88 28) &&& ((f 88 29) ^^^ (-1))), .int (nI i14), .int (nI i21)] [] (am_S (am_row f 88 r21_88) g) _
        refine am_F.ops (pc' := 59) (L' := [.ref 88, .int a0, .int ((f 88 28) &&& ((f 88 29) ^^^ (-1))), .int (nI i14), .int (nI i21)]) (S' := [.int 1, .int (nI i21), .ref 88, .int a0]) (μ' := (am_S (am_row f 88 r21_88) g)) 4 rfl ?_
        refine am_F.call rfl rfl (by rw [show (1 : Int32) = nI 1 from rfl]; exact (x_m_ruleAt i21 1 (am_row f 88 r21_88) g (by omega) (by omega))) (by decide) ?_
        show am_F _ _ 62 [.ref 88, .int a0, .int ((f 88 28) &&& ((f 88 29) ^^^ (-1))), .int (nI i14), .int (nI i21)] [.int (fn_m_ruleAt i21 1 (am_row f 88 r21_88)), .int a0] (am_S (am_row f 88 r21_88) g) _
        refine am_F.call rfl rfl (x_m_has a0 (fn_m_ruleAt i21 1 (am_row f 88 r21_88)) (am_row f 88 r21_88) g ) (by decide) ?_
        show am_F _ _ 65 [.ref 88, .int a0, .int ((f 88 28) &&& ((f 88 29) ^^^ (-1))), .int (nI i14), .int (nI i21)] [.int (am_b (fn_m_has a0 (fn_m_ruleAt i21 1 (am_row f 88 r21_88))))] (am_S (am_row f 88 r21_88) g) _
        refine am_F.bifK 1 rfl K hK (fun c15 hK => ?_) (fun c15 hK => ?_)
        · show am_F _ _ 68 [.ref 88, .int a0, .int ((f 88 28) &&& ((f 88 29) ^^^ (-1))), .int (nI i14), .int (nI i21)] [] (am_S (am_row f 88 r21_88) g) _
          refine am_F.ops (pc' := 71) (L' := [.ref 88, .int a0, .int ((f 88 28) &&& ((f 88 29) ^^^ (-1))), .int (nI i14), .int (nI i21)]) (S' := [.int (nI i21), .ref 88]) (μ' := (am_S (am_row f 88 r21_88) g)) 2 rfl ?_
          refine am_F.pfi (F' := (am_row f 88 (upd r21_88 24 (nI i21)))) rfl rfl (by first | rfl | (funext a; by_cases z0 : a = 88; (subst z0; rfl); simp only [am_ui, am_ul, am_row_ne z0])) ?_
          refine am_F.ops (pc' := 76) (L' := [.ref 88, .int a0, .int ((f 88 28) &&& ((f 88 29) ^^^ (-1))), .int (nI i14), .int (nI i21)]) (S' := [.int 1, .int (nI i14)]) (μ' := (am_S (am_row f 88 (upd r21_88 24 (nI i21))) g)) 2 rfl ?_
          refine am_F.iteK 1 rfl K hK (fun c16 hK => ?_) (fun c16 hK => ?_)
          · show am_F _ _ 79 [.ref 88, .int a0, .int ((f 88 28) &&& ((f 88 29) ^^^ (-1))), .int (nI i14), .int (nI i21)] [] (am_S (am_row f 88 (upd r21_88 24 (nI i21))) g) _
            refine am_F.ops (pc' := 84) (L' := [.ref 88, .int a0, .int ((f 88 28) &&& ((f 88 29) ^^^ (-1))), .int (nI i14), .int (nI i21)]) (S' := [.int 2]) (μ' := (am_S (am_row f 88 (upd r21_88 24 (nI i21))) g)) 2 rfl ?_
            subst hKd
            exact am_F.eq (am_F.ret rfl rfl) hK
          · show am_F _ _ 83 [.ref 88, .int a0, .int ((f 88 28) &&& ((f 88 29) ^^^ (-1))), .int (nI i14), .int (nI i21)] [] (am_S (am_row f 88 (upd r21_88 24 (nI i21))) g) _
            refine am_F.ops (pc' := 84) (L' := [.ref 88, .int a0, .int ((f 88 28) &&& ((f 88 29) ^^^ (-1))), .int (nI i14), .int (nI i21)]) (S' := [.int 1]) (μ' := (am_S (am_row f 88 (upd r21_88 24 (nI i21))) g)) 1 rfl ?_
            subst hKd
            exact am_F.eq (am_F.ret rfl rfl) hK
        · show am_F _ _ 85 [.ref 88, .int a0, .int ((f 88 28) &&& ((f 88 29) ^^^ (-1))), .int (nI i14), .int (nI i21)] [] (am_S (am_row f 88 r21_88) g) _
          refine am_F.ops (pc' := 21) (L' := [.ref 88, .int a0, .int ((f 88 28) &&& ((f 88 29) ^^^ (-1))), .int (nI i14), .int ((nI i21) + 1)]) (S' := []) (μ' := (am_S (am_row f 88 r21_88) g)) 2 rfl ?_
          rw [nI_1 i21]
          subst hKd
          exact ih (i21 + 1) r21_88 (by omega)  hK
      · show am_F _ _ 85 [.ref 88, .int a0, .int ((f 88 28) &&& ((f 88 29) ^^^ (-1))), .int (nI i14), .int (nI i21)] [] (am_S (am_row f 88 r21_88) g) _
        refine am_F.ops (pc' := 21) (L' := [.ref 88, .int a0, .int ((f 88 28) &&& ((f 88 29) ^^^ (-1))), .int (nI i14), .int ((nI i21) + 1)]) (S' := []) (μ' := (am_S (am_row f 88 r21_88) g)) 2 rfl ?_
        rw [nI_1 i21]
        subst hKd
        exact ih (i21 + 1) r21_88 (by omega)  hK
    · show am_F _ _ 85 [.ref 88, .int a0, .int ((f 88 28) &&& ((f 88 29) ^^^ (-1))), .int (nI i14), .int (nI i21)] [] (am_S (am_row f 88 r21_88) g) _
      refine am_F.ops (pc' := 21) (L' := [.ref 88, .int a0, .int ((f 88 28) &&& ((f 88 29) ^^^ (-1))), .int (nI i14), .int ((nI i21) + 1)]) (S' := []) (μ' := (am_S (am_row f 88 r21_88) g)) 2 rfl ?_
      rw [nI_1 i21]
      subst hKd
      exact ih (i21 + 1) r21_88 (by omega)  hK
theorem lp_m_answerBy_217_14 (a0 : Int32) (f : Nat → Nat → Int32) (g : Nat → Nat → Int64) (hlC : f 89 201 = nI (f 89 201).toNatClampNeg) (hlN : (f 89 201).toNatClampNeg ≤ 40) (hrC : f 89 202 = nI (f 89 202).toNatClampNeg) (hrN : (f 89 202).toNatClampNeg ≤ 30) (res : Option Value × am_M) : ∀ (n : Nat) (r14_88 : Nat → Int32) (w14_4 : Value), n ≤ 2 → am_KX (fun (z : (Nat → Int32)) => ∀ (wc : Value) (w14_4 : Value), am_F 1 am_k_217 97 [.ref 88, .int a0, .int ((f 88 28) &&& ((f 88 29) ^^^ (-1))), wc, w14_4] [] (am_S (am_row f 88 z) g) res) (fun (z : Int32 × (Nat → Int32)) => (some (Value.int z.1), am_S (am_row f 88 z.2) g) = res) (am_dnX (st_m_answerBy_217_14 a0 f) n r14_88) → am_F 1 am_k_217 14 [.ref 88, .int a0, .int ((f 88 28) &&& ((f 88 29) ^^^ (-1))), .int ((nI n) - 1), w14_4] [] (am_S (am_row f 88 r14_88) g) res := by
  intro n
  induction n with
  | zero =>
    intro r14_88 w14_4 hi hK
    refine am_F.pos 2 rfl (by decide) ?_
    exact hK _ _
  | succ i14 ih =>
    intro r14_88 w14_4 hi hK
    rw [nI_pred i14]
    refine am_F.neg 2 rfl (nI_pos (n := i14) (by omega)) ?_
    have hb14 : i14 < 2 := by omega
    show am_F _ _ 18 [.ref 88, .int a0, .int ((f 88 28) &&& ((f 88 29) ^^^ (-1))), .int (nI i14), w14_4] [] (am_S (am_row f 88 r14_88) g) _
    obtain ⟨K, hKd⟩ : ∃ K : ((Nat → Int32) ⊕ ((Nat → Int32) ⊕ Int32 × (Nat → Int32))) → Prop, K = fun s => am_KX (fun (z : (Nat → Int32)) => ∀ (wc : Value) (w14_4 : Value), am_F 1 am_k_217 97 [.ref 88, .int a0, .int ((f 88 28) &&& ((f 88 29) ^^^ (-1))), wc, w14_4] [] (am_S (am_row f 88 z) g) res) (fun (z : Int32 × (Nat → Int32)) => (some (Value.int z.1), am_S (am_row f 88 z.2) g) = res) (am_nxt (fun z => am_dnX (st_m_answerBy_217_14 a0 f) i14 z) s) := ⟨_, rfl⟩
    have hK : K ((st_m_answerBy_217_14 a0 f) i14 r14_88) := by rw [am_dnX_s] at hK; rw [hKd]; with_reducible exact hK
    unfold st_m_answerBy_217_14 at hK
    refine am_F.ops (pc' := 21) (L' := [.ref 88, .int a0, .int ((f 88 28) &&& ((f 88 29) ^^^ (-1))), .int (nI i14), .int 0]) (S' := []) (μ' := (am_S (am_row f 88 r14_88) g)) 2 rfl ?_
    show am_F _ _ 21 [.ref 88, .int a0, .int ((f 88 28) &&& ((f 88 29) ^^^ (-1))), .int (nI i14), .int (nI 0)] [] (am_S (am_row f 88 r14_88) g) _
    refine lp_m_answerBy_217_21 a0 f g i14 r14_88 hlC hlN hrC hrN hb14 _ ((f 89 202).toNatClampNeg) 0 r14_88  (by omega)  ?_
    rw [show am_forX (st_m_answerBy_217_21 a0 f i14) ((f 89 202).toNatClampNeg) 0 r14_88 = (lf_m_answerBy_217_21 a0 f i14 r14_88) from rfl]
    revert hK
    cases (lf_m_answerBy_217_21 a0 f i14 r14_88) with
    | inr z =>
      intro hK
      subst hKd
      exact hK
    | inl z21 =>
      intro hK wc
      (try simp only [Sum.elim_inl] at hK)
      refine am_F.ops (pc' := 14) (L' := [.ref 88, .int a0, .int ((f 88 28) &&& ((f 88 29) ^^^ (-1))), .int ((nI i14) + (-1)), wc]) (S' := []) (μ' := (am_S (am_row f 88 z21) g)) 2 rfl ?_
      rw [am_m1]
      subst hKd
      exact ih z21 wc (by omega)  hK
theorem x_m_answerBy_217 (a0 : Int32) (f : Nat → Nat → Int32) (g : Nat → Nat → Int64) (hlC : f 89 201 = nI (f 89 201).toNatClampNeg) (hlN : (f 89 201).toNatClampNeg ≤ 40) (hrC : f 89 202 = nI (f 89 202).toNatClampNeg) (hrN : (f 89 202).toNatClampNeg ≤ 30) : am_D 1 217 5 [.ref 88, .int a0] (am_S f g) (some (Value.int ((fn_m_answerBy_217 a0 f).1)), am_S (am_row f 88 ((fn_m_answerBy_217 a0 f).2)) g) := by
  refine am_D.of (code := am_k_217) rfl (L0 := [.ref 88, .int a0, am_un, am_un, am_un]) rfl ?_
  generalize hres : (some (Value.int ((fn_m_answerBy_217 a0 f).1)), am_S (am_row f 88 ((fn_m_answerBy_217 a0 f).2)) g) = res
  obtain ⟨K, hKd⟩ : ∃ K : (Int32 × (Nat → Int32)) → Prop, K = fun z => (some (Value.int z.1), am_S (am_row f 88 z.2) g) = res := ⟨_, rfl⟩
  have hK : K (fn_m_answerBy_217 a0 f) := by rw [hKd]; exact hres
  clear hres
  unfold fn_m_answerBy_217 at hK
  refine am_F.ops (pc' := 14) (L' := [.ref 88, .int a0, .int ((f 88 28) &&& ((f 88 29) ^^^ (-1))), .int 1, am_un]) (S' := []) (μ' := (am_S f g)) 10 rfl ?_
  refine am_F.mem (F' := (am_row f 88 (f 88))) (G' := g) ?_ (by first | rfl | (funext a; by_cases z0 : a = 88; (subst z0; rfl); simp only [am_ui, am_ul, am_row_ne z0])) (by first | rfl | (funext a; by_cases z0 : a = 88; (subst z0; rfl); simp only [am_ui, am_ul, am_row_ne z0]))
  show am_F _ _ 14 [.ref 88, .int a0, .int ((f 88 28) &&& ((f 88 29) ^^^ (-1))), .int ((nI 2) - 1), am_un] [] (am_S (am_row f 88 (f 88)) g) _
  refine lp_m_answerBy_217_14 a0 f g hlC hlN hrC hrN _ 2 (f 88) am_un (Nat.le_refl _)  ?_
  rw [show am_dnX (st_m_answerBy_217_14 a0 f) 2 (f 88) = (lf_m_answerBy_217_14 a0 f) from rfl]
  revert hK
  cases (lf_m_answerBy_217_14 a0 f) with
  | inr z =>
    intro hK
    subst hKd
    exact hK
  | inl z14 =>
    intro hK wc w14_4
    (try simp only [Sum.elim_inl] at hK)
    refine am_F.ops (pc' := 99) (L' := [.ref 88, .int a0, .int ((f 88 28) &&& ((f 88 29) ^^^ (-1))), wc, w14_4]) (S' := [.int (-1), .ref 88]) (μ' := (am_S (am_row f 88 z14) g)) 2 rfl ?_
    refine am_F.pfi (F' := (am_row f 88 (upd z14 24 (-1)))) rfl rfl (by first | rfl | (funext a; by_cases z0 : a = 88; (subst z0; rfl); simp only [am_ui, am_ul, am_row_ne z0])) ?_
    refine am_F.ops (pc' := 103) (L' := [.ref 88, .int a0, .int ((f 88 28) &&& ((f 88 29) ^^^ (-1))), wc, w14_4]) (S' := [.int 0]) (μ' := (am_S (am_row f 88 (upd z14 24 (-1))) g)) 1 rfl ?_
    subst hKd
    exact am_F.eq (am_F.ret rfl rfl) hK
/-- AccessLatticeModel.stand -/
def st_m_stand_155_2 (f : Nat → Nat → Int32) : Nat → (Nat → Int32) → (Nat → Int32) := fun i2 r2_93 => (upd r2_93 i2 (fn_m_allUnder (f 89 (184 + i2)) (am_row f 93 r2_93)))
def lf_m_stand_155_2 (f : Nat → Nat → Int32) : (Nat → Int32) := am_for (st_m_stand_155_2 f) 16 0 (f 93)
def fn_m_stand_155 (f : Nat → Nat → Int32) : (Nat → Int32) × (Nat → Int32) := ((lf_m_stand_155_2 f), (fn_m_standAgain_157 (am_row f 93 (lf_m_stand_155_2 f))))
theorem lp_m_stand_155_2 (f : Nat → Nat → Int32) (g : Nat → Nat → Int64) (hlC : f 89 201 = nI (f 89 201).toNatClampNeg) (hlN : (f 89 201).toNatClampNeg ≤ 40) (hrC : f 89 202 = nI (f 89 202).toNatClampNeg) (hrN : (f 89 202).toNatClampNeg ≤ 30) (hl0 : ∀ i, i < (f 89 201).toNatClampNeg → am_inb (fn_m_loanAt i 0 f) 16 = true) (hl5 : ∀ i, i < (f 89 201).toNatClampNeg → ¬ fn_m_loanAt i 5 f < 0 → am_inb (fn_m_loanAt i 5 f) 40 = true) (hl2 : ∀ i, i < (f 89 201).toNatClampNeg → am_inb (fn_m_loanAt i 2 f) 20 = true) (res : Option Value × am_M) : ∀ (n i2 : Nat) (r2_93 : Nat → Int32) , i2 + n = 16 → (fun (z : (Nat → Int32)) => ∀ (wc : Value), am_F 2 am_k_155 34 [.ref 88, wc] [] (am_S (am_row f 93 z) g) res) (am_for (st_m_stand_155_2 f) n i2 r2_93) → am_F 2 am_k_155 2 [.ref 88, .int (nI i2)] [] (am_S (am_row f 93 r2_93) g) res := by
  intro n
  induction n with
  | zero =>
    intro i2 r2_93 hi hK
    refine am_F.pos 3 rfl (by show 16 ≤ nI i2; rw [show (16 : Int32) = nI 16 from rfl]; exact nI_le (by omega) (by omega)) ?_
    exact hK _
  | succ n ih =>
    intro i2 r2_93 hi hK
    refine am_F.neg 3 rfl (by show ¬ 16 ≤ nI i2; rw [show (16 : Int32) = nI 16 from rfl]; exact nI_ge (by omega) (by omega)) ?_
    have hb2 : i2 < 16 := by omega
    show am_F _ _ 8 [.ref 88, .int (nI i2)] [] (am_S (am_row f 93 r2_93) g) _
    obtain ⟨K, hKd⟩ : ∃ K : ((Nat → Int32)) → Prop, K = fun s => (fun (z : (Nat → Int32)) => ∀ (wc : Value), am_F 2 am_k_155 34 [.ref 88, wc] [] (am_S (am_row f 93 z) g) res) (am_for (st_m_stand_155_2 f) n (i2 + 1) s) := ⟨_, rfl⟩
    have hK : K ((st_m_stand_155_2 f) i2 r2_93) := by rw [hKd]; exact hK
    unfold st_m_stand_155_2 at hK
    refine am_F.ops (pc' := 23) (L' := [.ref 88, .int (nI i2)]) (S' := [.int (184 + (nI i2)), .ref 89, .ref 88, .int (nI i2), .ref 93]) (μ' := (am_S (am_row f 93 r2_93) g)) 9 rfl ?_
    refine am_F.ialE (m := (184 + i2)) (N := 3340) rfl rfl rfl (am_addE rfl rfl) (by omega) (by decide) ?_
    show am_F _ _ 24 [.ref 88, .int (nI i2)] [.int (f 89 (184 + i2)), .ref 88, .int (nI i2), .ref 93] (am_S (am_row f 93 r2_93) g) _
    refine am_F.call rfl rfl (x_m_allUnder (f 89 (184 + i2)) (am_row f 93 r2_93) g ) (by decide) ?_
    show am_F _ _ 27 [.ref 88, .int (nI i2)] [.int (fn_m_allUnder (f 89 (184 + i2)) (am_row f 93 r2_93)), .int (nI i2), .ref 93] (am_S (am_row f 93 r2_93) g) _
    refine am_F.iasE (F' := (am_row f 93 (upd r2_93 i2 (fn_m_allUnder (f 89 (184 + i2)) (am_row f 93 r2_93))))) (m := i2) (N := 16) rfl rfl rfl rfl (by omega) (by decide) (by first | rfl | (funext a; by_cases z0 : a = 93; (subst z0; rfl); simp only [am_ui, am_ul, am_row_ne z0])) ?_
    refine am_F.ops (pc' := 2) (L' := [.ref 88, .int ((nI i2) + 1)]) (S' := []) (μ' := (am_S (am_row f 93 (upd r2_93 i2 (fn_m_allUnder (f 89 (184 + i2)) (am_row f 93 r2_93)))) g)) 2 rfl ?_
    rw [nI_1 i2]
    subst hKd
    exact ih (i2 + 1) (upd r2_93 i2 (fn_m_allUnder (f 89 (184 + i2)) (am_row f 93 r2_93))) (by omega)  hK
theorem x_m_stand_155 (f : Nat → Nat → Int32) (g : Nat → Nat → Int64) (hlC : f 89 201 = nI (f 89 201).toNatClampNeg) (hlN : (f 89 201).toNatClampNeg ≤ 40) (hrC : f 89 202 = nI (f 89 202).toNatClampNeg) (hrN : (f 89 202).toNatClampNeg ≤ 30) (hl0 : ∀ i, i < (f 89 201).toNatClampNeg → am_inb (fn_m_loanAt i 0 f) 16 = true) (hl5 : ∀ i, i < (f 89 201).toNatClampNeg → ¬ fn_m_loanAt i 5 f < 0 → am_inb (fn_m_loanAt i 5 f) 40 = true) (hl2 : ∀ i, i < (f 89 201).toNatClampNeg → am_inb (fn_m_loanAt i 2 f) 20 = true) : am_D 2 155 2 [.ref 88] (am_S f g) ((none : Option Value), am_S (am_row (am_row f 93 ((fn_m_stand_155 f).1)) 96 ((fn_m_stand_155 f).2)) g) := by
  refine am_D.of (code := am_k_155) rfl (L0 := [.ref 88, am_un]) rfl ?_
  generalize hres : ((none : Option Value), am_S (am_row (am_row f 93 ((fn_m_stand_155 f).1)) 96 ((fn_m_stand_155 f).2)) g) = res
  obtain ⟨K, hKd⟩ : ∃ K : ((Nat → Int32) × (Nat → Int32)) → Prop, K = fun z => ((none : Option Value), am_S (am_row (am_row f 93 z.1) 96 z.2) g) = res := ⟨_, rfl⟩
  have hK : K (fn_m_stand_155 f) := by rw [hKd]; exact hres
  clear hres
  unfold fn_m_stand_155 at hK
  refine am_F.ops (pc' := 2) (L' := [.ref 88, .int 0]) (S' := []) (μ' := (am_S f g)) 2 rfl ?_
  refine am_F.mem (F' := (am_row f 93 (f 93))) (G' := g) ?_ (by first | rfl | (funext a; by_cases z0 : a = 93; (subst z0; rfl); simp only [am_ui, am_ul, am_row_ne z0])) (by first | rfl | (funext a; by_cases z0 : a = 93; (subst z0; rfl); simp only [am_ui, am_ul, am_row_ne z0]))
  show am_F _ _ 2 [.ref 88, .int (nI 0)] [] (am_S (am_row f 93 (f 93)) g) _
  refine lp_m_stand_155_2 f g hlC hlN hrC hrN hl0 hl5 hl2 _ 16 0 (f 93)  (by omega)  ?_
  rw [show am_for (st_m_stand_155_2 f) 16 0 (f 93) = (lf_m_stand_155_2 f) from rfl]
  generalize (lf_m_stand_155_2 f) = z2_1 at hK ⊢
  intro wc
  show am_F _ _ 34 [.ref 88, wc] [] (am_S (am_row f 93 z2_1) g) _
  refine am_F.ops (pc' := 35) (L' := [.ref 88, wc]) (S' := [.ref 88]) (μ' := (am_S (am_row f 93 z2_1) g)) 1 rfl ?_
  refine am_F.call rfl rfl (x_m_standAgain_157  (am_row f 93 z2_1) g hlC hlN hrC hrN hl0 hl5 hl2) (by decide) ?_
  obtain ⟨y2, hy2⟩ : ∃ z, (fn_m_standAgain_157 (am_row f 93 z2_1)) = z := ⟨_, rfl⟩
  (try rw [hy2] at hK)
  (try rw [hy2])
  refine am_F.mem (F' := (am_row (am_row f 93 z2_1) 96 y2)) (G' := g) ?_ (by first | rfl | (funext a; by_cases z0 : a = 93; (subst z0; rfl); by_cases z1 : a = 96; (subst z1; rfl); simp only [am_ui, am_ul, am_row_ne z0, am_row_ne z1])) (by first | rfl | (funext a; by_cases z0 : a = 93; (subst z0; rfl); by_cases z1 : a = 96; (subst z1; rfl); simp only [am_ui, am_ul, am_row_ne z0, am_row_ne z1]))
  show am_F _ _ 38 [.ref 88, wc] [] (am_S (am_row (am_row f 93 z2_1) 96 y2) g) _
  subst hKd
  exact am_F.eq (am_F.ret rfl rfl) hK
/-- AccessLatticeModel.standing -/
def st_m_standing_168_8 (y1 : (Nat → Int32) × (Nat → Int32)) : Nat → Int32 → Int32 := fun i8 a8_1 => (a8_1 + (am_b (if (y1.2 i8) = 0 then false else true)))
def lf_m_standing_168_8 (f : Nat → Nat → Int32) (y1 : (Nat → Int32) × (Nat → Int32)) : Int32 := am_for (st_m_standing_168_8 y1) ((f 89 201).toNatClampNeg) 0 0
def fn_m_standing_168 (f : Nat → Nat → Int32) : Int32 × (Nat → Int32) × (Nat → Int32) := ((lf_m_standing_168_8 f (fn_m_stand_155 f)), (fn_m_stand_155 f).1, (fn_m_stand_155 f).2)
theorem lp_m_standing_168_8 (f : Nat → Nat → Int32) (g : Nat → Nat → Int64) (y1 : (Nat → Int32) × (Nat → Int32)) (hlC : f 89 201 = nI (f 89 201).toNatClampNeg) (hlN : (f 89 201).toNatClampNeg ≤ 40) (hrC : f 89 202 = nI (f 89 202).toNatClampNeg) (hrN : (f 89 202).toNatClampNeg ≤ 30) (hl0 : ∀ i, i < (f 89 201).toNatClampNeg → am_inb (fn_m_loanAt i 0 f) 16 = true) (hl5 : ∀ i, i < (f 89 201).toNatClampNeg → ¬ fn_m_loanAt i 5 f < 0 → am_inb (fn_m_loanAt i 5 f) 40 = true) (hl2 : ∀ i, i < (f 89 201).toNatClampNeg → am_inb (fn_m_loanAt i 2 f) 20 = true) (res : Option Value × am_M) : ∀ (n i8 : Nat) (a8_1 : Int32) , i8 + n = (f 89 201).toNatClampNeg → (fun (z : Int32) => ∀ (wc : Value), am_F 3 am_k_168 43 [.ref 88, .int z, wc] [] (am_S (am_row (am_row f 93 y1.1) 96 y1.2) g) res) (am_for (st_m_standing_168_8 y1) n i8 a8_1) → am_F 3 am_k_168 8 [.ref 88, .int a8_1, .int (nI i8)] [] (am_S (am_row (am_row f 93 y1.1) 96 y1.2) g) res := by
  intro n
  induction n with
  | zero =>
    intro i8 a8_1 hi hK
    refine am_F.pos 6 rfl (by show (f 89 201) ≤ nI i8; rw [show (f 89 201 : Int32) = nI ((f 89 201).toNatClampNeg) from hlC]; exact nI_le (by omega) (by omega)) ?_
    exact hK _
  | succ n ih =>
    intro i8 a8_1 hi hK
    refine am_F.neg 6 rfl (by show ¬ (f 89 201) ≤ nI i8; rw [show (f 89 201 : Int32) = nI ((f 89 201).toNatClampNeg) from hlC]; exact nI_ge (by omega) (by omega)) ?_
    have hb8 : i8 < (f 89 201).toNatClampNeg := by omega
    show am_F _ _ 20 [.ref 88, .int a8_1, .int (nI i8)] [] (am_S (am_row (am_row f 93 y1.1) 96 y1.2) g) _
    obtain ⟨K, hKd⟩ : ∃ K : (Int32) → Prop, K = fun s => (fun (z : Int32) => ∀ (wc : Value), am_F 3 am_k_168 43 [.ref 88, .int z, wc] [] (am_S (am_row (am_row f 93 y1.1) 96 y1.2) g) res) (am_for (st_m_standing_168_8 y1) n (i8 + 1) s) := ⟨_, rfl⟩
    have hK : K ((st_m_standing_168_8 y1) i8 a8_1) := by rw [hKd]; exact hK
    unfold st_m_standing_168_8 at hK
    refine am_F.ops (pc' := 26) (L' := [.ref 88, .int a8_1, .int (nI i8)]) (S' := [.int (nI i8), .ref 96, .int a8_1]) (μ' := (am_S (am_row (am_row f 93 y1.1) 96 y1.2) g)) 4 rfl ?_
    refine am_F.ialE (m := i8) (N := 40) rfl rfl rfl rfl (by omega) (by decide) ?_
    show am_F _ _ 27 [.ref 88, .int a8_1, .int (nI i8)] [.int (y1.2 i8), .int a8_1] (am_S (am_row (am_row f 93 y1.1) 96 y1.2) g) _
    refine am_F.to (am_To.iteB (pc' := 35) (L2 := [.ref 88, .int a8_1, .int (nI i8)]) (S2 := [.int a8_1]) (μ2 := (am_S (am_row (am_row f 93 y1.1) 96 y1.2) g)) (a := false) (b := true) 1 rfl (fun c2 => ?_) (fun c2 => ?_)) ?_
    · intro res9 g9
      show am_F _ _ 34 [.ref 88, .int a8_1, .int (nI i8)] [.int a8_1] (am_S (am_row (am_row f 93 y1.1) 96 y1.2) g) _
      refine am_F.ops (pc' := 35) (L' := [.ref 88, .int a8_1, .int (nI i8)]) (S' := [.int 0, .int a8_1]) (μ' := (am_S (am_row (am_row f 93 y1.1) 96 y1.2) g)) 1 rfl ?_
      exact g9
    · intro res9 g9
      show am_F _ _ 30 [.ref 88, .int a8_1, .int (nI i8)] [.int a8_1] (am_S (am_row (am_row f 93 y1.1) 96 y1.2) g) _
      refine am_F.ops (pc' := 35) (L' := [.ref 88, .int a8_1, .int (nI i8)]) (S' := [.int 1, .int a8_1]) (μ' := (am_S (am_row (am_row f 93 y1.1) 96 y1.2) g)) 2 rfl ?_
      exact g9
    show am_F _ _ 35 [.ref 88, .int a8_1, .int (nI i8)] [.int (am_b (if (y1.2 i8) = 0 then false else true)), .int a8_1] (am_S (am_row (am_row f 93 y1.1) 96 y1.2) g) _
    refine am_F.ops (pc' := 8) (L' := [.ref 88, .int (a8_1 + (am_b (if (y1.2 i8) = 0 then false else true))), .int ((nI i8) + 1)]) (S' := []) (μ' := (am_S (am_row (am_row f 93 y1.1) 96 y1.2) g)) 4 rfl ?_
    rw [nI_1 i8]
    subst hKd
    exact ih (i8 + 1) (a8_1 + (am_b (if (y1.2 i8) = 0 then false else true))) (by omega)  hK
theorem x_m_standing_168 (f : Nat → Nat → Int32) (g : Nat → Nat → Int64) (hlC : f 89 201 = nI (f 89 201).toNatClampNeg) (hlN : (f 89 201).toNatClampNeg ≤ 40) (hrC : f 89 202 = nI (f 89 202).toNatClampNeg) (hrN : (f 89 202).toNatClampNeg ≤ 30) (hl0 : ∀ i, i < (f 89 201).toNatClampNeg → am_inb (fn_m_loanAt i 0 f) 16 = true) (hl5 : ∀ i, i < (f 89 201).toNatClampNeg → ¬ fn_m_loanAt i 5 f < 0 → am_inb (fn_m_loanAt i 5 f) 40 = true) (hl2 : ∀ i, i < (f 89 201).toNatClampNeg → am_inb (fn_m_loanAt i 2 f) 20 = true) : am_D 3 168 3 [.ref 88] (am_S f g) (some (Value.int ((fn_m_standing_168 f).1)), am_S (am_row (am_row f 93 ((fn_m_standing_168 f).2.1)) 96 ((fn_m_standing_168 f).2.2)) g) := by
  refine am_D.of (code := am_k_168) rfl (L0 := [.ref 88, am_un, am_un]) rfl ?_
  generalize hres : (some (Value.int ((fn_m_standing_168 f).1)), am_S (am_row (am_row f 93 ((fn_m_standing_168 f).2.1)) 96 ((fn_m_standing_168 f).2.2)) g) = res
  obtain ⟨K, hKd⟩ : ∃ K : (Int32 × (Nat → Int32) × (Nat → Int32)) → Prop, K = fun z => (some (Value.int z.1), am_S (am_row (am_row f 93 z.2.1) 96 z.2.2) g) = res := ⟨_, rfl⟩
  have hK : K (fn_m_standing_168 f) := by rw [hKd]; exact hres
  clear hres
  unfold fn_m_standing_168 at hK
  refine am_F.ops (pc' := 1) (L' := [.ref 88, am_un, am_un]) (S' := [.ref 88]) (μ' := (am_S f g)) 1 rfl ?_
  refine am_F.call rfl rfl (x_m_stand_155  f g hlC hlN hrC hrN hl0 hl5 hl2) (by decide) ?_
  obtain ⟨y1, hy1⟩ : ∃ z, (fn_m_stand_155 f) = z := ⟨_, rfl⟩
  (try rw [hy1] at hK)
  (try rw [hy1])
  refine am_F.mem (F' := (am_row (am_row f 93 y1.1) 96 y1.2)) (G' := g) ?_ (by first | rfl | (funext a; by_cases z0 : a = 93; (subst z0; rfl); by_cases z1 : a = 96; (subst z1; rfl); simp only [am_ui, am_ul, am_row_ne z0, am_row_ne z1])) (by first | rfl | (funext a; by_cases z0 : a = 93; (subst z0; rfl); by_cases z1 : a = 96; (subst z1; rfl); simp only [am_ui, am_ul, am_row_ne z0, am_row_ne z1]))
  show am_F _ _ 4 [.ref 88, am_un, am_un] [] (am_S (am_row (am_row f 93 y1.1) 96 y1.2) g) _
  refine am_F.ops (pc' := 8) (L' := [.ref 88, .int 0, .int 0]) (S' := []) (μ' := (am_S (am_row (am_row f 93 y1.1) 96 y1.2) g)) 4 rfl ?_
  show am_F _ _ 8 [.ref 88, .int 0, .int (nI 0)] [] (am_S (am_row (am_row f 93 y1.1) 96 y1.2) g) _
  refine lp_m_standing_168_8 f g y1 hlC hlN hrC hrN hl0 hl5 hl2 _ ((f 89 201).toNatClampNeg) 0 0  (by omega)  ?_
  rw [show am_for (st_m_standing_168_8 y1) ((f 89 201).toNatClampNeg) 0 0 = (lf_m_standing_168_8 f y1) from rfl]
  generalize (lf_m_standing_168_8 f y1) = z8_3 at hK ⊢
  intro wc
  show am_F _ _ 43 [.ref 88, .int z8_3, wc] [] (am_S (am_row (am_row f 93 y1.1) 96 y1.2) g) _
  refine am_F.ops (pc' := 44) (L' := [.ref 88, .int z8_3, wc]) (S' := [.int z8_3]) (μ' := (am_S (am_row (am_row f 93 y1.1) 96 y1.2) g)) 1 rfl ?_
  subst hKd
  exact am_F.eq (am_F.ret rfl rfl) hK
/-- AccessLatticeModel.loan -/
def fn_m_loan_169 (a0 : Int32) (a1 : Int32) (f : Nat → Nat → Int32) : Int32 × (Nat → Int32) × (Nat → Int32) := (bif (fn_m_isIn a0 0 ((f 89 201) - 1)) then (bif (fn_m_isIn a1 0 6) then (if 6 ≤ a1 then (am_b (if ((fn_m_stand_155 f).2 (a0.toNatClampNeg)) = 0 then false else true), (fn_m_stand_155 f).1, (fn_m_stand_155 f).2) else ((fn_m_loanAt (a0.toNatClampNeg) (a1.toNatClampNeg) f), f 93, f 96)) else ((-1), f 93, f 96)) else ((-1), f 93, f 96))
theorem x_m_loan_169 (a0 : Int32) (a1 : Int32) (f : Nat → Nat → Int32) (g : Nat → Nat → Int64) (hlC : f 89 201 = nI (f 89 201).toNatClampNeg) (hlN : (f 89 201).toNatClampNeg ≤ 40) (hrC : f 89 202 = nI (f 89 202).toNatClampNeg) (hrN : (f 89 202).toNatClampNeg ≤ 30) (hl0 : ∀ i, i < (f 89 201).toNatClampNeg → am_inb (fn_m_loanAt i 0 f) 16 = true) (hl5 : ∀ i, i < (f 89 201).toNatClampNeg → ¬ fn_m_loanAt i 5 f < 0 → am_inb (fn_m_loanAt i 5 f) 40 = true) (hl2 : ∀ i, i < (f 89 201).toNatClampNeg → am_inb (fn_m_loanAt i 2 f) 20 = true) : am_D 3 169 3 [.ref 88, .int a0, .int a1] (am_S f g) (some (Value.int ((fn_m_loan_169 a0 a1 f).1)), am_S (am_row (am_row f 93 ((fn_m_loan_169 a0 a1 f).2.1)) 96 ((fn_m_loan_169 a0 a1 f).2.2)) g) := by
  refine am_D.of (code := am_k_169) rfl (L0 := [.ref 88, .int a0, .int a1]) rfl ?_
  generalize hres : (some (Value.int ((fn_m_loan_169 a0 a1 f).1)), am_S (am_row (am_row f 93 ((fn_m_loan_169 a0 a1 f).2.1)) 96 ((fn_m_loan_169 a0 a1 f).2.2)) g) = res
  obtain ⟨K, hKd⟩ : ∃ K : (Int32 × (Nat → Int32) × (Nat → Int32)) → Prop, K = fun z => (some (Value.int z.1), am_S (am_row (am_row f 93 z.2.1) 96 z.2.2) g) = res := ⟨_, rfl⟩
  have hK : K (fn_m_loan_169 a0 a1 f) := by rw [hKd]; exact hres
  clear hres
  unfold fn_m_loan_169 at hK
  refine am_F.ops (pc' := 12) (L' := [.ref 88, .int a0, .int a1]) (S' := [.int ((f 89 201) - 1), .int 0, .int a0]) (μ' := (am_S f g)) 8 rfl ?_
  refine am_F.call rfl rfl (x_m_isIn a0 0 ((f 89 201) - 1) f g ) (by decide) ?_
  show am_F _ _ 15 [.ref 88, .int a0, .int a1] [.int (am_b (fn_m_isIn a0 0 ((f 89 201) - 1)))] (am_S f g) _
  refine am_F.bifK 1 rfl K hK (fun c1 hK => ?_) (fun c1 hK => ?_)
  · obtain ⟨a0_n, ha0_n, ea0_n⟩ := am_mInM c1 hlC (by omega)
    subst ea0_n
    try simp only [nI_clamp (show a0_n < 2147483648 by omega)] at hK
    show am_F _ _ 18 [.ref 88, .int (nI a0_n), .int a1] [] (am_S f g) _
    refine am_F.ops (pc' := 22) (L' := [.ref 88, .int (nI a0_n), .int a1]) (S' := [.int 6, .int 0, .int a1]) (μ' := (am_S f g)) 3 rfl ?_
    refine am_F.call rfl rfl (x_m_isIn a1 0 6 f g ) (by decide) ?_
    show am_F _ _ 25 [.ref 88, .int (nI a0_n), .int a1] [.int (am_b (fn_m_isIn a1 0 6))] (am_S f g) _
    refine am_F.bifK 1 rfl K hK (fun c2 hK => ?_) (fun c2 hK => ?_)
    · obtain ⟨a1_n, ha1_n, ea1_n⟩ := am_mInN (N := 7) c2 (by decide)
      subst ea1_n
      try simp only [nI_clamp (show a1_n < 2147483648 by omega)] at hK
      show am_F _ _ 30 [.ref 88, .int (nI a0_n), .int (nI a1_n)] [] (am_S f g) _
      refine am_F.ops (pc' := 33) (L' := [.ref 88, .int (nI a0_n), .int (nI a1_n)]) (S' := [.int 6, .int (nI a1_n)]) (μ' := (am_S f g)) 2 rfl ?_
      refine am_F.iteK 1 rfl K hK (fun c3 hK => ?_) (fun c3 hK => ?_)
      · show am_F _ _ 43 [.ref 88, .int (nI a0_n), .int (nI a1_n)] [] (am_S f g) _
        refine am_F.ops (pc' := 44) (L' := [.ref 88, .int (nI a0_n), .int (nI a1_n)]) (S' := [.ref 88]) (μ' := (am_S f g)) 1 rfl ?_
        refine am_F.call rfl rfl (x_m_stand_155  f g hlC hlN hrC hrN hl0 hl5 hl2) (by decide) ?_
        obtain ⟨y4, hy4⟩ : ∃ z, (fn_m_stand_155 f) = z := ⟨_, rfl⟩
        (try rw [hy4] at hK)
        (try rw [hy4])
        refine am_F.mem (F' := (am_row (am_row f 93 y4.1) 96 y4.2)) (G' := g) ?_ (by first | rfl | (funext a; by_cases z0 : a = 93; (subst z0; rfl); by_cases z1 : a = 96; (subst z1; rfl); simp only [am_ui, am_ul, am_row_ne z0, am_row_ne z1])) (by first | rfl | (funext a; by_cases z0 : a = 93; (subst z0; rfl); by_cases z1 : a = 96; (subst z1; rfl); simp only [am_ui, am_ul, am_row_ne z0, am_row_ne z1]))
        show am_F _ _ 47 [.ref 88, .int (nI a0_n), .int (nI a1_n)] [] (am_S (am_row (am_row f 93 y4.1) 96 y4.2) g) _
        refine am_F.ops (pc' := 52) (L' := [.ref 88, .int (nI a0_n), .int (nI a1_n)]) (S' := [.int (nI a0_n), .ref 96]) (μ' := (am_S (am_row (am_row f 93 y4.1) 96 y4.2) g)) 3 rfl ?_
        refine am_F.ialE (m := a0_n) (N := 40) rfl rfl rfl rfl (by omega) (by decide) ?_
        show am_F _ _ 53 [.ref 88, .int (nI a0_n), .int (nI a1_n)] [.int (y4.2 a0_n)] (am_S (am_row (am_row f 93 y4.1) 96 y4.2) g) _
        refine am_F.to (am_To.iteB (pc' := 61) (L2 := [.ref 88, .int (nI a0_n), .int (nI a1_n)]) (S2 := []) (μ2 := (am_S (am_row (am_row f 93 y4.1) 96 y4.2) g)) (a := false) (b := true) 1 rfl (fun c5 => ?_) (fun c5 => ?_)) ?_
        · intro res9 g9
          show am_F _ _ 60 [.ref 88, .int (nI a0_n), .int (nI a1_n)] [] (am_S (am_row (am_row f 93 y4.1) 96 y4.2) g) _
          refine am_F.ops (pc' := 61) (L' := [.ref 88, .int (nI a0_n), .int (nI a1_n)]) (S' := [.int 0]) (μ' := (am_S (am_row (am_row f 93 y4.1) 96 y4.2) g)) 1 rfl ?_
          exact g9
        · intro res9 g9
          show am_F _ _ 56 [.ref 88, .int (nI a0_n), .int (nI a1_n)] [] (am_S (am_row (am_row f 93 y4.1) 96 y4.2) g) _
          refine am_F.ops (pc' := 61) (L' := [.ref 88, .int (nI a0_n), .int (nI a1_n)]) (S' := [.int 1]) (μ' := (am_S (am_row (am_row f 93 y4.1) 96 y4.2) g)) 2 rfl ?_
          exact g9
        show am_F _ _ 61 [.ref 88, .int (nI a0_n), .int (nI a1_n)] [.int (am_b (if (y4.2 a0_n) = 0 then false else true))] (am_S (am_row (am_row f 93 y4.1) 96 y4.2) g) _
        subst hKd
        exact am_F.eq (am_F.ret rfl rfl) hK
      · show am_F _ _ 36 [.ref 88, .int (nI a0_n), .int (nI a1_n)] [] (am_S f g) _
        refine am_F.ops (pc' := 39) (L' := [.ref 88, .int (nI a0_n), .int (nI a1_n)]) (S' := [.int (nI a1_n), .int (nI a0_n), .ref 88]) (μ' := (am_S f g)) 3 rfl ?_
        refine am_F.call rfl rfl (x_m_loanAt a0_n a1_n f g (by omega) (by omega)) (by decide) ?_
        show am_F _ _ 42 [.ref 88, .int (nI a0_n), .int (nI a1_n)] [.int (fn_m_loanAt a0_n a1_n f)] (am_S f g) _
        refine am_F.mem (F' := (am_row (am_row f 93 (f 93)) 96 (f 96))) (G' := g) ?_ (by first | rfl | (funext a; by_cases z0 : a = 93; (subst z0; rfl); by_cases z1 : a = 96; (subst z1; rfl); simp only [am_ui, am_ul, am_row_ne z0, am_row_ne z1])) (by first | rfl | (funext a; by_cases z0 : a = 93; (subst z0; rfl); by_cases z1 : a = 96; (subst z1; rfl); simp only [am_ui, am_ul, am_row_ne z0, am_row_ne z1]))
        subst hKd
        exact am_F.eq (am_F.ret rfl rfl) hK
    · show am_F _ _ 28 [.ref 88, .int (nI a0_n), .int a1] [] (am_S f g) _
      refine am_F.ops (pc' := 29) (L' := [.ref 88, .int (nI a0_n), .int a1]) (S' := [.int (-1)]) (μ' := (am_S f g)) 1 rfl ?_
      refine am_F.mem (F' := (am_row (am_row f 93 (f 93)) 96 (f 96))) (G' := g) ?_ (by first | rfl | (funext a; by_cases z0 : a = 93; (subst z0; rfl); by_cases z1 : a = 96; (subst z1; rfl); simp only [am_ui, am_ul, am_row_ne z0, am_row_ne z1])) (by first | rfl | (funext a; by_cases z0 : a = 93; (subst z0; rfl); by_cases z1 : a = 96; (subst z1; rfl); simp only [am_ui, am_ul, am_row_ne z0, am_row_ne z1]))
      subst hKd
      exact am_F.eq (am_F.ret rfl rfl) hK
  · show am_F _ _ 28 [.ref 88, .int a0, .int a1] [] (am_S f g) _
    refine am_F.ops (pc' := 29) (L' := [.ref 88, .int a0, .int a1]) (S' := [.int (-1)]) (μ' := (am_S f g)) 1 rfl ?_
    refine am_F.mem (F' := (am_row (am_row f 93 (f 93)) 96 (f 96))) (G' := g) ?_ (by first | rfl | (funext a; by_cases z0 : a = 93; (subst z0; rfl); by_cases z1 : a = 96; (subst z1; rfl); simp only [am_ui, am_ul, am_row_ne z0, am_row_ne z1])) (by first | rfl | (funext a; by_cases z0 : a = 93; (subst z0; rfl); by_cases z1 : a = 96; (subst z1; rfl); simp only [am_ui, am_ul, am_row_ne z0, am_row_ne z1]))
    subst hKd
    exact am_F.eq (am_F.ret rfl rfl) hK
/-- AccessLatticeModel.holds -/
def fn_m_holds_170 (a0 : Int32) (a1 : Int32) (f : Nat → Nat → Int32) : Int32 × (Nat → Int32) × (Nat → Int32) := (bif (fn_m_isOne a0) then (bif (fn_m_isIn a1 0 2) then (if a1 = 1 then (f 89 (184 + (a0.toNatClampNeg)), f 93, f 96) else (if a1 = 2 then ((fn_m_allUnder (f 89 (184 + (a0.toNatClampNeg))) f), f 93, f 96) else ((fn_m_heldBy_159 (a0.toNatClampNeg) (am_row (am_row f 93 (fn_m_stand_155 f).1) 96 (fn_m_stand_155 f).2)), (fn_m_stand_155 f).1, (fn_m_stand_155 f).2))) else ((-1), f 93, f 96)) else ((-1), f 93, f 96))
theorem x_m_holds_170 (a0 : Int32) (a1 : Int32) (f : Nat → Nat → Int32) (g : Nat → Nat → Int64) (hlC : f 89 201 = nI (f 89 201).toNatClampNeg) (hlN : (f 89 201).toNatClampNeg ≤ 40) (hrC : f 89 202 = nI (f 89 202).toNatClampNeg) (hrN : (f 89 202).toNatClampNeg ≤ 30) (hl0 : ∀ i, i < (f 89 201).toNatClampNeg → am_inb (fn_m_loanAt i 0 f) 16 = true) (hl5 : ∀ i, i < (f 89 201).toNatClampNeg → ¬ fn_m_loanAt i 5 f < 0 → am_inb (fn_m_loanAt i 5 f) 40 = true) (hl2 : ∀ i, i < (f 89 201).toNatClampNeg → am_inb (fn_m_loanAt i 2 f) 20 = true) : am_D 3 170 3 [.ref 88, .int a0, .int a1] (am_S f g) (some (Value.int ((fn_m_holds_170 a0 a1 f).1)), am_S (am_row (am_row f 93 ((fn_m_holds_170 a0 a1 f).2.1)) 96 ((fn_m_holds_170 a0 a1 f).2.2)) g) := by
  refine am_D.of (code := am_k_170) rfl (L0 := [.ref 88, .int a0, .int a1]) rfl ?_
  generalize hres : (some (Value.int ((fn_m_holds_170 a0 a1 f).1)), am_S (am_row (am_row f 93 ((fn_m_holds_170 a0 a1 f).2.1)) 96 ((fn_m_holds_170 a0 a1 f).2.2)) g) = res
  obtain ⟨K, hKd⟩ : ∃ K : (Int32 × (Nat → Int32) × (Nat → Int32)) → Prop, K = fun z => (some (Value.int z.1), am_S (am_row (am_row f 93 z.2.1) 96 z.2.2) g) = res := ⟨_, rfl⟩
  have hK : K (fn_m_holds_170 a0 a1 f) := by rw [hKd]; exact hres
  clear hres
  unfold fn_m_holds_170 at hK
  refine am_F.ops (pc' := 1) (L' := [.ref 88, .int a0, .int a1]) (S' := [.int a0]) (μ' := (am_S f g)) 1 rfl ?_
  refine am_F.call rfl rfl (x_m_isOne a0 f g ) (by decide) ?_
  show am_F _ _ 4 [.ref 88, .int a0, .int a1] [.int (am_b (fn_m_isOne a0))] (am_S f g) _
  refine am_F.bifK 1 rfl K hK (fun c1 hK => ?_) (fun c1 hK => ?_)
  · obtain ⟨a0_n, ha0_n, ea0_n⟩ := am_mOne c1
    subst ea0_n
    try simp only [nI_clamp (show a0_n < 2147483648 by omega)] at hK
    show am_F _ _ 7 [.ref 88, .int (nI a0_n), .int a1] [] (am_S f g) _
    refine am_F.ops (pc' := 10) (L' := [.ref 88, .int (nI a0_n), .int a1]) (S' := [.int 2, .int 0, .int a1]) (μ' := (am_S f g)) 3 rfl ?_
    refine am_F.call rfl rfl (x_m_isIn a1 0 2 f g ) (by decide) ?_
    show am_F _ _ 13 [.ref 88, .int (nI a0_n), .int a1] [.int (am_b (fn_m_isIn a1 0 2))] (am_S f g) _
    refine am_F.bifK 1 rfl K hK (fun c2 hK => ?_) (fun c2 hK => ?_)
    · obtain ⟨a1_n, ha1_n, ea1_n⟩ := am_mInN (N := 3) c2 (by decide)
      subst ea1_n
      try simp only [nI_clamp (show a1_n < 2147483648 by omega)] at hK
      show am_F _ _ 18 [.ref 88, .int (nI a0_n), .int (nI a1_n)] [] (am_S f g) _
      refine am_F.ops (pc' := 20) (L' := [.ref 88, .int (nI a0_n), .int (nI a1_n)]) (S' := [.int 1, .int (nI a1_n)]) (μ' := (am_S f g)) 2 rfl ?_
      refine am_F.iteK 1 rfl K hK (fun c3 hK => ?_) (fun c3 hK => ?_)
      · show am_F _ _ 23 [.ref 88, .int (nI a0_n), .int (nI a1_n)] [] (am_S f g) _
        refine am_F.ops (pc' := 32) (L' := [.ref 88, .int (nI a0_n), .int (nI a1_n)]) (S' := [.int (184 + (nI a0_n)), .ref 89]) (μ' := (am_S f g)) 5 rfl ?_
        refine am_F.ialE (m := (184 + a0_n)) (N := 3340) rfl rfl rfl (am_addE rfl rfl) (by omega) (by decide) ?_
        show am_F _ _ 33 [.ref 88, .int (nI a0_n), .int (nI a1_n)] [.int (f 89 (184 + a0_n))] (am_S f g) _
        refine am_F.mem (F' := (am_row (am_row f 93 (f 93)) 96 (f 96))) (G' := g) ?_ (by first | rfl | (funext a; by_cases z0 : a = 93; (subst z0; rfl); by_cases z1 : a = 96; (subst z1; rfl); simp only [am_ui, am_ul, am_row_ne z0, am_row_ne z1])) (by first | rfl | (funext a; by_cases z0 : a = 93; (subst z0; rfl); by_cases z1 : a = 96; (subst z1; rfl); simp only [am_ui, am_ul, am_row_ne z0, am_row_ne z1]))
        subst hKd
        exact am_F.eq (am_F.ret rfl rfl) hK
      · show am_F _ _ 34 [.ref 88, .int (nI a0_n), .int (nI a1_n)] [] (am_S f g) _
        refine am_F.ops (pc' := 36) (L' := [.ref 88, .int (nI a0_n), .int (nI a1_n)]) (S' := [.int 2, .int (nI a1_n)]) (μ' := (am_S f g)) 2 rfl ?_
        refine am_F.iteK 1 rfl K hK (fun c4 hK => ?_) (fun c4 hK => ?_)
        · show am_F _ _ 39 [.ref 88, .int (nI a0_n), .int (nI a1_n)] [] (am_S f g) _
          refine am_F.ops (pc' := 49) (L' := [.ref 88, .int (nI a0_n), .int (nI a1_n)]) (S' := [.int (184 + (nI a0_n)), .ref 89, .ref 88]) (μ' := (am_S f g)) 6 rfl ?_
          refine am_F.ialE (m := (184 + a0_n)) (N := 3340) rfl rfl rfl (am_addE rfl rfl) (by omega) (by decide) ?_
          show am_F _ _ 50 [.ref 88, .int (nI a0_n), .int (nI a1_n)] [.int (f 89 (184 + a0_n)), .ref 88] (am_S f g) _
          refine am_F.call rfl rfl (x_m_allUnder (f 89 (184 + a0_n)) f g ) (by decide) ?_
          show am_F _ _ 53 [.ref 88, .int (nI a0_n), .int (nI a1_n)] [.int (fn_m_allUnder (f 89 (184 + a0_n)) f)] (am_S f g) _
          refine am_F.mem (F' := (am_row (am_row f 93 (f 93)) 96 (f 96))) (G' := g) ?_ (by first | rfl | (funext a; by_cases z0 : a = 93; (subst z0; rfl); by_cases z1 : a = 96; (subst z1; rfl); simp only [am_ui, am_ul, am_row_ne z0, am_row_ne z1])) (by first | rfl | (funext a; by_cases z0 : a = 93; (subst z0; rfl); by_cases z1 : a = 96; (subst z1; rfl); simp only [am_ui, am_ul, am_row_ne z0, am_row_ne z1]))
          subst hKd
          exact am_F.eq (am_F.ret rfl rfl) hK
        · show am_F _ _ 54 [.ref 88, .int (nI a0_n), .int (nI a1_n)] [] (am_S f g) _
          refine am_F.ops (pc' := 55) (L' := [.ref 88, .int (nI a0_n), .int (nI a1_n)]) (S' := [.ref 88]) (μ' := (am_S f g)) 1 rfl ?_
          refine am_F.call rfl rfl (x_m_stand_155  f g hlC hlN hrC hrN hl0 hl5 hl2) (by decide) ?_
          obtain ⟨y5, hy5⟩ : ∃ z, (fn_m_stand_155 f) = z := ⟨_, rfl⟩
          (try rw [hy5] at hK)
          (try rw [hy5])
          refine am_F.mem (F' := (am_row (am_row f 93 y5.1) 96 y5.2)) (G' := g) ?_ (by first | rfl | (funext a; by_cases z0 : a = 93; (subst z0; rfl); by_cases z1 : a = 96; (subst z1; rfl); simp only [am_ui, am_ul, am_row_ne z0, am_row_ne z1])) (by first | rfl | (funext a; by_cases z0 : a = 93; (subst z0; rfl); by_cases z1 : a = 96; (subst z1; rfl); simp only [am_ui, am_ul, am_row_ne z0, am_row_ne z1]))
          show am_F _ _ 58 [.ref 88, .int (nI a0_n), .int (nI a1_n)] [] (am_S (am_row (am_row f 93 y5.1) 96 y5.2) g) _
          refine am_F.ops (pc' := 60) (L' := [.ref 88, .int (nI a0_n), .int (nI a1_n)]) (S' := [.int (nI a0_n), .ref 88]) (μ' := (am_S (am_row (am_row f 93 y5.1) 96 y5.2) g)) 2 rfl ?_
          refine am_F.call rfl rfl (x_m_heldBy_159 a0_n (am_row (am_row f 93 y5.1) 96 y5.2) g hlC hlN hrC hrN hl0 hl5 hl2 (by omega)) (by decide) ?_
          show am_F _ _ 63 [.ref 88, .int (nI a0_n), .int (nI a1_n)] [.int (fn_m_heldBy_159 a0_n (am_row (am_row f 93 y5.1) 96 y5.2))] (am_S (am_row (am_row f 93 y5.1) 96 y5.2) g) _
          subst hKd
          exact am_F.eq (am_F.ret rfl rfl) hK
    · show am_F _ _ 16 [.ref 88, .int (nI a0_n), .int a1] [] (am_S f g) _
      refine am_F.ops (pc' := 17) (L' := [.ref 88, .int (nI a0_n), .int a1]) (S' := [.int (-1)]) (μ' := (am_S f g)) 1 rfl ?_
      refine am_F.mem (F' := (am_row (am_row f 93 (f 93)) 96 (f 96))) (G' := g) ?_ (by first | rfl | (funext a; by_cases z0 : a = 93; (subst z0; rfl); by_cases z1 : a = 96; (subst z1; rfl); simp only [am_ui, am_ul, am_row_ne z0, am_row_ne z1])) (by first | rfl | (funext a; by_cases z0 : a = 93; (subst z0; rfl); by_cases z1 : a = 96; (subst z1; rfl); simp only [am_ui, am_ul, am_row_ne z0, am_row_ne z1]))
      subst hKd
      exact am_F.eq (am_F.ret rfl rfl) hK
  · show am_F _ _ 16 [.ref 88, .int a0, .int a1] [] (am_S f g) _
    refine am_F.ops (pc' := 17) (L' := [.ref 88, .int a0, .int a1]) (S' := [.int (-1)]) (μ' := (am_S f g)) 1 rfl ?_
    refine am_F.mem (F' := (am_row (am_row f 93 (f 93)) 96 (f 96))) (G' := g) ?_ (by first | rfl | (funext a; by_cases z0 : a = 93; (subst z0; rfl); by_cases z1 : a = 96; (subst z1; rfl); simp only [am_ui, am_ul, am_row_ne z0, am_row_ne z1])) (by first | rfl | (funext a; by_cases z0 : a = 93; (subst z0; rfl); by_cases z1 : a = 96; (subst z1; rfl); simp only [am_ui, am_ul, am_row_ne z0, am_row_ne z1]))
    subst hKd
    exact am_F.eq (am_F.ret rfl rfl) hK
/-- AccessLatticeModel.takes -/
def fn_m_takes_185 (a0 : Int32) (f : Nat → Nat → Int32) : (Nat → Int32) := (bif (fn_m_sees_186 a0 f) then upd (f 88) 12 ((f 88 12) + 1) else (fn_m_fails (f 88 12) f))
theorem x_m_takes_185 (a0 : Int32) (f : Nat → Nat → Int32) (g : Nat → Nat → Int64) (hlC : f 89 201 = nI (f 89 201).toNatClampNeg) (hlN : (f 89 201).toNatClampNeg ≤ 40) (hrC : f 89 202 = nI (f 89 202).toNatClampNeg) (hrN : (f 89 202).toNatClampNeg ≤ 30) (hpI : ¬ f 88 11 ≤ f 88 12 → am_inb (f 88 12) 80 = true) : am_D 1 185 2 [.ref 88, .int a0] (am_S f g) ((none : Option Value), am_S (am_row f 88 (fn_m_takes_185 a0 f)) g) := by
  refine am_D.of (code := am_k_185) rfl (L0 := [.ref 88, .int a0]) rfl ?_
  generalize hres : ((none : Option Value), am_S (am_row f 88 (fn_m_takes_185 a0 f)) g) = res
  obtain ⟨K, hKd⟩ : ∃ K : (Nat → Int32) → Prop, K = fun z => ((none : Option Value), am_S (am_row f 88 z) g) = res := ⟨_, rfl⟩
  have hK : K (fn_m_takes_185 a0 f) := by rw [hKd]; exact hres
  clear hres
  unfold fn_m_takes_185 at hK
  refine am_F.ops (pc' := 2) (L' := [.ref 88, .int a0]) (S' := [.int a0, .ref 88]) (μ' := (am_S f g)) 2 rfl ?_
  refine am_F.call rfl rfl (x_m_sees_186 a0 f g hlC hlN hrC hrN hpI) (by decide) ?_
  show am_F _ _ 5 [.ref 88, .int a0] [.int (am_b (fn_m_sees_186 a0 f))] (am_S f g) _
  refine am_F.bifK 1 rfl K hK (fun c2 hK => ?_) (fun c2 hK => ?_)
  · show am_F _ _ 8 [.ref 88, .int a0] [] (am_S f g) _
    refine am_F.ops (pc' := 15) (L' := [.ref 88, .int a0]) (S' := [.int ((f 88 12) + 1), .ref 88]) (μ' := (am_S f g)) 5 rfl ?_
    refine am_F.pfi (F' := (am_row f 88 (upd (f 88) 12 ((f 88 12) + 1)))) rfl rfl (by first | rfl | (funext a; by_cases z0 : a = 88; (subst z0; rfl); simp only [am_ui, am_ul, am_row_ne z0])) ?_
    refine am_F.ops (pc' := 29) (L' := [.ref 88, .int a0]) (S' := []) (μ' := (am_S (am_row f 88 (upd (f 88) 12 ((f 88 12) + 1))) g)) 1 rfl ?_
    subst hKd
    exact am_F.eq (am_F.ret rfl rfl) hK
  · show am_F _ _ 21 [.ref 88, .int a0] [] (am_S f g) _
    refine am_F.ops (pc' := 26) (L' := [.ref 88, .int a0]) (S' := [.int (f 88 12), .ref 88]) (μ' := (am_S f g)) 3 rfl ?_
    refine am_F.call rfl rfl (x_m_fails (f 88 12) f g ) (by decide) ?_
    obtain ⟨y3, hy3⟩ : ∃ z, (fn_m_fails (f 88 12) f) = z := ⟨_, rfl⟩
    (try rw [hy3] at hK)
    (try rw [hy3])
    refine am_F.mem (F' := (am_row f 88 y3)) (G' := g) ?_ (by first | rfl | (funext a; by_cases z0 : a = 88; (subst z0; rfl); simp only [am_ui, am_ul, am_row_ne z0])) (by first | rfl | (funext a; by_cases z0 : a = 88; (subst z0; rfl); simp only [am_ui, am_ul, am_row_ne z0]))
    show am_F _ _ 29 [.ref 88, .int a0] [] (am_S (am_row f 88 y3) g) _
    subst hKd
    exact am_F.eq (am_F.ret rfl rfl) hK
/-- AccessLatticeModel.idle -/
def st_m_idle_228_21 (f : Nat → Nat → Int32) (y2 : (Nat → Int32) × (Nat → Int32)) : Nat → Int32 → Int32 := fun i21 a21_2 => (a21_2 &&& (if (fn_m_ruleAt i21 0 (am_row (am_row f 93 y2.1) 96 y2.2)) = 0 then (1 <<< ((fn_m_ruleAt i21 1 (am_row (am_row f 93 y2.1) 96 y2.2)) &&& 31)) ^^^ (-1) else (-1)))
def lf_m_idle_228_21 (a0_n : Nat) (f : Nat → Nat → Int32) (y2 : (Nat → Int32) × (Nat → Int32)) : Int32 := am_for (st_m_idle_228_21 f y2) ((f 89 202).toNatClampNeg) 0 (fn_m_heldBy_159 a0_n (am_row (am_row f 93 y2.1) 96 y2.2))
def fn_m_idle_228 (a0 : Int32) (f : Nat → Nat → Int32) : Int32 × (Nat → Int32) × (Nat → Int32) := (bif (fn_m_isOne a0) then ((lf_m_idle_228_21 (a0.toNatClampNeg) f (fn_m_stand_155 f)), (fn_m_stand_155 f).1, (fn_m_stand_155 f).2) else ((-1), f 93, f 96))
theorem lp_m_idle_228_21 (a0_n : Nat) (f : Nat → Nat → Int32) (g : Nat → Nat → Int64) (y2 : (Nat → Int32) × (Nat → Int32)) (hlC : f 89 201 = nI (f 89 201).toNatClampNeg) (hlN : (f 89 201).toNatClampNeg ≤ 40) (hrC : f 89 202 = nI (f 89 202).toNatClampNeg) (hrN : (f 89 202).toNatClampNeg ≤ 30) (hl0 : ∀ i, i < (f 89 201).toNatClampNeg → am_inb (fn_m_loanAt i 0 f) 16 = true) (hl5 : ∀ i, i < (f 89 201).toNatClampNeg → ¬ fn_m_loanAt i 5 f < 0 → am_inb (fn_m_loanAt i 5 f) 40 = true) (hl2 : ∀ i, i < (f 89 201).toNatClampNeg → am_inb (fn_m_loanAt i 2 f) 20 = true) (ha0_n : a0_n < 16) (res : Option Value × am_M) : ∀ (n i21 : Nat) (a21_2 : Int32) , i21 + n = (f 89 202).toNatClampNeg → (fun (z : Int32) => ∀ (wc : Value), am_F 3 am_k_228 65 [.ref 88, .int (nI a0_n), .int z, wc] [] (am_S (am_row (am_row f 93 y2.1) 96 y2.2) g) res) (am_for (st_m_idle_228_21 f y2) n i21 a21_2) → am_F 3 am_k_228 21 [.ref 88, .int (nI a0_n), .int a21_2, .int (nI i21)] [] (am_S (am_row (am_row f 93 y2.1) 96 y2.2) g) res := by
  intro n
  induction n with
  | zero =>
    intro i21 a21_2 hi hK
    refine am_F.pos 6 rfl (by show (f 89 202) ≤ nI i21; rw [show (f 89 202 : Int32) = nI ((f 89 202).toNatClampNeg) from hrC]; exact nI_le (by omega) (by omega)) ?_
    exact hK _
  | succ n ih =>
    intro i21 a21_2 hi hK
    refine am_F.neg 6 rfl (by show ¬ (f 89 202) ≤ nI i21; rw [show (f 89 202 : Int32) = nI ((f 89 202).toNatClampNeg) from hrC]; exact nI_ge (by omega) (by omega)) ?_
    have hb21 : i21 < (f 89 202).toNatClampNeg := by omega
    show am_F _ _ 33 [.ref 88, .int (nI a0_n), .int a21_2, .int (nI i21)] [] (am_S (am_row (am_row f 93 y2.1) 96 y2.2) g) _
    obtain ⟨K, hKd⟩ : ∃ K : (Int32) → Prop, K = fun s => (fun (z : Int32) => ∀ (wc : Value), am_F 3 am_k_228 65 [.ref 88, .int (nI a0_n), .int z, wc] [] (am_S (am_row (am_row f 93 y2.1) 96 y2.2) g) res) (am_for (st_m_idle_228_21 f y2) n (i21 + 1) s) := ⟨_, rfl⟩
    have hK : K ((st_m_idle_228_21 f y2) i21 a21_2) := by rw [hKd]; exact hK
    unfold st_m_idle_228_21 at hK
    refine am_F.ops (pc' := 37) (L' := [.ref 88, .int (nI a0_n), .int a21_2, .int (nI i21)]) (S' := [.int 0, .int (nI i21), .ref 88, .int a21_2]) (μ' := (am_S (am_row (am_row f 93 y2.1) 96 y2.2) g)) 4 rfl ?_
    refine am_F.call rfl rfl (by rw [show (0 : Int32) = nI 0 from rfl]; exact (x_m_ruleAt i21 0 (am_row (am_row f 93 y2.1) 96 y2.2) g (by omega) (by omega))) (by decide) ?_
    show am_F _ _ 40 [.ref 88, .int (nI a0_n), .int a21_2, .int (nI i21)] [.int (fn_m_ruleAt i21 0 (am_row (am_row f 93 y2.1) 96 y2.2)), .int a21_2] (am_S (am_row (am_row f 93 y2.1) 96 y2.2) g) _
    refine am_F.to (am_To.ite (pc' := 57) (L2 := [.ref 88, .int (nI a0_n), .int a21_2, .int (nI i21)]) (S2 := [.int a21_2]) (μ2 := (am_S (am_row (am_row f 93 y2.1) 96 y2.2) g)) (a := (1 <<< ((fn_m_ruleAt i21 1 (am_row (am_row f 93 y2.1) 96 y2.2)) &&& 31)) ^^^ (-1)) (b := (-1)) 1 rfl (fun c3 => ?_) (fun c3 => ?_)) ?_
    · intro res9 g9
      show am_F _ _ 43 [.ref 88, .int (nI a0_n), .int a21_2, .int (nI i21)] [.int a21_2] (am_S (am_row (am_row f 93 y2.1) 96 y2.2) g) _
      refine am_F.ops (pc' := 47) (L' := [.ref 88, .int (nI a0_n), .int a21_2, .int (nI i21)]) (S' := [.int 1, .int (nI i21), .ref 88, .int 1, .int a21_2]) (μ' := (am_S (am_row (am_row f 93 y2.1) 96 y2.2) g)) 4 rfl ?_
      refine am_F.call rfl rfl (by rw [show (1 : Int32) = nI 1 from rfl]; exact (x_m_ruleAt i21 1 (am_row (am_row f 93 y2.1) 96 y2.2) g (by omega) (by omega))) (by decide) ?_
      show am_F _ _ 50 [.ref 88, .int (nI a0_n), .int a21_2, .int (nI i21)] [.int (fn_m_ruleAt i21 1 (am_row (am_row f 93 y2.1) 96 y2.2)), .int 1, .int a21_2] (am_S (am_row (am_row f 93 y2.1) 96 y2.2) g) _
      refine am_F.ops (pc' := 57) (L' := [.ref 88, .int (nI a0_n), .int a21_2, .int (nI i21)]) (S' := [.int ((1 <<< ((fn_m_ruleAt i21 1 (am_row (am_row f 93 y2.1) 96 y2.2)) &&& 31)) ^^^ (-1)), .int a21_2]) (μ' := (am_S (am_row (am_row f 93 y2.1) 96 y2.2) g)) 4 rfl ?_
      exact g9
    · intro res9 g9
      show am_F _ _ 56 [.ref 88, .int (nI a0_n), .int a21_2, .int (nI i21)] [.int a21_2] (am_S (am_row (am_row f 93 y2.1) 96 y2.2) g) _
      refine am_F.ops (pc' := 57) (L' := [.ref 88, .int (nI a0_n), .int a21_2, .int (nI i21)]) (S' := [.int (-1), .int a21_2]) (μ' := (am_S (am_row (am_row f 93 y2.1) 96 y2.2) g)) 1 rfl ?_
      exact g9
    show am_F _ _ 57 [.ref 88, .int (nI a0_n), .int a21_2, .int (nI i21)] [.int (if (fn_m_ruleAt i21 0 (am_row (am_row f 93 y2.1) 96 y2.2)) = 0 then (1 <<< ((fn_m_ruleAt i21 1 (am_row (am_row f 93 y2.1) 96 y2.2)) &&& 31)) ^^^ (-1) else (-1)), .int a21_2] (am_S (am_row (am_row f 93 y2.1) 96 y2.2) g) _
    refine am_F.ops (pc' := 21) (L' := [.ref 88, .int (nI a0_n), .int (a21_2 &&& (if (fn_m_ruleAt i21 0 (am_row (am_row f 93 y2.1) 96 y2.2)) = 0 then (1 <<< ((fn_m_ruleAt i21 1 (am_row (am_row f 93 y2.1) 96 y2.2)) &&& 31)) ^^^ (-1) else (-1))), .int ((nI i21) + 1)]) (S' := []) (μ' := (am_S (am_row (am_row f 93 y2.1) 96 y2.2) g)) 4 rfl ?_
    rw [nI_1 i21]
    subst hKd
    exact ih (i21 + 1) (a21_2 &&& (if (fn_m_ruleAt i21 0 (am_row (am_row f 93 y2.1) 96 y2.2)) = 0 then (1 <<< ((fn_m_ruleAt i21 1 (am_row (am_row f 93 y2.1) 96 y2.2)) &&& 31)) ^^^ (-1) else (-1))) (by omega)  hK
theorem x_m_idle_228 (a0 : Int32) (f : Nat → Nat → Int32) (g : Nat → Nat → Int64) (hlC : f 89 201 = nI (f 89 201).toNatClampNeg) (hlN : (f 89 201).toNatClampNeg ≤ 40) (hrC : f 89 202 = nI (f 89 202).toNatClampNeg) (hrN : (f 89 202).toNatClampNeg ≤ 30) (hl0 : ∀ i, i < (f 89 201).toNatClampNeg → am_inb (fn_m_loanAt i 0 f) 16 = true) (hl5 : ∀ i, i < (f 89 201).toNatClampNeg → ¬ fn_m_loanAt i 5 f < 0 → am_inb (fn_m_loanAt i 5 f) 40 = true) (hl2 : ∀ i, i < (f 89 201).toNatClampNeg → am_inb (fn_m_loanAt i 2 f) 20 = true) : am_D 3 228 4 [.ref 88, .int a0] (am_S f g) (some (Value.int ((fn_m_idle_228 a0 f).1)), am_S (am_row (am_row f 93 ((fn_m_idle_228 a0 f).2.1)) 96 ((fn_m_idle_228 a0 f).2.2)) g) := by
  refine am_D.of (code := am_k_228) rfl (L0 := [.ref 88, .int a0, am_un, am_un]) rfl ?_
  generalize hres : (some (Value.int ((fn_m_idle_228 a0 f).1)), am_S (am_row (am_row f 93 ((fn_m_idle_228 a0 f).2.1)) 96 ((fn_m_idle_228 a0 f).2.2)) g) = res
  obtain ⟨K, hKd⟩ : ∃ K : (Int32 × (Nat → Int32) × (Nat → Int32)) → Prop, K = fun z => (some (Value.int z.1), am_S (am_row (am_row f 93 z.2.1) 96 z.2.2) g) = res := ⟨_, rfl⟩
  have hK : K (fn_m_idle_228 a0 f) := by rw [hKd]; exact hres
  clear hres
  unfold fn_m_idle_228 at hK
  refine am_F.ops (pc' := 1) (L' := [.ref 88, .int a0, am_un, am_un]) (S' := [.int a0]) (μ' := (am_S f g)) 1 rfl ?_
  refine am_F.call rfl rfl (x_m_isOne a0 f g ) (by decide) ?_
  show am_F _ _ 4 [.ref 88, .int a0, am_un, am_un] [.int (am_b (fn_m_isOne a0))] (am_S f g) _
  refine am_F.bifK 1 rfl K hK (fun c1 hK => ?_) (fun c1 hK => ?_)
  · obtain ⟨a0_n, ha0_n, ea0_n⟩ := am_mOne c1
    subst ea0_n
    try simp only [nI_clamp (show a0_n < 2147483648 by omega)] at hK
    show am_F _ _ 9 [.ref 88, .int (nI a0_n), am_un, am_un] [] (am_S f g) _
    refine am_F.ops (pc' := 10) (L' := [.ref 88, .int (nI a0_n), am_un, am_un]) (S' := [.ref 88]) (μ' := (am_S f g)) 1 rfl ?_
    refine am_F.call rfl rfl (x_m_stand_155  f g hlC hlN hrC hrN hl0 hl5 hl2) (by decide) ?_
    obtain ⟨y2, hy2⟩ : ∃ z, (fn_m_stand_155 f) = z := ⟨_, rfl⟩
    (try rw [hy2] at hK)
    (try rw [hy2])
    refine am_F.mem (F' := (am_row (am_row f 93 y2.1) 96 y2.2)) (G' := g) ?_ (by first | rfl | (funext a; by_cases z0 : a = 93; (subst z0; rfl); by_cases z1 : a = 96; (subst z1; rfl); simp only [am_ui, am_ul, am_row_ne z0, am_row_ne z1])) (by first | rfl | (funext a; by_cases z0 : a = 93; (subst z0; rfl); by_cases z1 : a = 96; (subst z1; rfl); simp only [am_ui, am_ul, am_row_ne z0, am_row_ne z1]))
    show am_F _ _ 13 [.ref 88, .int (nI a0_n), am_un, am_un] [] (am_S (am_row (am_row f 93 y2.1) 96 y2.2) g) _
    refine am_F.ops (pc' := 15) (L' := [.ref 88, .int (nI a0_n), am_un, am_un]) (S' := [.int (nI a0_n), .ref 88]) (μ' := (am_S (am_row (am_row f 93 y2.1) 96 y2.2) g)) 2 rfl ?_
    refine am_F.call rfl rfl (x_m_heldBy_159 a0_n (am_row (am_row f 93 y2.1) 96 y2.2) g hlC hlN hrC hrN hl0 hl5 hl2 (by omega)) (by decide) ?_
    show am_F _ _ 18 [.ref 88, .int (nI a0_n), am_un, am_un] [.int (fn_m_heldBy_159 a0_n (am_row (am_row f 93 y2.1) 96 y2.2))] (am_S (am_row (am_row f 93 y2.1) 96 y2.2) g) _
    refine am_F.ops (pc' := 21) (L' := [.ref 88, .int (nI a0_n), .int (fn_m_heldBy_159 a0_n (am_row (am_row f 93 y2.1) 96 y2.2)), .int 0]) (S' := []) (μ' := (am_S (am_row (am_row f 93 y2.1) 96 y2.2) g)) 3 rfl ?_
    show am_F _ _ 21 [.ref 88, .int (nI a0_n), .int (fn_m_heldBy_159 a0_n (am_row (am_row f 93 y2.1) 96 y2.2)), .int (nI 0)] [] (am_S (am_row (am_row f 93 y2.1) 96 y2.2) g) _
    refine lp_m_idle_228_21 a0_n f g y2 hlC hlN hrC hrN hl0 hl5 hl2 ha0_n _ ((f 89 202).toNatClampNeg) 0 (fn_m_heldBy_159 a0_n (am_row (am_row f 93 y2.1) 96 y2.2))  (by omega)  ?_
    rw [show am_for (st_m_idle_228_21 f y2) ((f 89 202).toNatClampNeg) 0 (fn_m_heldBy_159 a0_n (am_row (am_row f 93 y2.1) 96 y2.2)) = (lf_m_idle_228_21 a0_n f y2) from rfl]
    generalize (lf_m_idle_228_21 a0_n f y2) = z21_4 at hK ⊢
    intro wc
    show am_F _ _ 65 [.ref 88, .int (nI a0_n), .int z21_4, wc] [] (am_S (am_row (am_row f 93 y2.1) 96 y2.2) g) _
    refine am_F.ops (pc' := 66) (L' := [.ref 88, .int (nI a0_n), .int z21_4, wc]) (S' := [.int z21_4]) (μ' := (am_S (am_row (am_row f 93 y2.1) 96 y2.2) g)) 1 rfl ?_
    subst hKd
    exact am_F.eq (am_F.ret rfl rfl) hK
  · show am_F _ _ 7 [.ref 88, .int a0, am_un, am_un] [] (am_S f g) _
    refine am_F.ops (pc' := 8) (L' := [.ref 88, .int a0, am_un, am_un]) (S' := [.int (-1)]) (μ' := (am_S f g)) 1 rfl ?_
    refine am_F.mem (F' := (am_row (am_row f 93 (f 93)) 96 (f 96))) (G' := g) ?_ (by first | rfl | (funext a; by_cases z0 : a = 93; (subst z0; rfl); by_cases z1 : a = 96; (subst z1; rfl); simp only [am_ui, am_ul, am_row_ne z0, am_row_ne z1])) (by first | rfl | (funext a; by_cases z0 : a = 93; (subst z0; rfl); by_cases z1 : a = 96; (subst z1; rfl); simp only [am_ui, am_ul, am_row_ne z0, am_row_ne z1]))
    subst hKd
    exact am_F.eq (am_F.ret rfl rfl) hK
/-- AccessLatticeModel.count -/
def fn_m_count_247 (a0 : Int32) (f : Nat → Nat → Int32) : Int32 × (Nat → Int32) × (Nat → Int32) := (if a0 = 0 then ((fn_m_rulesThere f), f 93, f 96) else (if a0 = 1 then (f 89 201, f 93, f 96) else (if a0 = 2 then ((fn_m_standing_168 f).1, (fn_m_standing_168 f).2.1, (fn_m_standing_168 f).2.2) else (if a0 = 3 then (f 89 203, f 93, f 96) else (if a0 = 4 then (f 89 204, f 93, f 96) else (if a0 = 5 then (f 88 11, f 93, f 96) else (if a0 = 6 then (f 89 206, f 93, f 96) else (if a0 = 7 then (f 89 207, f 93, f 96) else (if a0 = 8 then (f 89 205, f 93, f 96) else ((-1), f 93, f 96))))))))))
theorem x_m_count_247 (a0 : Int32) (f : Nat → Nat → Int32) (g : Nat → Nat → Int64) (hlC : f 89 201 = nI (f 89 201).toNatClampNeg) (hlN : (f 89 201).toNatClampNeg ≤ 40) (hrC : f 89 202 = nI (f 89 202).toNatClampNeg) (hrN : (f 89 202).toNatClampNeg ≤ 30) (hl0 : ∀ i, i < (f 89 201).toNatClampNeg → am_inb (fn_m_loanAt i 0 f) 16 = true) (hl5 : ∀ i, i < (f 89 201).toNatClampNeg → ¬ fn_m_loanAt i 5 f < 0 → am_inb (fn_m_loanAt i 5 f) 40 = true) (hl2 : ∀ i, i < (f 89 201).toNatClampNeg → am_inb (fn_m_loanAt i 2 f) 20 = true) : am_D 4 247 2 [.ref 88, .int a0] (am_S f g) (some (Value.int ((fn_m_count_247 a0 f).1)), am_S (am_row (am_row f 93 ((fn_m_count_247 a0 f).2.1)) 96 ((fn_m_count_247 a0 f).2.2)) g) := by
  refine am_D.of (code := am_k_247) rfl (L0 := [.ref 88, .int a0]) rfl ?_
  generalize hres : (some (Value.int ((fn_m_count_247 a0 f).1)), am_S (am_row (am_row f 93 ((fn_m_count_247 a0 f).2.1)) 96 ((fn_m_count_247 a0 f).2.2)) g) = res
  obtain ⟨K, hKd⟩ : ∃ K : (Int32 × (Nat → Int32) × (Nat → Int32)) → Prop, K = fun z => (some (Value.int z.1), am_S (am_row (am_row f 93 z.2.1) 96 z.2.2) g) = res := ⟨_, rfl⟩
  have hK : K (fn_m_count_247 a0 f) := by rw [hKd]; exact hres
  clear hres
  unfold fn_m_count_247 at hK
  refine am_F.ops (pc' := 1) (L' := [.ref 88, .int a0]) (S' := [.int a0]) (μ' := (am_S f g)) 1 rfl ?_
  refine am_F.ops (pc' := am_ltg [(0, 52), (1, 57), (2, 66), (3, 71), (4, 80), (5, 89), (6, 94), (7, 103), (8, 112)] 121 a0) (L' := [.ref 88, .int a0]) (S' := []) (μ' := (am_S f g)) 1 (am_tswE (tg := [52, 57, 66, 71, 80, 89, 94, 103, 112]) (lo := 0) rfl rfl (by decide) (by decide)) ?_
  refine am_F.ltg K hK (fun c1 hK => ?_) (fun c1 hK => ?_)
  · show am_F _ _ 52 [.ref 88, .int a0] [] (am_S f g) _
    refine am_F.ops (pc' := 53) (L' := [.ref 88, .int a0]) (S' := [.ref 88]) (μ' := (am_S f g)) 1 rfl ?_
    refine am_F.call rfl rfl (x_m_rulesThere  f g hrC hrN) (by decide) ?_
    show am_F _ _ 56 [.ref 88, .int a0] [.int (fn_m_rulesThere f)] (am_S f g) _
    refine am_F.mem (F' := (am_row (am_row f 93 (f 93)) 96 (f 96))) (G' := g) ?_ (by first | rfl | (funext a; by_cases z0 : a = 93; (subst z0; rfl); by_cases z1 : a = 96; (subst z1; rfl); simp only [am_ui, am_ul, am_row_ne z0, am_row_ne z1])) (by first | rfl | (funext a; by_cases z0 : a = 93; (subst z0; rfl); by_cases z1 : a = 96; (subst z1; rfl); simp only [am_ui, am_ul, am_row_ne z0, am_row_ne z1]))
    subst hKd
    exact am_F.eq (am_F.ret rfl rfl) hK
  · skip
    refine am_F.ltg K hK (fun c2 hK => ?_) (fun c2 hK => ?_)
    · show am_F _ _ 57 [.ref 88, .int a0] [] (am_S f g) _
      refine am_F.ops (pc' := 65) (L' := [.ref 88, .int a0]) (S' := [.int (f 89 201)]) (μ' := (am_S f g)) 4 rfl ?_
      refine am_F.mem (F' := (am_row (am_row f 93 (f 93)) 96 (f 96))) (G' := g) ?_ (by first | rfl | (funext a; by_cases z0 : a = 93; (subst z0; rfl); by_cases z1 : a = 96; (subst z1; rfl); simp only [am_ui, am_ul, am_row_ne z0, am_row_ne z1])) (by first | rfl | (funext a; by_cases z0 : a = 93; (subst z0; rfl); by_cases z1 : a = 96; (subst z1; rfl); simp only [am_ui, am_ul, am_row_ne z0, am_row_ne z1]))
      subst hKd
      exact am_F.eq (am_F.ret rfl rfl) hK
    · skip
      refine am_F.ltg K hK (fun c3 hK => ?_) (fun c3 hK => ?_)
      · show am_F _ _ 66 [.ref 88, .int a0] [] (am_S f g) _
        refine am_F.ops (pc' := 67) (L' := [.ref 88, .int a0]) (S' := [.ref 88]) (μ' := (am_S f g)) 1 rfl ?_
        refine am_F.call rfl rfl (x_m_standing_168  f g hlC hlN hrC hrN hl0 hl5 hl2) (by decide) ?_
        obtain ⟨y4, hy4⟩ : ∃ z, (fn_m_standing_168 f) = z := ⟨_, rfl⟩
        (try rw [hy4] at hK)
        (try rw [hy4])
        refine am_F.mem (F' := (am_row (am_row f 93 y4.2.1) 96 y4.2.2)) (G' := g) ?_ (by first | rfl | (funext a; by_cases z0 : a = 93; (subst z0; rfl); by_cases z1 : a = 96; (subst z1; rfl); simp only [am_ui, am_ul, am_row_ne z0, am_row_ne z1])) (by first | rfl | (funext a; by_cases z0 : a = 93; (subst z0; rfl); by_cases z1 : a = 96; (subst z1; rfl); simp only [am_ui, am_ul, am_row_ne z0, am_row_ne z1]))
        show am_F _ _ 70 [.ref 88, .int a0] [.int y4.1] (am_S (am_row (am_row f 93 y4.2.1) 96 y4.2.2) g) _
        subst hKd
        exact am_F.eq (am_F.ret rfl rfl) hK
      · skip
        refine am_F.ltg K hK (fun c5 hK => ?_) (fun c5 hK => ?_)
        · show am_F _ _ 71 [.ref 88, .int a0] [] (am_S f g) _
          refine am_F.ops (pc' := 79) (L' := [.ref 88, .int a0]) (S' := [.int (f 89 203)]) (μ' := (am_S f g)) 4 rfl ?_
          refine am_F.mem (F' := (am_row (am_row f 93 (f 93)) 96 (f 96))) (G' := g) ?_ (by first | rfl | (funext a; by_cases z0 : a = 93; (subst z0; rfl); by_cases z1 : a = 96; (subst z1; rfl); simp only [am_ui, am_ul, am_row_ne z0, am_row_ne z1])) (by first | rfl | (funext a; by_cases z0 : a = 93; (subst z0; rfl); by_cases z1 : a = 96; (subst z1; rfl); simp only [am_ui, am_ul, am_row_ne z0, am_row_ne z1]))
          subst hKd
          exact am_F.eq (am_F.ret rfl rfl) hK
        · skip
          refine am_F.ltg K hK (fun c6 hK => ?_) (fun c6 hK => ?_)
          · show am_F _ _ 80 [.ref 88, .int a0] [] (am_S f g) _
            refine am_F.ops (pc' := 88) (L' := [.ref 88, .int a0]) (S' := [.int (f 89 204)]) (μ' := (am_S f g)) 4 rfl ?_
            refine am_F.mem (F' := (am_row (am_row f 93 (f 93)) 96 (f 96))) (G' := g) ?_ (by first | rfl | (funext a; by_cases z0 : a = 93; (subst z0; rfl); by_cases z1 : a = 96; (subst z1; rfl); simp only [am_ui, am_ul, am_row_ne z0, am_row_ne z1])) (by first | rfl | (funext a; by_cases z0 : a = 93; (subst z0; rfl); by_cases z1 : a = 96; (subst z1; rfl); simp only [am_ui, am_ul, am_row_ne z0, am_row_ne z1]))
            subst hKd
            exact am_F.eq (am_F.ret rfl rfl) hK
          · skip
            refine am_F.ltg K hK (fun c7 hK => ?_) (fun c7 hK => ?_)
            · show am_F _ _ 89 [.ref 88, .int a0] [] (am_S f g) _
              refine am_F.ops (pc' := 93) (L' := [.ref 88, .int a0]) (S' := [.int (f 88 11)]) (μ' := (am_S f g)) 2 rfl ?_
              refine am_F.mem (F' := (am_row (am_row f 93 (f 93)) 96 (f 96))) (G' := g) ?_ (by first | rfl | (funext a; by_cases z0 : a = 93; (subst z0; rfl); by_cases z1 : a = 96; (subst z1; rfl); simp only [am_ui, am_ul, am_row_ne z0, am_row_ne z1])) (by first | rfl | (funext a; by_cases z0 : a = 93; (subst z0; rfl); by_cases z1 : a = 96; (subst z1; rfl); simp only [am_ui, am_ul, am_row_ne z0, am_row_ne z1]))
              subst hKd
              exact am_F.eq (am_F.ret rfl rfl) hK
            · skip
              refine am_F.ltg K hK (fun c8 hK => ?_) (fun c8 hK => ?_)
              · show am_F _ _ 94 [.ref 88, .int a0] [] (am_S f g) _
                refine am_F.ops (pc' := 102) (L' := [.ref 88, .int a0]) (S' := [.int (f 89 206)]) (μ' := (am_S f g)) 4 rfl ?_
                refine am_F.mem (F' := (am_row (am_row f 93 (f 93)) 96 (f 96))) (G' := g) ?_ (by first | rfl | (funext a; by_cases z0 : a = 93; (subst z0; rfl); by_cases z1 : a = 96; (subst z1; rfl); simp only [am_ui, am_ul, am_row_ne z0, am_row_ne z1])) (by first | rfl | (funext a; by_cases z0 : a = 93; (subst z0; rfl); by_cases z1 : a = 96; (subst z1; rfl); simp only [am_ui, am_ul, am_row_ne z0, am_row_ne z1]))
                subst hKd
                exact am_F.eq (am_F.ret rfl rfl) hK
              · skip
                refine am_F.ltg K hK (fun c9 hK => ?_) (fun c9 hK => ?_)
                · show am_F _ _ 103 [.ref 88, .int a0] [] (am_S f g) _
                  refine am_F.ops (pc' := 111) (L' := [.ref 88, .int a0]) (S' := [.int (f 89 207)]) (μ' := (am_S f g)) 4 rfl ?_
                  refine am_F.mem (F' := (am_row (am_row f 93 (f 93)) 96 (f 96))) (G' := g) ?_ (by first | rfl | (funext a; by_cases z0 : a = 93; (subst z0; rfl); by_cases z1 : a = 96; (subst z1; rfl); simp only [am_ui, am_ul, am_row_ne z0, am_row_ne z1])) (by first | rfl | (funext a; by_cases z0 : a = 93; (subst z0; rfl); by_cases z1 : a = 96; (subst z1; rfl); simp only [am_ui, am_ul, am_row_ne z0, am_row_ne z1]))
                  subst hKd
                  exact am_F.eq (am_F.ret rfl rfl) hK
                · skip
                  refine am_F.ltg K hK (fun c10 hK => ?_) (fun c10 hK => ?_)
                  · show am_F _ _ 112 [.ref 88, .int a0] [] (am_S f g) _
                    refine am_F.ops (pc' := 120) (L' := [.ref 88, .int a0]) (S' := [.int (f 89 205)]) (μ' := (am_S f g)) 4 rfl ?_
                    refine am_F.mem (F' := (am_row (am_row f 93 (f 93)) 96 (f 96))) (G' := g) ?_ (by first | rfl | (funext a; by_cases z0 : a = 93; (subst z0; rfl); by_cases z1 : a = 96; (subst z1; rfl); simp only [am_ui, am_ul, am_row_ne z0, am_row_ne z1])) (by first | rfl | (funext a; by_cases z0 : a = 93; (subst z0; rfl); by_cases z1 : a = 96; (subst z1; rfl); simp only [am_ui, am_ul, am_row_ne z0, am_row_ne z1]))
                    subst hKd
                    exact am_F.eq (am_F.ret rfl rfl) hK
                  · skip
                    show am_F _ _ 121 [.ref 88, .int a0] [] (am_S f g) _
                    refine am_F.ops (pc' := 122) (L' := [.ref 88, .int a0]) (S' := [.int (-1)]) (μ' := (am_S f g)) 1 rfl ?_
                    refine am_F.mem (F' := (am_row (am_row f 93 (f 93)) 96 (f 96))) (G' := g) ?_ (by first | rfl | (funext a; by_cases z0 : a = 93; (subst z0; rfl); by_cases z1 : a = 96; (subst z1; rfl); simp only [am_ui, am_ul, am_row_ne z0, am_row_ne z1])) (by first | rfl | (funext a; by_cases z0 : a = 93; (subst z0; rfl); by_cases z1 : a = 96; (subst z1; rfl); simp only [am_ui, am_ul, am_row_ne z0, am_row_ne z1]))
                    subst hKd
                    exact am_F.eq (am_F.ret rfl rfl) hK
/-- AccessLatticeModel.holders -/
def st_m_holders_154_6 (f : Nat → Nat → Int32) (y1 : (Nat → Int32) × (Nat → Int32)) : Nat → (Nat → Int32) → (Nat → Int32) := fun i6 r6_94 => (upd r6_94 i6 (fn_m_heldBy_159 i6 (am_row (am_row (am_row f 93 y1.1) 94 r6_94) 96 y1.2)))
def lf_m_holders_154_6 (f : Nat → Nat → Int32) (y1 : (Nat → Int32) × (Nat → Int32)) : (Nat → Int32) := am_for (st_m_holders_154_6 f y1) 16 0 (f 94)
def fn_m_holders_154 (f : Nat → Nat → Int32) : (Nat → Int32) × (Nat → Int32) × (Nat → Int32) := ((fn_m_stand_155 f).1, (lf_m_holders_154_6 f (fn_m_stand_155 f)), (fn_m_stand_155 f).2)
theorem lp_m_holders_154_6 (f : Nat → Nat → Int32) (g : Nat → Nat → Int64) (y1 : (Nat → Int32) × (Nat → Int32)) (hlC : f 89 201 = nI (f 89 201).toNatClampNeg) (hlN : (f 89 201).toNatClampNeg ≤ 40) (hrC : f 89 202 = nI (f 89 202).toNatClampNeg) (hrN : (f 89 202).toNatClampNeg ≤ 30) (hl0 : ∀ i, i < (f 89 201).toNatClampNeg → am_inb (fn_m_loanAt i 0 f) 16 = true) (hl5 : ∀ i, i < (f 89 201).toNatClampNeg → ¬ fn_m_loanAt i 5 f < 0 → am_inb (fn_m_loanAt i 5 f) 40 = true) (hl2 : ∀ i, i < (f 89 201).toNatClampNeg → am_inb (fn_m_loanAt i 2 f) 20 = true) (res : Option Value × am_M) : ∀ (n i6 : Nat) (r6_94 : Nat → Int32) , i6 + n = 16 → (fun (z : (Nat → Int32)) => ∀ (wc : Value), am_F 3 am_k_154 29 [.ref 88, wc] [] (am_S (am_row (am_row (am_row f 93 y1.1) 94 z) 96 y1.2) g) res) (am_for (st_m_holders_154_6 f y1) n i6 r6_94) → am_F 3 am_k_154 6 [.ref 88, .int (nI i6)] [] (am_S (am_row (am_row (am_row f 93 y1.1) 94 r6_94) 96 y1.2) g) res := by
  intro n
  induction n with
  | zero =>
    intro i6 r6_94 hi hK
    refine am_F.pos 3 rfl (by show 16 ≤ nI i6; rw [show (16 : Int32) = nI 16 from rfl]; exact nI_le (by omega) (by omega)) ?_
    exact hK _
  | succ n ih =>
    intro i6 r6_94 hi hK
    refine am_F.neg 3 rfl (by show ¬ 16 ≤ nI i6; rw [show (16 : Int32) = nI 16 from rfl]; exact nI_ge (by omega) (by omega)) ?_
    have hb6 : i6 < 16 := by omega
    show am_F _ _ 12 [.ref 88, .int (nI i6)] [] (am_S (am_row (am_row (am_row f 93 y1.1) 94 r6_94) 96 y1.2) g) _
    obtain ⟨K, hKd⟩ : ∃ K : ((Nat → Int32)) → Prop, K = fun s => (fun (z : (Nat → Int32)) => ∀ (wc : Value), am_F 3 am_k_154 29 [.ref 88, wc] [] (am_S (am_row (am_row (am_row f 93 y1.1) 94 z) 96 y1.2) g) res) (am_for (st_m_holders_154_6 f y1) n (i6 + 1) s) := ⟨_, rfl⟩
    have hK : K ((st_m_holders_154_6 f y1) i6 r6_94) := by rw [hKd]; exact hK
    unfold st_m_holders_154_6 at hK
    refine am_F.ops (pc' := 19) (L' := [.ref 88, .int (nI i6)]) (S' := [.int (nI i6), .ref 88, .int (nI i6), .ref 94]) (μ' := (am_S (am_row (am_row (am_row f 93 y1.1) 94 r6_94) 96 y1.2) g)) 5 rfl ?_
    refine am_F.call rfl rfl (x_m_heldBy_159 i6 (am_row (am_row (am_row f 93 y1.1) 94 r6_94) 96 y1.2) g hlC hlN hrC hrN hl0 hl5 hl2 (by omega)) (by decide) ?_
    show am_F _ _ 22 [.ref 88, .int (nI i6)] [.int (fn_m_heldBy_159 i6 (am_row (am_row (am_row f 93 y1.1) 94 r6_94) 96 y1.2)), .int (nI i6), .ref 94] (am_S (am_row (am_row (am_row f 93 y1.1) 94 r6_94) 96 y1.2) g) _
    refine am_F.iasE (F' := (am_row (am_row (am_row f 93 y1.1) 94 (upd r6_94 i6 (fn_m_heldBy_159 i6 (am_row (am_row (am_row f 93 y1.1) 94 r6_94) 96 y1.2)))) 96 y1.2)) (m := i6) (N := 16) rfl rfl rfl rfl (by omega) (by decide) (by first | rfl | (funext a; by_cases z0 : a = 93; (subst z0; rfl); by_cases z1 : a = 94; (subst z1; rfl); by_cases z2 : a = 96; (subst z2; rfl); simp only [am_ui, am_ul, am_row_ne z0, am_row_ne z1, am_row_ne z2])) ?_
    refine am_F.ops (pc' := 6) (L' := [.ref 88, .int ((nI i6) + 1)]) (S' := []) (μ' := (am_S (am_row (am_row (am_row f 93 y1.1) 94 (upd r6_94 i6 (fn_m_heldBy_159 i6 (am_row (am_row (am_row f 93 y1.1) 94 r6_94) 96 y1.2)))) 96 y1.2) g)) 2 rfl ?_
    rw [nI_1 i6]
    subst hKd
    exact ih (i6 + 1) (upd r6_94 i6 (fn_m_heldBy_159 i6 (am_row (am_row (am_row f 93 y1.1) 94 r6_94) 96 y1.2))) (by omega)  hK
theorem x_m_holders_154 (f : Nat → Nat → Int32) (g : Nat → Nat → Int64) (hlC : f 89 201 = nI (f 89 201).toNatClampNeg) (hlN : (f 89 201).toNatClampNeg ≤ 40) (hrC : f 89 202 = nI (f 89 202).toNatClampNeg) (hrN : (f 89 202).toNatClampNeg ≤ 30) (hl0 : ∀ i, i < (f 89 201).toNatClampNeg → am_inb (fn_m_loanAt i 0 f) 16 = true) (hl5 : ∀ i, i < (f 89 201).toNatClampNeg → ¬ fn_m_loanAt i 5 f < 0 → am_inb (fn_m_loanAt i 5 f) 40 = true) (hl2 : ∀ i, i < (f 89 201).toNatClampNeg → am_inb (fn_m_loanAt i 2 f) 20 = true) : am_D 3 154 2 [.ref 88] (am_S f g) ((none : Option Value), am_S (am_row (am_row (am_row f 93 ((fn_m_holders_154 f).1)) 94 ((fn_m_holders_154 f).2.1)) 96 ((fn_m_holders_154 f).2.2)) g) := by
  refine am_D.of (code := am_k_154) rfl (L0 := [.ref 88, am_un]) rfl ?_
  generalize hres : ((none : Option Value), am_S (am_row (am_row (am_row f 93 ((fn_m_holders_154 f).1)) 94 ((fn_m_holders_154 f).2.1)) 96 ((fn_m_holders_154 f).2.2)) g) = res
  obtain ⟨K, hKd⟩ : ∃ K : ((Nat → Int32) × (Nat → Int32) × (Nat → Int32)) → Prop, K = fun z => ((none : Option Value), am_S (am_row (am_row (am_row f 93 z.1) 94 z.2.1) 96 z.2.2) g) = res := ⟨_, rfl⟩
  have hK : K (fn_m_holders_154 f) := by rw [hKd]; exact hres
  clear hres
  unfold fn_m_holders_154 at hK
  refine am_F.ops (pc' := 1) (L' := [.ref 88, am_un]) (S' := [.ref 88]) (μ' := (am_S f g)) 1 rfl ?_
  refine am_F.call rfl rfl (x_m_stand_155  f g hlC hlN hrC hrN hl0 hl5 hl2) (by decide) ?_
  obtain ⟨y1, hy1⟩ : ∃ z, (fn_m_stand_155 f) = z := ⟨_, rfl⟩
  (try rw [hy1] at hK)
  (try rw [hy1])
  refine am_F.mem (F' := (am_row (am_row f 93 y1.1) 96 y1.2)) (G' := g) ?_ (by first | rfl | (funext a; by_cases z0 : a = 93; (subst z0; rfl); by_cases z1 : a = 96; (subst z1; rfl); simp only [am_ui, am_ul, am_row_ne z0, am_row_ne z1])) (by first | rfl | (funext a; by_cases z0 : a = 93; (subst z0; rfl); by_cases z1 : a = 96; (subst z1; rfl); simp only [am_ui, am_ul, am_row_ne z0, am_row_ne z1]))
  show am_F _ _ 4 [.ref 88, am_un] [] (am_S (am_row (am_row f 93 y1.1) 96 y1.2) g) _
  refine am_F.ops (pc' := 6) (L' := [.ref 88, .int 0]) (S' := []) (μ' := (am_S (am_row (am_row f 93 y1.1) 96 y1.2) g)) 2 rfl ?_
  refine am_F.mem (F' := (am_row (am_row (am_row f 93 y1.1) 94 (f 94)) 96 y1.2)) (G' := g) ?_ (by first | rfl | (funext a; by_cases z0 : a = 93; (subst z0; rfl); by_cases z1 : a = 94; (subst z1; rfl); by_cases z2 : a = 96; (subst z2; rfl); simp only [am_ui, am_ul, am_row_ne z0, am_row_ne z1, am_row_ne z2])) (by first | rfl | (funext a; by_cases z0 : a = 93; (subst z0; rfl); by_cases z1 : a = 94; (subst z1; rfl); by_cases z2 : a = 96; (subst z2; rfl); simp only [am_ui, am_ul, am_row_ne z0, am_row_ne z1, am_row_ne z2]))
  show am_F _ _ 6 [.ref 88, .int (nI 0)] [] (am_S (am_row (am_row (am_row f 93 y1.1) 94 (f 94)) 96 y1.2) g) _
  refine lp_m_holders_154_6 f g y1 hlC hlN hrC hrN hl0 hl5 hl2 _ 16 0 (f 94)  (by omega)  ?_
  rw [show am_for (st_m_holders_154_6 f y1) 16 0 (f 94) = (lf_m_holders_154_6 f y1) from rfl]
  generalize (lf_m_holders_154_6 f y1) = z6_2 at hK ⊢
  intro wc
  show am_F _ _ 29 [.ref 88, wc] [] (am_S (am_row (am_row (am_row f 93 y1.1) 94 z6_2) 96 y1.2) g) _
  subst hKd
  exact am_F.eq (am_F.ret rfl rfl) hK
/-- AccessLatticeModel.lend -/
def fn_m_lend_165 (a0 : Int32) (a1 : Int32) (a2 : Int32) (a3 : Int32) (a4 : Int32) (f : Nat → Nat → Int32) : Int32 × (Nat → Int32) × (Nat → Int32) × (Nat → Int32) × (Nat → Int32) := (bif (fn_m_isOne a0) then (bif (fn_m_isOne a1) then (if a0 = a1 then ((-1), f 89, f 93, f 94, f 96) else (bif (fn_m_isRole a2) then (bif (fn_m_isIn a4 0 5) then (if (f 89 200) < a3 then (if (f 89 201) = 40 then ((-3), f 89, f 93, f 94, f 96) else (if (fn_m_sourceFor_166 (a0.toNatClampNeg) a2 a4 (am_row (am_row (am_row f 93 (fn_m_holders_154 f).1) 94 (fn_m_holders_154 f).2.1) 96 (fn_m_holders_154 f).2.2)) = (-5) then ((-5), f 89, (fn_m_holders_154 f).1, (fn_m_holders_154 f).2.1, (fn_m_holders_154 f).2.2) else (bif (fn_m_isUnlike (((fn_m_holders_154 f).2.1 (a1.toNatClampNeg)) ||| (f 92 (a2.toNatClampNeg))) (am_row (am_row (am_row f 93 (fn_m_holders_154 f).1) 94 (fn_m_holders_154 f).2.1) 96 (fn_m_holders_154 f).2.2)) then ((-6), f 89, (fn_m_holders_154 f).1, (fn_m_holders_154 f).2.1, (fn_m_holders_154 f).2.2) else (f 89 201, upd (upd (upd (upd (upd (upd (upd (upd (f 89) ((210 + (7 * (f 89 201).toNatClampNeg)) + 0) a0) ((210 + (7 * (f 89 201).toNatClampNeg)) + 1) a1) ((210 + (7 * (f 89 201).toNatClampNeg)) + 2) a2) ((210 + (7 * (f 89 201).toNatClampNeg)) + 3) a3) ((210 + (7 * (f 89 201).toNatClampNeg)) + 4) a4) ((210 + (7 * (f 89 201).toNatClampNeg)) + 5) (fn_m_sourceFor_166 (a0.toNatClampNeg) a2 a4 (am_row (am_row (am_row f 93 (fn_m_holders_154 f).1) 94 (fn_m_holders_154 f).2.1) 96 (fn_m_holders_154 f).2.2))) ((210 + (7 * (f 89 201).toNatClampNeg)) + 6) 0) 201 (((upd (upd (upd (upd (upd (upd (upd (f 89) ((210 + (7 * (f 89 201).toNatClampNeg)) + 0) a0) ((210 + (7 * (f 89 201).toNatClampNeg)) + 1) a1) ((210 + (7 * (f 89 201).toNatClampNeg)) + 2) a2) ((210 + (7 * (f 89 201).toNatClampNeg)) + 3) a3) ((210 + (7 * (f 89 201).toNatClampNeg)) + 4) a4) ((210 + (7 * (f 89 201).toNatClampNeg)) + 5) (fn_m_sourceFor_166 (a0.toNatClampNeg) a2 a4 (am_row (am_row (am_row f 93 (fn_m_holders_154 f).1) 94 (fn_m_holders_154 f).2.1) 96 (fn_m_holders_154 f).2.2))) ((210 + (7 * (f 89 201).toNatClampNeg)) + 6) 0) 201) + 1), (fn_m_holders_154 f).1, (fn_m_holders_154 f).2.1, (fn_m_holders_154 f).2.2)))) else ((-1), f 89, f 93, f 94, f 96)) else ((-1), f 89, f 93, f 94, f 96)) else ((-1), f 89, f 93, f 94, f 96))) else ((-1), f 89, f 93, f 94, f 96)) else ((-1), f 89, f 93, f 94, f 96))
theorem x_m_lend_165 (a0 : Int32) (a1 : Int32) (a2 : Int32) (a3 : Int32) (a4 : Int32) (f : Nat → Nat → Int32) (g : Nat → Nat → Int64) (hlC : f 89 201 = nI (f 89 201).toNatClampNeg) (hlN : (f 89 201).toNatClampNeg ≤ 40) (hrC : f 89 202 = nI (f 89 202).toNatClampNeg) (hrN : (f 89 202).toNatClampNeg ≤ 30) (hl0 : ∀ i, i < (f 89 201).toNatClampNeg → am_inb (fn_m_loanAt i 0 f) 16 = true) (hl5 : ∀ i, i < (f 89 201).toNatClampNeg → ¬ fn_m_loanAt i 5 f < 0 → am_inb (fn_m_loanAt i 5 f) 40 = true) (hl2 : ∀ i, i < (f 89 201).toNatClampNeg → am_inb (fn_m_loanAt i 2 f) 20 = true) : am_D 4 165 9 [.ref 88, .int a0, .int a1, .int a2, .int a3, .int a4] (am_S f g) (some (Value.int ((fn_m_lend_165 a0 a1 a2 a3 a4 f).1)), am_S (am_row (am_row (am_row (am_row f 89 ((fn_m_lend_165 a0 a1 a2 a3 a4 f).2.1)) 93 ((fn_m_lend_165 a0 a1 a2 a3 a4 f).2.2.1)) 94 ((fn_m_lend_165 a0 a1 a2 a3 a4 f).2.2.2.1)) 96 ((fn_m_lend_165 a0 a1 a2 a3 a4 f).2.2.2.2)) g) := by
  refine am_D.of (code := am_k_165) rfl (L0 := [.ref 88, .int a0, .int a1, .int a2, .int a3, .int a4, am_un, am_un, am_un]) rfl ?_
  generalize hres : (some (Value.int ((fn_m_lend_165 a0 a1 a2 a3 a4 f).1)), am_S (am_row (am_row (am_row (am_row f 89 ((fn_m_lend_165 a0 a1 a2 a3 a4 f).2.1)) 93 ((fn_m_lend_165 a0 a1 a2 a3 a4 f).2.2.1)) 94 ((fn_m_lend_165 a0 a1 a2 a3 a4 f).2.2.2.1)) 96 ((fn_m_lend_165 a0 a1 a2 a3 a4 f).2.2.2.2)) g) = res
  obtain ⟨K, hKd⟩ : ∃ K : (Int32 × (Nat → Int32) × (Nat → Int32) × (Nat → Int32) × (Nat → Int32)) → Prop, K = fun z => (some (Value.int z.1), am_S (am_row (am_row (am_row (am_row f 89 z.2.1) 93 z.2.2.1) 94 z.2.2.2.1) 96 z.2.2.2.2) g) = res := ⟨_, rfl⟩
  have hK : K (fn_m_lend_165 a0 a1 a2 a3 a4 f) := by rw [hKd]; exact hres
  clear hres
  unfold fn_m_lend_165 at hK
  refine am_F.ops (pc' := 1) (L' := [.ref 88, .int a0, .int a1, .int a2, .int a3, .int a4, am_un, am_un, am_un]) (S' := [.int a0]) (μ' := (am_S f g)) 1 rfl ?_
  refine am_F.call rfl rfl (x_m_isOne a0 f g ) (by decide) ?_
  show am_F _ _ 4 [.ref 88, .int a0, .int a1, .int a2, .int a3, .int a4, am_un, am_un, am_un] [.int (am_b (fn_m_isOne a0))] (am_S f g) _
  refine am_F.bifK 1 rfl K hK (fun c1 hK => ?_) (fun c1 hK => ?_)
  · obtain ⟨a0_n, ha0_n, ea0_n⟩ := am_mOne c1
    subst ea0_n
    try simp only [nI_clamp (show a0_n < 2147483648 by omega)] at hK
    show am_F _ _ 7 [.ref 88, .int (nI a0_n), .int a1, .int a2, .int a3, .int a4, am_un, am_un, am_un] [] (am_S f g) _
    refine am_F.ops (pc' := 8) (L' := [.ref 88, .int (nI a0_n), .int a1, .int a2, .int a3, .int a4, am_un, am_un, am_un]) (S' := [.int a1]) (μ' := (am_S f g)) 1 rfl ?_
    refine am_F.call rfl rfl (x_m_isOne a1 f g ) (by decide) ?_
    show am_F _ _ 11 [.ref 88, .int (nI a0_n), .int a1, .int a2, .int a3, .int a4, am_un, am_un, am_un] [.int (am_b (fn_m_isOne a1))] (am_S f g) _
    refine am_F.bifK 1 rfl K hK (fun c2 hK => ?_) (fun c2 hK => ?_)
    · obtain ⟨a1_n, ha1_n, ea1_n⟩ := am_mOne c2
      subst ea1_n
      try simp only [nI_clamp (show a1_n < 2147483648 by omega)] at hK
      show am_F _ _ 14 [.ref 88, .int (nI a0_n), .int (nI a1_n), .int a2, .int a3, .int a4, am_un, am_un, am_un] [] (am_S f g) _
      refine am_F.ops (pc' := 16) (L' := [.ref 88, .int (nI a0_n), .int (nI a1_n), .int a2, .int a3, .int a4, am_un, am_un, am_un]) (S' := [.int (nI a1_n), .int (nI a0_n)]) (μ' := (am_S f g)) 2 rfl ?_
      refine am_F.iteK 1 rfl K hK (fun c3 hK => ?_) (fun c3 hK => ?_)
      · show am_F _ _ 49 [.ref 88, .int (nI a0_n), .int (nI a1_n), .int a2, .int a3, .int a4, am_un, am_un, am_un] [] (am_S f g) _
        refine am_F.ops (pc' := 50) (L' := [.ref 88, .int (nI a0_n), .int (nI a1_n), .int a2, .int a3, .int a4, am_un, am_un, am_un]) (S' := [.int (-1)]) (μ' := (am_S f g)) 1 rfl ?_
        refine am_F.mem (F' := (am_row (am_row (am_row (am_row f 89 (f 89)) 93 (f 93)) 94 (f 94)) 96 (f 96))) (G' := g) ?_ (by first | rfl | (funext a; by_cases z0 : a = 89; (subst z0; rfl); by_cases z1 : a = 93; (subst z1; rfl); by_cases z2 : a = 94; (subst z2; rfl); by_cases z3 : a = 96; (subst z3; rfl); simp only [am_ui, am_ul, am_row_ne z0, am_row_ne z1, am_row_ne z2, am_row_ne z3])) (by first | rfl | (funext a; by_cases z0 : a = 89; (subst z0; rfl); by_cases z1 : a = 93; (subst z1; rfl); by_cases z2 : a = 94; (subst z2; rfl); by_cases z3 : a = 96; (subst z3; rfl); simp only [am_ui, am_ul, am_row_ne z0, am_row_ne z1, am_row_ne z2, am_row_ne z3]))
        subst hKd
        exact am_F.eq (am_F.ret rfl rfl) hK
      · show am_F _ _ 19 [.ref 88, .int (nI a0_n), .int (nI a1_n), .int a2, .int a3, .int a4, am_un, am_un, am_un] [] (am_S f g) _
        refine am_F.ops (pc' := 20) (L' := [.ref 88, .int (nI a0_n), .int (nI a1_n), .int a2, .int a3, .int a4, am_un, am_un, am_un]) (S' := [.int a2]) (μ' := (am_S f g)) 1 rfl ?_
        refine am_F.call rfl rfl (x_m_isRole a2 f g ) (by decide) ?_
        show am_F _ _ 23 [.ref 88, .int (nI a0_n), .int (nI a1_n), .int a2, .int a3, .int a4, am_un, am_un, am_un] [.int (am_b (fn_m_isRole a2))] (am_S f g) _
        refine am_F.bifK 1 rfl K hK (fun c4 hK => ?_) (fun c4 hK => ?_)
        · obtain ⟨a2_n, ha2_n, ea2_n⟩ := am_mRole c4
          subst ea2_n
          try simp only [nI_clamp (show a2_n < 2147483648 by omega)] at hK
          show am_F _ _ 26 [.ref 88, .int (nI a0_n), .int (nI a1_n), .int (nI a2_n), .int a3, .int a4, am_un, am_un, am_un] [] (am_S f g) _
          refine am_F.ops (pc' := 30) (L' := [.ref 88, .int (nI a0_n), .int (nI a1_n), .int (nI a2_n), .int a3, .int a4, am_un, am_un, am_un]) (S' := [.int 5, .int 0, .int a4]) (μ' := (am_S f g)) 3 rfl ?_
          refine am_F.call rfl rfl (x_m_isIn a4 0 5 f g ) (by decide) ?_
          show am_F _ _ 33 [.ref 88, .int (nI a0_n), .int (nI a1_n), .int (nI a2_n), .int a3, .int a4, am_un, am_un, am_un] [.int (am_b (fn_m_isIn a4 0 5))] (am_S f g) _
          refine am_F.bifK 1 rfl K hK (fun c5 hK => ?_) (fun c5 hK => ?_)
          · obtain ⟨a4_n, ha4_n, ea4_n⟩ := am_mInN (N := 6) c5 (by decide)
            subst ea4_n
            try simp only [nI_clamp (show a4_n < 2147483648 by omega)] at hK
            show am_F _ _ 36 [.ref 88, .int (nI a0_n), .int (nI a1_n), .int (nI a2_n), .int a3, .int (nI a4_n), am_un, am_un, am_un] [] (am_S f g) _
            refine am_F.ops (pc' := 46) (L' := [.ref 88, .int (nI a0_n), .int (nI a1_n), .int (nI a2_n), .int a3, .int (nI a4_n), am_un, am_un, am_un]) (S' := [.int (f 89 200), .int a3]) (μ' := (am_S f g)) 5 rfl ?_
            refine am_F.iteK 1 rfl K hK (fun c6 hK => ?_) (fun c6 hK => ?_)
            · show am_F _ _ 51 [.ref 88, .int (nI a0_n), .int (nI a1_n), .int (nI a2_n), .int a3, .int (nI a4_n), am_un, am_un, am_un] [] (am_S f g) _
              refine am_F.ops (pc' := 61) (L' := [.ref 88, .int (nI a0_n), .int (nI a1_n), .int (nI a2_n), .int a3, .int (nI a4_n), am_un, am_un, am_un]) (S' := [.int 40, .int (f 89 201)]) (μ' := (am_S f g)) 5 rfl ?_
              refine am_F.iteK 1 rfl K hK (fun c7 hK => ?_) (fun c7 hK => ?_)
              · show am_F _ _ 64 [.ref 88, .int (nI a0_n), .int (nI a1_n), .int (nI a2_n), .int a3, .int (nI a4_n), am_un, am_un, am_un] [] (am_S f g) _
                refine am_F.ops (pc' := 66) (L' := [.ref 88, .int (nI a0_n), .int (nI a1_n), .int (nI a2_n), .int a3, .int (nI a4_n), am_un, am_un, am_un]) (S' := [.int (-3)]) (μ' := (am_S f g)) 1 rfl ?_
                refine am_F.mem (F' := (am_row (am_row (am_row (am_row f 89 (f 89)) 93 (f 93)) 94 (f 94)) 96 (f 96))) (G' := g) ?_ (by first | rfl | (funext a; by_cases z0 : a = 89; (subst z0; rfl); by_cases z1 : a = 93; (subst z1; rfl); by_cases z2 : a = 94; (subst z2; rfl); by_cases z3 : a = 96; (subst z3; rfl); simp only [am_ui, am_ul, am_row_ne z0, am_row_ne z1, am_row_ne z2, am_row_ne z3])) (by first | rfl | (funext a; by_cases z0 : a = 89; (subst z0; rfl); by_cases z1 : a = 93; (subst z1; rfl); by_cases z2 : a = 94; (subst z2; rfl); by_cases z3 : a = 96; (subst z3; rfl); simp only [am_ui, am_ul, am_row_ne z0, am_row_ne z1, am_row_ne z2, am_row_ne z3]))
                subst hKd
                exact am_F.eq (am_F.ret rfl rfl) hK
              · show am_F _ _ 67 [.ref 88, .int (nI a0_n), .int (nI a1_n), .int (nI a2_n), .int a3, .int (nI a4_n), am_un, am_un, am_un] [] (am_S f g) _
                refine am_F.ops (pc' := 68) (L' := [.ref 88, .int (nI a0_n), .int (nI a1_n), .int (nI a2_n), .int a3, .int (nI a4_n), am_un, am_un, am_un]) (S' := [.ref 88]) (μ' := (am_S f g)) 1 rfl ?_
                refine am_F.call rfl rfl (x_m_holders_154  f g hlC hlN hrC hrN hl0 hl5 hl2) (by decide) ?_
                obtain ⟨y8, hy8⟩ : ∃ z, (fn_m_holders_154 f) = z := ⟨_, rfl⟩
                (try rw [hy8] at hK)
                (try rw [hy8])
                refine am_F.mem (F' := (am_row (am_row (am_row f 93 y8.1) 94 y8.2.1) 96 y8.2.2)) (G' := g) ?_ (by first | rfl | (funext a; by_cases z0 : a = 93; (subst z0; rfl); by_cases z1 : a = 94; (subst z1; rfl); by_cases z2 : a = 96; (subst z2; rfl); simp only [am_ui, am_ul, am_row_ne z0, am_row_ne z1, am_row_ne z2])) (by first | rfl | (funext a; by_cases z0 : a = 93; (subst z0; rfl); by_cases z1 : a = 94; (subst z1; rfl); by_cases z2 : a = 96; (subst z2; rfl); simp only [am_ui, am_ul, am_row_ne z0, am_row_ne z1, am_row_ne z2]))
                show am_F _ _ 71 [.ref 88, .int (nI a0_n), .int (nI a1_n), .int (nI a2_n), .int a3, .int (nI a4_n), am_un, am_un, am_un] [] (am_S (am_row (am_row (am_row f 93 y8.1) 94 y8.2.1) 96 y8.2.2) g) _
                refine am_F.ops (pc' := 76) (L' := [.ref 88, .int (nI a0_n), .int (nI a1_n), .int (nI a2_n), .int a3, .int (nI a4_n), am_un, am_un, am_un]) (S' := [.int (nI a4_n), .int (nI a2_n), .int (nI a0_n), .ref 88]) (μ' := (am_S (am_row (am_row (am_row f 93 y8.1) 94 y8.2.1) 96 y8.2.2) g)) 4 rfl ?_
                refine am_F.call rfl rfl (x_m_sourceFor_166 a0_n (nI a2_n) (nI a4_n) (am_row (am_row (am_row f 93 y8.1) 94 y8.2.1) 96 y8.2.2) g hlC hlN hrC hrN hl0 hl5 hl2 (by omega)) (by decide) ?_
                show am_F _ _ 79 [.ref 88, .int (nI a0_n), .int (nI a1_n), .int (nI a2_n), .int a3, .int (nI a4_n), am_un, am_un, am_un] [.int (fn_m_sourceFor_166 a0_n (nI a2_n) (nI a4_n) (am_row (am_row (am_row f 93 y8.1) 94 y8.2.1) 96 y8.2.2))] (am_S (am_row (am_row (am_row f 93 y8.1) 94 y8.2.1) 96 y8.2.2) g) _
                refine am_F.ops (pc' := 85) (L' := [.ref 88, .int (nI a0_n), .int (nI a1_n), .int (nI a2_n), .int a3, .int (nI a4_n), .int (fn_m_sourceFor_166 a0_n (nI a2_n) (nI a4_n) (am_row (am_row (am_row f 93 y8.1) 94 y8.2.1) 96 y8.2.2)), am_un, am_un]) (S' := [.int (-5), .int (fn_m_sourceFor_166 a0_n (nI a2_n) (nI a4_n) (am_row (am_row (am_row f 93 y8.1) 94 y8.2.1) 96 y8.2.2))]) (μ' := (am_S (am_row (am_row (am_row f 93 y8.1) 94 y8.2.1) 96 y8.2.2) g)) 3 rfl ?_
                refine am_F.iteK 1 rfl K hK (fun c9 hK => ?_) (fun c9 hK => ?_)
                · show am_F _ _ 88 [.ref 88, .int (nI a0_n), .int (nI a1_n), .int (nI a2_n), .int a3, .int (nI a4_n), .int (fn_m_sourceFor_166 a0_n (nI a2_n) (nI a4_n) (am_row (am_row (am_row f 93 y8.1) 94 y8.2.1) 96 y8.2.2)), am_un, am_un] [] (am_S (am_row (am_row (am_row f 93 y8.1) 94 y8.2.1) 96 y8.2.2) g) _
                  refine am_F.ops (pc' := 90) (L' := [.ref 88, .int (nI a0_n), .int (nI a1_n), .int (nI a2_n), .int a3, .int (nI a4_n), .int (fn_m_sourceFor_166 a0_n (nI a2_n) (nI a4_n) (am_row (am_row (am_row f 93 y8.1) 94 y8.2.1) 96 y8.2.2)), am_un, am_un]) (S' := [.int (-5)]) (μ' := (am_S (am_row (am_row (am_row f 93 y8.1) 94 y8.2.1) 96 y8.2.2) g)) 1 rfl ?_
                  refine am_F.mem (F' := (am_row (am_row (am_row (am_row f 89 (f 89)) 93 y8.1) 94 y8.2.1) 96 y8.2.2)) (G' := g) ?_ (by first | rfl | (funext a; by_cases z0 : a = 89; (subst z0; rfl); by_cases z1 : a = 93; (subst z1; rfl); by_cases z2 : a = 94; (subst z2; rfl); by_cases z3 : a = 96; (subst z3; rfl); simp only [am_ui, am_ul, am_row_ne z0, am_row_ne z1, am_row_ne z2, am_row_ne z3])) (by first | rfl | (funext a; by_cases z0 : a = 89; (subst z0; rfl); by_cases z1 : a = 93; (subst z1; rfl); by_cases z2 : a = 94; (subst z2; rfl); by_cases z3 : a = 96; (subst z3; rfl); simp only [am_ui, am_ul, am_row_ne z0, am_row_ne z1, am_row_ne z2, am_row_ne z3]))
                  subst hKd
                  exact am_F.eq (am_F.ret rfl rfl) hK
                · show am_F _ _ 91 [.ref 88, .int (nI a0_n), .int (nI a1_n), .int (nI a2_n), .int a3, .int (nI a4_n), .int (fn_m_sourceFor_166 a0_n (nI a2_n) (nI a4_n) (am_row (am_row (am_row f 93 y8.1) 94 y8.2.1) 96 y8.2.2)), am_un, am_un] [] (am_S (am_row (am_row (am_row f 93 y8.1) 94 y8.2.1) 96 y8.2.2) g) _
                  refine am_F.ops (pc' := 97) (L' := [.ref 88, .int (nI a0_n), .int (nI a1_n), .int (nI a2_n), .int a3, .int (nI a4_n), .int (fn_m_sourceFor_166 a0_n (nI a2_n) (nI a4_n) (am_row (am_row (am_row f 93 y8.1) 94 y8.2.1) 96 y8.2.2)), am_un, am_un]) (S' := [.int (nI a1_n), .ref 94, .ref 88]) (μ' := (am_S (am_row (am_row (am_row f 93 y8.1) 94 y8.2.1) 96 y8.2.2) g)) 4 rfl ?_
                  refine am_F.ialE (m := a1_n) (N := 16) rfl rfl rfl rfl (by omega) (by decide) ?_
                  show am_F _ _ 98 [.ref 88, .int (nI a0_n), .int (nI a1_n), .int (nI a2_n), .int a3, .int (nI a4_n), .int (fn_m_sourceFor_166 a0_n (nI a2_n) (nI a4_n) (am_row (am_row (am_row f 93 y8.1) 94 y8.2.1) 96 y8.2.2)), am_un, am_un] [.int (y8.2.1 a1_n), .ref 88] (am_S (am_row (am_row (am_row f 93 y8.1) 94 y8.2.1) 96 y8.2.2) g) _
                  refine am_F.ops (pc' := 103) (L' := [.ref 88, .int (nI a0_n), .int (nI a1_n), .int (nI a2_n), .int a3, .int (nI a4_n), .int (fn_m_sourceFor_166 a0_n (nI a2_n) (nI a4_n) (am_row (am_row (am_row f 93 y8.1) 94 y8.2.1) 96 y8.2.2)), am_un, am_un]) (S' := [.int (nI a2_n), .ref 92, .int (y8.2.1 a1_n), .ref 88]) (μ' := (am_S (am_row (am_row (am_row f 93 y8.1) 94 y8.2.1) 96 y8.2.2) g)) 3 rfl ?_
                  refine am_F.ialE (m := a2_n) (N := 20) rfl rfl rfl rfl (by omega) (by decide) ?_
                  show am_F _ _ 104 [.ref 88, .int (nI a0_n), .int (nI a1_n), .int (nI a2_n), .int a3, .int (nI a4_n), .int (fn_m_sourceFor_166 a0_n (nI a2_n) (nI a4_n) (am_row (am_row (am_row f 93 y8.1) 94 y8.2.1) 96 y8.2.2)), am_un, am_un] [.int (f 92 a2_n), .int (y8.2.1 a1_n), .ref 88] (am_S (am_row (am_row (am_row f 93 y8.1) 94 y8.2.1) 96 y8.2.2) g) _
                  refine am_F.ops (pc' := 105) (L' := [.ref 88, .int (nI a0_n), .int (nI a1_n), .int (nI a2_n), .int a3, .int (nI a4_n), .int (fn_m_sourceFor_166 a0_n (nI a2_n) (nI a4_n) (am_row (am_row (am_row f 93 y8.1) 94 y8.2.1) 96 y8.2.2)), am_un, am_un]) (S' := [.int ((y8.2.1 a1_n) ||| (f 92 a2_n)), .ref 88]) (μ' := (am_S (am_row (am_row (am_row f 93 y8.1) 94 y8.2.1) 96 y8.2.2) g)) 1 rfl ?_
                  refine am_F.call rfl rfl (x_m_isUnlike ((y8.2.1 a1_n) ||| (f 92 a2_n)) (am_row (am_row (am_row f 93 y8.1) 94 y8.2.1) 96 y8.2.2) g ) (by decide) ?_
                  show am_F _ _ 108 [.ref 88, .int (nI a0_n), .int (nI a1_n), .int (nI a2_n), .int a3, .int (nI a4_n), .int (fn_m_sourceFor_166 a0_n (nI a2_n) (nI a4_n) (am_row (am_row (am_row f 93 y8.1) 94 y8.2.1) 96 y8.2.2)), am_un, am_un] [.int (am_b (fn_m_isUnlike ((y8.2.1 a1_n) ||| (f 92 a2_n)) (am_row (am_row (am_row f 93 y8.1) 94 y8.2.1) 96 y8.2.2)))] (am_S (am_row (am_row (am_row f 93 y8.1) 94 y8.2.1) 96 y8.2.2) g) _
                  refine am_F.bifK 1 rfl K hK (fun c10 hK => ?_) (fun c10 hK => ?_)
                  · show am_F _ _ 111 [.ref 88, .int (nI a0_n), .int (nI a1_n), .int (nI a2_n), .int a3, .int (nI a4_n), .int (fn_m_sourceFor_166 a0_n (nI a2_n) (nI a4_n) (am_row (am_row (am_row f 93 y8.1) 94 y8.2.1) 96 y8.2.2)), am_un, am_un] [] (am_S (am_row (am_row (am_row f 93 y8.1) 94 y8.2.1) 96 y8.2.2) g) _
                    refine am_F.ops (pc' := 113) (L' := [.ref 88, .int (nI a0_n), .int (nI a1_n), .int (nI a2_n), .int a3, .int (nI a4_n), .int (fn_m_sourceFor_166 a0_n (nI a2_n) (nI a4_n) (am_row (am_row (am_row f 93 y8.1) 94 y8.2.1) 96 y8.2.2)), am_un, am_un]) (S' := [.int (-6)]) (μ' := (am_S (am_row (am_row (am_row f 93 y8.1) 94 y8.2.1) 96 y8.2.2) g)) 1 rfl ?_
                    refine am_F.mem (F' := (am_row (am_row (am_row (am_row f 89 (f 89)) 93 y8.1) 94 y8.2.1) 96 y8.2.2)) (G' := g) ?_ (by first | rfl | (funext a; by_cases z0 : a = 89; (subst z0; rfl); by_cases z1 : a = 93; (subst z1; rfl); by_cases z2 : a = 94; (subst z2; rfl); by_cases z3 : a = 96; (subst z3; rfl); simp only [am_ui, am_ul, am_row_ne z0, am_row_ne z1, am_row_ne z2, am_row_ne z3])) (by first | rfl | (funext a; by_cases z0 : a = 89; (subst z0; rfl); by_cases z1 : a = 93; (subst z1; rfl); by_cases z2 : a = 94; (subst z2; rfl); by_cases z3 : a = 96; (subst z3; rfl); simp only [am_ui, am_ul, am_row_ne z0, am_row_ne z1, am_row_ne z2, am_row_ne z3]))
                    subst hKd
                    exact am_F.eq (am_F.ret rfl rfl) hK
                  · show am_F _ _ 114 [.ref 88, .int (nI a0_n), .int (nI a1_n), .int (nI a2_n), .int a3, .int (nI a4_n), .int (fn_m_sourceFor_166 a0_n (nI a2_n) (nI a4_n) (am_row (am_row (am_row f 93 y8.1) 94 y8.2.1) 96 y8.2.2)), am_un, am_un] [] (am_S (am_row (am_row (am_row f 93 y8.1) 94 y8.2.1) 96 y8.2.2) g) _
                    refine am_F.ops (pc' := 144) (L' := [.ref 88, .int (nI a0_n), .int (nI a1_n), .int (nI a2_n), .int a3, .int (nI a4_n), .int (fn_m_sourceFor_166 a0_n (nI a2_n) (nI a4_n) (am_row (am_row (am_row f 93 y8.1) 94 y8.2.1) 96 y8.2.2)), .int (f 89 201), .int (210 + (7 * (f 89 201)))]) (S' := [.int (nI a0_n), .int ((210 + (7 * (f 89 201))) + 0), .ref 89]) (μ' := (am_S (am_row (am_row (am_row f 93 y8.1) 94 y8.2.1) 96 y8.2.2) g)) 17 rfl ?_
                    refine am_F.iasE (F' := (am_row (am_row (am_row (am_row f 89 (upd (f 89) ((210 + (7 * (f 89 201).toNatClampNeg)) + 0) (nI a0_n))) 93 y8.1) 94 y8.2.1) 96 y8.2.2)) (m := ((210 + (7 * (f 89 201).toNatClampNeg)) + 0)) (N := 3340) rfl rfl rfl (am_addE (am_addE rfl (am_mulE rfl hlC)) rfl) (by omega) (by decide) (by first | rfl | (funext a; by_cases z0 : a = 89; (subst z0; rfl); by_cases z1 : a = 93; (subst z1; rfl); by_cases z2 : a = 94; (subst z2; rfl); by_cases z3 : a = 96; (subst z3; rfl); simp only [am_ui, am_ul, am_row_ne z0, am_row_ne z1, am_row_ne z2, am_row_ne z3])) ?_
                    refine am_F.ops (pc' := 154) (L' := [.ref 88, .int (nI a0_n), .int (nI a1_n), .int (nI a2_n), .int a3, .int (nI a4_n), .int (fn_m_sourceFor_166 a0_n (nI a2_n) (nI a4_n) (am_row (am_row (am_row f 93 y8.1) 94 y8.2.1) 96 y8.2.2)), .int (f 89 201), .int (210 + (7 * (f 89 201)))]) (S' := [.int (nI a1_n), .int ((210 + (7 * (f 89 201))) + 1), .ref 89]) (μ' := (am_S (am_row (am_row (am_row (am_row f 89 (upd (f 89) ((210 + (7 * (f 89 201).toNatClampNeg)) + 0) (nI a0_n))) 93 y8.1) 94 y8.2.1) 96 y8.2.2) g)) 6 rfl ?_
                    refine am_F.iasE (F' := (am_row (am_row (am_row (am_row f 89 (upd (upd (f 89) ((210 + (7 * (f 89 201).toNatClampNeg)) + 0) (nI a0_n)) ((210 + (7 * (f 89 201).toNatClampNeg)) + 1) (nI a1_n))) 93 y8.1) 94 y8.2.1) 96 y8.2.2)) (m := ((210 + (7 * (f 89 201).toNatClampNeg)) + 1)) (N := 3340) rfl rfl rfl (am_addE (am_addE rfl (am_mulE rfl hlC)) rfl) (by omega) (by decide) (by first | rfl | (funext a; by_cases z0 : a = 89; (subst z0; rfl); by_cases z1 : a = 93; (subst z1; rfl); by_cases z2 : a = 94; (subst z2; rfl); by_cases z3 : a = 96; (subst z3; rfl); simp only [am_ui, am_ul, am_row_ne z0, am_row_ne z1, am_row_ne z2, am_row_ne z3])) ?_
                    refine am_F.ops (pc' := 164) (L' := [.ref 88, .int (nI a0_n), .int (nI a1_n), .int (nI a2_n), .int a3, .int (nI a4_n), .int (fn_m_sourceFor_166 a0_n (nI a2_n) (nI a4_n) (am_row (am_row (am_row f 93 y8.1) 94 y8.2.1) 96 y8.2.2)), .int (f 89 201), .int (210 + (7 * (f 89 201)))]) (S' := [.int (nI a2_n), .int ((210 + (7 * (f 89 201))) + 2), .ref 89]) (μ' := (am_S (am_row (am_row (am_row (am_row f 89 (upd (upd (f 89) ((210 + (7 * (f 89 201).toNatClampNeg)) + 0) (nI a0_n)) ((210 + (7 * (f 89 201).toNatClampNeg)) + 1) (nI a1_n))) 93 y8.1) 94 y8.2.1) 96 y8.2.2) g)) 6 rfl ?_
                    refine am_F.iasE (F' := (am_row (am_row (am_row (am_row f 89 (upd (upd (upd (f 89) ((210 + (7 * (f 89 201).toNatClampNeg)) + 0) (nI a0_n)) ((210 + (7 * (f 89 201).toNatClampNeg)) + 1) (nI a1_n)) ((210 + (7 * (f 89 201).toNatClampNeg)) + 2) (nI a2_n))) 93 y8.1) 94 y8.2.1) 96 y8.2.2)) (m := ((210 + (7 * (f 89 201).toNatClampNeg)) + 2)) (N := 3340) rfl rfl rfl (am_addE (am_addE rfl (am_mulE rfl hlC)) rfl) (by omega) (by decide) (by first | rfl | (funext a; by_cases z0 : a = 89; (subst z0; rfl); by_cases z1 : a = 93; (subst z1; rfl); by_cases z2 : a = 94; (subst z2; rfl); by_cases z3 : a = 96; (subst z3; rfl); simp only [am_ui, am_ul, am_row_ne z0, am_row_ne z1, am_row_ne z2, am_row_ne z3])) ?_
                    refine am_F.ops (pc' := 175) (L' := [.ref 88, .int (nI a0_n), .int (nI a1_n), .int (nI a2_n), .int a3, .int (nI a4_n), .int (fn_m_sourceFor_166 a0_n (nI a2_n) (nI a4_n) (am_row (am_row (am_row f 93 y8.1) 94 y8.2.1) 96 y8.2.2)), .int (f 89 201), .int (210 + (7 * (f 89 201)))]) (S' := [.int a3, .int ((210 + (7 * (f 89 201))) + 3), .ref 89]) (μ' := (am_S (am_row (am_row (am_row (am_row f 89 (upd (upd (upd (f 89) ((210 + (7 * (f 89 201).toNatClampNeg)) + 0) (nI a0_n)) ((210 + (7 * (f 89 201).toNatClampNeg)) + 1) (nI a1_n)) ((210 + (7 * (f 89 201).toNatClampNeg)) + 2) (nI a2_n))) 93 y8.1) 94 y8.2.1) 96 y8.2.2) g)) 6 rfl ?_
                    refine am_F.iasE (F' := (am_row (am_row (am_row (am_row f 89 (upd (upd (upd (upd (f 89) ((210 + (7 * (f 89 201).toNatClampNeg)) + 0) (nI a0_n)) ((210 + (7 * (f 89 201).toNatClampNeg)) + 1) (nI a1_n)) ((210 + (7 * (f 89 201).toNatClampNeg)) + 2) (nI a2_n)) ((210 + (7 * (f 89 201).toNatClampNeg)) + 3) a3)) 93 y8.1) 94 y8.2.1) 96 y8.2.2)) (m := ((210 + (7 * (f 89 201).toNatClampNeg)) + 3)) (N := 3340) rfl rfl rfl (am_addE (am_addE rfl (am_mulE rfl hlC)) rfl) (by omega) (by decide) (by first | rfl | (funext a; by_cases z0 : a = 89; (subst z0; rfl); by_cases z1 : a = 93; (subst z1; rfl); by_cases z2 : a = 94; (subst z2; rfl); by_cases z3 : a = 96; (subst z3; rfl); simp only [am_ui, am_ul, am_row_ne z0, am_row_ne z1, am_row_ne z2, am_row_ne z3])) ?_
                    refine am_F.ops (pc' := 186) (L' := [.ref 88, .int (nI a0_n), .int (nI a1_n), .int (nI a2_n), .int a3, .int (nI a4_n), .int (fn_m_sourceFor_166 a0_n (nI a2_n) (nI a4_n) (am_row (am_row (am_row f 93 y8.1) 94 y8.2.1) 96 y8.2.2)), .int (f 89 201), .int (210 + (7 * (f 89 201)))]) (S' := [.int (nI a4_n), .int ((210 + (7 * (f 89 201))) + 4), .ref 89]) (μ' := (am_S (am_row (am_row (am_row (am_row f 89 (upd (upd (upd (upd (f 89) ((210 + (7 * (f 89 201).toNatClampNeg)) + 0) (nI a0_n)) ((210 + (7 * (f 89 201).toNatClampNeg)) + 1) (nI a1_n)) ((210 + (7 * (f 89 201).toNatClampNeg)) + 2) (nI a2_n)) ((210 + (7 * (f 89 201).toNatClampNeg)) + 3) a3)) 93 y8.1) 94 y8.2.1) 96 y8.2.2) g)) 6 rfl ?_
                    refine am_F.iasE (F' := (am_row (am_row (am_row (am_row f 89 (upd (upd (upd (upd (upd (f 89) ((210 + (7 * (f 89 201).toNatClampNeg)) + 0) (nI a0_n)) ((210 + (7 * (f 89 201).toNatClampNeg)) + 1) (nI a1_n)) ((210 + (7 * (f 89 201).toNatClampNeg)) + 2) (nI a2_n)) ((210 + (7 * (f 89 201).toNatClampNeg)) + 3) a3) ((210 + (7 * (f 89 201).toNatClampNeg)) + 4) (nI a4_n))) 93 y8.1) 94 y8.2.1) 96 y8.2.2)) (m := ((210 + (7 * (f 89 201).toNatClampNeg)) + 4)) (N := 3340) rfl rfl rfl (am_addE (am_addE rfl (am_mulE rfl hlC)) rfl) (by omega) (by decide) (by first | rfl | (funext a; by_cases z0 : a = 89; (subst z0; rfl); by_cases z1 : a = 93; (subst z1; rfl); by_cases z2 : a = 94; (subst z2; rfl); by_cases z3 : a = 96; (subst z3; rfl); simp only [am_ui, am_ul, am_row_ne z0, am_row_ne z1, am_row_ne z2, am_row_ne z3])) ?_
                    refine am_F.ops (pc' := 197) (L' := [.ref 88, .int (nI a0_n), .int (nI a1_n), .int (nI a2_n), .int a3, .int (nI a4_n), .int (fn_m_sourceFor_166 a0_n (nI a2_n) (nI a4_n) (am_row (am_row (am_row f 93 y8.1) 94 y8.2.1) 96 y8.2.2)), .int (f 89 201), .int (210 + (7 * (f 89 201)))]) (S' := [.int (fn_m_sourceFor_166 a0_n (nI a2_n) (nI a4_n) (am_row (am_row (am_row f 93 y8.1) 94 y8.2.1) 96 y8.2.2)), .int ((210 + (7 * (f 89 201))) + 5), .ref 89]) (μ' := (am_S (am_row (am_row (am_row (am_row f 89 (upd (upd (upd (upd (upd (f 89) ((210 + (7 * (f 89 201).toNatClampNeg)) + 0) (nI a0_n)) ((210 + (7 * (f 89 201).toNatClampNeg)) + 1) (nI a1_n)) ((210 + (7 * (f 89 201).toNatClampNeg)) + 2) (nI a2_n)) ((210 + (7 * (f 89 201).toNatClampNeg)) + 3) a3) ((210 + (7 * (f 89 201).toNatClampNeg)) + 4) (nI a4_n))) 93 y8.1) 94 y8.2.1) 96 y8.2.2) g)) 6 rfl ?_
                    refine am_F.iasE (F' := (am_row (am_row (am_row (am_row f 89 (upd (upd (upd (upd (upd (upd (f 89) ((210 + (7 * (f 89 201).toNatClampNeg)) + 0) (nI a0_n)) ((210 + (7 * (f 89 201).toNatClampNeg)) + 1) (nI a1_n)) ((210 + (7 * (f 89 201).toNatClampNeg)) + 2) (nI a2_n)) ((210 + (7 * (f 89 201).toNatClampNeg)) + 3) a3) ((210 + (7 * (f 89 201).toNatClampNeg)) + 4) (nI a4_n)) ((210 + (7 * (f 89 201).toNatClampNeg)) + 5) (fn_m_sourceFor_166 a0_n (nI a2_n) (nI a4_n) (am_row (am_row (am_row f 93 y8.1) 94 y8.2.1) 96 y8.2.2)))) 93 y8.1) 94 y8.2.1) 96 y8.2.2)) (m := ((210 + (7 * (f 89 201).toNatClampNeg)) + 5)) (N := 3340) rfl rfl rfl (am_addE (am_addE rfl (am_mulE rfl hlC)) rfl) (by omega) (by decide) (by first | rfl | (funext a; by_cases z0 : a = 89; (subst z0; rfl); by_cases z1 : a = 93; (subst z1; rfl); by_cases z2 : a = 94; (subst z2; rfl); by_cases z3 : a = 96; (subst z3; rfl); simp only [am_ui, am_ul, am_row_ne z0, am_row_ne z1, am_row_ne z2, am_row_ne z3])) ?_
                    refine am_F.ops (pc' := 208) (L' := [.ref 88, .int (nI a0_n), .int (nI a1_n), .int (nI a2_n), .int a3, .int (nI a4_n), .int (fn_m_sourceFor_166 a0_n (nI a2_n) (nI a4_n) (am_row (am_row (am_row f 93 y8.1) 94 y8.2.1) 96 y8.2.2)), .int (f 89 201), .int (210 + (7 * (f 89 201)))]) (S' := [.int 0, .int ((210 + (7 * (f 89 201))) + 6), .ref 89]) (μ' := (am_S (am_row (am_row (am_row (am_row f 89 (upd (upd (upd (upd (upd (upd (f 89) ((210 + (7 * (f 89 201).toNatClampNeg)) + 0) (nI a0_n)) ((210 + (7 * (f 89 201).toNatClampNeg)) + 1) (nI a1_n)) ((210 + (7 * (f 89 201).toNatClampNeg)) + 2) (nI a2_n)) ((210 + (7 * (f 89 201).toNatClampNeg)) + 3) a3) ((210 + (7 * (f 89 201).toNatClampNeg)) + 4) (nI a4_n)) ((210 + (7 * (f 89 201).toNatClampNeg)) + 5) (fn_m_sourceFor_166 a0_n (nI a2_n) (nI a4_n) (am_row (am_row (am_row f 93 y8.1) 94 y8.2.1) 96 y8.2.2)))) 93 y8.1) 94 y8.2.1) 96 y8.2.2) g)) 6 rfl ?_
                    refine am_F.iasE (F' := (am_row (am_row (am_row (am_row f 89 (upd (upd (upd (upd (upd (upd (upd (f 89) ((210 + (7 * (f 89 201).toNatClampNeg)) + 0) (nI a0_n)) ((210 + (7 * (f 89 201).toNatClampNeg)) + 1) (nI a1_n)) ((210 + (7 * (f 89 201).toNatClampNeg)) + 2) (nI a2_n)) ((210 + (7 * (f 89 201).toNatClampNeg)) + 3) a3) ((210 + (7 * (f 89 201).toNatClampNeg)) + 4) (nI a4_n)) ((210 + (7 * (f 89 201).toNatClampNeg)) + 5) (fn_m_sourceFor_166 a0_n (nI a2_n) (nI a4_n) (am_row (am_row (am_row f 93 y8.1) 94 y8.2.1) 96 y8.2.2))) ((210 + (7 * (f 89 201).toNatClampNeg)) + 6) 0)) 93 y8.1) 94 y8.2.1) 96 y8.2.2)) (m := ((210 + (7 * (f 89 201).toNatClampNeg)) + 6)) (N := 3340) rfl rfl rfl (am_addE (am_addE rfl (am_mulE rfl hlC)) rfl) (by omega) (by decide) (by first | rfl | (funext a; by_cases z0 : a = 89; (subst z0; rfl); by_cases z1 : a = 93; (subst z1; rfl); by_cases z2 : a = 94; (subst z2; rfl); by_cases z3 : a = 96; (subst z3; rfl); simp only [am_ui, am_ul, am_row_ne z0, am_row_ne z1, am_row_ne z2, am_row_ne z3])) ?_
                    refine am_F.ops (pc' := 220) (L' := [.ref 88, .int (nI a0_n), .int (nI a1_n), .int (nI a2_n), .int a3, .int (nI a4_n), .int (fn_m_sourceFor_166 a0_n (nI a2_n) (nI a4_n) (am_row (am_row (am_row f 93 y8.1) 94 y8.2.1) 96 y8.2.2)), .int (f 89 201), .int (210 + (7 * (f 89 201)))]) (S' := [.int (((upd (upd (upd (upd (upd (upd (upd (f 89) ((210 + (7 * (f 89 201).toNatClampNeg)) + 0) (nI a0_n)) ((210 + (7 * (f 89 201).toNatClampNeg)) + 1) (nI a1_n)) ((210 + (7 * (f 89 201).toNatClampNeg)) + 2) (nI a2_n)) ((210 + (7 * (f 89 201).toNatClampNeg)) + 3) a3) ((210 + (7 * (f 89 201).toNatClampNeg)) + 4) (nI a4_n)) ((210 + (7 * (f 89 201).toNatClampNeg)) + 5) (fn_m_sourceFor_166 a0_n (nI a2_n) (nI a4_n) (am_row (am_row (am_row f 93 y8.1) 94 y8.2.1) 96 y8.2.2))) ((210 + (7 * (f 89 201).toNatClampNeg)) + 6) 0) 201) + 1), .int 201, .ref 89]) (μ' := (am_S (am_row (am_row (am_row (am_row f 89 (upd (upd (upd (upd (upd (upd (upd (f 89) ((210 + (7 * (f 89 201).toNatClampNeg)) + 0) (nI a0_n)) ((210 + (7 * (f 89 201).toNatClampNeg)) + 1) (nI a1_n)) ((210 + (7 * (f 89 201).toNatClampNeg)) + 2) (nI a2_n)) ((210 + (7 * (f 89 201).toNatClampNeg)) + 3) a3) ((210 + (7 * (f 89 201).toNatClampNeg)) + 4) (nI a4_n)) ((210 + (7 * (f 89 201).toNatClampNeg)) + 5) (fn_m_sourceFor_166 a0_n (nI a2_n) (nI a4_n) (am_row (am_row (am_row f 93 y8.1) 94 y8.2.1) 96 y8.2.2))) ((210 + (7 * (f 89 201).toNatClampNeg)) + 6) 0)) 93 y8.1) 94 y8.2.1) 96 y8.2.2) g)) 7 rfl ?_
                    refine am_F.iasE (F' := (am_row (am_row (am_row (am_row f 89 (upd (upd (upd (upd (upd (upd (upd (upd (f 89) ((210 + (7 * (f 89 201).toNatClampNeg)) + 0) (nI a0_n)) ((210 + (7 * (f 89 201).toNatClampNeg)) + 1) (nI a1_n)) ((210 + (7 * (f 89 201).toNatClampNeg)) + 2) (nI a2_n)) ((210 + (7 * (f 89 201).toNatClampNeg)) + 3) a3) ((210 + (7 * (f 89 201).toNatClampNeg)) + 4) (nI a4_n)) ((210 + (7 * (f 89 201).toNatClampNeg)) + 5) (fn_m_sourceFor_166 a0_n (nI a2_n) (nI a4_n) (am_row (am_row (am_row f 93 y8.1) 94 y8.2.1) 96 y8.2.2))) ((210 + (7 * (f 89 201).toNatClampNeg)) + 6) 0) 201 (((upd (upd (upd (upd (upd (upd (upd (f 89) ((210 + (7 * (f 89 201).toNatClampNeg)) + 0) (nI a0_n)) ((210 + (7 * (f 89 201).toNatClampNeg)) + 1) (nI a1_n)) ((210 + (7 * (f 89 201).toNatClampNeg)) + 2) (nI a2_n)) ((210 + (7 * (f 89 201).toNatClampNeg)) + 3) a3) ((210 + (7 * (f 89 201).toNatClampNeg)) + 4) (nI a4_n)) ((210 + (7 * (f 89 201).toNatClampNeg)) + 5) (fn_m_sourceFor_166 a0_n (nI a2_n) (nI a4_n) (am_row (am_row (am_row f 93 y8.1) 94 y8.2.1) 96 y8.2.2))) ((210 + (7 * (f 89 201).toNatClampNeg)) + 6) 0) 201) + 1))) 93 y8.1) 94 y8.2.1) 96 y8.2.2)) (m := 201) (N := 3340) rfl rfl rfl rfl (by omega) (by decide) (by first | rfl | (funext a; by_cases z0 : a = 89; (subst z0; rfl); by_cases z1 : a = 93; (subst z1; rfl); by_cases z2 : a = 94; (subst z2; rfl); by_cases z3 : a = 96; (subst z3; rfl); simp only [am_ui, am_ul, am_row_ne z0, am_row_ne z1, am_row_ne z2, am_row_ne z3])) ?_
                    refine am_F.ops (pc' := 223) (L' := [.ref 88, .int (nI a0_n), .int (nI a1_n), .int (nI a2_n), .int a3, .int (nI a4_n), .int (fn_m_sourceFor_166 a0_n (nI a2_n) (nI a4_n) (am_row (am_row (am_row f 93 y8.1) 94 y8.2.1) 96 y8.2.2)), .int (f 89 201), .int (210 + (7 * (f 89 201)))]) (S' := [.int (f 89 201)]) (μ' := (am_S (am_row (am_row (am_row (am_row f 89 (upd (upd (upd (upd (upd (upd (upd (upd (f 89) ((210 + (7 * (f 89 201).toNatClampNeg)) + 0) (nI a0_n)) ((210 + (7 * (f 89 201).toNatClampNeg)) + 1) (nI a1_n)) ((210 + (7 * (f 89 201).toNatClampNeg)) + 2) (nI a2_n)) ((210 + (7 * (f 89 201).toNatClampNeg)) + 3) a3) ((210 + (7 * (f 89 201).toNatClampNeg)) + 4) (nI a4_n)) ((210 + (7 * (f 89 201).toNatClampNeg)) + 5) (fn_m_sourceFor_166 a0_n (nI a2_n) (nI a4_n) (am_row (am_row (am_row f 93 y8.1) 94 y8.2.1) 96 y8.2.2))) ((210 + (7 * (f 89 201).toNatClampNeg)) + 6) 0) 201 (((upd (upd (upd (upd (upd (upd (upd (f 89) ((210 + (7 * (f 89 201).toNatClampNeg)) + 0) (nI a0_n)) ((210 + (7 * (f 89 201).toNatClampNeg)) + 1) (nI a1_n)) ((210 + (7 * (f 89 201).toNatClampNeg)) + 2) (nI a2_n)) ((210 + (7 * (f 89 201).toNatClampNeg)) + 3) a3) ((210 + (7 * (f 89 201).toNatClampNeg)) + 4) (nI a4_n)) ((210 + (7 * (f 89 201).toNatClampNeg)) + 5) (fn_m_sourceFor_166 a0_n (nI a2_n) (nI a4_n) (am_row (am_row (am_row f 93 y8.1) 94 y8.2.1) 96 y8.2.2))) ((210 + (7 * (f 89 201).toNatClampNeg)) + 6) 0) 201) + 1))) 93 y8.1) 94 y8.2.1) 96 y8.2.2) g)) 1 rfl ?_
                    subst hKd
                    exact am_F.eq (am_F.ret rfl rfl) hK
            · show am_F _ _ 49 [.ref 88, .int (nI a0_n), .int (nI a1_n), .int (nI a2_n), .int a3, .int (nI a4_n), am_un, am_un, am_un] [] (am_S f g) _
              refine am_F.ops (pc' := 50) (L' := [.ref 88, .int (nI a0_n), .int (nI a1_n), .int (nI a2_n), .int a3, .int (nI a4_n), am_un, am_un, am_un]) (S' := [.int (-1)]) (μ' := (am_S f g)) 1 rfl ?_
              refine am_F.mem (F' := (am_row (am_row (am_row (am_row f 89 (f 89)) 93 (f 93)) 94 (f 94)) 96 (f 96))) (G' := g) ?_ (by first | rfl | (funext a; by_cases z0 : a = 89; (subst z0; rfl); by_cases z1 : a = 93; (subst z1; rfl); by_cases z2 : a = 94; (subst z2; rfl); by_cases z3 : a = 96; (subst z3; rfl); simp only [am_ui, am_ul, am_row_ne z0, am_row_ne z1, am_row_ne z2, am_row_ne z3])) (by first | rfl | (funext a; by_cases z0 : a = 89; (subst z0; rfl); by_cases z1 : a = 93; (subst z1; rfl); by_cases z2 : a = 94; (subst z2; rfl); by_cases z3 : a = 96; (subst z3; rfl); simp only [am_ui, am_ul, am_row_ne z0, am_row_ne z1, am_row_ne z2, am_row_ne z3]))
              subst hKd
              exact am_F.eq (am_F.ret rfl rfl) hK
          · show am_F _ _ 49 [.ref 88, .int (nI a0_n), .int (nI a1_n), .int (nI a2_n), .int a3, .int a4, am_un, am_un, am_un] [] (am_S f g) _
            refine am_F.ops (pc' := 50) (L' := [.ref 88, .int (nI a0_n), .int (nI a1_n), .int (nI a2_n), .int a3, .int a4, am_un, am_un, am_un]) (S' := [.int (-1)]) (μ' := (am_S f g)) 1 rfl ?_
            refine am_F.mem (F' := (am_row (am_row (am_row (am_row f 89 (f 89)) 93 (f 93)) 94 (f 94)) 96 (f 96))) (G' := g) ?_ (by first | rfl | (funext a; by_cases z0 : a = 89; (subst z0; rfl); by_cases z1 : a = 93; (subst z1; rfl); by_cases z2 : a = 94; (subst z2; rfl); by_cases z3 : a = 96; (subst z3; rfl); simp only [am_ui, am_ul, am_row_ne z0, am_row_ne z1, am_row_ne z2, am_row_ne z3])) (by first | rfl | (funext a; by_cases z0 : a = 89; (subst z0; rfl); by_cases z1 : a = 93; (subst z1; rfl); by_cases z2 : a = 94; (subst z2; rfl); by_cases z3 : a = 96; (subst z3; rfl); simp only [am_ui, am_ul, am_row_ne z0, am_row_ne z1, am_row_ne z2, am_row_ne z3]))
            subst hKd
            exact am_F.eq (am_F.ret rfl rfl) hK
        · show am_F _ _ 49 [.ref 88, .int (nI a0_n), .int (nI a1_n), .int a2, .int a3, .int a4, am_un, am_un, am_un] [] (am_S f g) _
          refine am_F.ops (pc' := 50) (L' := [.ref 88, .int (nI a0_n), .int (nI a1_n), .int a2, .int a3, .int a4, am_un, am_un, am_un]) (S' := [.int (-1)]) (μ' := (am_S f g)) 1 rfl ?_
          refine am_F.mem (F' := (am_row (am_row (am_row (am_row f 89 (f 89)) 93 (f 93)) 94 (f 94)) 96 (f 96))) (G' := g) ?_ (by first | rfl | (funext a; by_cases z0 : a = 89; (subst z0; rfl); by_cases z1 : a = 93; (subst z1; rfl); by_cases z2 : a = 94; (subst z2; rfl); by_cases z3 : a = 96; (subst z3; rfl); simp only [am_ui, am_ul, am_row_ne z0, am_row_ne z1, am_row_ne z2, am_row_ne z3])) (by first | rfl | (funext a; by_cases z0 : a = 89; (subst z0; rfl); by_cases z1 : a = 93; (subst z1; rfl); by_cases z2 : a = 94; (subst z2; rfl); by_cases z3 : a = 96; (subst z3; rfl); simp only [am_ui, am_ul, am_row_ne z0, am_row_ne z1, am_row_ne z2, am_row_ne z3]))
          subst hKd
          exact am_F.eq (am_F.ret rfl rfl) hK
    · show am_F _ _ 49 [.ref 88, .int (nI a0_n), .int a1, .int a2, .int a3, .int a4, am_un, am_un, am_un] [] (am_S f g) _
      refine am_F.ops (pc' := 50) (L' := [.ref 88, .int (nI a0_n), .int a1, .int a2, .int a3, .int a4, am_un, am_un, am_un]) (S' := [.int (-1)]) (μ' := (am_S f g)) 1 rfl ?_
      refine am_F.mem (F' := (am_row (am_row (am_row (am_row f 89 (f 89)) 93 (f 93)) 94 (f 94)) 96 (f 96))) (G' := g) ?_ (by first | rfl | (funext a; by_cases z0 : a = 89; (subst z0; rfl); by_cases z1 : a = 93; (subst z1; rfl); by_cases z2 : a = 94; (subst z2; rfl); by_cases z3 : a = 96; (subst z3; rfl); simp only [am_ui, am_ul, am_row_ne z0, am_row_ne z1, am_row_ne z2, am_row_ne z3])) (by first | rfl | (funext a; by_cases z0 : a = 89; (subst z0; rfl); by_cases z1 : a = 93; (subst z1; rfl); by_cases z2 : a = 94; (subst z2; rfl); by_cases z3 : a = 96; (subst z3; rfl); simp only [am_ui, am_ul, am_row_ne z0, am_row_ne z1, am_row_ne z2, am_row_ne z3]))
      subst hKd
      exact am_F.eq (am_F.ret rfl rfl) hK
  · show am_F _ _ 49 [.ref 88, .int a0, .int a1, .int a2, .int a3, .int a4, am_un, am_un, am_un] [] (am_S f g) _
    refine am_F.ops (pc' := 50) (L' := [.ref 88, .int a0, .int a1, .int a2, .int a3, .int a4, am_un, am_un, am_un]) (S' := [.int (-1)]) (μ' := (am_S f g)) 1 rfl ?_
    refine am_F.mem (F' := (am_row (am_row (am_row (am_row f 89 (f 89)) 93 (f 93)) 94 (f 94)) 96 (f 96))) (G' := g) ?_ (by first | rfl | (funext a; by_cases z0 : a = 89; (subst z0; rfl); by_cases z1 : a = 93; (subst z1; rfl); by_cases z2 : a = 94; (subst z2; rfl); by_cases z3 : a = 96; (subst z3; rfl); simp only [am_ui, am_ul, am_row_ne z0, am_row_ne z1, am_row_ne z2, am_row_ne z3])) (by first | rfl | (funext a; by_cases z0 : a = 89; (subst z0; rfl); by_cases z1 : a = 93; (subst z1; rfl); by_cases z2 : a = 94; (subst z2; rfl); by_cases z3 : a = 96; (subst z3; rfl); simp only [am_ui, am_ul, am_row_ne z0, am_row_ne z1, am_row_ne z2, am_row_ne z3]))
    subst hKd
    exact am_F.eq (am_F.ret rfl rfl) hK
/-- AccessLatticeModel.isAnyUnlike -/
def st_m_isAnyUnlike_153_6 (f : Nat → Nat → Int32) (y1 : (Nat → Int32) × (Nat → Int32) × (Nat → Int32)) : Nat → Unit → Unit ⊕ (Unit ⊕ Bool × (Nat → Int32) × (Nat → Int32) × (Nat → Int32)) := fun i6 _ => (bif (fn_m_isUnlike (y1.2.1 i6) (am_row (am_row (am_row f 93 y1.1) 94 y1.2.1) 96 y1.2.2)) then .inr (.inr (true, y1.1, y1.2.1, y1.2.2)) else .inl ())
def lf_m_isAnyUnlike_153_6 (f : Nat → Nat → Int32) (y1 : (Nat → Int32) × (Nat → Int32) × (Nat → Int32)) : Unit ⊕ Bool × (Nat → Int32) × (Nat → Int32) × (Nat → Int32) := am_forX (st_m_isAnyUnlike_153_6 f y1) 16 0 ()
def fn_m_isAnyUnlike_153 (f : Nat → Nat → Int32) : Bool × (Nat → Int32) × (Nat → Int32) × (Nat → Int32) := (Sum.elim (fun (z6 : Unit) => (false, (fn_m_holders_154 f).1, (fn_m_holders_154 f).2.1, (fn_m_holders_154 f).2.2)) (fun (z : Bool × (Nat → Int32) × (Nat → Int32) × (Nat → Int32)) => z) (lf_m_isAnyUnlike_153_6 f (fn_m_holders_154 f)))
theorem lp_m_isAnyUnlike_153_6 (f : Nat → Nat → Int32) (g : Nat → Nat → Int64) (y1 : (Nat → Int32) × (Nat → Int32) × (Nat → Int32)) (hlC : f 89 201 = nI (f 89 201).toNatClampNeg) (hlN : (f 89 201).toNatClampNeg ≤ 40) (hrC : f 89 202 = nI (f 89 202).toNatClampNeg) (hrN : (f 89 202).toNatClampNeg ≤ 30) (hl0 : ∀ i, i < (f 89 201).toNatClampNeg → am_inb (fn_m_loanAt i 0 f) 16 = true) (hl5 : ∀ i, i < (f 89 201).toNatClampNeg → ¬ fn_m_loanAt i 5 f < 0 → am_inb (fn_m_loanAt i 5 f) 40 = true) (hl2 : ∀ i, i < (f 89 201).toNatClampNeg → am_inb (fn_m_loanAt i 2 f) 20 = true) (res : Option Value × am_M) : ∀ (n i6 : Nat)  , i6 + n = 16 → am_KX (fun (z : Unit) => ∀ (wc : Value), am_F 4 am_k_153 33 [.ref 88, wc] [] (am_S (am_row (am_row (am_row f 93 y1.1) 94 y1.2.1) 96 y1.2.2) g) res) (fun (z : Bool × (Nat → Int32) × (Nat → Int32) × (Nat → Int32)) => (some (Value.int (am_b z.1)), am_S (am_row (am_row (am_row f 93 z.2.1) 94 z.2.2.1) 96 z.2.2.2) g) = res) (am_forX (st_m_isAnyUnlike_153_6 f y1) n i6 ()) → am_F 4 am_k_153 6 [.ref 88, .int (nI i6)] [] (am_S (am_row (am_row (am_row f 93 y1.1) 94 y1.2.1) 96 y1.2.2) g) res := by
  intro n
  induction n with
  | zero =>
    intro i6 hi hK
    refine am_F.pos 3 rfl (by show 16 ≤ nI i6; rw [show (16 : Int32) = nI 16 from rfl]; exact nI_le (by omega) (by omega)) ?_
    exact hK _
  | succ n ih =>
    intro i6 hi hK
    refine am_F.neg 3 rfl (by show ¬ 16 ≤ nI i6; rw [show (16 : Int32) = nI 16 from rfl]; exact nI_ge (by omega) (by omega)) ?_
    have hb6 : i6 < 16 := by omega
    show am_F _ _ 12 [.ref 88, .int (nI i6)] [] (am_S (am_row (am_row (am_row f 93 y1.1) 94 y1.2.1) 96 y1.2.2) g) _
    obtain ⟨K, hKd⟩ : ∃ K : (Unit ⊕ (Unit ⊕ Bool × (Nat → Int32) × (Nat → Int32) × (Nat → Int32))) → Prop, K = fun s => am_KX (fun (z : Unit) => ∀ (wc : Value), am_F 4 am_k_153 33 [.ref 88, wc] [] (am_S (am_row (am_row (am_row f 93 y1.1) 94 y1.2.1) 96 y1.2.2) g) res) (fun (z : Bool × (Nat → Int32) × (Nat → Int32) × (Nat → Int32)) => (some (Value.int (am_b z.1)), am_S (am_row (am_row (am_row f 93 z.2.1) 94 z.2.2.1) 96 z.2.2.2) g) = res) (am_nxt (fun z => am_forX (st_m_isAnyUnlike_153_6 f y1) n (i6 + 1) z) s) := ⟨_, rfl⟩
    have hK : K ((st_m_isAnyUnlike_153_6 f y1) i6 ()) := by rw [am_forX_s] at hK; rw [hKd]; with_reducible exact hK
    unfold st_m_isAnyUnlike_153_6 at hK
    refine am_F.ops (pc' := 18) (L' := [.ref 88, .int (nI i6)]) (S' := [.int (nI i6), .ref 94, .ref 88]) (μ' := (am_S (am_row (am_row (am_row f 93 y1.1) 94 y1.2.1) 96 y1.2.2) g)) 4 rfl ?_
    refine am_F.ialE (m := i6) (N := 16) rfl rfl rfl rfl (by omega) (by decide) ?_
    show am_F _ _ 19 [.ref 88, .int (nI i6)] [.int (y1.2.1 i6), .ref 88] (am_S (am_row (am_row (am_row f 93 y1.1) 94 y1.2.1) 96 y1.2.2) g) _
    refine am_F.call rfl rfl (x_m_isUnlike (y1.2.1 i6) (am_row (am_row (am_row f 93 y1.1) 94 y1.2.1) 96 y1.2.2) g ) (by decide) ?_
    show am_F _ _ 22 [.ref 88, .int (nI i6)] [.int (am_b (fn_m_isUnlike (y1.2.1 i6) (am_row (am_row (am_row f 93 y1.1) 94 y1.2.1) 96 y1.2.2)))] (am_S (am_row (am_row (am_row f 93 y1.1) 94 y1.2.1) 96 y1.2.2) g) _
    refine am_F.bifK 1 rfl K hK (fun c2 hK => ?_) (fun c2 hK => ?_)
    · show am_F _ _ 25 [.ref 88, .int (nI i6)] [] (am_S (am_row (am_row (am_row f 93 y1.1) 94 y1.2.1) 96 y1.2.2) g) _
      refine am_F.ops (pc' := 26) (L' := [.ref 88, .int (nI i6)]) (S' := [.int 1]) (μ' := (am_S (am_row (am_row (am_row f 93 y1.1) 94 y1.2.1) 96 y1.2.2) g)) 1 rfl ?_
      subst hKd
      exact am_F.eq (am_F.ret rfl rfl) hK
    · show am_F _ _ 27 [.ref 88, .int (nI i6)] [] (am_S (am_row (am_row (am_row f 93 y1.1) 94 y1.2.1) 96 y1.2.2) g) _
      refine am_F.ops (pc' := 6) (L' := [.ref 88, .int ((nI i6) + 1)]) (S' := []) (μ' := (am_S (am_row (am_row (am_row f 93 y1.1) 94 y1.2.1) 96 y1.2.2) g)) 2 rfl ?_
      rw [nI_1 i6]
      subst hKd
      exact ih (i6 + 1)  (by omega)  hK
theorem x_m_isAnyUnlike_153 (f : Nat → Nat → Int32) (g : Nat → Nat → Int64) (hlC : f 89 201 = nI (f 89 201).toNatClampNeg) (hlN : (f 89 201).toNatClampNeg ≤ 40) (hrC : f 89 202 = nI (f 89 202).toNatClampNeg) (hrN : (f 89 202).toNatClampNeg ≤ 30) (hl0 : ∀ i, i < (f 89 201).toNatClampNeg → am_inb (fn_m_loanAt i 0 f) 16 = true) (hl5 : ∀ i, i < (f 89 201).toNatClampNeg → ¬ fn_m_loanAt i 5 f < 0 → am_inb (fn_m_loanAt i 5 f) 40 = true) (hl2 : ∀ i, i < (f 89 201).toNatClampNeg → am_inb (fn_m_loanAt i 2 f) 20 = true) : am_D 4 153 2 [.ref 88] (am_S f g) (some (Value.int (am_b ((fn_m_isAnyUnlike_153 f).1))), am_S (am_row (am_row (am_row f 93 ((fn_m_isAnyUnlike_153 f).2.1)) 94 ((fn_m_isAnyUnlike_153 f).2.2.1)) 96 ((fn_m_isAnyUnlike_153 f).2.2.2)) g) := by
  refine am_D.of (code := am_k_153) rfl (L0 := [.ref 88, am_un]) rfl ?_
  generalize hres : (some (Value.int (am_b ((fn_m_isAnyUnlike_153 f).1))), am_S (am_row (am_row (am_row f 93 ((fn_m_isAnyUnlike_153 f).2.1)) 94 ((fn_m_isAnyUnlike_153 f).2.2.1)) 96 ((fn_m_isAnyUnlike_153 f).2.2.2)) g) = res
  obtain ⟨K, hKd⟩ : ∃ K : (Bool × (Nat → Int32) × (Nat → Int32) × (Nat → Int32)) → Prop, K = fun z => (some (Value.int (am_b z.1)), am_S (am_row (am_row (am_row f 93 z.2.1) 94 z.2.2.1) 96 z.2.2.2) g) = res := ⟨_, rfl⟩
  have hK : K (fn_m_isAnyUnlike_153 f) := by rw [hKd]; exact hres
  clear hres
  unfold fn_m_isAnyUnlike_153 at hK
  refine am_F.ops (pc' := 1) (L' := [.ref 88, am_un]) (S' := [.ref 88]) (μ' := (am_S f g)) 1 rfl ?_
  refine am_F.call rfl rfl (x_m_holders_154  f g hlC hlN hrC hrN hl0 hl5 hl2) (by decide) ?_
  obtain ⟨y1, hy1⟩ : ∃ z, (fn_m_holders_154 f) = z := ⟨_, rfl⟩
  (try rw [hy1] at hK)
  (try rw [hy1])
  refine am_F.mem (F' := (am_row (am_row (am_row f 93 y1.1) 94 y1.2.1) 96 y1.2.2)) (G' := g) ?_ (by first | rfl | (funext a; by_cases z0 : a = 93; (subst z0; rfl); by_cases z1 : a = 94; (subst z1; rfl); by_cases z2 : a = 96; (subst z2; rfl); simp only [am_ui, am_ul, am_row_ne z0, am_row_ne z1, am_row_ne z2])) (by first | rfl | (funext a; by_cases z0 : a = 93; (subst z0; rfl); by_cases z1 : a = 94; (subst z1; rfl); by_cases z2 : a = 96; (subst z2; rfl); simp only [am_ui, am_ul, am_row_ne z0, am_row_ne z1, am_row_ne z2]))
  show am_F _ _ 4 [.ref 88, am_un] [] (am_S (am_row (am_row (am_row f 93 y1.1) 94 y1.2.1) 96 y1.2.2) g) _
  refine am_F.ops (pc' := 6) (L' := [.ref 88, .int 0]) (S' := []) (μ' := (am_S (am_row (am_row (am_row f 93 y1.1) 94 y1.2.1) 96 y1.2.2) g)) 2 rfl ?_
  show am_F _ _ 6 [.ref 88, .int (nI 0)] [] (am_S (am_row (am_row (am_row f 93 y1.1) 94 y1.2.1) 96 y1.2.2) g) _
  refine lp_m_isAnyUnlike_153_6 f g y1 hlC hlN hrC hrN hl0 hl5 hl2 _ 16 0   (by omega)  ?_
  rw [show am_forX (st_m_isAnyUnlike_153_6 f y1) 16 0 () = (lf_m_isAnyUnlike_153_6 f y1) from rfl]
  revert hK
  cases (lf_m_isAnyUnlike_153_6 f y1) with
  | inr z =>
    intro hK
    subst hKd
    exact hK
  | inl z6 =>
    intro hK wc
    (try simp only [Sum.elim_inl] at hK)
    refine am_F.ops (pc' := 34) (L' := [.ref 88, wc]) (S' := [.int 0]) (μ' := (am_S (am_row (am_row (am_row f 93 y1.1) 94 y1.2.1) 96 y1.2.2) g)) 1 rfl ?_
    subst hKd
    exact am_F.eq (am_F.ret rfl rfl) hK
