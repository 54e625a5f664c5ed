/-! THE CONSTRUCTORS, going on -/
set_option linter.unusedVariables false
abbrev bo_SB (f : Nat → Nat → Int32) (g : Nat → Nat → Int64) : am_M := bo_T 48 [(40, 7), (0, 1), (1, 5), (2, 10), (18, 8), (2, 2), (11, 6), (2, 1), (3, 7)] f g 3704
/-- AccessLattice$Roles.close -/
def st_closeB_2 (f : Nat → Nat → Int32) : Nat → (Nat → Int32) × (Nat → Int32) → (Nat → Int32) × (Nat → Int32) := fun i2 z => match z with
  | (r2_6, r2_7) => (upd r2_6 i2 ((f 41 i2) ||| (1 <<< ((nI i2) &&& 31))), upd r2_7 i2 ((f 42 i2) ||| (1 <<< ((nI i2) &&& 31))))
def lf_closeB_2 (f : Nat → Nat → Int32) : (Nat → Int32) × (Nat → Int32) := am_for (st_closeB_2 f) 20 0 (f 43, f 44)
def st_closeB_56 (i48 : Nat) : Nat → (Nat → Int32) × (Nat → Int32) → (Nat → Int32) × (Nat → Int32) := fun i56 z => match z with
  | (r56_6, r56_7) => (bif (fn_has (r56_6 i56) (nI i48)) then (bif (fn_has (r56_7 i56) (nI i48)) then (upd r56_6 i56 ((r56_6 i56) ||| (r56_6 i48)), upd r56_7 i56 ((r56_7 i56) ||| (r56_7 i48))) else (upd r56_6 i56 ((r56_6 i56) ||| (r56_6 i48)), r56_7)) else (bif (fn_has (r56_7 i56) (nI i48)) then (r56_6, upd r56_7 i56 ((r56_7 i56) ||| (r56_7 i48))) else (r56_6, r56_7)))
def lf_closeB_56 (i48 : Nat) (r48_6 : Nat → Int32) (r48_7 : Nat → Int32) : (Nat → Int32) × (Nat → Int32) := am_for (st_closeB_56 i48) 20 0 (r48_6, r48_7)
def st_closeB_48  : Nat → (Nat → Int32) × (Nat → Int32) → (Nat → Int32) × (Nat → Int32) := fun i48 z => match z with
  | (r48_6, r48_7) => ((lf_closeB_56 i48 r48_6 r48_7).1, (lf_closeB_56 i48 r48_6 r48_7).2)
def lf_closeB_48 (z2_1 : (Nat → Int32) × (Nat → Int32)) : (Nat → Int32) × (Nat → Int32) := am_for st_closeB_48 20 0 (z2_1.1, z2_1.2)
def fn_closeB (f : Nat → Nat → Int32) : (Nat → Int32) × (Nat → Int32) := ((lf_closeB_48 (lf_closeB_2 f)).1, (lf_closeB_48 (lf_closeB_2 f)).2)
theorem lp_closeB_2 (f : Nat → Nat → Int32) (g : Nat → Nat → Int64)  (res : Option Value × am_M) : ∀ (n i2 : Nat) (r2_6 : Nat → Int32) (r2_7 : Nat → Int32) , i2 + n = 20 → (fun (z : (Nat → Int32) × (Nat → Int32)) => ∀ (wc : Value), am_F 1 am_k_4 46 [.ref 40, wc, am_un] [] (bo_SB (am_row (am_row f 43 z.1) 44 z.2) g) res) (am_for (st_closeB_2 f) n i2 (r2_6, r2_7)) → am_F 1 am_k_4 2 [.ref 40, .int (nI i2), am_un] [] (bo_SB (am_row (am_row f 43 r2_6) 44 r2_7) g) res := by
  intro n
  induction n with
  | zero =>
    intro i2 r2_6 r2_7 hi hK
    refine am_F.pos 3 rfl (by show 20 ≤ nI i2; rw [show (20 : Int32) = nI 20 from rfl]; exact nI_le (by omega) (by omega)) ?_
    exact hK _
  | succ n ih =>
    intro i2 r2_6 r2_7 hi hK
    refine am_F.neg 3 rfl (by show ¬ 20 ≤ nI i2; rw [show (20 : Int32) = nI 20 from rfl]; exact nI_ge (by omega) (by omega)) ?_
    have hb2 : i2 < 20 := by omega
    show am_F _ _ 8 [.ref 40, .int (nI i2), am_un] [] (bo_SB (am_row (am_row f 43 r2_6) 44 r2_7) g) _
    obtain ⟨K, hKd⟩ : ∃ K : ((Nat → Int32) × (Nat → Int32)) → Prop, K = fun s => (fun (z : (Nat → Int32) × (Nat → Int32)) => ∀ (wc : Value), am_F 1 am_k_4 46 [.ref 40, wc, am_un] [] (bo_SB (am_row (am_row f 43 z.1) 44 z.2) g) res) (am_for (st_closeB_2 f) n (i2 + 1) s) := ⟨_, rfl⟩
    have hK : K ((st_closeB_2 f) i2 (r2_6, r2_7)) := by rw [hKd]; exact hK
    unfold st_closeB_2 at hK
    simp only at hK
    refine am_F.ops (pc' := 18) (L' := [.ref 40, .int (nI i2), am_un]) (S' := [.int (nI i2), .ref 41, .int (nI i2), .ref 43]) (μ' := (bo_SB (am_row (am_row f 43 r2_6) 44 r2_7) g)) 6 rfl ?_
    refine am_F.ialE (m := i2) (N := 20) rfl rfl rfl rfl (by omega) (by decide) ?_
    show am_F _ _ 19 [.ref 40, .int (nI i2), am_un] [.int (f 41 i2), .int (nI i2), .ref 43] (bo_SB (am_row (am_row f 43 r2_6) 44 r2_7) g) _
    refine am_F.ops (pc' := 23) (L' := [.ref 40, .int (nI i2), am_un]) (S' := [.int ((f 41 i2) ||| (1 <<< ((nI i2) &&& 31))), .int (nI i2), .ref 43]) (μ' := (bo_SB (am_row (am_row f 43 r2_6) 44 r2_7) g)) 4 rfl ?_
    refine bo_F.iasE (F' := (am_row (am_row f 43 (upd r2_6 i2 ((f 41 i2) ||| (1 <<< ((nI i2) &&& 31))))) 44 r2_7)) (m := i2) (N := 20) rfl rfl rfl rfl (by omega) (by decide) (by first | rfl | (funext a; by_cases z0 : a = 43; (subst z0; rfl); by_cases z1 : a = 44; (subst z1; rfl); simp only [am_ui, am_ul, am_row_ne z0, am_row_ne z1])) ?_
    refine am_F.ops (pc' := 34) (L' := [.ref 40, .int (nI i2), am_un]) (S' := [.int (nI i2), .ref 42, .int (nI i2), .ref 44]) (μ' := (bo_SB (am_row (am_row f 43 (upd r2_6 i2 ((f 41 i2) ||| (1 <<< ((nI i2) &&& 31))))) 44 r2_7) g)) 6 rfl ?_
    refine am_F.ialE (m := i2) (N := 20) rfl rfl rfl rfl (by omega) (by decide) ?_
    show am_F _ _ 35 [.ref 40, .int (nI i2), am_un] [.int (f 42 i2), .int (nI i2), .ref 44] (bo_SB (am_row (am_row f 43 (upd r2_6 i2 ((f 41 i2) ||| (1 <<< ((nI i2) &&& 31))))) 44 r2_7) g) _
    refine am_F.ops (pc' := 39) (L' := [.ref 40, .int (nI i2), am_un]) (S' := [.int ((f 42 i2) ||| (1 <<< ((nI i2) &&& 31))), .int (nI i2), .ref 44]) (μ' := (bo_SB (am_row (am_row f 43 (upd r2_6 i2 ((f 41 i2) ||| (1 <<< ((nI i2) &&& 31))))) 44 r2_7) g)) 4 rfl ?_
    refine bo_F.iasE (F' := (am_row (am_row f 43 (upd r2_6 i2 ((f 41 i2) ||| (1 <<< ((nI i2) &&& 31))))) 44 (upd r2_7 i2 ((f 42 i2) ||| (1 <<< ((nI i2) &&& 31)))))) (m := i2) (N := 20) rfl rfl rfl rfl (by omega) (by decide) (by first | rfl | (funext a; by_cases z0 : a = 43; (subst z0; rfl); by_cases z1 : a = 44; (subst z1; rfl); simp only [am_ui, am_ul, am_row_ne z0, am_row_ne z1])) ?_
    refine am_F.ops (pc' := 2) (L' := [.ref 40, .int ((nI i2) + 1), am_un]) (S' := []) (μ' := (bo_SB (am_row (am_row f 43 (upd r2_6 i2 ((f 41 i2) ||| (1 <<< ((nI i2) &&& 31))))) 44 (upd r2_7 i2 ((f 42 i2) ||| (1 <<< ((nI i2) &&& 31))))) g)) 2 rfl ?_
    rw [nI_1 i2]
    subst hKd
    exact ih (i2 + 1) (upd r2_6 i2 ((f 41 i2) ||| (1 <<< ((nI i2) &&& 31)))) (upd r2_7 i2 ((f 42 i2) ||| (1 <<< ((nI i2) &&& 31)))) (by omega)  hK
theorem lp_closeB_56 (f : Nat → Nat → Int32) (g : Nat → Nat → Int64) (z2_1 : (Nat → Int32) × (Nat → Int32)) (i48 : Nat) (r48_6 : Nat → Int32) (r48_7 : Nat → Int32) (hb48 : i48 < 20) (res : Option Value × am_M) : ∀ (n i56 : Nat) (r56_6 : Nat → Int32) (r56_7 : Nat → Int32) , i56 + n = 20 → (fun (z : (Nat → Int32) × (Nat → Int32)) => ∀ (wc : Value), am_F 1 am_k_4 124 [.ref 40, .int (nI i48), wc] [] (bo_SB (am_row (am_row f 43 z.1) 44 z.2) g) res) (am_for (st_closeB_56 i48) n i56 (r56_6, r56_7)) → am_F 1 am_k_4 56 [.ref 40, .int (nI i48), .int (nI i56)] [] (bo_SB (am_row (am_row f 43 r56_6) 44 r56_7) g) res := by
  intro n
  induction n with
  | zero =>
    intro i56 r56_6 r56_7 hi hK
    refine am_F.pos 3 rfl (by show 20 ≤ nI i56; rw [show (20 : Int32) = nI 20 from rfl]; exact nI_le (by omega) (by omega)) ?_
    exact hK _
  | succ n ih =>
    intro i56 r56_6 r56_7 hi hK
    refine am_F.neg 3 rfl (by show ¬ 20 ≤ nI i56; rw [show (20 : Int32) = nI 20 from rfl]; exact nI_ge (by omega) (by omega)) ?_
    have hb56 : i56 < 20 := by omega
    show am_F _ _ 62 [.ref 40, .int (nI i48), .int (nI i56)] [] (bo_SB (am_row (am_row f 43 r56_6) 44 r56_7) g) _
    obtain ⟨K, hKd⟩ : ∃ K : ((Nat → Int32) × (Nat → Int32)) → Prop, K = fun s => (fun (z : (Nat → Int32) × (Nat → Int32)) => ∀ (wc : Value), am_F 1 am_k_4 124 [.ref 40, .int (nI i48), wc] [] (bo_SB (am_row (am_row f 43 z.1) 44 z.2) g) res) (am_for (st_closeB_56 i48) n (i56 + 1) s) := ⟨_, rfl⟩
    have hK : K ((st_closeB_56 i48) i56 (r56_6, r56_7)) := by rw [hKd]; exact hK
    unfold st_closeB_56 at hK
    simp only at hK
    refine am_F.ops (pc' := 67) (L' := [.ref 40, .int (nI i48), .int (nI i56)]) (S' := [.int (nI i56), .ref 43]) (μ' := (bo_SB (am_row (am_row f 43 r56_6) 44 r56_7) g)) 3 rfl ?_
    refine am_F.ialE (m := i56) (N := 20) rfl rfl rfl rfl (by omega) (by decide) ?_
    show am_F _ _ 68 [.ref 40, .int (nI i48), .int (nI i56)] [.int (r56_6 i56)] (bo_SB (am_row (am_row f 43 r56_6) 44 r56_7) g) _
    refine am_F.ops (pc' := 69) (L' := [.ref 40, .int (nI i48), .int (nI i56)]) (S' := [.int (nI i48), .int (r56_6 i56)]) (μ' := (bo_SB (am_row (am_row f 43 r56_6) 44 r56_7) g)) 1 rfl ?_
    refine am_F.call rfl rfl (bo_has (r56_6 i56) (nI i48) (bo_SB (am_row (am_row f 43 r56_6) 44 r56_7) g)) (by decide) ?_
    show am_F _ _ 72 [.ref 40, .int (nI i48), .int (nI i56)] [.int (am_b (fn_has (r56_6 i56) (nI i48)))] (bo_SB (am_row (am_row f 43 r56_6) 44 r56_7) g) _
    refine am_F.bifK 1 rfl K hK (fun c22 hK => ?_) (fun c22 hK => ?_)
    · show am_F _ _ 75 [.ref 40, .int (nI i48), .int (nI i56)] [] (bo_SB (am_row (am_row f 43 r56_6) 44 r56_7) g) _
      refine am_F.ops (pc' := 81) (L' := [.ref 40, .int (nI i48), .int (nI i56)]) (S' := [.int (nI i56), .ref 43, .int (nI i56), .ref 43]) (μ' := (bo_SB (am_row (am_row f 43 r56_6) 44 r56_7) g)) 4 rfl ?_
      refine am_F.ialE (m := i56) (N := 20) rfl rfl rfl rfl (by omega) (by decide) ?_
      show am_F _ _ 82 [.ref 40, .int (nI i48), .int (nI i56)] [.int (r56_6 i56), .int (nI i56), .ref 43] (bo_SB (am_row (am_row f 43 r56_6) 44 r56_7) g) _
      refine am_F.ops (pc' := 87) (L' := [.ref 40, .int (nI i48), .int (nI i56)]) (S' := [.int (nI i48), .ref 43, .int (r56_6 i56), .int (nI i56), .ref 43]) (μ' := (bo_SB (am_row (am_row f 43 r56_6) 44 r56_7) g)) 3 rfl ?_
      refine am_F.ialE (m := i48) (N := 20) rfl rfl rfl rfl (by omega) (by decide) ?_
      show am_F _ _ 88 [.ref 40, .int (nI i48), .int (nI i56)] [.int (r56_6 i48), .int (r56_6 i56), .int (nI i56), .ref 43] (bo_SB (am_row (am_row f 43 r56_6) 44 r56_7) g) _
      refine am_F.ops (pc' := 89) (L' := [.ref 40, .int (nI i48), .int (nI i56)]) (S' := [.int ((r56_6 i56) ||| (r56_6 i48)), .int (nI i56), .ref 43]) (μ' := (bo_SB (am_row (am_row f 43 r56_6) 44 r56_7) g)) 1 rfl ?_
      refine bo_F.iasE (F' := (am_row (am_row f 43 (upd r56_6 i56 ((r56_6 i56) ||| (r56_6 i48)))) 44 r56_7)) (m := i56) (N := 20) rfl rfl rfl rfl (by omega) (by decide) (by first | rfl | (funext a; by_cases z0 : a = 43; (subst z0; rfl); by_cases z1 : a = 44; (subst z1; rfl); simp only [am_ui, am_ul, am_row_ne z0, am_row_ne z1])) ?_
      refine am_F.ops (pc' := 95) (L' := [.ref 40, .int (nI i48), .int (nI i56)]) (S' := [.int (nI i56), .ref 44]) (μ' := (bo_SB (am_row (am_row f 43 (upd r56_6 i56 ((r56_6 i56) ||| (r56_6 i48)))) 44 r56_7) g)) 3 rfl ?_
      refine am_F.ialE (m := i56) (N := 20) rfl rfl rfl rfl (by omega) (by decide) ?_
      show am_F _ _ 96 [.ref 40, .int (nI i48), .int (nI i56)] [.int (r56_7 i56)] (bo_SB (am_row (am_row f 43 (upd r56_6 i56 ((r56_6 i56) ||| (r56_6 i48)))) 44 r56_7) g) _
      refine am_F.ops (pc' := 97) (L' := [.ref 40, .int (nI i48), .int (nI i56)]) (S' := [.int (nI i48), .int (r56_7 i56)]) (μ' := (bo_SB (am_row (am_row f 43 (upd r56_6 i56 ((r56_6 i56) ||| (r56_6 i48)))) 44 r56_7) g)) 1 rfl ?_
      refine am_F.call rfl rfl (bo_has (r56_7 i56) (nI i48) (bo_SB (am_row (am_row f 43 (upd r56_6 i56 ((r56_6 i56) ||| (r56_6 i48)))) 44 r56_7) g)) (by decide) ?_
      show am_F _ _ 100 [.ref 40, .int (nI i48), .int (nI i56)] [.int (am_b (fn_has (r56_7 i56) (nI i48)))] (bo_SB (am_row (am_row f 43 (upd r56_6 i56 ((r56_6 i56) ||| (r56_6 i48)))) 44 r56_7) g) _
      refine am_F.bifK 1 rfl K hK (fun c24 hK => ?_) (fun c24 hK => ?_)
      · show am_F _ _ 103 [.ref 40, .int (nI i48), .int (nI i56)] [] (bo_SB (am_row (am_row f 43 (upd r56_6 i56 ((r56_6 i56) ||| (r56_6 i48)))) 44 r56_7) g) _
        refine am_F.ops (pc' := 109) (L' := [.ref 40, .int (nI i48), .int (nI i56)]) (S' := [.int (nI i56), .ref 44, .int (nI i56), .ref 44]) (μ' := (bo_SB (am_row (am_row f 43 (upd r56_6 i56 ((r56_6 i56) ||| (r56_6 i48)))) 44 r56_7) g)) 4 rfl ?_
        refine am_F.ialE (m := i56) (N := 20) rfl rfl rfl rfl (by omega) (by decide) ?_
        show am_F _ _ 110 [.ref 40, .int (nI i48), .int (nI i56)] [.int (r56_7 i56), .int (nI i56), .ref 44] (bo_SB (am_row (am_row f 43 (upd r56_6 i56 ((r56_6 i56) ||| (r56_6 i48)))) 44 r56_7) g) _
        refine am_F.ops (pc' := 115) (L' := [.ref 40, .int (nI i48), .int (nI i56)]) (S' := [.int (nI i48), .ref 44, .int (r56_7 i56), .int (nI i56), .ref 44]) (μ' := (bo_SB (am_row (am_row f 43 (upd r56_6 i56 ((r56_6 i56) ||| (r56_6 i48)))) 44 r56_7) g)) 3 rfl ?_
        refine am_F.ialE (m := i48) (N := 20) rfl rfl rfl rfl (by omega) (by decide) ?_
        show am_F _ _ 116 [.ref 40, .int (nI i48), .int (nI i56)] [.int (r56_7 i48), .int (r56_7 i56), .int (nI i56), .ref 44] (bo_SB (am_row (am_row f 43 (upd r56_6 i56 ((r56_6 i56) ||| (r56_6 i48)))) 44 r56_7) g) _
        refine am_F.ops (pc' := 117) (L' := [.ref 40, .int (nI i48), .int (nI i56)]) (S' := [.int ((r56_7 i56) ||| (r56_7 i48)), .int (nI i56), .ref 44]) (μ' := (bo_SB (am_row (am_row f 43 (upd r56_6 i56 ((r56_6 i56) ||| (r56_6 i48)))) 44 r56_7) g)) 1 rfl ?_
        refine bo_F.iasE (F' := (am_row (am_row f 43 (upd r56_6 i56 ((r56_6 i56) ||| (r56_6 i48)))) 44 (upd r56_7 i56 ((r56_7 i56) ||| (r56_7 i48))))) (m := i56) (N := 20) rfl rfl rfl rfl (by omega) (by decide) (by first | rfl | (funext a; by_cases z0 : a = 43; (subst z0; rfl); by_cases z1 : a = 44; (subst z1; rfl); simp only [am_ui, am_ul, am_row_ne z0, am_row_ne z1])) ?_
        refine am_F.ops (pc' := 56) (L' := [.ref 40, .int (nI i48), .int ((nI i56) + 1)]) (S' := []) (μ' := (bo_SB (am_row (am_row f 43 (upd r56_6 i56 ((r56_6 i56) ||| (r56_6 i48)))) 44 (upd r56_7 i56 ((r56_7 i56) ||| (r56_7 i48)))) g)) 2 rfl ?_
        rw [nI_1 i56]
        subst hKd
        exact ih (i56 + 1) (upd r56_6 i56 ((r56_6 i56) ||| (r56_6 i48))) (upd r56_7 i56 ((r56_7 i56) ||| (r56_7 i48))) (by omega)  hK
      · show am_F _ _ 118 [.ref 40, .int (nI i48), .int (nI i56)] [] (bo_SB (am_row (am_row f 43 (upd r56_6 i56 ((r56_6 i56) ||| (r56_6 i48)))) 44 r56_7) g) _
        refine am_F.ops (pc' := 56) (L' := [.ref 40, .int (nI i48), .int ((nI i56) + 1)]) (S' := []) (μ' := (bo_SB (am_row (am_row f 43 (upd r56_6 i56 ((r56_6 i56) ||| (r56_6 i48)))) 44 r56_7) g)) 2 rfl ?_
        rw [nI_1 i56]
        subst hKd
        exact ih (i56 + 1) (upd r56_6 i56 ((r56_6 i56) ||| (r56_6 i48))) r56_7 (by omega)  hK
    · show am_F _ _ 90 [.ref 40, .int (nI i48), .int (nI i56)] [] (bo_SB (am_row (am_row f 43 r56_6) 44 r56_7) g) _
      refine am_F.ops (pc' := 95) (L' := [.ref 40, .int (nI i48), .int (nI i56)]) (S' := [.int (nI i56), .ref 44]) (μ' := (bo_SB (am_row (am_row f 43 r56_6) 44 r56_7) g)) 3 rfl ?_
      refine am_F.ialE (m := i56) (N := 20) rfl rfl rfl rfl (by omega) (by decide) ?_
      show am_F _ _ 96 [.ref 40, .int (nI i48), .int (nI i56)] [.int (r56_7 i56)] (bo_SB (am_row (am_row f 43 r56_6) 44 r56_7) g) _
      refine am_F.ops (pc' := 97) (L' := [.ref 40, .int (nI i48), .int (nI i56)]) (S' := [.int (nI i48), .int (r56_7 i56)]) (μ' := (bo_SB (am_row (am_row f 43 r56_6) 44 r56_7) g)) 1 rfl ?_
      refine am_F.call rfl rfl (bo_has (r56_7 i56) (nI i48) (bo_SB (am_row (am_row f 43 r56_6) 44 r56_7) g)) (by decide) ?_
      show am_F _ _ 100 [.ref 40, .int (nI i48), .int (nI i56)] [.int (am_b (fn_has (r56_7 i56) (nI i48)))] (bo_SB (am_row (am_row f 43 r56_6) 44 r56_7) g) _
      refine am_F.bifK 1 rfl K hK (fun c26 hK => ?_) (fun c26 hK => ?_)
      · show am_F _ _ 103 [.ref 40, .int (nI i48), .int (nI i56)] [] (bo_SB (am_row (am_row f 43 r56_6) 44 r56_7) g) _
        refine am_F.ops (pc' := 109) (L' := [.ref 40, .int (nI i48), .int (nI i56)]) (S' := [.int (nI i56), .ref 44, .int (nI i56), .ref 44]) (μ' := (bo_SB (am_row (am_row f 43 r56_6) 44 r56_7) g)) 4 rfl ?_
        refine am_F.ialE (m := i56) (N := 20) rfl rfl rfl rfl (by omega) (by decide) ?_
        show am_F _ _ 110 [.ref 40, .int (nI i48), .int (nI i56)] [.int (r56_7 i56), .int (nI i56), .ref 44] (bo_SB (am_row (am_row f 43 r56_6) 44 r56_7) g) _
        refine am_F.ops (pc' := 115) (L' := [.ref 40, .int (nI i48), .int (nI i56)]) (S' := [.int (nI i48), .ref 44, .int (r56_7 i56), .int (nI i56), .ref 44]) (μ' := (bo_SB (am_row (am_row f 43 r56_6) 44 r56_7) g)) 3 rfl ?_
        refine am_F.ialE (m := i48) (N := 20) rfl rfl rfl rfl (by omega) (by decide) ?_
        show am_F _ _ 116 [.ref 40, .int (nI i48), .int (nI i56)] [.int (r56_7 i48), .int (r56_7 i56), .int (nI i56), .ref 44] (bo_SB (am_row (am_row f 43 r56_6) 44 r56_7) g) _
        refine am_F.ops (pc' := 117) (L' := [.ref 40, .int (nI i48), .int (nI i56)]) (S' := [.int ((r56_7 i56) ||| (r56_7 i48)), .int (nI i56), .ref 44]) (μ' := (bo_SB (am_row (am_row f 43 r56_6) 44 r56_7) g)) 1 rfl ?_
        refine bo_F.iasE (F' := (am_row (am_row f 43 r56_6) 44 (upd r56_7 i56 ((r56_7 i56) ||| (r56_7 i48))))) (m := i56) (N := 20) rfl rfl rfl rfl (by omega) (by decide) (by first | rfl | (funext a; by_cases z0 : a = 43; (subst z0; rfl); by_cases z1 : a = 44; (subst z1; rfl); simp only [am_ui, am_ul, am_row_ne z0, am_row_ne z1])) ?_
        refine am_F.ops (pc' := 56) (L' := [.ref 40, .int (nI i48), .int ((nI i56) + 1)]) (S' := []) (μ' := (bo_SB (am_row (am_row f 43 r56_6) 44 (upd r56_7 i56 ((r56_7 i56) ||| (r56_7 i48)))) g)) 2 rfl ?_
        rw [nI_1 i56]
        subst hKd
        exact ih (i56 + 1) r56_6 (upd r56_7 i56 ((r56_7 i56) ||| (r56_7 i48))) (by omega)  hK
      · show am_F _ _ 118 [.ref 40, .int (nI i48), .int (nI i56)] [] (bo_SB (am_row (am_row f 43 r56_6) 44 r56_7) g) _
        refine am_F.ops (pc' := 56) (L' := [.ref 40, .int (nI i48), .int ((nI i56) + 1)]) (S' := []) (μ' := (bo_SB (am_row (am_row f 43 r56_6) 44 r56_7) g)) 2 rfl ?_
        rw [nI_1 i56]
        subst hKd
        exact ih (i56 + 1) r56_6 r56_7 (by omega)  hK
theorem lp_closeB_48 (f : Nat → Nat → Int32) (g : Nat → Nat → Int64) (z2_1 : (Nat → Int32) × (Nat → Int32))  (res : Option Value × am_M) : ∀ (n i48 : Nat) (r48_6 : Nat → Int32) (r48_7 : Nat → Int32) (w48_2 : Value), i48 + n = 20 → (fun (z : (Nat → Int32) × (Nat → Int32)) => ∀ (wc : Value) (w48_2 : Value), am_F 1 am_k_4 130 [.ref 40, wc, w48_2] [] (bo_SB (am_row (am_row f 43 z.1) 44 z.2) g) res) (am_for st_closeB_48 n i48 (r48_6, r48_7)) → am_F 1 am_k_4 48 [.ref 40, .int (nI i48), w48_2] [] (bo_SB (am_row (am_row f 43 r48_6) 44 r48_7) g) res := by
  intro n
  induction n with
  | zero =>
    intro i48 r48_6 r48_7 w48_2 hi hK
    refine am_F.pos 3 rfl (by show 20 ≤ nI i48; rw [show (20 : Int32) = nI 20 from rfl]; exact nI_le (by omega) (by omega)) ?_
    exact hK _ _
  | succ n ih =>
    intro i48 r48_6 r48_7 w48_2 hi hK
    refine am_F.neg 3 rfl (by show ¬ 20 ≤ nI i48; rw [show (20 : Int32) = nI 20 from rfl]; exact nI_ge (by omega) (by omega)) ?_
    have hb48 : i48 < 20 := by omega
    show am_F _ _ 54 [.ref 40, .int (nI i48), w48_2] [] (bo_SB (am_row (am_row f 43 r48_6) 44 r48_7) g) _
    obtain ⟨K, hKd⟩ : ∃ K : ((Nat → Int32) × (Nat → Int32)) → Prop, K = fun s => (fun (z : (Nat → Int32) × (Nat → Int32)) => ∀ (wc : Value) (w48_2 : Value), am_F 1 am_k_4 130 [.ref 40, wc, w48_2] [] (bo_SB (am_row (am_row f 43 z.1) 44 z.2) g) res) (am_for st_closeB_48 n (i48 + 1) s) := ⟨_, rfl⟩
    have hK : K (st_closeB_48 i48 (r48_6, r48_7)) := by rw [hKd]; exact hK
    unfold st_closeB_48 at hK
    simp only at hK
    refine am_F.ops (pc' := 56) (L' := [.ref 40, .int (nI i48), .int 0]) (S' := []) (μ' := (bo_SB (am_row (am_row f 43 r48_6) 44 r48_7) g)) 2 rfl ?_
    show am_F _ _ 56 [.ref 40, .int (nI i48), .int (nI 0)] [] (bo_SB (am_row (am_row f 43 r48_6) 44 r48_7) g) _
    refine lp_closeB_56 f g z2_1 i48 r48_6 r48_7 hb48 _ 20 0 r48_6 r48_7  (by omega)  ?_
    rw [show am_for (st_closeB_56 i48) 20 0 (r48_6, r48_7) = (lf_closeB_56 i48 r48_6 r48_7) from rfl]
    generalize (lf_closeB_56 i48 r48_6 r48_7) = z56_27 at hK ⊢
    intro wc
    show am_F _ _ 124 [.ref 40, .int (nI i48), wc] [] (bo_SB (am_row (am_row f 43 z56_27.1) 44 z56_27.2) g) _
    refine am_F.ops (pc' := 48) (L' := [.ref 40, .int ((nI i48) + 1), wc]) (S' := []) (μ' := (bo_SB (am_row (am_row f 43 z56_27.1) 44 z56_27.2) g)) 2 rfl ?_
    rw [nI_1 i48]
    subst hKd
    exact ih (i48 + 1) z56_27.1 z56_27.2 wc (by omega)  hK
theorem x_closeB (f : Nat → Nat → Int32) (g : Nat → Nat → Int64)  : am_D 1 4 3 [.ref 40] (bo_SB f g) ((none : Option Value), bo_SB (am_row (am_row f 43 ((fn_closeB f).1)) 44 ((fn_closeB f).2)) g) := by
  refine am_D.of (code := am_k_4) rfl (L0 := [.ref 40, am_un, am_un]) rfl ?_
  generalize hres : ((none : Option Value), bo_SB (am_row (am_row f 43 ((fn_closeB f).1)) 44 ((fn_closeB f).2)) g) = res
  obtain ⟨K, hKd⟩ : ∃ K : ((Nat → Int32) × (Nat → Int32)) → Prop, K = fun z => ((none : Option Value), bo_SB (am_row (am_row f 43 z.1) 44 z.2) g) = res := ⟨_, rfl⟩
  have hK : K (fn_closeB f) := by rw [hKd]; exact hres
  clear hres
  unfold fn_closeB at hK
  refine am_F.ops (pc' := 2) (L' := [.ref 40, .int 0, am_un]) (S' := []) (μ' := (bo_SB f g)) 2 rfl ?_
  refine bo_F.mem (F' := (am_row (am_row f 43 (f 43)) 44 (f 44))) (G' := g) ?_ (by first | rfl | (funext a; by_cases z0 : a = 43; (subst z0; rfl); by_cases z1 : a = 44; (subst z1; rfl); simp only [am_ui, am_ul, am_row_ne z0, am_row_ne z1])) (by first | rfl | (funext a; by_cases z0 : a = 43; (subst z0; rfl); by_cases z1 : a = 44; (subst z1; rfl); simp only [am_ui, am_ul, am_row_ne z0, am_row_ne z1]))
  show am_F _ _ 2 [.ref 40, .int (nI 0), am_un] [] (bo_SB (am_row (am_row f 43 (f 43)) 44 (f 44)) g) _
  refine lp_closeB_2 f g  _ 20 0 (f 43) (f 44)  (by omega)  ?_
  rw [show am_for (st_closeB_2 f) 20 0 (f 43, f 44) = (lf_closeB_2 f) from rfl]
  generalize (lf_closeB_2 f) = z2_1 at hK ⊢
  intro wc
  show am_F _ _ 46 [.ref 40, wc, am_un] [] (bo_SB (am_row (am_row f 43 z2_1.1) 44 z2_1.2) g) _
  refine am_F.ops (pc' := 48) (L' := [.ref 40, .int 0, am_un]) (S' := []) (μ' := (bo_SB (am_row (am_row f 43 z2_1.1) 44 z2_1.2) g)) 2 rfl ?_
  show am_F _ _ 48 [.ref 40, .int (nI 0), am_un] [] (bo_SB (am_row (am_row f 43 z2_1.1) 44 z2_1.2) g) _
  refine lp_closeB_48 f g z2_1  _ 20 0 z2_1.1 z2_1.2 am_un (by omega)  ?_
  rw [show am_for st_closeB_48 20 0 (z2_1.1, z2_1.2) = (lf_closeB_48 z2_1) from rfl]
  generalize (lf_closeB_48 z2_1) = z48_28 at hK ⊢
  intro wc w48_2
  show am_F _ _ 130 [.ref 40, wc, w48_2] [] (bo_SB (am_row (am_row f 43 z48_28.1) 44 z48_28.2) g) _
  subst hKd
  exact am_F.eq (am_F.ret rfl rfl) hK
