/-! the class's calls, on -/
set_option linter.constructorNameAsVariable false
/-- AccessLattice.unlike -/
def st_unlike_41 (user_n : Nat) (other_n : Nat) (i : Int32) (f : Nat → Nat → Int32) (y4 : (Nat → Int32) × (Nat → Int32) × (Nat → Int32) × (Nat → Int64)) : Nat → Int32 × (Nat → Int32) × (Nat → Int32) → Int32 × (Nat → Int32) × (Nat → Int32) ⊕ (Int32 × (Nat → Int32) × (Nat → Int32) ⊕ Int32 × (Nat → Int32) × (Nat → Int32) × (Nat → Int32) × (Nat → Int32) × (Nat → Int32) × (Nat → Int64)) := fun i41 z => match z with
  | (a41_4, r41_36, r41_37) => (if (fn_answer user_n ((nI i41) / 16) (i41 % 16) (am_row (am_row (am_row (am_row (am_row f 1 y4.1) 34 y4.2.1) 35 y4.2.2.1) 36 r41_36) 37 r41_37)).1 = (fn_answer other_n ((nI i41) / 16) (i41 % 16) (am_row (am_row (am_row (am_row (am_row f 1 y4.1) 34 y4.2.1) 35 y4.2.2.1) 36 (fn_answer user_n ((nI i41) / 16) (i41 % 16) (am_row (am_row (am_row (am_row (am_row f 1 y4.1) 34 y4.2.1) 35 y4.2.2.1) 36 r41_36) 37 r41_37)).2.1) 37 (fn_answer user_n ((nI i41) / 16) (i41 % 16) (am_row (am_row (am_row (am_row (am_row f 1 y4.1) 34 y4.2.1) 35 y4.2.2.1) 36 r41_36) 37 r41_37)).2.2)).1 then .inl (a41_4, (fn_answer other_n ((nI i41) / 16) (i41 % 16) (am_row (am_row (am_row (am_row (am_row f 1 y4.1) 34 y4.2.1) 35 y4.2.2.1) 36 (fn_answer user_n ((nI i41) / 16) (i41 % 16) (am_row (am_row (am_row (am_row (am_row f 1 y4.1) 34 y4.2.1) 35 y4.2.2.1) 36 r41_36) 37 r41_37)).2.1) 37 (fn_answer user_n ((nI i41) / 16) (i41 % 16) (am_row (am_row (am_row (am_row (am_row f 1 y4.1) 34 y4.2.1) 35 y4.2.2.1) 36 r41_36) 37 r41_37)).2.2)).2.1, (fn_answer other_n ((nI i41) / 16) (i41 % 16) (am_row (am_row (am_row (am_row (am_row f 1 y4.1) 34 y4.2.1) 35 y4.2.2.1) 36 (fn_answer user_n ((nI i41) / 16) (i41 % 16) (am_row (am_row (am_row (am_row (am_row f 1 y4.1) 34 y4.2.1) 35 y4.2.2.1) 36 r41_36) 37 r41_37)).2.1) 37 (fn_answer user_n ((nI i41) / 16) (i41 % 16) (am_row (am_row (am_row (am_row (am_row f 1 y4.1) 34 y4.2.1) 35 y4.2.2.1) 36 r41_36) 37 r41_37)).2.2)).2.2) else (if a41_4 = i then .inr (.inr (nI i41, y4.1, y4.2.1, y4.2.2.1, (fn_answer other_n ((nI i41) / 16) (i41 % 16) (am_row (am_row (am_row (am_row (am_row f 1 y4.1) 34 y4.2.1) 35 y4.2.2.1) 36 (fn_answer user_n ((nI i41) / 16) (i41 % 16) (am_row (am_row (am_row (am_row (am_row f 1 y4.1) 34 y4.2.1) 35 y4.2.2.1) 36 r41_36) 37 r41_37)).2.1) 37 (fn_answer user_n ((nI i41) / 16) (i41 % 16) (am_row (am_row (am_row (am_row (am_row f 1 y4.1) 34 y4.2.1) 35 y4.2.2.1) 36 r41_36) 37 r41_37)).2.2)).2.1, (fn_answer other_n ((nI i41) / 16) (i41 % 16) (am_row (am_row (am_row (am_row (am_row f 1 y4.1) 34 y4.2.1) 35 y4.2.2.1) 36 (fn_answer user_n ((nI i41) / 16) (i41 % 16) (am_row (am_row (am_row (am_row (am_row f 1 y4.1) 34 y4.2.1) 35 y4.2.2.1) 36 r41_36) 37 r41_37)).2.1) 37 (fn_answer user_n ((nI i41) / 16) (i41 % 16) (am_row (am_row (am_row (am_row (am_row f 1 y4.1) 34 y4.2.1) 35 y4.2.2.1) 36 r41_36) 37 r41_37)).2.2)).2.2, y4.2.2.2)) else .inl (a41_4 + 1, (fn_answer other_n ((nI i41) / 16) (i41 % 16) (am_row (am_row (am_row (am_row (am_row f 1 y4.1) 34 y4.2.1) 35 y4.2.2.1) 36 (fn_answer user_n ((nI i41) / 16) (i41 % 16) (am_row (am_row (am_row (am_row (am_row f 1 y4.1) 34 y4.2.1) 35 y4.2.2.1) 36 r41_36) 37 r41_37)).2.1) 37 (fn_answer user_n ((nI i41) / 16) (i41 % 16) (am_row (am_row (am_row (am_row (am_row f 1 y4.1) 34 y4.2.1) 35 y4.2.2.1) 36 r41_36) 37 r41_37)).2.2)).2.1, (fn_answer other_n ((nI i41) / 16) (i41 % 16) (am_row (am_row (am_row (am_row (am_row f 1 y4.1) 34 y4.2.1) 35 y4.2.2.1) 36 (fn_answer user_n ((nI i41) / 16) (i41 % 16) (am_row (am_row (am_row (am_row (am_row f 1 y4.1) 34 y4.2.1) 35 y4.2.2.1) 36 r41_36) 37 r41_37)).2.1) 37 (fn_answer user_n ((nI i41) / 16) (i41 % 16) (am_row (am_row (am_row (am_row (am_row f 1 y4.1) 34 y4.2.1) 35 y4.2.2.1) 36 r41_36) 37 r41_37)).2.2)).2.2)))
def lf_unlike_41 (user_n : Nat) (other_n : Nat) (i : Int32) (f : Nat → Nat → Int32) (y4 : (Nat → Int32) × (Nat → Int32) × (Nat → Int32) × (Nat → Int64)) : Int32 × (Nat → Int32) × (Nat → Int32) ⊕ Int32 × (Nat → Int32) × (Nat → Int32) × (Nat → Int32) × (Nat → Int32) × (Nat → Int32) × (Nat → Int64) := am_forX (st_unlike_41 user_n other_n i f y4) 128 0 (0, f 36, f 37)
def fn_unlike (user : Int32) (other : Int32) (i : Int32) (f : Nat → Nat → Int32) (g : Nat → Nat → Int64) : Int32 × (Nat → Int32) × (Nat → Int32) × (Nat → Int32) × (Nat → Int32) × (Nat → Int32) × (Nat → Int64) := (bif (fn_isUser user) then (bif (fn_isUser other) then (if (-1) ≤ i then (Sum.elim (fun (z41 : Int32 × (Nat → Int32) × (Nat → Int32)) => ((if 0 ≤ i then (-2) else z41.1), (fn_settle (f 2 12) f g).1, (fn_settle (f 2 12) f g).2.1, (fn_settle (f 2 12) f g).2.2.1, z41.2.1, z41.2.2, (fn_settle (f 2 12) f g).2.2.2)) (fun (z : Int32 × (Nat → Int32) × (Nat → Int32) × (Nat → Int32) × (Nat → Int32) × (Nat → Int32) × (Nat → Int64)) => z) (lf_unlike_41 (user.toNatClampNeg) (other.toNatClampNeg) i f (fn_settle (f 2 12) f g))) else ((-1), f 1, f 34, f 35, f 36, f 37, g 1)) else ((-1), f 1, f 34, f 35, f 36, f 37, g 1)) else ((-1), f 1, f 34, f 35, f 36, f 37, g 1))
theorem lp_unlike_41 (user_n : Nat) (other_n : Nat) (i : Int32) (f : Nat → Nat → Int32) (g : Nat → Nat → Int64) (y4 : (Nat → Int32) × (Nat → Int32) × (Nat → Int32) × (Nat → Int64)) (hLc : f 11 7 = nI (f 11 7).toNatClampNeg) (hLn : (f 11 7).toNatClampNeg ≤ 40) (hLf : ∀ i, i < (f 11 7).toNatClampNeg → am_inb (f 12 i) 16 = true) (hLt : ∀ i, i < (f 11 7).toNatClampNeg → am_inb (f 13 i) 16 = true) (hLr : ∀ i, i < (f 11 7).toNatClampNeg → am_inb (f 14 i) 20 = true) (hRc : f 18 11 = nI (f 18 11).toNatClampNeg) (hRn : (f 18 11).toNatClampNeg ≤ 30) (hRr : ∀ i, i < (f 18 11).toNatClampNeg → am_inb (f 19 i) 20 = true) (hPa : ∀ t, t < 16 → (f 29 t).toInt < 16) (hCs : ∀ i, i < (f 18 11).toNatClampNeg → f 25 i = nI (f 25 i).toNatClampNeg ∧ (f 25 i).toNatClampNeg ≤ 80) (huser_n : user_n < 16) (hother_n : other_n < 16) (res : Option Value × am_M) : ∀ (n i41 : Nat) (a41_4 : Int32) (r41_36 : Nat → Int32) (r41_37 : Nat → Int32) (w41_6 : Value) (w41_7 : Value), i41 + n = 128 → am_KX (fun (z : Int32 × (Nat → Int32) × (Nat → Int32)) => ∀ (wc : Value) (w41_6 : Value) (w41_7 : Value), am_F 6 am_k_119 108 [.ref 0, .int (nI user_n), .int (nI other_n), .int i, .int z.1, wc, w41_6, w41_7] [] (am_S (am_row (am_row (am_row (am_row (am_row f 1 y4.1) 34 y4.2.1) 35 y4.2.2.1) 36 z.2.1) 37 z.2.2) (am_row g 1 y4.2.2.2)) res) (fun (z : Int32 × (Nat → Int32) × (Nat → Int32) × (Nat → Int32) × (Nat → Int32) × (Nat → Int32) × (Nat → Int64)) => (some (Value.int z.1), am_S (am_row (am_row (am_row (am_row (am_row f 1 z.2.1) 34 z.2.2.1) 35 z.2.2.2.1) 36 z.2.2.2.2.1) 37 z.2.2.2.2.2.1) (am_row g 1 z.2.2.2.2.2.2)) = res) (am_forX (st_unlike_41 user_n other_n i f y4) n i41 (a41_4, r41_36, r41_37)) → am_F 6 am_k_119 41 [.ref 0, .int (nI user_n), .int (nI other_n), .int i, .int a41_4, .int (nI i41), w41_6, w41_7] [] (am_S (am_row (am_row (am_row (am_row (am_row f 1 y4.1) 34 y4.2.1) 35 y4.2.2.1) 36 r41_36) 37 r41_37) (am_row g 1 y4.2.2.2)) res := by
  intro n
  induction n with
  | zero =>
    intro i41 a41_4 r41_36 r41_37 w41_6 w41_7 hi hK
    refine am_F.pos 3 rfl (by show 128 ≤ nI i41; rw [show (128 : Int32) = nI 128 from rfl]; exact nI_le (by omega) (by omega)) ?_
    exact hK _ _ _
  | succ n ih =>
    intro i41 a41_4 r41_36 r41_37 w41_6 w41_7 hi hK
    refine am_F.neg 3 rfl (by show ¬ 128 ≤ nI i41; rw [show (128 : Int32) = nI 128 from rfl]; exact nI_ge (by omega) (by omega)) ?_
    have hb41 : i41 < 128 := by omega
    show am_F _ _ 49 [.ref 0, .int (nI user_n), .int (nI other_n), .int i, .int a41_4, .int (nI i41), w41_6, w41_7] [] (am_S (am_row (am_row (am_row (am_row (am_row f 1 y4.1) 34 y4.2.1) 35 y4.2.2.1) 36 r41_36) 37 r41_37) (am_row g 1 y4.2.2.2)) _
    obtain ⟨K, hKd⟩ : ∃ K : (Int32 × (Nat → Int32) × (Nat → Int32) ⊕ (Int32 × (Nat → Int32) × (Nat → Int32) ⊕ Int32 × (Nat → Int32) × (Nat → Int32) × (Nat → Int32) × (Nat → Int32) × (Nat → Int32) × (Nat → Int64))) → Prop, K = fun s => am_KX (fun (z : Int32 × (Nat → Int32) × (Nat → Int32)) => ∀ (wc : Value) (w41_6 : Value) (w41_7 : Value), am_F 6 am_k_119 108 [.ref 0, .int (nI user_n), .int (nI other_n), .int i, .int z.1, wc, w41_6, w41_7] [] (am_S (am_row (am_row (am_row (am_row (am_row f 1 y4.1) 34 y4.2.1) 35 y4.2.2.1) 36 z.2.1) 37 z.2.2) (am_row g 1 y4.2.2.2)) res) (fun (z : Int32 × (Nat → Int32) × (Nat → Int32) × (Nat → Int32) × (Nat → Int32) × (Nat → Int32) × (Nat → Int64)) => (some (Value.int z.1), am_S (am_row (am_row (am_row (am_row (am_row f 1 z.2.1) 34 z.2.2.1) 35 z.2.2.2.1) 36 z.2.2.2.2.1) 37 z.2.2.2.2.2.1) (am_row g 1 z.2.2.2.2.2.2)) = res) (am_nxt (fun z => am_forX (st_unlike_41 user_n other_n i f y4) n (i41 + 1) z) s) := ⟨_, rfl⟩
    have hK : K ((st_unlike_41 user_n other_n i f y4) i41 (a41_4, r41_36, r41_37)) := by rw [am_forX_s] at hK; rw [hKd]; with_reducible exact hK
    unfold st_unlike_41 at hK
    simp only at hK
    refine am_F.ops (pc' := 72) (L' := [.ref 0, .int (nI user_n), .int (nI other_n), .int i, .int a41_4, .int (nI i41), .int ((nI i41) / 16), .int ((nI i41) - (nI i41) / 16 * 16)]) (S' := [.int ((nI i41) - (nI i41) / 16 * 16), .int ((nI i41) / 16), .int (nI user_n), .ref 1]) (μ' := (am_S (am_row (am_row (am_row (am_row (am_row f 1 y4.1) 34 y4.2.1) 35 y4.2.2.1) 36 r41_36) 37 r41_37) (am_row g 1 y4.2.2.2))) 13 rfl ?_
    refine am_F.call rfl rfl (by rw [show ((nI i41) - (nI i41) / 16 * 16 : Int32) = nI (i41 % 16) from (am_remE rfl rfl (by omega) (by decide) (by decide))]; exact (x_answer user_n ((nI i41) / 16) (i41 % 16) (am_row (am_row (am_row (am_row (am_row f 1 y4.1) 34 y4.2.1) 35 y4.2.2.1) 36 r41_36) 37 r41_37) (am_row g 1 y4.2.2.2) hRc hRn hPa hCs (by omega) (by omega))) (by decide) ?_
    obtain ⟨y9, hy9⟩ : ∃ z, (fn_answer user_n ((nI i41) / 16) (i41 % 16) (am_row (am_row (am_row (am_row (am_row f 1 y4.1) 34 y4.2.1) 35 y4.2.2.1) 36 r41_36) 37 r41_37)) = z := ⟨_, rfl⟩
    (try rw [hy9] at hK)
    (try rw [hy9])
    refine am_F.mem (F' := (am_row (am_row (am_row (am_row (am_row f 1 y4.1) 34 y4.2.1) 35 y4.2.2.1) 36 y9.2.1) 37 y9.2.2)) (G' := (am_row g 1 y4.2.2.2)) ?_ (by first | rfl | (funext a; by_cases z0 : a = 1; (subst z0; rfl); by_cases z1 : a = 34; (subst z1; rfl); by_cases z2 : a = 35; (subst z2; rfl); by_cases z3 : a = 36; (subst z3; rfl); by_cases z4 : a = 37; (subst z4; rfl); simp only [am_ui, am_ul, am_row_ne z0, am_row_ne z1, am_row_ne z2, am_row_ne z3, am_row_ne z4])) (by first | rfl | (funext a; by_cases z0 : a = 1; (subst z0; rfl); by_cases z1 : a = 34; (subst z1; rfl); by_cases z2 : a = 35; (subst z2; rfl); by_cases z3 : a = 36; (subst z3; rfl); by_cases z4 : a = 37; (subst z4; rfl); simp only [am_ui, am_ul, am_row_ne z0, am_row_ne z1, am_row_ne z2, am_row_ne z3, am_row_ne z4]))
    show am_F _ _ 75 [.ref 0, .int (nI user_n), .int (nI other_n), .int i, .int a41_4, .int (nI i41), .int ((nI i41) / 16), .int ((nI i41) - (nI i41) / 16 * 16)] [.int y9.1] (am_S (am_row (am_row (am_row (am_row (am_row f 1 y4.1) 34 y4.2.1) 35 y4.2.2.1) 36 y9.2.1) 37 y9.2.2) (am_row g 1 y4.2.2.2)) _
    refine am_F.ops (pc' := 84) (L' := [.ref 0, .int (nI user_n), .int (nI other_n), .int i, .int a41_4, .int (nI i41), .int ((nI i41) / 16), .int ((nI i41) - (nI i41) / 16 * 16)]) (S' := [.int ((nI i41) - (nI i41) / 16 * 16), .int ((nI i41) / 16), .int (nI other_n), .ref 1, .int y9.1]) (μ' := (am_S (am_row (am_row (am_row (am_row (am_row f 1 y4.1) 34 y4.2.1) 35 y4.2.2.1) 36 y9.2.1) 37 y9.2.2) (am_row g 1 y4.2.2.2))) 5 rfl ?_
    refine am_F.call rfl rfl (by rw [show ((nI i41) - (nI i41) / 16 * 16 : Int32) = nI (i41 % 16) from (am_remE rfl rfl (by omega) (by decide) (by decide))]; exact (x_answer other_n ((nI i41) / 16) (i41 % 16) (am_row (am_row (am_row (am_row (am_row f 1 y4.1) 34 y4.2.1) 35 y4.2.2.1) 36 y9.2.1) 37 y9.2.2) (am_row g 1 y4.2.2.2) hRc hRn hPa hCs (by omega) (by omega))) (by decide) ?_
    obtain ⟨y10, hy10⟩ : ∃ z, (fn_answer other_n ((nI i41) / 16) (i41 % 16) (am_row (am_row (am_row (am_row (am_row f 1 y4.1) 34 y4.2.1) 35 y4.2.2.1) 36 y9.2.1) 37 y9.2.2)) = z := ⟨_, rfl⟩
    (try rw [hy10] at hK)
    (try rw [hy10])
    refine am_F.mem (F' := (am_row (am_row (am_row (am_row (am_row f 1 y4.1) 34 y4.2.1) 35 y4.2.2.1) 36 y10.2.1) 37 y10.2.2)) (G' := (am_row g 1 y4.2.2.2)) ?_ (by first | rfl | (funext a; by_cases z0 : a = 1; (subst z0; rfl); by_cases z1 : a = 34; (subst z1; rfl); by_cases z2 : a = 35; (subst z2; rfl); by_cases z3 : a = 36; (subst z3; rfl); by_cases z4 : a = 37; (subst z4; rfl); simp only [am_ui, am_ul, am_row_ne z0, am_row_ne z1, am_row_ne z2, am_row_ne z3, am_row_ne z4])) (by first | rfl | (funext a; by_cases z0 : a = 1; (subst z0; rfl); by_cases z1 : a = 34; (subst z1; rfl); by_cases z2 : a = 35; (subst z2; rfl); by_cases z3 : a = 36; (subst z3; rfl); by_cases z4 : a = 37; (subst z4; rfl); simp only [am_ui, am_ul, am_row_ne z0, am_row_ne z1, am_row_ne z2, am_row_ne z3, am_row_ne z4]))
    show am_F _ _ 87 [.ref 0, .int (nI user_n), .int (nI other_n), .int i, .int a41_4, .int (nI i41), .int ((nI i41) / 16), .int ((nI i41) - (nI i41) / 16 * 16)] [.int y10.1, .int y9.1] (am_S (am_row (am_row (am_row (am_row (am_row f 1 y4.1) 34 y4.2.1) 35 y4.2.2.1) 36 y10.2.1) 37 y10.2.2) (am_row g 1 y4.2.2.2)) _
    refine am_F.iteK 1 rfl K hK (fun c11 hK => ?_) (fun c11 hK => ?_)
    · show am_F _ _ 102 [.ref 0, .int (nI user_n), .int (nI other_n), .int i, .int a41_4, .int (nI i41), .int ((nI i41) / 16), .int ((nI i41) - (nI i41) / 16 * 16)] [] (am_S (am_row (am_row (am_row (am_row (am_row f 1 y4.1) 34 y4.2.1) 35 y4.2.2.1) 36 y10.2.1) 37 y10.2.2) (am_row g 1 y4.2.2.2)) _
      refine am_F.ops (pc' := 41) (L' := [.ref 0, .int (nI user_n), .int (nI other_n), .int i, .int a41_4, .int ((nI i41) + 1), .int ((nI i41) / 16), .int ((nI i41) - (nI i41) / 16 * 16)]) (S' := []) (μ' := (am_S (am_row (am_row (am_row (am_row (am_row f 1 y4.1) 34 y4.2.1) 35 y4.2.2.1) 36 y10.2.1) 37 y10.2.2) (am_row g 1 y4.2.2.2))) 2 rfl ?_
      rw [nI_1 i41]
      subst hKd
      exact ih (i41 + 1) a41_4 y10.2.1 y10.2.2 (.int ((nI i41) / 16)) (.int ((nI i41) - (nI i41) / 16 * 16)) (by omega)  hK
    · show am_F _ _ 90 [.ref 0, .int (nI user_n), .int (nI other_n), .int i, .int a41_4, .int (nI i41), .int ((nI i41) / 16), .int ((nI i41) - (nI i41) / 16 * 16)] [] (am_S (am_row (am_row (am_row (am_row (am_row f 1 y4.1) 34 y4.2.1) 35 y4.2.2.1) 36 y10.2.1) 37 y10.2.2) (am_row g 1 y4.2.2.2)) _
      refine am_F.ops (pc' := 93) (L' := [.ref 0, .int (nI user_n), .int (nI other_n), .int i, .int a41_4, .int (nI i41), .int ((nI i41) / 16), .int ((nI i41) - (nI i41) / 16 * 16)]) (S' := [.int i, .int a41_4]) (μ' := (am_S (am_row (am_row (am_row (am_row (am_row f 1 y4.1) 34 y4.2.1) 35 y4.2.2.1) 36 y10.2.1) 37 y10.2.2) (am_row g 1 y4.2.2.2))) 2 rfl ?_
      refine am_F.iteK 1 rfl K hK (fun c12 hK => ?_) (fun c12 hK => ?_)
      · show am_F _ _ 96 [.ref 0, .int (nI user_n), .int (nI other_n), .int i, .int a41_4, .int (nI i41), .int ((nI i41) / 16), .int ((nI i41) - (nI i41) / 16 * 16)] [] (am_S (am_row (am_row (am_row (am_row (am_row f 1 y4.1) 34 y4.2.1) 35 y4.2.2.1) 36 y10.2.1) 37 y10.2.2) (am_row g 1 y4.2.2.2)) _
        refine am_F.ops (pc' := 98) (L' := [.ref 0, .int (nI user_n), .int (nI other_n), .int i, .int a41_4, .int (nI i41), .int ((nI i41) / 16), .int ((nI i41) - (nI i41) / 16 * 16)]) (S' := [.int (nI i41)]) (μ' := (am_S (am_row (am_row (am_row (am_row (am_row f 1 y4.1) 34 y4.2.1) 35 y4.2.2.1) 36 y10.2.1) 37 y10.2.2) (am_row g 1 y4.2.2.2))) 1 rfl ?_
        subst hKd
        exact am_F.eq (am_F.ret rfl rfl) hK
      · show am_F _ _ 99 [.ref 0, .int (nI user_n), .int (nI other_n), .int i, .int a41_4, .int (nI i41), .int ((nI i41) / 16), .int ((nI i41) - (nI i41) / 16 * 16)] [] (am_S (am_row (am_row (am_row (am_row (am_row f 1 y4.1) 34 y4.2.1) 35 y4.2.2.1) 36 y10.2.1) 37 y10.2.2) (am_row g 1 y4.2.2.2)) _
        refine am_F.ops (pc' := 41) (L' := [.ref 0, .int (nI user_n), .int (nI other_n), .int i, .int (a41_4 + 1), .int ((nI i41) + 1), .int ((nI i41) / 16), .int ((nI i41) - (nI i41) / 16 * 16)]) (S' := []) (μ' := (am_S (am_row (am_row (am_row (am_row (am_row f 1 y4.1) 34 y4.2.1) 35 y4.2.2.1) 36 y10.2.1) 37 y10.2.2) (am_row g 1 y4.2.2.2))) 3 rfl ?_
        rw [nI_1 i41]
        subst hKd
        exact ih (i41 + 1) (a41_4 + 1) y10.2.1 y10.2.2 (.int ((nI i41) / 16)) (.int ((nI i41) - (nI i41) / 16 * 16)) (by omega)  hK
theorem x_unlike (user : Int32) (other : Int32) (i : Int32) (f : Nat → Nat → Int32) (g : Nat → Nat → Int64) (hLc : f 11 7 = nI (f 11 7).toNatClampNeg) (hLn : (f 11 7).toNatClampNeg ≤ 40) (hLf : ∀ i, i < (f 11 7).toNatClampNeg → am_inb (f 12 i) 16 = true) (hLt : ∀ i, i < (f 11 7).toNatClampNeg → am_inb (f 13 i) 16 = true) (hLr : ∀ i, i < (f 11 7).toNatClampNeg → am_inb (f 14 i) 20 = true) (hRc : f 18 11 = nI (f 18 11).toNatClampNeg) (hRn : (f 18 11).toNatClampNeg ≤ 30) (hRr : ∀ i, i < (f 18 11).toNatClampNeg → am_inb (f 19 i) 20 = true) (hPa : ∀ t, t < 16 → (f 29 t).toInt < 16) (hCs : ∀ i, i < (f 18 11).toNatClampNeg → f 25 i = nI (f 25 i).toNatClampNeg ∧ (f 25 i).toNatClampNeg ≤ 80) : am_D 6 119 8 [.ref 0, .int user, .int other, .int i] (am_S f g) (some (Value.int ((fn_unlike user other i f g).1)), am_S (am_row (am_row (am_row (am_row (am_row f 1 ((fn_unlike user other i f g).2.1)) 34 ((fn_unlike user other i f g).2.2.1)) 35 ((fn_unlike user other i f g).2.2.2.1)) 36 ((fn_unlike user other i f g).2.2.2.2.1)) 37 ((fn_unlike user other i f g).2.2.2.2.2.1)) (am_row g 1 ((fn_unlike user other i f g).2.2.2.2.2.2))) := by
  refine am_D.of (code := am_k_119) rfl (L0 := [.ref 0, .int user, .int other, .int i, am_un, am_un, am_un, am_un]) rfl ?_
  generalize hres : (some (Value.int ((fn_unlike user other i f g).1)), am_S (am_row (am_row (am_row (am_row (am_row f 1 ((fn_unlike user other i f g).2.1)) 34 ((fn_unlike user other i f g).2.2.1)) 35 ((fn_unlike user other i f g).2.2.2.1)) 36 ((fn_unlike user other i f g).2.2.2.2.1)) 37 ((fn_unlike user other i f g).2.2.2.2.2.1)) (am_row g 1 ((fn_unlike user other i f g).2.2.2.2.2.2))) = res
  obtain ⟨K, hKd⟩ : ∃ K : (Int32 × (Nat → Int32) × (Nat → Int32) × (Nat → Int32) × (Nat → Int32) × (Nat → Int32) × (Nat → Int64)) → Prop, K = fun z => (some (Value.int z.1), am_S (am_row (am_row (am_row (am_row (am_row f 1 z.2.1) 34 z.2.2.1) 35 z.2.2.2.1) 36 z.2.2.2.2.1) 37 z.2.2.2.2.2.1) (am_row g 1 z.2.2.2.2.2.2)) = res := ⟨_, rfl⟩
  have hK : K (fn_unlike user other i f g) := by rw [hKd]; exact hres
  clear hres
  unfold fn_unlike at hK
  refine am_F.ops (pc' := 1) (L' := [.ref 0, .int user, .int other, .int i, am_un, am_un, am_un, am_un]) (S' := [.int user]) (μ' := (am_S f g)) 1 rfl ?_
  refine am_F.call rfl rfl (x_isUser user f g ) (by decide) ?_
  show am_F _ _ 4 [.ref 0, .int user, .int other, .int i, am_un, am_un, am_un, am_un] [.int (am_b (fn_isUser user))] (am_S f g) _
  refine am_F.bifK 1 rfl K hK (fun c1 hK => ?_) (fun c1 hK => ?_)
  · obtain ⟨user_n, huser_n, euser_n⟩ := am_iUser c1
    subst euser_n
    try simp only [nI_clamp (show user_n < 2147483648 by omega)] at hK
    show am_F _ _ 7 [.ref 0, .int (nI user_n), .int other, .int i, am_un, am_un, am_un, am_un] [] (am_S f g) _
    refine am_F.ops (pc' := 8) (L' := [.ref 0, .int (nI user_n), .int other, .int i, am_un, am_un, am_un, am_un]) (S' := [.int other]) (μ' := (am_S f g)) 1 rfl ?_
    refine am_F.call rfl rfl (x_isUser other f g ) (by decide) ?_
    show am_F _ _ 11 [.ref 0, .int (nI user_n), .int other, .int i, am_un, am_un, am_un, am_un] [.int (am_b (fn_isUser other))] (am_S f g) _
    refine am_F.bifK 1 rfl K hK (fun c2 hK => ?_) (fun c2 hK => ?_)
    · obtain ⟨other_n, hother_n, eother_n⟩ := am_iUser c2
      subst eother_n
      try simp only [nI_clamp (show other_n < 2147483648 by omega)] at hK
      show am_F _ _ 14 [.ref 0, .int (nI user_n), .int (nI other_n), .int i, am_un, am_un, am_un, am_un] [] (am_S f g) _
      refine am_F.ops (pc' := 16) (L' := [.ref 0, .int (nI user_n), .int (nI other_n), .int i, am_un, am_un, am_un, am_un]) (S' := [.int (-1), .int i]) (μ' := (am_S f g)) 2 rfl ?_
      refine am_F.iteK 1 rfl K hK (fun c3 hK => ?_) (fun c3 hK => ?_)
      · show am_F _ _ 21 [.ref 0, .int (nI user_n), .int (nI other_n), .int i, am_un, am_un, am_un, am_un] [] (am_S f g) _
        refine am_F.ops (pc' := 32) (L' := [.ref 0, .int (nI user_n), .int (nI other_n), .int i, am_un, am_un, am_un, am_un]) (S' := [.int (f 2 12), .ref 1]) (μ' := (am_S f g)) 5 rfl ?_
        refine am_F.call rfl rfl (x_settle (f 2 12) f g hLc hLn hLf hLt hLr hRc hRn) (by decide) ?_
        obtain ⟨y4, hy4⟩ : ∃ z, (fn_settle (f 2 12) f g) = z := ⟨_, rfl⟩
        (try rw [hy4] at hK)
        (try rw [hy4])
        refine am_F.mem (F' := (am_row (am_row (am_row f 1 y4.1) 34 y4.2.1) 35 y4.2.2.1)) (G' := (am_row g 1 y4.2.2.2)) ?_ (by first | rfl | (funext a; by_cases z0 : a = 1; (subst z0; rfl); by_cases z1 : a = 34; (subst z1; rfl); by_cases z2 : a = 35; (subst z2; rfl); simp only [am_ui, am_ul, am_row_ne z0, am_row_ne z1, am_row_ne z2])) (by first | rfl | (funext a; by_cases z0 : a = 1; (subst z0; rfl); by_cases z1 : a = 34; (subst z1; rfl); by_cases z2 : a = 35; (subst z2; rfl); simp only [am_ui, am_ul, am_row_ne z0, am_row_ne z1, am_row_ne z2]))
        show am_F _ _ 35 [.ref 0, .int (nI user_n), .int (nI other_n), .int i, am_un, am_un, am_un, am_un] [] (am_S (am_row (am_row (am_row f 1 y4.1) 34 y4.2.1) 35 y4.2.2.1) (am_row g 1 y4.2.2.2)) _
        refine am_F.ops (pc' := 41) (L' := [.ref 0, .int (nI user_n), .int (nI other_n), .int i, .int 0, .int 0, am_un, am_un]) (S' := []) (μ' := (am_S (am_row (am_row (am_row f 1 y4.1) 34 y4.2.1) 35 y4.2.2.1) (am_row g 1 y4.2.2.2))) 4 rfl ?_
        refine am_F.mem (F' := (am_row (am_row (am_row (am_row (am_row f 1 y4.1) 34 y4.2.1) 35 y4.2.2.1) 36 (f 36)) 37 (f 37))) (G' := (am_row g 1 y4.2.2.2)) ?_ (by first | rfl | (funext a; by_cases z0 : a = 1; (subst z0; rfl); by_cases z1 : a = 34; (subst z1; rfl); by_cases z2 : a = 35; (subst z2; rfl); by_cases z3 : a = 36; (subst z3; rfl); by_cases z4 : a = 37; (subst z4; rfl); simp only [am_ui, am_ul, am_row_ne z0, am_row_ne z1, am_row_ne z2, am_row_ne z3, am_row_ne z4])) (by first | rfl | (funext a; by_cases z0 : a = 1; (subst z0; rfl); by_cases z1 : a = 34; (subst z1; rfl); by_cases z2 : a = 35; (subst z2; rfl); by_cases z3 : a = 36; (subst z3; rfl); by_cases z4 : a = 37; (subst z4; rfl); simp only [am_ui, am_ul, am_row_ne z0, am_row_ne z1, am_row_ne z2, am_row_ne z3, am_row_ne z4]))
        show am_F _ _ 41 [.ref 0, .int (nI user_n), .int (nI other_n), .int i, .int 0, .int (nI 0), am_un, am_un] [] (am_S (am_row (am_row (am_row (am_row (am_row f 1 y4.1) 34 y4.2.1) 35 y4.2.2.1) 36 (f 36)) 37 (f 37)) (am_row g 1 y4.2.2.2)) _
        refine lp_unlike_41 user_n other_n i f g y4 hLc hLn hLf hLt hLr hRc hRn hRr hPa hCs huser_n hother_n _ 128 0 0 (f 36) (f 37) am_un am_un (by omega)  ?_
        rw [show am_forX (st_unlike_41 user_n other_n i f y4) 128 0 (0, f 36, f 37) = (lf_unlike_41 user_n other_n i f y4) from rfl]
        revert hK
        cases (lf_unlike_41 user_n other_n i f y4) with
        | inr z =>
          intro hK
          subst hKd
          exact hK
        | inl z41 =>
          intro hK wc w41_6 w41_7
          refine am_F.ops (pc' := 109) (L' := [.ref 0, .int (nI user_n), .int (nI other_n), .int i, .int z41.1, wc, w41_6, w41_7]) (S' := [.int i]) (μ' := (am_S (am_row (am_row (am_row (am_row (am_row f 1 y4.1) 34 y4.2.1) 35 y4.2.2.1) 36 z41.2.1) 37 z41.2.2) (am_row g 1 y4.2.2.2))) 1 rfl ?_
          refine am_F.to (am_To.ite (pc' := 119) (L2 := [.ref 0, .int (nI user_n), .int (nI other_n), .int i, .int z41.1, wc, w41_6, w41_7]) (S2 := []) (μ2 := (am_S (am_row (am_row (am_row (am_row (am_row f 1 y4.1) 34 y4.2.1) 35 y4.2.2.1) 36 z41.2.1) 37 z41.2.2) (am_row g 1 y4.2.2.2))) (a := (-2)) (b := z41.1) 1 rfl (fun c13 => ?_) (fun c13 => ?_)) ?_
          · intro res9 g9
            show am_F _ _ 117 [.ref 0, .int (nI user_n), .int (nI other_n), .int i, .int z41.1, wc, w41_6, w41_7] [] (am_S (am_row (am_row (am_row (am_row (am_row f 1 y4.1) 34 y4.2.1) 35 y4.2.2.1) 36 z41.2.1) 37 z41.2.2) (am_row g 1 y4.2.2.2)) _
            refine am_F.ops (pc' := 119) (L' := [.ref 0, .int (nI user_n), .int (nI other_n), .int i, .int z41.1, wc, w41_6, w41_7]) (S' := [.int (-2)]) (μ' := (am_S (am_row (am_row (am_row (am_row (am_row f 1 y4.1) 34 y4.2.1) 35 y4.2.2.1) 36 z41.2.1) 37 z41.2.2) (am_row g 1 y4.2.2.2))) 1 rfl ?_
            exact g9
          · intro res9 g9
            show am_F _ _ 112 [.ref 0, .int (nI user_n), .int (nI other_n), .int i, .int z41.1, wc, w41_6, w41_7] [] (am_S (am_row (am_row (am_row (am_row (am_row f 1 y4.1) 34 y4.2.1) 35 y4.2.2.1) 36 z41.2.1) 37 z41.2.2) (am_row g 1 y4.2.2.2)) _
            refine am_F.ops (pc' := 119) (L' := [.ref 0, .int (nI user_n), .int (nI other_n), .int i, .int z41.1, wc, w41_6, w41_7]) (S' := [.int z41.1]) (μ' := (am_S (am_row (am_row (am_row (am_row (am_row f 1 y4.1) 34 y4.2.1) 35 y4.2.2.1) 36 z41.2.1) 37 z41.2.2) (am_row g 1 y4.2.2.2))) 2 rfl ?_
            exact g9
          show am_F _ _ 119 [.ref 0, .int (nI user_n), .int (nI other_n), .int i, .int z41.1, wc, w41_6, w41_7] [.int (if 0 ≤ i then (-2) else z41.1)] (am_S (am_row (am_row (am_row (am_row (am_row f 1 y4.1) 34 y4.2.1) 35 y4.2.2.1) 36 z41.2.1) 37 z41.2.2) (am_row g 1 y4.2.2.2)) _
          subst hKd
          exact am_F.eq (am_F.ret rfl rfl) hK
      · show am_F _ _ 19 [.ref 0, .int (nI user_n), .int (nI other_n), .int i, am_un, am_un, am_un, am_un] [] (am_S f g) _
        refine am_F.ops (pc' := 20) (L' := [.ref 0, .int (nI user_n), .int (nI other_n), .int i, am_un, am_un, am_un, am_un]) (S' := [.int (-1)]) (μ' := (am_S f g)) 1 rfl ?_
        refine am_F.mem (F' := (am_row (am_row (am_row (am_row (am_row f 1 (f 1)) 34 (f 34)) 35 (f 35)) 36 (f 36)) 37 (f 37))) (G' := (am_row g 1 (g 1))) ?_ (by first | rfl | (funext a; by_cases z0 : a = 1; (subst z0; rfl); by_cases z1 : a = 34; (subst z1; rfl); by_cases z2 : a = 35; (subst z2; rfl); by_cases z3 : a = 36; (subst z3; rfl); by_cases z4 : a = 37; (subst z4; rfl); simp only [am_ui, am_ul, am_row_ne z0, am_row_ne z1, am_row_ne z2, am_row_ne z3, am_row_ne z4])) (by first | rfl | (funext a; by_cases z0 : a = 1; (subst z0; rfl); by_cases z1 : a = 34; (subst z1; rfl); by_cases z2 : a = 35; (subst z2; rfl); by_cases z3 : a = 36; (subst z3; rfl); by_cases z4 : a = 37; (subst z4; rfl); simp only [am_ui, am_ul, am_row_ne z0, am_row_ne z1, am_row_ne z2, am_row_ne z3, am_row_ne z4]))
        subst hKd
        exact am_F.eq (am_F.ret rfl rfl) hK
    · show am_F _ _ 19 [.ref 0, .int (nI user_n), .int other, .int i, am_un, am_un, am_un, am_un] [] (am_S f g) _
      refine am_F.ops (pc' := 20) (L' := [.ref 0, .int (nI user_n), .int other, .int i, am_un, am_un, am_un, am_un]) (S' := [.int (-1)]) (μ' := (am_S f g)) 1 rfl ?_
      refine am_F.mem (F' := (am_row (am_row (am_row (am_row (am_row f 1 (f 1)) 34 (f 34)) 35 (f 35)) 36 (f 36)) 37 (f 37))) (G' := (am_row g 1 (g 1))) ?_ (by first | rfl | (funext a; by_cases z0 : a = 1; (subst z0; rfl); by_cases z1 : a = 34; (subst z1; rfl); by_cases z2 : a = 35; (subst z2; rfl); by_cases z3 : a = 36; (subst z3; rfl); by_cases z4 : a = 37; (subst z4; rfl); simp only [am_ui, am_ul, am_row_ne z0, am_row_ne z1, am_row_ne z2, am_row_ne z3, am_row_ne z4])) (by first | rfl | (funext a; by_cases z0 : a = 1; (subst z0; rfl); by_cases z1 : a = 34; (subst z1; rfl); by_cases z2 : a = 35; (subst z2; rfl); by_cases z3 : a = 36; (subst z3; rfl); by_cases z4 : a = 37; (subst z4; rfl); simp only [am_ui, am_ul, am_row_ne z0, am_row_ne z1, am_row_ne z2, am_row_ne z3, am_row_ne z4]))
      subst hKd
      exact am_F.eq (am_F.ret rfl rfl) hK
  · show am_F _ _ 19 [.ref 0, .int user, .int other, .int i, am_un, am_un, am_un, am_un] [] (am_S f g) _
    refine am_F.ops (pc' := 20) (L' := [.ref 0, .int user, .int other, .int i, am_un, am_un, am_un, am_un]) (S' := [.int (-1)]) (μ' := (am_S f g)) 1 rfl ?_
    refine am_F.mem (F' := (am_row (am_row (am_row (am_row (am_row f 1 (f 1)) 34 (f 34)) 35 (f 35)) 36 (f 36)) 37 (f 37))) (G' := (am_row g 1 (g 1))) ?_ (by first | rfl | (funext a; by_cases z0 : a = 1; (subst z0; rfl); by_cases z1 : a = 34; (subst z1; rfl); by_cases z2 : a = 35; (subst z2; rfl); by_cases z3 : a = 36; (subst z3; rfl); by_cases z4 : a = 37; (subst z4; rfl); simp only [am_ui, am_ul, am_row_ne z0, am_row_ne z1, am_row_ne z2, am_row_ne z3, am_row_ne z4])) (by first | rfl | (funext a; by_cases z0 : a = 1; (subst z0; rfl); by_cases z1 : a = 34; (subst z1; rfl); by_cases z2 : a = 35; (subst z2; rfl); by_cases z3 : a = 36; (subst z3; rfl); by_cases z4 : a = 37; (subst z4; rfl); simp only [am_ui, am_ul, am_row_ne z0, am_row_ne z1, am_row_ne z2, am_row_ne z3, am_row_ne z4]))
    subst hKd
    exact am_F.eq (am_F.ret rfl rfl) hK
theorem am_inbB {x : Int32} {w : Nat} (h0 : ¬ x < 0) (h1 : x < 30) (hw : w < 6) : am_inb ((x * 6) + (nI w)) 180 = true := by
  obtain ⟨j, h2, h3⟩ := nI_of h0
  subst h3
  rw [Int32.lt_iff_toInt_lt, nI_toInt (by omega), show (30 : Int32).toInt = 30 from rfl] at h1
  have e : (nI j * 6) + (nI w) = nI (j * 6 + w) := by simp only [am_l6, pk_mul, nI_add]
  rw [e]
  exact am_inbN (by omega) (by decide)
/-- AccessLattice.book -/
def fn_book (i : Int32) (what : Int32) (f : Nat → Nat → Int32) : Int32 := (if i < 0 then (-1) else (bif (fn_between what 0 5) then (if (f 2 11) ≤ i then (-2) else (if i < 30 then f 32 (((i * 6) + what).toNatClampNeg) else (-2))) else (-1)))
theorem x_book (i : Int32) (what : Int32) (f : Nat → Nat → Int32) (g : Nat → Nat → Int64)  : am_D 1 120 3 [.ref 0, .int i, .int what] (am_S f g) (some (Value.int (fn_book i what f)), am_S f g) := by
  refine am_D.of (code := am_k_120) rfl (L0 := [.ref 0, .int i, .int what]) rfl ?_
  generalize hres : (some (Value.int (fn_book i what f)), am_S f g) = res
  obtain ⟨K, hKd⟩ : ∃ K : Int32 → Prop, K = fun z => (some (Value.int z), am_S f g) = res := ⟨_, rfl⟩
  have hK : K (fn_book i what f) := by rw [hKd]; exact hres
  clear hres
  unfold fn_book at hK
  refine am_F.ops (pc' := 1) (L' := [.ref 0, .int i, .int what]) (S' := [.int i]) (μ' := (am_S f g)) 1 rfl ?_
  refine am_F.iteK 1 rfl K hK (fun c1 hK => ?_) (fun c1 hK => ?_)
  · show am_F _ _ 13 [.ref 0, .int i, .int what] [] (am_S f g) _
    refine am_F.ops (pc' := 14) (L' := [.ref 0, .int i, .int what]) (S' := [.int (-1)]) (μ' := (am_S f g)) 1 rfl ?_
    subst hKd
    exact am_F.eq (am_F.ret rfl rfl) hK
  · show am_F _ _ 4 [.ref 0, .int i, .int what] [] (am_S f g) _
    refine am_F.ops (pc' := 7) (L' := [.ref 0, .int i, .int what]) (S' := [.int 5, .int 0, .int what]) (μ' := (am_S f g)) 3 rfl ?_
    refine am_F.call rfl rfl (x_between what 0 5 f g ) (by decide) ?_
    show am_F _ _ 10 [.ref 0, .int i, .int what] [.int (am_b (fn_between what 0 5))] (am_S f g) _
    refine am_F.bifK 1 rfl K hK (fun c2 hK => ?_) (fun c2 hK => ?_)
    · obtain ⟨what_n, hwhat_n, ewhat_n⟩ := am_btwN (N := 6) c2 (by decide)
      subst ewhat_n
      try simp only [nI_clamp (show what_n < 2147483648 by omega)] at hK
      show am_F _ _ 15 [.ref 0, .int i, .int (nI what_n)] [] (am_S f g) _
      refine am_F.ops (pc' := 23) (L' := [.ref 0, .int i, .int (nI what_n)]) (S' := [.int (f 2 11), .int i]) (μ' := (am_S f g)) 4 rfl ?_
      refine am_F.iteK 1 rfl K hK (fun c3 hK => ?_) (fun c3 hK => ?_)
      · show am_F _ _ 32 [.ref 0, .int i, .int (nI what_n)] [] (am_S f g) _
        refine am_F.ops (pc' := 34) (L' := [.ref 0, .int i, .int (nI what_n)]) (S' := [.int (-2)]) (μ' := (am_S f g)) 1 rfl ?_
        subst hKd
        exact am_F.eq (am_F.ret rfl rfl) hK
      · show am_F _ _ 26 [.ref 0, .int i, .int (nI what_n)] [] (am_S f g) _
        refine am_F.ops (pc' := 29) (L' := [.ref 0, .int i, .int (nI what_n)]) (S' := [.int 30, .int i]) (μ' := (am_S f g)) 2 rfl ?_
        refine am_F.iteK 1 rfl K hK (fun c4 hK => ?_) (fun c4 hK => ?_)
        · show am_F _ _ 35 [.ref 0, .int i, .int (nI what_n)] [] (am_S f g) _
          refine am_F.ops (pc' := 48) (L' := [.ref 0, .int i, .int (nI what_n)]) (S' := [.int ((i * 6) + (nI what_n)), .ref 32]) (μ' := (am_S f g)) 8 rfl ?_
          refine am_F.ial (N := 180) rfl rfl rfl (am_inbB (by assumption) (by assumption) hwhat_n) ?_
          show am_F _ _ 49 [.ref 0, .int i, .int (nI what_n)] [.int (f 32 (((i * 6) + (nI what_n)).toNatClampNeg))] (am_S f g) _
          subst hKd
          exact am_F.eq (am_F.ret rfl rfl) hK
        · show am_F _ _ 32 [.ref 0, .int i, .int (nI what_n)] [] (am_S f g) _
          refine am_F.ops (pc' := 34) (L' := [.ref 0, .int i, .int (nI what_n)]) (S' := [.int (-2)]) (μ' := (am_S f g)) 1 rfl ?_
          subst hKd
          exact am_F.eq (am_F.ret rfl rfl) hK
    · show am_F _ _ 13 [.ref 0, .int i, .int what] [] (am_S f g) _
      refine am_F.ops (pc' := 14) (L' := [.ref 0, .int i, .int what]) (S' := [.int (-1)]) (μ' := (am_S f g)) 1 rfl ?_
      subst hKd
      exact am_F.eq (am_F.ret rfl rfl) hK
/-- AccessLattice.reaches -/
def fn_reaches (rule : Nat) (thing : Nat) (f : Nat → Nat → Int32) : Bool := (if (fn_stepsUp thing (f 21 rule) f) = 0 then true else (if (fn_stepsUp thing (f 21 rule) f) ≤ 0 then false else (bif (fn_has (f 18 10) (nI rule)) then true else false)))
theorem x_reaches (rule : Nat) (thing : Nat) (f : Nat → Nat → Int32) (g : Nat → Nat → Int64) (hPa : ∀ t, t < 16 → (f 29 t).toInt < 16) (hrule : rule < 30) (hthing : thing < 16) : am_D 1 125 4 [.ref 0, .int (nI rule), .int (nI thing)] (am_S f g) (some (Value.int (am_b (fn_reaches rule thing f))), am_S f g) := by
  refine am_D.of (code := am_k_125) rfl (L0 := [.ref 0, .int (nI rule), .int (nI thing), am_un]) rfl ?_
  generalize hres : (some (Value.int (am_b (fn_reaches rule thing f))), am_S f g) = res
  obtain ⟨K, hKd⟩ : ∃ K : Bool → Prop, K = fun z => (some (Value.int (am_b z)), am_S f g) = res := ⟨_, rfl⟩
  have hK : K (fn_reaches rule thing f) := by rw [hKd]; exact hres
  clear hres
  unfold fn_reaches at hK
  refine am_F.ops (pc' := 16) (L' := [.ref 0, .int (nI rule), .int (nI thing), am_un]) (S' := [.int (nI rule), .ref 21, .int (nI thing), .ref 2]) (μ' := (am_S f g)) 8 rfl ?_
  refine am_F.ialE (m := rule) (N := 30) rfl rfl rfl rfl (by omega) (by decide) ?_
  show am_F _ _ 17 [.ref 0, .int (nI rule), .int (nI thing), am_un] [.int (f 21 rule), .int (nI thing), .ref 2] (am_S f g) _
  refine am_F.call rfl rfl (x_stepsUp thing (f 21 rule) f g hPa (by omega)) (by decide) ?_
  show am_F _ _ 20 [.ref 0, .int (nI rule), .int (nI thing), am_un] [.int (fn_stepsUp thing (f 21 rule) f)] (am_S f g) _
  refine am_F.ops (pc' := 22) (L' := [.ref 0, .int (nI rule), .int (nI thing), .int (fn_stepsUp thing (f 21 rule) f)]) (S' := [.int (fn_stepsUp thing (f 21 rule) f)]) (μ' := (am_S f g)) 2 rfl ?_
  refine am_F.to (am_To.iteB (pc' := 51) (L2 := [.ref 0, .int (nI rule), .int (nI thing), .int (fn_stepsUp thing (f 21 rule) f)]) (S2 := []) (μ2 := (am_S f g)) (a := true) (b := (if (fn_stepsUp thing (f 21 rule) f) ≤ 0 then false else (bif (fn_has (f 18 10) (nI rule)) then true else false))) 1 rfl (fun c1 => ?_) (fun c1 => ?_)) ?_
  · intro res9 g9
    show am_F _ _ 46 [.ref 0, .int (nI rule), .int (nI thing), .int (fn_stepsUp thing (f 21 rule) f)] [] (am_S f g) _
    refine am_F.ops (pc' := 51) (L' := [.ref 0, .int (nI rule), .int (nI thing), .int (fn_stepsUp thing (f 21 rule) f)]) (S' := [.int 1]) (μ' := (am_S f g)) 2 rfl ?_
    exact g9
  · intro res9 g9
    show am_F _ _ 25 [.ref 0, .int (nI rule), .int (nI thing), .int (fn_stepsUp thing (f 21 rule) f)] [] (am_S f g) _
    refine am_F.ops (pc' := 26) (L' := [.ref 0, .int (nI rule), .int (nI thing), .int (fn_stepsUp thing (f 21 rule) f)]) (S' := [.int (fn_stepsUp thing (f 21 rule) f)]) (μ' := (am_S f g)) 1 rfl ?_
    refine am_F.to (am_To.iteB (pc' := 51) (L2 := [.ref 0, .int (nI rule), .int (nI thing), .int (fn_stepsUp thing (f 21 rule) f)]) (S2 := []) (μ2 := (am_S f g)) (a := false) (b := (bif (fn_has (f 18 10) (nI rule)) then true else false)) 1 rfl (fun c2 => ?_) (fun c2 => ?_)) g9
    · intro res9 g9
      show am_F _ _ 50 [.ref 0, .int (nI rule), .int (nI thing), .int (fn_stepsUp thing (f 21 rule) f)] [] (am_S f g) _
      refine am_F.ops (pc' := 51) (L' := [.ref 0, .int (nI rule), .int (nI thing), .int (fn_stepsUp thing (f 21 rule) f)]) (S' := [.int 0]) (μ' := (am_S f g)) 1 rfl ?_
      exact g9
    · intro res9 g9
      show am_F _ _ 29 [.ref 0, .int (nI rule), .int (nI thing), .int (fn_stepsUp thing (f 21 rule) f)] [] (am_S f g) _
      refine am_F.ops (pc' := 40) (L' := [.ref 0, .int (nI rule), .int (nI thing), .int (fn_stepsUp thing (f 21 rule) f)]) (S' := [.int (nI rule), .int (f 18 10)]) (μ' := (am_S f g)) 5 rfl ?_
      refine am_F.call rfl rfl (x_has (f 18 10) (nI rule) f g ) (by decide) ?_
      show am_F _ _ 43 [.ref 0, .int (nI rule), .int (nI thing), .int (fn_stepsUp thing (f 21 rule) f)] [.int (am_b (fn_has (f 18 10) (nI rule)))] (am_S f g) _
      refine am_F.to (am_To.bifB (pc' := 51) (L2 := [.ref 0, .int (nI rule), .int (nI thing), .int (fn_stepsUp thing (f 21 rule) f)]) (S2 := []) (μ2 := (am_S f g)) (a := true) (b := false) 1 rfl (fun c3 => ?_) (fun c3 => ?_)) g9
      · intro res9 g9
        show am_F _ _ 46 [.ref 0, .int (nI rule), .int (nI thing), .int (fn_stepsUp thing (f 21 rule) f)] [] (am_S f g) _
        refine am_F.ops (pc' := 51) (L' := [.ref 0, .int (nI rule), .int (nI thing), .int (fn_stepsUp thing (f 21 rule) f)]) (S' := [.int 1]) (μ' := (am_S f g)) 2 rfl ?_
        exact g9
      · intro res9 g9
        show am_F _ _ 50 [.ref 0, .int (nI rule), .int (nI thing), .int (fn_stepsUp thing (f 21 rule) f)] [] (am_S f g) _
        refine am_F.ops (pc' := 51) (L' := [.ref 0, .int (nI rule), .int (nI thing), .int (fn_stepsUp thing (f 21 rule) f)]) (S' := [.int 0]) (μ' := (am_S f g)) 1 rfl ?_
        exact g9
  show am_F _ _ 51 [.ref 0, .int (nI rule), .int (nI thing), .int (fn_stepsUp thing (f 21 rule) f)] [.int (am_b (if (fn_stepsUp thing (f 21 rule) f) = 0 then true else (if (fn_stepsUp thing (f 21 rule) f) ≤ 0 then false else (bif (fn_has (f 18 10) (nI rule)) then true else false))))] (am_S f g) _
  subst hKd
  exact am_F.eq (am_F.ret rfl (am_retB _ _)) hK
/-- AccessLattice.join -/
def st_join_66 (a_n : Nat) (b_n : Nat) (f : Nat → Nat → Int32) : Nat → Unit → Unit ⊕ (Unit ⊕ Int32) := fun i66 _ => (bif (fn_has ((f 7 a_n) &&& (f 7 b_n)) (nI i66)) then (if (((f 7 a_n) &&& (f 7 b_n)) &&& ((f 7 i66) ^^^ (-1))) = 0 then .inr (.inr (nI i66)) else .inl ()) else .inl ())
def lf_join_66 (a_n : Nat) (b_n : Nat) (f : Nat → Nat → Int32) : Unit ⊕ Int32 := am_forX (st_join_66 a_n b_n f) 20 0 ()
def st_join_66_10 (a_n : Nat) (b_n : Nat) (f : Nat → Nat → Int32) : Nat → Unit → Unit ⊕ (Unit ⊕ Int32) := fun i66 _ => (bif (fn_has ((f 6 a_n) &&& (f 6 b_n)) (nI i66)) then (if (((f 6 a_n) &&& (f 6 b_n)) &&& ((f 6 i66) ^^^ (-1))) = 0 then .inr (.inr (nI i66)) else .inl ()) else .inl ())
def lf_join_66_11 (a_n : Nat) (b_n : Nat) (f : Nat → Nat → Int32) : Unit ⊕ Int32 := am_forX (st_join_66_10 a_n b_n f) 20 0 ()
def fn_join (a : Int32) (b : Int32) (way : Int32) (f : Nat → Nat → Int32) : Int32 := (bif (fn_isRole a) then (bif (fn_isRole b) then (bif (fn_within01 way) then (if way = 0 then (Sum.elim (fun (z66 : Unit) => (-2)) (fun (z : Int32) => z) (lf_join_66 (a.toNatClampNeg) (b.toNatClampNeg) f)) else (Sum.elim (fun (z66 : Unit) => (-2)) (fun (z : Int32) => z) (lf_join_66_11 (a.toNatClampNeg) (b.toNatClampNeg) f))) else (-1)) else (-1)) else (-1))
theorem lp_join_66 (a_n : Nat) (b_n : Nat) (way : Int32) (f : Nat → Nat → Int32) (g : Nat → Nat → Int64) (ha_n : a_n < 20) (hb_n : b_n < 20) (res : Option Value × am_M) : ∀ (n i66 : Nat)  , i66 + n = 20 → am_KX (fun (z : Unit) => ∀ (wc : Value), am_F 2 am_k_126 105 [.ref 0, .int (nI a_n), .int (nI b_n), .int way, .ref 7, .int ((f 7 a_n) &&& (f 7 b_n)), wc] [] (am_S f g) res) (fun (z : Int32) => (some (Value.int z), am_S f g) = res) (am_forX (st_join_66 a_n b_n f) n i66 ()) → am_F 2 am_k_126 66 [.ref 0, .int (nI a_n), .int (nI b_n), .int way, .ref 7, .int ((f 7 a_n) &&& (f 7 b_n)), .int (nI i66)] [] (am_S f g) res := by
  intro n
  induction n with
  | zero =>
    intro i66 hi hK
    refine am_F.pos 3 rfl (by show 20 ≤ nI i66; rw [show (20 : Int32) = nI 20 from rfl]; exact nI_le (by omega) (by omega)) ?_
    exact hK _
  | succ n ih =>
    intro i66 hi hK
    refine am_F.neg 3 rfl (by show ¬ 20 ≤ nI i66; rw [show (20 : Int32) = nI 20 from rfl]; exact nI_ge (by omega) (by omega)) ?_
    have hb66 : i66 < 20 := by omega
    show am_F _ _ 73 [.ref 0, .int (nI a_n), .int (nI b_n), .int way, .ref 7, .int ((f 7 a_n) &&& (f 7 b_n)), .int (nI i66)] [] (am_S f g) _
    obtain ⟨K, hKd⟩ : ∃ K : (Unit ⊕ (Unit ⊕ Int32)) → Prop, K = fun s => am_KX (fun (z : Unit) => ∀ (wc : Value), am_F 2 am_k_126 105 [.ref 0, .int (nI a_n), .int (nI b_n), .int way, .ref 7, .int ((f 7 a_n) &&& (f 7 b_n)), wc] [] (am_S f g) res) (fun (z : Int32) => (some (Value.int z), am_S f g) = res) (am_nxt (fun z => am_forX (st_join_66 a_n b_n f) n (i66 + 1) z) s) := ⟨_, rfl⟩
    have hK : K ((st_join_66 a_n b_n f) i66 ()) := by rw [am_forX_s] at hK; rw [hKd]; with_reducible exact hK
    unfold st_join_66 at hK
    refine am_F.ops (pc' := 77) (L' := [.ref 0, .int (nI a_n), .int (nI b_n), .int way, .ref 7, .int ((f 7 a_n) &&& (f 7 b_n)), .int (nI i66)]) (S' := [.int (nI i66), .int ((f 7 a_n) &&& (f 7 b_n))]) (μ' := (am_S f g)) 2 rfl ?_
    refine am_F.call rfl rfl (x_has ((f 7 a_n) &&& (f 7 b_n)) (nI i66) f g ) (by decide) ?_
    show am_F _ _ 80 [.ref 0, .int (nI a_n), .int (nI b_n), .int way, .ref 7, .int ((f 7 a_n) &&& (f 7 b_n)), .int (nI i66)] [.int (am_b (fn_has ((f 7 a_n) &&& (f 7 b_n)) (nI i66)))] (am_S f g) _
    refine am_F.bifK 1 rfl K hK (fun c6 hK => ?_) (fun c6 hK => ?_)
    · show am_F _ _ 83 [.ref 0, .int (nI a_n), .int (nI b_n), .int way, .ref 7, .int ((f 7 a_n) &&& (f 7 b_n)), .int (nI i66)] [] (am_S f g) _
      refine am_F.ops (pc' := 89) (L' := [.ref 0, .int (nI a_n), .int (nI b_n), .int way, .ref 7, .int ((f 7 a_n) &&& (f 7 b_n)), .int (nI i66)]) (S' := [.int (nI i66), .ref 7, .int ((f 7 a_n) &&& (f 7 b_n))]) (μ' := (am_S f g)) 3 rfl ?_
      refine am_F.ialE (m := i66) (N := 20) rfl rfl rfl rfl (by omega) (by decide) ?_
      show am_F _ _ 90 [.ref 0, .int (nI a_n), .int (nI b_n), .int way, .ref 7, .int ((f 7 a_n) &&& (f 7 b_n)), .int (nI i66)] [.int (f 7 i66), .int ((f 7 a_n) &&& (f 7 b_n))] (am_S f g) _
      refine am_F.ops (pc' := 93) (L' := [.ref 0, .int (nI a_n), .int (nI b_n), .int way, .ref 7, .int ((f 7 a_n) &&& (f 7 b_n)), .int (nI i66)]) (S' := [.int (((f 7 a_n) &&& (f 7 b_n)) &&& ((f 7 i66) ^^^ (-1)))]) (μ' := (am_S f g)) 3 rfl ?_
      refine am_F.iteK 1 rfl K hK (fun c7 hK => ?_) (fun c7 hK => ?_)
      · show am_F _ _ 96 [.ref 0, .int (nI a_n), .int (nI b_n), .int way, .ref 7, .int ((f 7 a_n) &&& (f 7 b_n)), .int (nI i66)] [] (am_S f g) _
        refine am_F.ops (pc' := 98) (L' := [.ref 0, .int (nI a_n), .int (nI b_n), .int way, .ref 7, .int ((f 7 a_n) &&& (f 7 b_n)), .int (nI i66)]) (S' := [.int (nI i66)]) (μ' := (am_S f g)) 1 rfl ?_
        subst hKd
        exact am_F.eq (am_F.ret rfl rfl) hK
      · show am_F _ _ 99 [.ref 0, .int (nI a_n), .int (nI b_n), .int way, .ref 7, .int ((f 7 a_n) &&& (f 7 b_n)), .int (nI i66)] [] (am_S f g) _
        refine am_F.ops (pc' := 66) (L' := [.ref 0, .int (nI a_n), .int (nI b_n), .int way, .ref 7, .int ((f 7 a_n) &&& (f 7 b_n)), .int ((nI i66) + 1)]) (S' := []) (μ' := (am_S f g)) 2 rfl ?_
        rw [nI_1 i66]
        subst hKd
        exact ih (i66 + 1)  (by omega)  hK
    · show am_F _ _ 99 [.ref 0, .int (nI a_n), .int (nI b_n), .int way, .ref 7, .int ((f 7 a_n) &&& (f 7 b_n)), .int (nI i66)] [] (am_S f g) _
      refine am_F.ops (pc' := 66) (L' := [.ref 0, .int (nI a_n), .int (nI b_n), .int way, .ref 7, .int ((f 7 a_n) &&& (f 7 b_n)), .int ((nI i66) + 1)]) (S' := []) (μ' := (am_S f g)) 2 rfl ?_
      rw [nI_1 i66]
      subst hKd
      exact ih (i66 + 1)  (by omega)  hK
theorem lp_join_66_10 (a_n : Nat) (b_n : Nat) (way : Int32) (f : Nat → Nat → Int32) (g : Nat → Nat → Int64) (ha_n : a_n < 20) (hb_n : b_n < 20) (res : Option Value × am_M) : ∀ (n i66 : Nat)  , i66 + n = 20 → am_KX (fun (z : Unit) => ∀ (wc : Value), am_F 2 am_k_126 105 [.ref 0, .int (nI a_n), .int (nI b_n), .int way, .ref 6, .int ((f 6 a_n) &&& (f 6 b_n)), wc] [] (am_S f g) res) (fun (z : Int32) => (some (Value.int z), am_S f g) = res) (am_forX (st_join_66_10 a_n b_n f) n i66 ()) → am_F 2 am_k_126 66 [.ref 0, .int (nI a_n), .int (nI b_n), .int way, .ref 6, .int ((f 6 a_n) &&& (f 6 b_n)), .int (nI i66)] [] (am_S f g) res := by
  intro n
  induction n with
  | zero =>
    intro i66 hi hK
    refine am_F.pos 3 rfl (by show 20 ≤ nI i66; rw [show (20 : Int32) = nI 20 from rfl]; exact nI_le (by omega) (by omega)) ?_
    exact hK _
  | succ n ih =>
    intro i66 hi hK
    refine am_F.neg 3 rfl (by show ¬ 20 ≤ nI i66; rw [show (20 : Int32) = nI 20 from rfl]; exact nI_ge (by omega) (by omega)) ?_
    have hb66 : i66 < 20 := by omega
    show am_F _ _ 73 [.ref 0, .int (nI a_n), .int (nI b_n), .int way, .ref 6, .int ((f 6 a_n) &&& (f 6 b_n)), .int (nI i66)] [] (am_S f g) _
    obtain ⟨K, hKd⟩ : ∃ K : (Unit ⊕ (Unit ⊕ Int32)) → Prop, K = fun s => am_KX (fun (z : Unit) => ∀ (wc : Value), am_F 2 am_k_126 105 [.ref 0, .int (nI a_n), .int (nI b_n), .int way, .ref 6, .int ((f 6 a_n) &&& (f 6 b_n)), wc] [] (am_S f g) res) (fun (z : Int32) => (some (Value.int z), am_S f g) = res) (am_nxt (fun z => am_forX (st_join_66_10 a_n b_n f) n (i66 + 1) z) s) := ⟨_, rfl⟩
    have hK : K ((st_join_66_10 a_n b_n f) i66 ()) := by rw [am_forX_s] at hK; rw [hKd]; with_reducible exact hK
    unfold st_join_66_10 at hK
    refine am_F.ops (pc' := 77) (L' := [.ref 0, .int (nI a_n), .int (nI b_n), .int way, .ref 6, .int ((f 6 a_n) &&& (f 6 b_n)), .int (nI i66)]) (S' := [.int (nI i66), .int ((f 6 a_n) &&& (f 6 b_n))]) (μ' := (am_S f g)) 2 rfl ?_
    refine am_F.call rfl rfl (x_has ((f 6 a_n) &&& (f 6 b_n)) (nI i66) f g ) (by decide) ?_
    show am_F _ _ 80 [.ref 0, .int (nI a_n), .int (nI b_n), .int way, .ref 6, .int ((f 6 a_n) &&& (f 6 b_n)), .int (nI i66)] [.int (am_b (fn_has ((f 6 a_n) &&& (f 6 b_n)) (nI i66)))] (am_S f g) _
    refine am_F.bifK 1 rfl K hK (fun c8 hK => ?_) (fun c8 hK => ?_)
    · show am_F _ _ 83 [.ref 0, .int (nI a_n), .int (nI b_n), .int way, .ref 6, .int ((f 6 a_n) &&& (f 6 b_n)), .int (nI i66)] [] (am_S f g) _
      refine am_F.ops (pc' := 89) (L' := [.ref 0, .int (nI a_n), .int (nI b_n), .int way, .ref 6, .int ((f 6 a_n) &&& (f 6 b_n)), .int (nI i66)]) (S' := [.int (nI i66), .ref 6, .int ((f 6 a_n) &&& (f 6 b_n))]) (μ' := (am_S f g)) 3 rfl ?_
      refine am_F.ialE (m := i66) (N := 20) rfl rfl rfl rfl (by omega) (by decide) ?_
      show am_F _ _ 90 [.ref 0, .int (nI a_n), .int (nI b_n), .int way, .ref 6, .int ((f 6 a_n) &&& (f 6 b_n)), .int (nI i66)] [.int (f 6 i66), .int ((f 6 a_n) &&& (f 6 b_n))] (am_S f g) _
      refine am_F.ops (pc' := 93) (L' := [.ref 0, .int (nI a_n), .int (nI b_n), .int way, .ref 6, .int ((f 6 a_n) &&& (f 6 b_n)), .int (nI i66)]) (S' := [.int (((f 6 a_n) &&& (f 6 b_n)) &&& ((f 6 i66) ^^^ (-1)))]) (μ' := (am_S f g)) 3 rfl ?_
      refine am_F.iteK 1 rfl K hK (fun c9 hK => ?_) (fun c9 hK => ?_)
      · show am_F _ _ 96 [.ref 0, .int (nI a_n), .int (nI b_n), .int way, .ref 6, .int ((f 6 a_n) &&& (f 6 b_n)), .int (nI i66)] [] (am_S f g) _
        refine am_F.ops (pc' := 98) (L' := [.ref 0, .int (nI a_n), .int (nI b_n), .int way, .ref 6, .int ((f 6 a_n) &&& (f 6 b_n)), .int (nI i66)]) (S' := [.int (nI i66)]) (μ' := (am_S f g)) 1 rfl ?_
        subst hKd
        exact am_F.eq (am_F.ret rfl rfl) hK
      · show am_F _ _ 99 [.ref 0, .int (nI a_n), .int (nI b_n), .int way, .ref 6, .int ((f 6 a_n) &&& (f 6 b_n)), .int (nI i66)] [] (am_S f g) _
        refine am_F.ops (pc' := 66) (L' := [.ref 0, .int (nI a_n), .int (nI b_n), .int way, .ref 6, .int ((f 6 a_n) &&& (f 6 b_n)), .int ((nI i66) + 1)]) (S' := []) (μ' := (am_S f g)) 2 rfl ?_
        rw [nI_1 i66]
        subst hKd
        exact ih (i66 + 1)  (by omega)  hK
    · show am_F _ _ 99 [.ref 0, .int (nI a_n), .int (nI b_n), .int way, .ref 6, .int ((f 6 a_n) &&& (f 6 b_n)), .int (nI i66)] [] (am_S f g) _
      refine am_F.ops (pc' := 66) (L' := [.ref 0, .int (nI a_n), .int (nI b_n), .int way, .ref 6, .int ((f 6 a_n) &&& (f 6 b_n)), .int ((nI i66) + 1)]) (S' := []) (μ' := (am_S f g)) 2 rfl ?_
      rw [nI_1 i66]
      subst hKd
      exact ih (i66 + 1)  (by omega)  hK
theorem x_join (a : Int32) (b : Int32) (way : Int32) (f : Nat → Nat → Int32) (g : Nat → Nat → Int64)  : am_D 2 126 7 [.ref 0, .int a, .int b, .int way] (am_S f g) (some (Value.int (fn_join a b way f)), am_S f g) := by
  refine am_D.of (code := am_k_126) rfl (L0 := [.ref 0, .int a, .int b, .int way, am_un, am_un, am_un]) rfl ?_
  generalize hres : (some (Value.int (fn_join a b way f)), am_S f g) = res
  obtain ⟨K, hKd⟩ : ∃ K : Int32 → Prop, K = fun z => (some (Value.int z), am_S f g) = res := ⟨_, rfl⟩
  have hK : K (fn_join a b way f) := by rw [hKd]; exact hres
  clear hres
  unfold fn_join at hK
  refine am_F.ops (pc' := 1) (L' := [.ref 0, .int a, .int b, .int way, am_un, am_un, am_un]) (S' := [.int a]) (μ' := (am_S f g)) 1 rfl ?_
  refine am_F.call rfl rfl (x_isRole a f g ) (by decide) ?_
  show am_F _ _ 4 [.ref 0, .int a, .int b, .int way, am_un, am_un, am_un] [.int (am_b (fn_isRole a))] (am_S f g) _
  refine am_F.bifK 1 rfl K hK (fun c1 hK => ?_) (fun c1 hK => ?_)
  · obtain ⟨a_n, ha_n, ea_n⟩ := am_iRole c1
    subst ea_n
    try simp only [nI_clamp (show a_n < 2147483648 by omega)] at hK
    show am_F _ _ 7 [.ref 0, .int (nI a_n), .int b, .int way, am_un, am_un, am_un] [] (am_S f g) _
    refine am_F.ops (pc' := 8) (L' := [.ref 0, .int (nI a_n), .int b, .int way, am_un, am_un, am_un]) (S' := [.int b]) (μ' := (am_S f g)) 1 rfl ?_
    refine am_F.call rfl rfl (x_isRole b f g ) (by decide) ?_
    show am_F _ _ 11 [.ref 0, .int (nI a_n), .int b, .int way, am_un, am_un, am_un] [.int (am_b (fn_isRole b))] (am_S f g) _
    refine am_F.bifK 1 rfl K hK (fun c2 hK => ?_) (fun c2 hK => ?_)
    · obtain ⟨b_n, hb_n, eb_n⟩ := am_iRole c2
      subst eb_n
      try simp only [nI_clamp (show b_n < 2147483648 by omega)] at hK
      show am_F _ _ 14 [.ref 0, .int (nI a_n), .int (nI b_n), .int way, am_un, am_un, am_un] [] (am_S f g) _
      refine am_F.ops (pc' := 15) (L' := [.ref 0, .int (nI a_n), .int (nI b_n), .int way, am_un, am_un, am_un]) (S' := [.int way]) (μ' := (am_S f g)) 1 rfl ?_
      refine am_F.call rfl rfl (x_within01 way f g ) (by decide) ?_
      show am_F _ _ 18 [.ref 0, .int (nI a_n), .int (nI b_n), .int way, am_un, am_un, am_un] [.int (am_b (fn_within01 way))] (am_S f g) _
      refine am_F.bifK 1 rfl K hK (fun c3 hK => ?_) (fun c3 hK => ?_)
      · show am_F _ _ 23 [.ref 0, .int (nI a_n), .int (nI b_n), .int way, am_un, am_un, am_un] [] (am_S f g) _
        refine am_F.ops (pc' := 24) (L' := [.ref 0, .int (nI a_n), .int (nI b_n), .int way, am_un, am_un, am_un]) (S' := [.int way]) (μ' := (am_S f g)) 1 rfl ?_
        refine am_F.iteK 1 rfl K hK (fun c5 hK => ?_) (fun c5 hK => ?_)
        · show am_F _ _ 27 [.ref 0, .int (nI a_n), .int (nI b_n), .int way, am_un, am_un, am_un] [] (am_S f g) _
          refine am_F.ops (pc' := 55) (L' := [.ref 0, .int (nI a_n), .int (nI b_n), .int way, .ref 7, am_un, am_un]) (S' := [.int (nI a_n), .ref 7]) (μ' := (am_S f g)) 8 rfl ?_
          refine am_F.ialE (m := a_n) (N := 20) rfl rfl rfl rfl (by omega) (by decide) ?_
          show am_F _ _ 56 [.ref 0, .int (nI a_n), .int (nI b_n), .int way, .ref 7, am_un, am_un] [.int (f 7 a_n)] (am_S f g) _
          refine am_F.ops (pc' := 59) (L' := [.ref 0, .int (nI a_n), .int (nI b_n), .int way, .ref 7, am_un, am_un]) (S' := [.int (nI b_n), .ref 7, .int (f 7 a_n)]) (μ' := (am_S f g)) 2 rfl ?_
          refine am_F.ialE (m := b_n) (N := 20) rfl rfl rfl rfl (by omega) (by decide) ?_
          show am_F _ _ 60 [.ref 0, .int (nI a_n), .int (nI b_n), .int way, .ref 7, am_un, am_un] [.int (f 7 b_n), .int (f 7 a_n)] (am_S f g) _
          refine am_F.ops (pc' := 66) (L' := [.ref 0, .int (nI a_n), .int (nI b_n), .int way, .ref 7, .int ((f 7 a_n) &&& (f 7 b_n)), .int 0]) (S' := []) (μ' := (am_S f g)) 4 rfl ?_
          show am_F _ _ 66 [.ref 0, .int (nI a_n), .int (nI b_n), .int way, .ref 7, .int ((f 7 a_n) &&& (f 7 b_n)), .int (nI 0)] [] (am_S f g) _
          refine lp_join_66 a_n b_n way f g ha_n hb_n _ 20 0   (by omega)  ?_
          rw [show am_forX (st_join_66 a_n b_n f) 20 0 () = (lf_join_66 a_n b_n f) from rfl]
          revert hK
          cases (lf_join_66 a_n b_n f) with
          | inr z =>
            intro hK
            subst hKd
            exact hK
          | inl z66 =>
            intro hK wc
            refine am_F.ops (pc' := 107) (L' := [.ref 0, .int (nI a_n), .int (nI b_n), .int way, .ref 7, .int ((f 7 a_n) &&& (f 7 b_n)), wc]) (S' := [.int (-2)]) (μ' := (am_S f g)) 1 rfl ?_
            subst hKd
            exact am_F.eq (am_F.ret rfl rfl) hK
        · show am_F _ _ 40 [.ref 0, .int (nI a_n), .int (nI b_n), .int way, am_un, am_un, am_un] [] (am_S f g) _
          refine am_F.ops (pc' := 55) (L' := [.ref 0, .int (nI a_n), .int (nI b_n), .int way, .ref 6, am_un, am_un]) (S' := [.int (nI a_n), .ref 6]) (μ' := (am_S f g)) 7 rfl ?_
          refine am_F.ialE (m := a_n) (N := 20) rfl rfl rfl rfl (by omega) (by decide) ?_
          show am_F _ _ 56 [.ref 0, .int (nI a_n), .int (nI b_n), .int way, .ref 6, am_un, am_un] [.int (f 6 a_n)] (am_S f g) _
          refine am_F.ops (pc' := 59) (L' := [.ref 0, .int (nI a_n), .int (nI b_n), .int way, .ref 6, am_un, am_un]) (S' := [.int (nI b_n), .ref 6, .int (f 6 a_n)]) (μ' := (am_S f g)) 2 rfl ?_
          refine am_F.ialE (m := b_n) (N := 20) rfl rfl rfl rfl (by omega) (by decide) ?_
          show am_F _ _ 60 [.ref 0, .int (nI a_n), .int (nI b_n), .int way, .ref 6, am_un, am_un] [.int (f 6 b_n), .int (f 6 a_n)] (am_S f g) _
          refine am_F.ops (pc' := 66) (L' := [.ref 0, .int (nI a_n), .int (nI b_n), .int way, .ref 6, .int ((f 6 a_n) &&& (f 6 b_n)), .int 0]) (S' := []) (μ' := (am_S f g)) 4 rfl ?_
          show am_F _ _ 66 [.ref 0, .int (nI a_n), .int (nI b_n), .int way, .ref 6, .int ((f 6 a_n) &&& (f 6 b_n)), .int (nI 0)] [] (am_S f g) _
          refine lp_join_66_10 a_n b_n way f g ha_n hb_n _ 20 0   (by omega)  ?_
          rw [show am_forX (st_join_66_10 a_n b_n f) 20 0 () = (lf_join_66_11 a_n b_n f) from rfl]
          revert hK
          cases (lf_join_66_11 a_n b_n f) with
          | inr z =>
            intro hK
            subst hKd
            exact hK
          | inl z66 =>
            intro hK wc
            refine am_F.ops (pc' := 107) (L' := [.ref 0, .int (nI a_n), .int (nI b_n), .int way, .ref 6, .int ((f 6 a_n) &&& (f 6 b_n)), wc]) (S' := [.int (-2)]) (μ' := (am_S f g)) 1 rfl ?_
            subst hKd
            exact am_F.eq (am_F.ret rfl rfl) hK
      · show am_F _ _ 21 [.ref 0, .int (nI a_n), .int (nI b_n), .int way, am_un, am_un, am_un] [] (am_S f g) _
        refine am_F.ops (pc' := 22) (L' := [.ref 0, .int (nI a_n), .int (nI b_n), .int way, am_un, am_un, am_un]) (S' := [.int (-1)]) (μ' := (am_S f g)) 1 rfl ?_
        subst hKd
        exact am_F.eq (am_F.ret rfl rfl) hK
    · show am_F _ _ 21 [.ref 0, .int (nI a_n), .int b, .int way, am_un, am_un, am_un] [] (am_S f g) _
      refine am_F.ops (pc' := 22) (L' := [.ref 0, .int (nI a_n), .int b, .int way, am_un, am_un, am_un]) (S' := [.int (-1)]) (μ' := (am_S f g)) 1 rfl ?_
      subst hKd
      exact am_F.eq (am_F.ret rfl rfl) hK
  · show am_F _ _ 21 [.ref 0, .int a, .int b, .int way, am_un, am_un, am_un] [] (am_S f g) _
    refine am_F.ops (pc' := 22) (L' := [.ref 0, .int a, .int b, .int way, am_un, am_un, am_un]) (S' := [.int (-1)]) (μ' := (am_S f g)) 1 rfl ?_
    subst hKd
    exact am_F.eq (am_F.ret rfl rfl) hK
/-- AccessLattice.roles -/
def fn_roles (role : Int32) (way : Int32) (f : Nat → Nat → Int32) : Int32 := (bif (fn_isRole role) then (bif (fn_within01 way) then (if way = 0 then (f 6 (role.toNatClampNeg)) &&& ((1 <<< (role &&& 31)) ^^^ (-1)) else (f 7 (role.toNatClampNeg)) &&& ((1 <<< (role &&& 31)) ^^^ (-1))) else (-1)) else (-1))
theorem x_roles (role : Int32) (way : Int32) (f : Nat → Nat → Int32) (g : Nat → Nat → Int64)  : am_D 2 127 4 [.ref 0, .int role, .int way] (am_S f g) (some (Value.int (fn_roles role way f)), am_S f g) := by
  refine am_D.of (code := am_k_127) rfl (L0 := [.ref 0, .int role, .int way, am_un]) rfl ?_
  generalize hres : (some (Value.int (fn_roles role way f)), am_S f g) = res
  obtain ⟨K, hKd⟩ : ∃ K : Int32 → Prop, K = fun z => (some (Value.int z), am_S f g) = res := ⟨_, rfl⟩
  have hK : K (fn_roles role way f) := by rw [hKd]; exact hres
  clear hres
  unfold fn_roles at hK
  refine am_F.ops (pc' := 1) (L' := [.ref 0, .int role, .int way, am_un]) (S' := [.int role]) (μ' := (am_S f g)) 1 rfl ?_
  refine am_F.call rfl rfl (x_isRole role f g ) (by decide) ?_
  show am_F _ _ 4 [.ref 0, .int role, .int way, am_un] [.int (am_b (fn_isRole role))] (am_S f g) _
  refine am_F.bifK 1 rfl K hK (fun c1 hK => ?_) (fun c1 hK => ?_)
  · obtain ⟨role_n, hrole_n, erole_n⟩ := am_iRole c1
    subst erole_n
    try simp only [nI_clamp (show role_n < 2147483648 by omega)] at hK
    show am_F _ _ 7 [.ref 0, .int (nI role_n), .int way, am_un] [] (am_S f g) _
    refine am_F.ops (pc' := 8) (L' := [.ref 0, .int (nI role_n), .int way, am_un]) (S' := [.int way]) (μ' := (am_S f g)) 1 rfl ?_
    refine am_F.call rfl rfl (x_within01 way f g ) (by decide) ?_
    show am_F _ _ 11 [.ref 0, .int (nI role_n), .int way, am_un] [.int (am_b (fn_within01 way))] (am_S f g) _
    refine am_F.bifK 1 rfl K hK (fun c2 hK => ?_) (fun c2 hK => ?_)
    · show am_F _ _ 16 [.ref 0, .int (nI role_n), .int way, am_un] [] (am_S f g) _
      refine am_F.ops (pc' := 17) (L' := [.ref 0, .int (nI role_n), .int way, am_un]) (S' := [.int way]) (μ' := (am_S f g)) 1 rfl ?_
      refine am_F.iteK 1 rfl K hK (fun c4 hK => ?_) (fun c4 hK => ?_)
      · show am_F _ _ 20 [.ref 0, .int (nI role_n), .int way, am_un] [] (am_S f g) _
        refine am_F.ops (pc' := 46) (L' := [.ref 0, .int (nI role_n), .int way, .ref 6]) (S' := [.int (nI role_n), .ref 6]) (μ' := (am_S f g)) 8 rfl ?_
        refine am_F.ialE (m := role_n) (N := 20) rfl rfl rfl rfl (by omega) (by decide) ?_
        show am_F _ _ 47 [.ref 0, .int (nI role_n), .int way, .ref 6] [.int (f 6 role_n)] (am_S f g) _
        refine am_F.ops (pc' := 53) (L' := [.ref 0, .int (nI role_n), .int way, .ref 6]) (S' := [.int ((f 6 role_n) &&& ((1 <<< ((nI role_n) &&& 31)) ^^^ (-1)))]) (μ' := (am_S f g)) 6 rfl ?_
        subst hKd
        exact am_F.eq (am_F.ret rfl rfl) hK
      · show am_F _ _ 33 [.ref 0, .int (nI role_n), .int way, am_un] [] (am_S f g) _
        refine am_F.ops (pc' := 46) (L' := [.ref 0, .int (nI role_n), .int way, .ref 7]) (S' := [.int (nI role_n), .ref 7]) (μ' := (am_S f g)) 7 rfl ?_
        refine am_F.ialE (m := role_n) (N := 20) rfl rfl rfl rfl (by omega) (by decide) ?_
        show am_F _ _ 47 [.ref 0, .int (nI role_n), .int way, .ref 7] [.int (f 7 role_n)] (am_S f g) _
        refine am_F.ops (pc' := 53) (L' := [.ref 0, .int (nI role_n), .int way, .ref 7]) (S' := [.int ((f 7 role_n) &&& ((1 <<< ((nI role_n) &&& 31)) ^^^ (-1)))]) (μ' := (am_S f g)) 6 rfl ?_
        subst hKd
        exact am_F.eq (am_F.ret rfl rfl) hK
    · show am_F _ _ 14 [.ref 0, .int (nI role_n), .int way, am_un] [] (am_S f g) _
      refine am_F.ops (pc' := 15) (L' := [.ref 0, .int (nI role_n), .int way, am_un]) (S' := [.int (-1)]) (μ' := (am_S f g)) 1 rfl ?_
      subst hKd
      exact am_F.eq (am_F.ret rfl rfl) hK
  · show am_F _ _ 14 [.ref 0, .int role, .int way, am_un] [] (am_S f g) _
    refine am_F.ops (pc' := 15) (L' := [.ref 0, .int role, .int way, am_un]) (S' := [.int (-1)]) (μ' := (am_S f g)) 1 rfl ?_
    subst hKd
    exact am_F.eq (am_F.ret rfl rfl) hK
/-- AccessLattice.level -/
def fn_level (role : Int32) (f : Nat → Nat → Int32) : Int32 := (bif (fn_isRole role) then (fn_longestDown (role.toNatClampNeg) f) else (-1))
theorem x_level (role : Int32) (f : Nat → Nat → Int32) (g : Nat → Nat → Int64)  : am_D 2 128 2 [.ref 0, .int role] (am_S f g) (some (Value.int (fn_level role f)), am_S f g) := by
  refine am_D.of (code := am_k_128) rfl (L0 := [.ref 0, .int role]) rfl ?_
  generalize hres : (some (Value.int (fn_level role f)), am_S f g) = res
  obtain ⟨K, hKd⟩ : ∃ K : Int32 → Prop, K = fun z => (some (Value.int z), am_S f g) = res := ⟨_, rfl⟩
  have hK : K (fn_level role f) := by rw [hKd]; exact hres
  clear hres
  unfold fn_level at hK
  refine am_F.ops (pc' := 1) (L' := [.ref 0, .int role]) (S' := [.int role]) (μ' := (am_S f g)) 1 rfl ?_
  refine am_F.call rfl rfl (x_isRole role f g ) (by decide) ?_
  show am_F _ _ 4 [.ref 0, .int role] [.int (am_b (fn_isRole role))] (am_S f g) _
  refine am_F.bifK 1 rfl K hK (fun c2 hK => ?_) (fun c2 hK => ?_)
  · obtain ⟨role_n, hrole_n, erole_n⟩ := am_iRole c2
    subst erole_n
    try simp only [nI_clamp (show role_n < 2147483648 by omega)] at hK
    show am_F _ _ 7 [.ref 0, .int (nI role_n)] [] (am_S f g) _
    refine am_F.ops (pc' := 15) (L' := [.ref 0, .int (nI role_n)]) (S' := [.int (nI role_n), .ref 3]) (μ' := (am_S f g)) 4 rfl ?_
    refine am_F.call rfl rfl (x_longestDown role_n f g (by omega)) (by decide) ?_
    show am_F _ _ 18 [.ref 0, .int (nI role_n)] [.int (fn_longestDown role_n f)] (am_S f g) _
    refine am_F.ops (pc' := 22) (L' := [.ref 0, .int (nI role_n)]) (S' := [.int (fn_longestDown role_n f)]) (μ' := (am_S f g)) 1 rfl ?_
    subst hKd
    exact am_F.eq (am_F.ret rfl rfl) hK
  · show am_F _ _ 21 [.ref 0, .int role] [] (am_S f g) _
    refine am_F.ops (pc' := 22) (L' := [.ref 0, .int role]) (S' := [.int (-1)]) (μ' := (am_S f g)) 1 rfl ?_
    subst hKd
    exact am_F.eq (am_F.ret rfl rfl) hK
/-- AccessLattice.under -/
def st_under_13 (thing_n : Nat) (f : Nat → Nat → Int32) : Nat → Int32 → Int32 := fun i13 a13_2 => (if (fn_stepsUp i13 (nI thing_n) f) ≤ 0 then a13_2 else (a13_2 ||| (1 <<< ((nI i13) &&& 31))))
def lf_under_13 (thing_n : Nat) (f : Nat → Nat → Int32) : Int32 := am_for (st_under_13 thing_n f) 16 0 0
def fn_under (thing : Int32) (f : Nat → Nat → Int32) : Int32 := (bif (fn_isThing thing) then (lf_under_13 (thing.toNatClampNeg) f) else (-1))
theorem lp_under_13 (thing_n : Nat) (f : Nat → Nat → Int32) (g : Nat → Nat → Int64) (hPa : ∀ t, t < 16 → (f 29 t).toInt < 16) (hthing_n : thing_n < 16) (res : Option Value × am_M) : ∀ (n i13 : Nat) (a13_2 : Int32) , i13 + n = 16 → (fun (z : Int32) => ∀ (wc : Value), am_F 2 am_k_131 43 [.ref 0, .int (nI thing_n), .int z, wc] [] (am_S f g) res) (am_for (st_under_13 thing_n f) n i13 a13_2) → am_F 2 am_k_131 13 [.ref 0, .int (nI thing_n), .int a13_2, .int (nI i13)] [] (am_S f g) res := by
  intro n
  induction n with
  | zero =>
    intro i13 a13_2 hi hK
    refine am_F.pos 3 rfl (by show 16 ≤ nI i13; rw [show (16 : Int32) = nI 16 from rfl]; exact nI_le (by omega) (by omega)) ?_
    exact hK _
  | succ n ih =>
    intro i13 a13_2 hi hK
    refine am_F.neg 3 rfl (by show ¬ 16 ≤ nI i13; rw [show (16 : Int32) = nI 16 from rfl]; exact nI_ge (by omega) (by omega)) ?_
    have hb13 : i13 < 16 := by omega
    show am_F _ _ 19 [.ref 0, .int (nI thing_n), .int a13_2, .int (nI i13)] [] (am_S f g) _
    obtain ⟨K, hKd⟩ : ∃ K : (Int32) → Prop, K = fun s => (fun (z : Int32) => ∀ (wc : Value), am_F 2 am_k_131 43 [.ref 0, .int (nI thing_n), .int z, wc] [] (am_S f g) res) (am_for (st_under_13 thing_n f) n (i13 + 1) s) := ⟨_, rfl⟩
    have hK : K ((st_under_13 thing_n f) i13 a13_2) := by rw [hKd]; exact hK
    unfold st_under_13 at hK
    refine am_F.ops (pc' := 25) (L' := [.ref 0, .int (nI thing_n), .int a13_2, .int (nI i13)]) (S' := [.int (nI thing_n), .int (nI i13), .ref 2]) (μ' := (am_S f g)) 4 rfl ?_
    refine am_F.call rfl rfl (x_stepsUp i13 (nI thing_n) f g hPa (by omega)) (by decide) ?_
    show am_F _ _ 28 [.ref 0, .int (nI thing_n), .int a13_2, .int (nI i13)] [.int (fn_stepsUp i13 (nI thing_n) f)] (am_S f g) _
    refine am_F.iteK 1 rfl K hK (fun c3 hK => ?_) (fun c3 hK => ?_)
    · show am_F _ _ 37 [.ref 0, .int (nI thing_n), .int a13_2, .int (nI i13)] [] (am_S f g) _
      refine am_F.ops (pc' := 13) (L' := [.ref 0, .int (nI thing_n), .int a13_2, .int ((nI i13) + 1)]) (S' := []) (μ' := (am_S f g)) 2 rfl ?_
      rw [nI_1 i13]
      subst hKd
      exact ih (i13 + 1) a13_2 (by omega)  hK
    · show am_F _ _ 31 [.ref 0, .int (nI thing_n), .int a13_2, .int (nI i13)] [] (am_S f g) _
      refine am_F.ops (pc' := 13) (L' := [.ref 0, .int (nI thing_n), .int (a13_2 ||| (1 <<< ((nI i13) &&& 31))), .int ((nI i13) + 1)]) (S' := []) (μ' := (am_S f g)) 8 rfl ?_
      rw [nI_1 i13]
      subst hKd
      exact ih (i13 + 1) (a13_2 ||| (1 <<< ((nI i13) &&& 31))) (by omega)  hK
theorem x_under (thing : Int32) (f : Nat → Nat → Int32) (g : Nat → Nat → Int64) (hPa : ∀ t, t < 16 → (f 29 t).toInt < 16) : am_D 2 131 4 [.ref 0, .int thing] (am_S f g) (some (Value.int (fn_under thing f)), am_S f g) := by
  refine am_D.of (code := am_k_131) rfl (L0 := [.ref 0, .int thing, am_un, am_un]) rfl ?_
  generalize hres : (some (Value.int (fn_under thing f)), am_S f g) = res
  obtain ⟨K, hKd⟩ : ∃ K : Int32 → Prop, K = fun z => (some (Value.int z), am_S f g) = res := ⟨_, rfl⟩
  have hK : K (fn_under thing f) := by rw [hKd]; exact hres
  clear hres
  unfold fn_under at hK
  refine am_F.ops (pc' := 1) (L' := [.ref 0, .int thing, am_un, am_un]) (S' := [.int thing]) (μ' := (am_S f g)) 1 rfl ?_
  refine am_F.call rfl rfl (x_isThing thing f g ) (by decide) ?_
  show am_F _ _ 4 [.ref 0, .int thing, am_un, am_un] [.int (am_b (fn_isThing thing))] (am_S f g) _
  refine am_F.bifK 1 rfl K hK (fun c1 hK => ?_) (fun c1 hK => ?_)
  · obtain ⟨thing_n, hthing_n, ething_n⟩ := am_iThing c1
    subst ething_n
    try simp only [nI_clamp (show thing_n < 2147483648 by omega)] at hK
    show am_F _ _ 9 [.ref 0, .int (nI thing_n), am_un, am_un] [] (am_S f g) _
    refine am_F.ops (pc' := 13) (L' := [.ref 0, .int (nI thing_n), .int 0, .int 0]) (S' := []) (μ' := (am_S f g)) 4 rfl ?_
    show am_F _ _ 13 [.ref 0, .int (nI thing_n), .int 0, .int (nI 0)] [] (am_S f g) _
    refine lp_under_13 thing_n f g hPa hthing_n _ 16 0 0  (by omega)  ?_
    rw [show am_for (st_under_13 thing_n f) 16 0 0 = (lf_under_13 thing_n f) from rfl]
    generalize (lf_under_13 thing_n f) = z13_4 at hK ⊢
    intro wc
    show am_F _ _ 43 [.ref 0, .int (nI thing_n), .int z13_4, wc] [] (am_S f g) _
    refine am_F.ops (pc' := 44) (L' := [.ref 0, .int (nI thing_n), .int z13_4, wc]) (S' := [.int z13_4]) (μ' := (am_S f g)) 1 rfl ?_
    subst hKd
    exact am_F.eq (am_F.ret rfl rfl) hK
  · show am_F _ _ 7 [.ref 0, .int thing, am_un, am_un] [] (am_S f g) _
    refine am_F.ops (pc' := 8) (L' := [.ref 0, .int thing, am_un, am_un]) (S' := [.int (-1)]) (μ' := (am_S f g)) 1 rfl ?_
    subst hKd
    exact am_F.eq (am_F.ret rfl rfl) hK
/-- AccessLattice.wouldTurn -/
def fn_wouldTurn (rule : Int32) (user : Nat) (act : Int32) (thing : Nat) (mask : Int32) (f : Nat → Nat → Int32) : Bool × (Nat → Int32) × (Nat → Int32) := ((if (fn_answerBy (fn_decider user act thing (mask &&& ((1 <<< (rule &&& 31)) ^^^ (-1))) f).1 (am_row (am_row f 36 (fn_decider user act thing (mask &&& ((1 <<< (rule &&& 31)) ^^^ (-1))) f).2.1) 37 (fn_decider user act thing (mask &&& ((1 <<< (rule &&& 31)) ^^^ (-1))) f).2.2)) = (fn_answerBy rule (am_row (am_row f 36 (fn_decider user act thing (mask &&& ((1 <<< (rule &&& 31)) ^^^ (-1))) f).2.1) 37 (fn_decider user act thing (mask &&& ((1 <<< (rule &&& 31)) ^^^ (-1))) f).2.2)) then false else true), (fn_decider user act thing (mask &&& ((1 <<< (rule &&& 31)) ^^^ (-1))) f).2.1, (fn_decider user act thing (mask &&& ((1 <<< (rule &&& 31)) ^^^ (-1))) f).2.2)
theorem x_wouldTurn (rule : Int32) (user : Nat) (act : Int32) (thing : Nat) (mask : Int32) (f : Nat → Nat → Int32) (g : Nat → Nat → Int64) (hLc : f 11 7 = nI (f 11 7).toNatClampNeg) (hLn : (f 11 7).toNatClampNeg ≤ 40) (hLf : ∀ i, i < (f 11 7).toNatClampNeg → am_inb (f 12 i) 16 = true) (hLt : ∀ i, i < (f 11 7).toNatClampNeg → am_inb (f 13 i) 16 = true) (hLr : ∀ i, i < (f 11 7).toNatClampNeg → am_inb (f 14 i) 20 = true) (hRc : f 18 11 = nI (f 18 11).toNatClampNeg) (hRn : (f 18 11).toNatClampNeg ≤ 30) (hRr : ∀ i, i < (f 18 11).toNatClampNeg → am_inb (f 19 i) 20 = true) (hPa : ∀ t, t < 16 → (f 29 t).toInt < 16) (hCs : ∀ i, i < (f 18 11).toNatClampNeg → f 25 i = nI (f 25 i).toNatClampNeg ∧ (f 25 i).toNatClampNeg ≤ 80) (huser : user < 16) (hthing : thing < 16) : am_D 5 133 7 [.ref 0, .int rule, .int (nI user), .int act, .int (nI thing), .int mask] (am_S f g) (some (Value.int (am_b ((fn_wouldTurn rule user act thing mask f).1))), am_S (am_row (am_row f 36 ((fn_wouldTurn rule user act thing mask f).2.1)) 37 ((fn_wouldTurn rule user act thing mask f).2.2)) g) := by
  refine am_D.of (code := am_k_133) rfl (L0 := [.ref 0, .int rule, .int (nI user), .int act, .int (nI thing), .int mask, am_un]) rfl ?_
  generalize hres : (some (Value.int (am_b ((fn_wouldTurn rule user act thing mask f).1))), am_S (am_row (am_row f 36 ((fn_wouldTurn rule user act thing mask f).2.1)) 37 ((fn_wouldTurn rule user act thing mask f).2.2)) g) = res
  obtain ⟨K, hKd⟩ : ∃ K : (Bool × (Nat → Int32) × (Nat → Int32)) → Prop, K = fun z => (some (Value.int (am_b z.1)), am_S (am_row (am_row f 36 z.2.1) 37 z.2.2) g) = res := ⟨_, rfl⟩
  have hK : K (fn_wouldTurn rule user act thing mask f) := by rw [hKd]; exact hres
  clear hres
  unfold fn_wouldTurn at hK
  refine am_F.ops (pc' := 16) (L' := [.ref 0, .int rule, .int (nI user), .int act, .int (nI thing), .int mask, am_un]) (S' := [.int (mask &&& ((1 <<< (rule &&& 31)) ^^^ (-1))), .int (nI thing), .int act, .int (nI user), .ref 1]) (μ' := (am_S f g)) 12 rfl ?_
  refine am_F.call rfl rfl (x_decider user act thing (mask &&& ((1 <<< (rule &&& 31)) ^^^ (-1))) f g hRc hRn hPa hCs (by omega) (by omega)) (by decide) ?_
  obtain ⟨y1, hy1⟩ : ∃ z, (fn_decider user act thing (mask &&& ((1 <<< (rule &&& 31)) ^^^ (-1))) f) = z := ⟨_, rfl⟩
  (try rw [hy1] at hK)
  (try rw [hy1])
  refine am_F.mem (F' := (am_row (am_row f 36 y1.2.1) 37 y1.2.2)) (G' := g) ?_ (by first | rfl | (funext a; by_cases z0 : a = 36; (subst z0; rfl); by_cases z1 : a = 37; (subst z1; rfl); simp only [am_ui, am_ul, am_row_ne z0, am_row_ne z1])) (by first | rfl | (funext a; by_cases z0 : a = 36; (subst z0; rfl); by_cases z1 : a = 37; (subst z1; rfl); simp only [am_ui, am_ul, am_row_ne z0, am_row_ne z1]))
  show am_F _ _ 19 [.ref 0, .int rule, .int (nI user), .int act, .int (nI thing), .int mask, am_un] [.int y1.1] (am_S (am_row (am_row f 36 y1.2.1) 37 y1.2.2) g) _
  refine am_F.ops (pc' := 30) (L' := [.ref 0, .int rule, .int (nI user), .int act, .int (nI thing), .int mask, .int y1.1]) (S' := [.int y1.1, .ref 18]) (μ' := (am_S (am_row (am_row f 36 y1.2.1) 37 y1.2.2) g)) 5 rfl ?_
  refine am_F.call rfl rfl (x_answerBy y1.1 (am_row (am_row f 36 y1.2.1) 37 y1.2.2) g ) (by decide) ?_
  show am_F _ _ 33 [.ref 0, .int rule, .int (nI user), .int act, .int (nI thing), .int mask, .int y1.1] [.int (fn_answerBy y1.1 (am_row (am_row f 36 y1.2.1) 37 y1.2.2))] (am_S (am_row (am_row f 36 y1.2.1) 37 y1.2.2) g) _
  refine am_F.ops (pc' := 41) (L' := [.ref 0, .int rule, .int (nI user), .int act, .int (nI thing), .int mask, .int y1.1]) (S' := [.int rule, .ref 18, .int (fn_answerBy y1.1 (am_row (am_row f 36 y1.2.1) 37 y1.2.2))]) (μ' := (am_S (am_row (am_row f 36 y1.2.1) 37 y1.2.2) g)) 4 rfl ?_
  refine am_F.call rfl rfl (x_answerBy rule (am_row (am_row f 36 y1.2.1) 37 y1.2.2) g ) (by decide) ?_
  show am_F _ _ 44 [.ref 0, .int rule, .int (nI user), .int act, .int (nI thing), .int mask, .int y1.1] [.int (fn_answerBy rule (am_row (am_row f 36 y1.2.1) 37 y1.2.2)), .int (fn_answerBy y1.1 (am_row (am_row f 36 y1.2.1) 37 y1.2.2))] (am_S (am_row (am_row f 36 y1.2.1) 37 y1.2.2) g) _
  refine am_F.to (am_To.iteB (pc' := 52) (L2 := [.ref 0, .int rule, .int (nI user), .int act, .int (nI thing), .int mask, .int y1.1]) (S2 := []) (μ2 := (am_S (am_row (am_row f 36 y1.2.1) 37 y1.2.2) g)) (a := false) (b := true) 1 rfl (fun c2 => ?_) (fun c2 => ?_)) ?_
  · intro res9 g9
    show am_F _ _ 51 [.ref 0, .int rule, .int (nI user), .int act, .int (nI thing), .int mask, .int y1.1] [] (am_S (am_row (am_row f 36 y1.2.1) 37 y1.2.2) g) _
    refine am_F.ops (pc' := 52) (L' := [.ref 0, .int rule, .int (nI user), .int act, .int (nI thing), .int mask, .int y1.1]) (S' := [.int 0]) (μ' := (am_S (am_row (am_row f 36 y1.2.1) 37 y1.2.2) g)) 1 rfl ?_
    exact g9
  · intro res9 g9
    show am_F _ _ 47 [.ref 0, .int rule, .int (nI user), .int act, .int (nI thing), .int mask, .int y1.1] [] (am_S (am_row (am_row f 36 y1.2.1) 37 y1.2.2) g) _
    refine am_F.ops (pc' := 52) (L' := [.ref 0, .int rule, .int (nI user), .int act, .int (nI thing), .int mask, .int y1.1]) (S' := [.int 1]) (μ' := (am_S (am_row (am_row f 36 y1.2.1) 37 y1.2.2) g)) 2 rfl ?_
    exact g9
  show am_F _ _ 52 [.ref 0, .int rule, .int (nI user), .int act, .int (nI thing), .int mask, .int y1.1] [.int (am_b (if (fn_answerBy y1.1 (am_row (am_row f 36 y1.2.1) 37 y1.2.2)) = (fn_answerBy rule (am_row (am_row f 36 y1.2.1) 37 y1.2.2)) then false else true))] (am_S (am_row (am_row f 36 y1.2.1) 37 y1.2.2) g) _
  subst hKd
  exact am_F.eq (am_F.ret rfl (am_retB _ _)) hK
