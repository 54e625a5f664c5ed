/-! the class's calls, on (wip/whole/m9.py) -/
set_option linter.constructorNameAsVariable false
/-- AccessLattice$Roles.fewest -/
def st_rFewest_27 (f : Nat → Nat → Int32) (i9 : Nat) (a9_5 : Int32) (a9_6 : Int32) : Nat → Int32 × (Nat → Int32) → Int32 × (Nat → Int32) := fun i27 z => match z with
  | (a27_8, r27_8) => (bif (fn_has a9_5 (nI i27)) then (a27_8, upd r27_8 i27 (nI i9)) else (bif (fn_has a9_6 (nI i27)) then (a27_8, r27_8) else (if ((f 4 i27) &&& a9_5) = 0 then (a27_8, r27_8) else (a27_8 ||| (1 <<< ((nI i27) &&& 31)), r27_8))))
def lf_rFewest_27 (f : Nat → Nat → Int32) (i9 : Nat) (a9_5 : Int32) (a9_6 : Int32) (r9_8 : Nat → Int32) : Int32 × (Nat → Int32) := am_for (st_rFewest_27 f i9 a9_5 a9_6) 20 0 (0, r9_8)
def st_rFewest_9 (f : Nat → Nat → Int32) : Nat → Int32 × Int32 × (Nat → Int32) → Int32 × Int32 × (Nat → Int32) ⊕ (Int32 × Int32 × (Nat → Int32) ⊕ Empty) := fun i9 z => match z with
  | (a9_5, a9_6, r9_8) => (if a9_5 = 0 then .inr (.inl (a9_5, a9_6, r9_8)) else .inl ((lf_rFewest_27 f i9 a9_5 a9_6 r9_8).1, a9_6 ||| (lf_rFewest_27 f i9 a9_5 a9_6 r9_8).1, (lf_rFewest_27 f i9 a9_5 a9_6 r9_8).2))
def lf_rFewest_9 (targets : Int32) (f : Nat → Nat → Int32) : Int32 × Int32 × (Nat → Int32) ⊕ Empty := am_forX (st_rFewest_9 f) 20 0 (targets, targets, f 8)
def fn_rFewest (fr : Nat) (targets : Int32) (f : Nat → Nat → Int32) : Int32 × (Nat → Int32) × (Nat → Int32) := (Sum.elim (fun (z9 : Int32 × Int32 × (Nat → Int32)) => (bif (fn_has z9.2.1 (nI fr)) then ((fn_walk fr z9.2.1 (am_row f 8 z9.2.2)).1, z9.2.2, (fn_walk fr z9.2.1 (am_row f 8 z9.2.2)).2) else (0, z9.2.2, f 86))) (fun (z : Empty) => z.elim) (lf_rFewest_9 targets f))
theorem lp_rFewest_27 (fr : Nat) (targets : Int32) (f : Nat → Nat → Int32) (g : Nat → Nat → Int64) (i9 : Nat) (a9_5 : Int32) (a9_6 : Int32) (r9_8 : Nat → Int32) (hfr : fr < 20) (hb9 : i9 < 20) (res : Option Value × am_M) : ∀ (n i27 : Nat) (a27_8 : Int32) (r27_8 : Nat → Int32) , i27 + n = 20 → (fun (z : Int32 × (Nat → Int32)) => ∀ (wc : Value), am_F 3 am_k_89 91 [.ref 3, .ref 4, .int (nI fr), .int targets, .ref 86, .int a9_5, .int a9_6, .int (nI i9), .int z.1, wc] [] (am_S (am_row f 8 z.2) g) res) (am_for (st_rFewest_27 f i9 a9_5 a9_6) n i27 (a27_8, r27_8)) → am_F 3 am_k_89 27 [.ref 3, .ref 4, .int (nI fr), .int targets, .ref 86, .int a9_5, .int a9_6, .int (nI i9), .int a27_8, .int (nI i27)] [] (am_S (am_row f 8 r27_8) g) res := by
  intro n
  induction n with
  | zero =>
    intro i27 a27_8 r27_8 hi hK
    refine am_F.pos 3 rfl (by show 20 ≤ nI i27; rw [show (20 : Int32) = nI 20 from rfl]; exact nI_le (by omega) (by omega)) ?_
    exact hK _
  | succ n ih =>
    intro i27 a27_8 r27_8 hi hK
    refine am_F.neg 3 rfl (by show ¬ 20 ≤ nI i27; rw [show (20 : Int32) = nI 20 from rfl]; exact nI_ge (by omega) (by omega)) ?_
    have hb27 : i27 < 20 := by omega
    show am_F _ _ 34 [.ref 3, .ref 4, .int (nI fr), .int targets, .ref 86, .int a9_5, .int a9_6, .int (nI i9), .int a27_8, .int (nI i27)] [] (am_S (am_row f 8 r27_8) g) _
    obtain ⟨K, hKd⟩ : ∃ K : (Int32 × (Nat → Int32)) → Prop, K = fun s => (fun (z : Int32 × (Nat → Int32)) => ∀ (wc : Value), am_F 3 am_k_89 91 [.ref 3, .ref 4, .int (nI fr), .int targets, .ref 86, .int a9_5, .int a9_6, .int (nI i9), .int z.1, wc] [] (am_S (am_row f 8 z.2) g) res) (am_for (st_rFewest_27 f i9 a9_5 a9_6) n (i27 + 1) s) := ⟨_, rfl⟩
    have hK : K ((st_rFewest_27 f i9 a9_5 a9_6) i27 (a27_8, r27_8)) := by rw [hKd]; exact hK
    unfold st_rFewest_27 at hK
    simp only at hK
    refine am_F.ops (pc' := 38) (L' := [.ref 3, .ref 4, .int (nI fr), .int targets, .ref 86, .int a9_5, .int a9_6, .int (nI i9), .int a27_8, .int (nI i27)]) (S' := [.int (nI i27), .int a9_5]) (μ' := (am_S (am_row f 8 r27_8) g)) 2 rfl ?_
    refine am_F.call rfl rfl (x_has a9_5 (nI i27) (am_row f 8 r27_8) g ) (by decide) ?_
    show am_F _ _ 41 [.ref 3, .ref 4, .int (nI fr), .int targets, .ref 86, .int a9_5, .int a9_6, .int (nI i9), .int a27_8, .int (nI i27)] [.int (am_b (fn_has a9_5 (nI i27)))] (am_S (am_row f 8 r27_8) g) _
    refine am_F.bifK 1 rfl K hK (fun c23 hK => ?_) (fun c23 hK => ?_)
    · show am_F _ _ 44 [.ref 3, .ref 4, .int (nI fr), .int targets, .ref 86, .int a9_5, .int a9_6, .int (nI i9), .int a27_8, .int (nI i27)] [] (am_S (am_row f 8 r27_8) g) _
      refine am_F.ops (pc' := 52) (L' := [.ref 3, .ref 4, .int (nI fr), .int targets, .ref 86, .int a9_5, .int a9_6, .int (nI i9), .int a27_8, .int (nI i27)]) (S' := [.int (nI i9), .int (nI i27), .ref 8]) (μ' := (am_S (am_row f 8 r27_8) g)) 4 rfl ?_
      refine am_F.iasE (F' := (am_row f 8 (upd r27_8 i27 (nI i9)))) (m := i27) (N := 20) rfl rfl rfl rfl (by omega) (by decide) (by first | rfl | (funext a; by_cases z0 : a = 8; (subst z0; rfl); simp only [am_ui, am_ul, am_row_ne z0])) ?_
      refine am_F.ops (pc' := 27) (L' := [.ref 3, .ref 4, .int (nI fr), .int targets, .ref 86, .int a9_5, .int a9_6, .int (nI i9), .int a27_8, .int ((nI i27) + 1)]) (S' := []) (μ' := (am_S (am_row f 8 (upd r27_8 i27 (nI i9))) g)) 3 rfl ?_
      rw [nI_1 i27]
      subst hKd
      exact ih (i27 + 1) a27_8 (upd r27_8 i27 (nI i9)) (by omega)  hK
    · show am_F _ _ 56 [.ref 3, .ref 4, .int (nI fr), .int targets, .ref 86, .int a9_5, .int a9_6, .int (nI i9), .int a27_8, .int (nI i27)] [] (am_S (am_row f 8 r27_8) g) _
      refine am_F.ops (pc' := 60) (L' := [.ref 3, .ref 4, .int (nI fr), .int targets, .ref 86, .int a9_5, .int a9_6, .int (nI i9), .int a27_8, .int (nI i27)]) (S' := [.int (nI i27), .int a9_6]) (μ' := (am_S (am_row f 8 r27_8) g)) 2 rfl ?_
      refine am_F.call rfl rfl (x_has a9_6 (nI i27) (am_row f 8 r27_8) g ) (by decide) ?_
      show am_F _ _ 63 [.ref 3, .ref 4, .int (nI fr), .int targets, .ref 86, .int a9_5, .int a9_6, .int (nI i9), .int a27_8, .int (nI i27)] [.int (am_b (fn_has a9_6 (nI i27)))] (am_S (am_row f 8 r27_8) g) _
      refine am_F.bifK 1 rfl K hK (fun c25 hK => ?_) (fun c25 hK => ?_)
      · show am_F _ _ 85 [.ref 3, .ref 4, .int (nI fr), .int targets, .ref 86, .int a9_5, .int a9_6, .int (nI i9), .int a27_8, .int (nI i27)] [] (am_S (am_row f 8 r27_8) g) _
        refine am_F.ops (pc' := 27) (L' := [.ref 3, .ref 4, .int (nI fr), .int targets, .ref 86, .int a9_5, .int a9_6, .int (nI i9), .int a27_8, .int ((nI i27) + 1)]) (S' := []) (μ' := (am_S (am_row f 8 r27_8) g)) 2 rfl ?_
        rw [nI_1 i27]
        subst hKd
        exact ih (i27 + 1) a27_8 r27_8 (by omega)  hK
      · show am_F _ _ 66 [.ref 3, .ref 4, .int (nI fr), .int targets, .ref 86, .int a9_5, .int a9_6, .int (nI i9), .int a27_8, .int (nI i27)] [] (am_S (am_row f 8 r27_8) g) _
        refine am_F.ops (pc' := 69) (L' := [.ref 3, .ref 4, .int (nI fr), .int targets, .ref 86, .int a9_5, .int a9_6, .int (nI i9), .int a27_8, .int (nI i27)]) (S' := [.int (nI i27), .ref 4]) (μ' := (am_S (am_row f 8 r27_8) g)) 2 rfl ?_
        refine am_F.ialE (m := i27) (N := 20) rfl rfl rfl rfl (by omega) (by decide) ?_
        show am_F _ _ 70 [.ref 3, .ref 4, .int (nI fr), .int targets, .ref 86, .int a9_5, .int a9_6, .int (nI i9), .int a27_8, .int (nI i27)] [.int (f 4 i27)] (am_S (am_row f 8 r27_8) g) _
        refine am_F.ops (pc' := 73) (L' := [.ref 3, .ref 4, .int (nI fr), .int targets, .ref 86, .int a9_5, .int a9_6, .int (nI i9), .int a27_8, .int (nI i27)]) (S' := [.int ((f 4 i27) &&& a9_5)]) (μ' := (am_S (am_row f 8 r27_8) g)) 2 rfl ?_
        refine am_F.iteK 1 rfl K hK (fun c27 hK => ?_) (fun c27 hK => ?_)
        · show am_F _ _ 85 [.ref 3, .ref 4, .int (nI fr), .int targets, .ref 86, .int a9_5, .int a9_6, .int (nI i9), .int a27_8, .int (nI i27)] [] (am_S (am_row f 8 r27_8) g) _
          refine am_F.ops (pc' := 27) (L' := [.ref 3, .ref 4, .int (nI fr), .int targets, .ref 86, .int a9_5, .int a9_6, .int (nI i9), .int a27_8, .int ((nI i27) + 1)]) (S' := []) (μ' := (am_S (am_row f 8 r27_8) g)) 2 rfl ?_
          rw [nI_1 i27]
          subst hKd
          exact ih (i27 + 1) a27_8 r27_8 (by omega)  hK
        · show am_F _ _ 76 [.ref 3, .ref 4, .int (nI fr), .int targets, .ref 86, .int a9_5, .int a9_6, .int (nI i9), .int a27_8, .int (nI i27)] [] (am_S (am_row f 8 r27_8) g) _
          refine am_F.ops (pc' := 27) (L' := [.ref 3, .ref 4, .int (nI fr), .int targets, .ref 86, .int a9_5, .int a9_6, .int (nI i9), .int (a27_8 ||| (1 <<< ((nI i27) &&& 31))), .int ((nI i27) + 1)]) (S' := []) (μ' := (am_S (am_row f 8 r27_8) g)) 8 rfl ?_
          rw [nI_1 i27]
          subst hKd
          exact ih (i27 + 1) (a27_8 ||| (1 <<< ((nI i27) &&& 31))) r27_8 (by omega)  hK
theorem lp_rFewest_9 (fr : Nat) (targets : Int32) (f : Nat → Nat → Int32) (g : Nat → Nat → Int64) (hfr : fr < 20) (res : Option Value × am_M) : ∀ (n i9 : Nat) (a9_5 : Int32) (a9_6 : Int32) (r9_8 : Nat → Int32) (w9_8 : Value) (w9_9 : Value), i9 + n = 20 → am_KX (fun (z : Int32 × Int32 × (Nat → Int32)) => ∀ (wc : Value) (w9_8 : Value) (w9_9 : Value), am_F 3 am_k_89 108 [.ref 3, .ref 4, .int (nI fr), .int targets, .ref 86, .int z.1, .int z.2.1, wc, w9_8, w9_9] [] (am_S (am_row f 8 z.2.2) g) res) (fun (z : Empty) => True) (am_forX (st_rFewest_9 f) n i9 (a9_5, a9_6, r9_8)) → am_F 3 am_k_89 9 [.ref 3, .ref 4, .int (nI fr), .int targets, .ref 86, .int a9_5, .int a9_6, .int (nI i9), w9_8, w9_9] [] (am_S (am_row f 8 r9_8) g) res := by
  intro n
  induction n with
  | zero =>
    intro i9 a9_5 a9_6 r9_8 w9_8 w9_9 hi hK
    refine am_F.pos 3 rfl (by show 20 ≤ nI i9; rw [show (20 : Int32) = nI 20 from rfl]; exact nI_le (by omega) (by omega)) ?_
    exact hK _ _ _
  | succ n ih =>
    intro i9 a9_5 a9_6 r9_8 w9_8 w9_9 hi hK
    refine am_F.neg 3 rfl (by show ¬ 20 ≤ nI i9; rw [show (20 : Int32) = nI 20 from rfl]; exact nI_ge (by omega) (by omega)) ?_
    have hb9 : i9 < 20 := by omega
    show am_F _ _ 16 [.ref 3, .ref 4, .int (nI fr), .int targets, .ref 86, .int a9_5, .int a9_6, .int (nI i9), w9_8, w9_9] [] (am_S (am_row f 8 r9_8) g) _
    obtain ⟨K, hKd⟩ : ∃ K : (Int32 × Int32 × (Nat → Int32) ⊕ (Int32 × Int32 × (Nat → Int32) ⊕ Empty)) → Prop, K = fun s => am_KX (fun (z : Int32 × Int32 × (Nat → Int32)) => ∀ (wc : Value) (w9_8 : Value) (w9_9 : Value), am_F 3 am_k_89 108 [.ref 3, .ref 4, .int (nI fr), .int targets, .ref 86, .int z.1, .int z.2.1, wc, w9_8, w9_9] [] (am_S (am_row f 8 z.2.2) g) res) (fun (z : Empty) => True) (am_nxt (fun z => am_forX (st_rFewest_9 f) n (i9 + 1) z) s) := ⟨_, rfl⟩
    have hK : K ((st_rFewest_9 f) i9 (a9_5, a9_6, r9_8)) := by rw [am_forX_s] at hK; rw [hKd]; with_reducible exact hK
    unfold st_rFewest_9 at hK
    simp only at hK
    refine am_F.ops (pc' := 18) (L' := [.ref 3, .ref 4, .int (nI fr), .int targets, .ref 86, .int a9_5, .int a9_6, .int (nI i9), w9_8, w9_9]) (S' := [.int a9_5]) (μ' := (am_S (am_row f 8 r9_8) g)) 1 rfl ?_
    refine am_F.iteK 1 rfl K hK (fun c15 hK => ?_) (fun c15 hK => ?_)
    · show am_F _ _ 108 [.ref 3, .ref 4, .int (nI fr), .int targets, .ref 86, .int a9_5, .int a9_6, .int (nI i9), w9_8, w9_9] [] (am_S (am_row f 8 r9_8) g) _
      subst hKd
      exact hK (.int (nI i9)) w9_8 w9_9
    · show am_F _ _ 21 [.ref 3, .ref 4, .int (nI fr), .int targets, .ref 86, .int a9_5, .int a9_6, .int (nI i9), w9_8, w9_9] [] (am_S (am_row f 8 r9_8) g) _
      refine am_F.ops (pc' := 27) (L' := [.ref 3, .ref 4, .int (nI fr), .int targets, .ref 86, .int a9_5, .int a9_6, .int (nI i9), .int 0, .int 0]) (S' := []) (μ' := (am_S (am_row f 8 r9_8) g)) 4 rfl ?_
      show am_F _ _ 27 [.ref 3, .ref 4, .int (nI fr), .int targets, .ref 86, .int a9_5, .int a9_6, .int (nI i9), .int 0, .int (nI 0)] [] (am_S (am_row f 8 r9_8) g) _
      refine lp_rFewest_27 fr targets f g i9 a9_5 a9_6 r9_8 hfr hb9 _ 20 0 0 r9_8  (by omega)  ?_
      rw [show am_for (st_rFewest_27 f i9 a9_5 a9_6) 20 0 (0, r9_8) = (lf_rFewest_27 f i9 a9_5 a9_6 r9_8) from rfl]
      generalize (lf_rFewest_27 f i9 a9_5 a9_6 r9_8) = z27_28 at hK ⊢
      intro wc
      show am_F _ _ 91 [.ref 3, .ref 4, .int (nI fr), .int targets, .ref 86, .int a9_5, .int a9_6, .int (nI i9), .int z27_28.1, wc] [] (am_S (am_row f 8 z27_28.2) g) _
      refine am_F.ops (pc' := 9) (L' := [.ref 3, .ref 4, .int (nI fr), .int targets, .ref 86, .int z27_28.1, .int (a9_6 ||| z27_28.1), .int ((nI i9) + 1), .int z27_28.1, wc]) (S' := []) (μ' := (am_S (am_row f 8 z27_28.2) g)) 8 rfl ?_
      rw [nI_1 i9]
      subst hKd
      exact ih (i9 + 1) z27_28.1 (a9_6 ||| z27_28.1) z27_28.2 (.int z27_28.1) wc (by omega)  hK
theorem x_rFewest (fr : Nat) (targets : Int32) (f : Nat → Nat → Int32) (g : Nat → Nat → Int64) (hfr : fr < 20) : am_D 3 89 10 [.ref 3, .ref 4, .int (nI fr), .int targets, .ref 86] (am_S f g) (some (Value.int ((fn_rFewest fr targets f).1)), am_S (am_row (am_row f 8 ((fn_rFewest fr targets f).2.1)) 86 ((fn_rFewest fr targets f).2.2)) g) := by
  refine am_D.of (code := am_k_89) rfl (L0 := [.ref 3, .ref 4, .int (nI fr), .int targets, .ref 86, am_un, am_un, am_un, am_un, am_un]) rfl ?_
  generalize hres : (some (Value.int ((fn_rFewest fr targets f).1)), am_S (am_row (am_row f 8 ((fn_rFewest fr targets f).2.1)) 86 ((fn_rFewest fr targets f).2.2)) g) = res
  obtain ⟨K, hKd⟩ : ∃ K : (Int32 × (Nat → Int32) × (Nat → Int32)) → Prop, K = fun z => (some (Value.int z.1), am_S (am_row (am_row f 8 z.2.1) 86 z.2.2) g) = res := ⟨_, rfl⟩
  have hK : K (fn_rFewest fr targets f) := by rw [hKd]; exact hres
  clear hres
  unfold fn_rFewest at hK
  refine am_F.ops (pc' := 9) (L' := [.ref 3, .ref 4, .int (nI fr), .int targets, .ref 86, .int targets, .int targets, .int 0, am_un, am_un]) (S' := []) (μ' := (am_S f g)) 6 rfl ?_
  refine am_F.mem (F' := (am_row f 8 (f 8))) (G' := g) ?_ (by first | rfl | (funext a; by_cases z0 : a = 8; (subst z0; rfl); simp only [am_ui, am_ul, am_row_ne z0])) (by first | rfl | (funext a; by_cases z0 : a = 8; (subst z0; rfl); simp only [am_ui, am_ul, am_row_ne z0]))
  show am_F _ _ 9 [.ref 3, .ref 4, .int (nI fr), .int targets, .ref 86, .int targets, .int targets, .int (nI 0), am_un, am_un] [] (am_S (am_row f 8 (f 8)) g) _
  refine lp_rFewest_9 fr targets f g hfr _ 20 0 targets targets (f 8) am_un am_un (by omega)  ?_
  rw [show am_forX (st_rFewest_9 f) 20 0 (targets, targets, f 8) = (lf_rFewest_9 targets f) from rfl]
  revert hK
  cases (lf_rFewest_9 targets f) with
  | inr z =>
    intro hK
    exact z.elim
  | inl z9 =>
    intro hK wc w9_8 w9_9
    (try simp only [Sum.elim_inl] at hK)
    refine am_F.ops (pc' := 111) (L' := [.ref 3, .ref 4, .int (nI fr), .int targets, .ref 86, .int z9.1, .int z9.2.1, wc, w9_8, w9_9]) (S' := [.int (nI fr), .int z9.2.1]) (μ' := (am_S (am_row f 8 z9.2.2) g)) 2 rfl ?_
    refine am_F.call rfl rfl (x_has z9.2.1 (nI fr) (am_row f 8 z9.2.2) g ) (by decide) ?_
    show am_F _ _ 114 [.ref 3, .ref 4, .int (nI fr), .int targets, .ref 86, .int z9.1, .int z9.2.1, wc, w9_8, w9_9] [.int (am_b (fn_has z9.2.1 (nI fr)))] (am_S (am_row f 8 z9.2.2) g) _
    refine am_F.bifK 1 rfl K hK (fun c30 hK => ?_) (fun c30 hK => ?_)
    · show am_F _ _ 117 [.ref 3, .ref 4, .int (nI fr), .int targets, .ref 86, .int z9.1, .int z9.2.1, wc, w9_8, w9_9] [] (am_S (am_row f 8 z9.2.2) g) _
      refine am_F.ops (pc' := 124) (L' := [.ref 3, .ref 4, .int (nI fr), .int targets, .ref 86, .int z9.1, .int z9.2.1, wc, w9_8, w9_9]) (S' := [.ref 86, .int z9.2.1, .int (nI fr), .ref 4, .ref 3]) (μ' := (am_S (am_row f 8 z9.2.2) g)) 5 rfl ?_
      refine am_F.call rfl rfl (x_walk fr z9.2.1 (am_row f 8 z9.2.2) g (by omega)) (by decide) ?_
      obtain ⟨y31, hy31⟩ : ∃ z, (fn_walk fr z9.2.1 (am_row f 8 z9.2.2)) = z := ⟨_, rfl⟩
      (try rw [hy31] at hK)
      (try rw [hy31])
      refine am_F.mem (F' := (am_row (am_row f 8 z9.2.2) 86 y31.2)) (G' := g) ?_ (by first | rfl | (funext a; by_cases z0 : a = 8; (subst z0; rfl); by_cases z1 : a = 86; (subst z1; rfl); simp only [am_ui, am_ul, am_row_ne z0, am_row_ne z1])) (by first | rfl | (funext a; by_cases z0 : a = 8; (subst z0; rfl); by_cases z1 : a = 86; (subst z1; rfl); simp only [am_ui, am_ul, am_row_ne z0, am_row_ne z1]))
      show am_F _ _ 127 [.ref 3, .ref 4, .int (nI fr), .int targets, .ref 86, .int z9.1, .int z9.2.1, wc, w9_8, w9_9] [.int y31.1] (am_S (am_row (am_row f 8 z9.2.2) 86 y31.2) g) _
      refine am_F.ops (pc' := 131) (L' := [.ref 3, .ref 4, .int (nI fr), .int targets, .ref 86, .int z9.1, .int z9.2.1, wc, w9_8, w9_9]) (S' := [.int y31.1]) (μ' := (am_S (am_row (am_row f 8 z9.2.2) 86 y31.2) g)) 1 rfl ?_
      subst hKd
      exact am_F.eq (am_F.ret rfl rfl) hK
    · show am_F _ _ 130 [.ref 3, .ref 4, .int (nI fr), .int targets, .ref 86, .int z9.1, .int z9.2.1, wc, w9_8, w9_9] [] (am_S (am_row f 8 z9.2.2) g) _
      refine am_F.ops (pc' := 131) (L' := [.ref 3, .ref 4, .int (nI fr), .int targets, .ref 86, .int z9.1, .int z9.2.1, wc, w9_8, w9_9]) (S' := [.int 0]) (μ' := (am_S (am_row f 8 z9.2.2) g)) 1 rfl ?_
      refine am_F.mem (F' := (am_row (am_row f 8 z9.2.2) 86 (f 86))) (G' := g) ?_ (by first | rfl | (funext a; by_cases z0 : a = 8; (subst z0; rfl); by_cases z1 : a = 86; (subst z1; rfl); simp only [am_ui, am_ul, am_row_ne z0, am_row_ne z1])) (by first | rfl | (funext a; by_cases z0 : a = 8; (subst z0; rfl); by_cases z1 : a = 86; (subst z1; rfl); simp only [am_ui, am_ul, am_row_ne z0, am_row_ne z1]))
      subst hKd
      exact am_F.eq (am_F.ret rfl rfl) hK
/-- AccessLattice$Roles.fewest -/
def st_rFewestUp_27 (f : Nat → Nat → Int32) (i9 : Nat) (a9_5 : Int32) (a9_6 : Int32) : Nat → Int32 × (Nat → Int32) → Int32 × (Nat → Int32) := fun i27 z => match z with
  | (a27_8, r27_8) => (bif (fn_has a9_5 (nI i27)) then (a27_8, upd r27_8 i27 (nI i9)) else (bif (fn_has a9_6 (nI i27)) then (a27_8, r27_8) else (if ((f 5 i27) &&& a9_5) = 0 then (a27_8, r27_8) else (a27_8 ||| (1 <<< ((nI i27) &&& 31)), r27_8))))
def lf_rFewestUp_27 (f : Nat → Nat → Int32) (i9 : Nat) (a9_5 : Int32) (a9_6 : Int32) (r9_8 : Nat → Int32) : Int32 × (Nat → Int32) := am_for (st_rFewestUp_27 f i9 a9_5 a9_6) 20 0 (0, r9_8)
def st_rFewestUp_9 (f : Nat → Nat → Int32) : Nat → Int32 × Int32 × (Nat → Int32) → Int32 × Int32 × (Nat → Int32) ⊕ (Int32 × Int32 × (Nat → Int32) ⊕ Empty) := fun i9 z => match z with
  | (a9_5, a9_6, r9_8) => (if a9_5 = 0 then .inr (.inl (a9_5, a9_6, r9_8)) else .inl ((lf_rFewestUp_27 f i9 a9_5 a9_6 r9_8).1, a9_6 ||| (lf_rFewestUp_27 f i9 a9_5 a9_6 r9_8).1, (lf_rFewestUp_27 f i9 a9_5 a9_6 r9_8).2))
def lf_rFewestUp_9 (targets : Int32) (f : Nat → Nat → Int32) : Int32 × Int32 × (Nat → Int32) ⊕ Empty := am_forX (st_rFewestUp_9 f) 20 0 (targets, targets, f 8)
def fn_rFewestUp (fr : Nat) (targets : Int32) (f : Nat → Nat → Int32) : Int32 × (Nat → Int32) × (Nat → Int32) := (Sum.elim (fun (z9 : Int32 × Int32 × (Nat → Int32)) => (bif (fn_has z9.2.1 (nI fr)) then ((fn_walkUp fr z9.2.1 (am_row f 8 z9.2.2)).1, z9.2.2, (fn_walkUp fr z9.2.1 (am_row f 8 z9.2.2)).2) else (0, z9.2.2, f 86))) (fun (z : Empty) => z.elim) (lf_rFewestUp_9 targets f))
theorem lp_rFewestUp_27 (fr : Nat) (targets : Int32) (f : Nat → Nat → Int32) (g : Nat → Nat → Int64) (i9 : Nat) (a9_5 : Int32) (a9_6 : Int32) (r9_8 : Nat → Int32) (hfr : fr < 20) (hb9 : i9 < 20) (res : Option Value × am_M) : ∀ (n i27 : Nat) (a27_8 : Int32) (r27_8 : Nat → Int32) , i27 + n = 20 → (fun (z : Int32 × (Nat → Int32)) => ∀ (wc : Value), am_F 3 am_k_89 91 [.ref 3, .ref 5, .int (nI fr), .int targets, .ref 86, .int a9_5, .int a9_6, .int (nI i9), .int z.1, wc] [] (am_S (am_row f 8 z.2) g) res) (am_for (st_rFewestUp_27 f i9 a9_5 a9_6) n i27 (a27_8, r27_8)) → am_F 3 am_k_89 27 [.ref 3, .ref 5, .int (nI fr), .int targets, .ref 86, .int a9_5, .int a9_6, .int (nI i9), .int a27_8, .int (nI i27)] [] (am_S (am_row f 8 r27_8) g) res := by
  intro n
  induction n with
  | zero =>
    intro i27 a27_8 r27_8 hi hK
    refine am_F.pos 3 rfl (by show 20 ≤ nI i27; rw [show (20 : Int32) = nI 20 from rfl]; exact nI_le (by omega) (by omega)) ?_
    exact hK _
  | succ n ih =>
    intro i27 a27_8 r27_8 hi hK
    refine am_F.neg 3 rfl (by show ¬ 20 ≤ nI i27; rw [show (20 : Int32) = nI 20 from rfl]; exact nI_ge (by omega) (by omega)) ?_
    have hb27 : i27 < 20 := by omega
    show am_F _ _ 34 [.ref 3, .ref 5, .int (nI fr), .int targets, .ref 86, .int a9_5, .int a9_6, .int (nI i9), .int a27_8, .int (nI i27)] [] (am_S (am_row f 8 r27_8) g) _
    obtain ⟨K, hKd⟩ : ∃ K : (Int32 × (Nat → Int32)) → Prop, K = fun s => (fun (z : Int32 × (Nat → Int32)) => ∀ (wc : Value), am_F 3 am_k_89 91 [.ref 3, .ref 5, .int (nI fr), .int targets, .ref 86, .int a9_5, .int a9_6, .int (nI i9), .int z.1, wc] [] (am_S (am_row f 8 z.2) g) res) (am_for (st_rFewestUp_27 f i9 a9_5 a9_6) n (i27 + 1) s) := ⟨_, rfl⟩
    have hK : K ((st_rFewestUp_27 f i9 a9_5 a9_6) i27 (a27_8, r27_8)) := by rw [hKd]; exact hK
    unfold st_rFewestUp_27 at hK
    simp only at hK
    refine am_F.ops (pc' := 38) (L' := [.ref 3, .ref 5, .int (nI fr), .int targets, .ref 86, .int a9_5, .int a9_6, .int (nI i9), .int a27_8, .int (nI i27)]) (S' := [.int (nI i27), .int a9_5]) (μ' := (am_S (am_row f 8 r27_8) g)) 2 rfl ?_
    refine am_F.call rfl rfl (x_has a9_5 (nI i27) (am_row f 8 r27_8) g ) (by decide) ?_
    show am_F _ _ 41 [.ref 3, .ref 5, .int (nI fr), .int targets, .ref 86, .int a9_5, .int a9_6, .int (nI i9), .int a27_8, .int (nI i27)] [.int (am_b (fn_has a9_5 (nI i27)))] (am_S (am_row f 8 r27_8) g) _
    refine am_F.bifK 1 rfl K hK (fun c23 hK => ?_) (fun c23 hK => ?_)
    · show am_F _ _ 44 [.ref 3, .ref 5, .int (nI fr), .int targets, .ref 86, .int a9_5, .int a9_6, .int (nI i9), .int a27_8, .int (nI i27)] [] (am_S (am_row f 8 r27_8) g) _
      refine am_F.ops (pc' := 52) (L' := [.ref 3, .ref 5, .int (nI fr), .int targets, .ref 86, .int a9_5, .int a9_6, .int (nI i9), .int a27_8, .int (nI i27)]) (S' := [.int (nI i9), .int (nI i27), .ref 8]) (μ' := (am_S (am_row f 8 r27_8) g)) 4 rfl ?_
      refine am_F.iasE (F' := (am_row f 8 (upd r27_8 i27 (nI i9)))) (m := i27) (N := 20) rfl rfl rfl rfl (by omega) (by decide) (by first | rfl | (funext a; by_cases z0 : a = 8; (subst z0; rfl); simp only [am_ui, am_ul, am_row_ne z0])) ?_
      refine am_F.ops (pc' := 27) (L' := [.ref 3, .ref 5, .int (nI fr), .int targets, .ref 86, .int a9_5, .int a9_6, .int (nI i9), .int a27_8, .int ((nI i27) + 1)]) (S' := []) (μ' := (am_S (am_row f 8 (upd r27_8 i27 (nI i9))) g)) 3 rfl ?_
      rw [nI_1 i27]
      subst hKd
      exact ih (i27 + 1) a27_8 (upd r27_8 i27 (nI i9)) (by omega)  hK
    · show am_F _ _ 56 [.ref 3, .ref 5, .int (nI fr), .int targets, .ref 86, .int a9_5, .int a9_6, .int (nI i9), .int a27_8, .int (nI i27)] [] (am_S (am_row f 8 r27_8) g) _
      refine am_F.ops (pc' := 60) (L' := [.ref 3, .ref 5, .int (nI fr), .int targets, .ref 86, .int a9_5, .int a9_6, .int (nI i9), .int a27_8, .int (nI i27)]) (S' := [.int (nI i27), .int a9_6]) (μ' := (am_S (am_row f 8 r27_8) g)) 2 rfl ?_
      refine am_F.call rfl rfl (x_has a9_6 (nI i27) (am_row f 8 r27_8) g ) (by decide) ?_
      show am_F _ _ 63 [.ref 3, .ref 5, .int (nI fr), .int targets, .ref 86, .int a9_5, .int a9_6, .int (nI i9), .int a27_8, .int (nI i27)] [.int (am_b (fn_has a9_6 (nI i27)))] (am_S (am_row f 8 r27_8) g) _
      refine am_F.bifK 1 rfl K hK (fun c25 hK => ?_) (fun c25 hK => ?_)
      · show am_F _ _ 85 [.ref 3, .ref 5, .int (nI fr), .int targets, .ref 86, .int a9_5, .int a9_6, .int (nI i9), .int a27_8, .int (nI i27)] [] (am_S (am_row f 8 r27_8) g) _
        refine am_F.ops (pc' := 27) (L' := [.ref 3, .ref 5, .int (nI fr), .int targets, .ref 86, .int a9_5, .int a9_6, .int (nI i9), .int a27_8, .int ((nI i27) + 1)]) (S' := []) (μ' := (am_S (am_row f 8 r27_8) g)) 2 rfl ?_
        rw [nI_1 i27]
        subst hKd
        exact ih (i27 + 1) a27_8 r27_8 (by omega)  hK
      · show am_F _ _ 66 [.ref 3, .ref 5, .int (nI fr), .int targets, .ref 86, .int a9_5, .int a9_6, .int (nI i9), .int a27_8, .int (nI i27)] [] (am_S (am_row f 8 r27_8) g) _
        refine am_F.ops (pc' := 69) (L' := [.ref 3, .ref 5, .int (nI fr), .int targets, .ref 86, .int a9_5, .int a9_6, .int (nI i9), .int a27_8, .int (nI i27)]) (S' := [.int (nI i27), .ref 5]) (μ' := (am_S (am_row f 8 r27_8) g)) 2 rfl ?_
        refine am_F.ialE (m := i27) (N := 20) rfl rfl rfl rfl (by omega) (by decide) ?_
        show am_F _ _ 70 [.ref 3, .ref 5, .int (nI fr), .int targets, .ref 86, .int a9_5, .int a9_6, .int (nI i9), .int a27_8, .int (nI i27)] [.int (f 5 i27)] (am_S (am_row f 8 r27_8) g) _
        refine am_F.ops (pc' := 73) (L' := [.ref 3, .ref 5, .int (nI fr), .int targets, .ref 86, .int a9_5, .int a9_6, .int (nI i9), .int a27_8, .int (nI i27)]) (S' := [.int ((f 5 i27) &&& a9_5)]) (μ' := (am_S (am_row f 8 r27_8) g)) 2 rfl ?_
        refine am_F.iteK 1 rfl K hK (fun c27 hK => ?_) (fun c27 hK => ?_)
        · show am_F _ _ 85 [.ref 3, .ref 5, .int (nI fr), .int targets, .ref 86, .int a9_5, .int a9_6, .int (nI i9), .int a27_8, .int (nI i27)] [] (am_S (am_row f 8 r27_8) g) _
          refine am_F.ops (pc' := 27) (L' := [.ref 3, .ref 5, .int (nI fr), .int targets, .ref 86, .int a9_5, .int a9_6, .int (nI i9), .int a27_8, .int ((nI i27) + 1)]) (S' := []) (μ' := (am_S (am_row f 8 r27_8) g)) 2 rfl ?_
          rw [nI_1 i27]
          subst hKd
          exact ih (i27 + 1) a27_8 r27_8 (by omega)  hK
        · show am_F _ _ 76 [.ref 3, .ref 5, .int (nI fr), .int targets, .ref 86, .int a9_5, .int a9_6, .int (nI i9), .int a27_8, .int (nI i27)] [] (am_S (am_row f 8 r27_8) g) _
          refine am_F.ops (pc' := 27) (L' := [.ref 3, .ref 5, .int (nI fr), .int targets, .ref 86, .int a9_5, .int a9_6, .int (nI i9), .int (a27_8 ||| (1 <<< ((nI i27) &&& 31))), .int ((nI i27) + 1)]) (S' := []) (μ' := (am_S (am_row f 8 r27_8) g)) 8 rfl ?_
          rw [nI_1 i27]
          subst hKd
          exact ih (i27 + 1) (a27_8 ||| (1 <<< ((nI i27) &&& 31))) r27_8 (by omega)  hK
theorem lp_rFewestUp_9 (fr : Nat) (targets : Int32) (f : Nat → Nat → Int32) (g : Nat → Nat → Int64) (hfr : fr < 20) (res : Option Value × am_M) : ∀ (n i9 : Nat) (a9_5 : Int32) (a9_6 : Int32) (r9_8 : Nat → Int32) (w9_8 : Value) (w9_9 : Value), i9 + n = 20 → am_KX (fun (z : Int32 × Int32 × (Nat → Int32)) => ∀ (wc : Value) (w9_8 : Value) (w9_9 : Value), am_F 3 am_k_89 108 [.ref 3, .ref 5, .int (nI fr), .int targets, .ref 86, .int z.1, .int z.2.1, wc, w9_8, w9_9] [] (am_S (am_row f 8 z.2.2) g) res) (fun (z : Empty) => True) (am_forX (st_rFewestUp_9 f) n i9 (a9_5, a9_6, r9_8)) → am_F 3 am_k_89 9 [.ref 3, .ref 5, .int (nI fr), .int targets, .ref 86, .int a9_5, .int a9_6, .int (nI i9), w9_8, w9_9] [] (am_S (am_row f 8 r9_8) g) res := by
  intro n
  induction n with
  | zero =>
    intro i9 a9_5 a9_6 r9_8 w9_8 w9_9 hi hK
    refine am_F.pos 3 rfl (by show 20 ≤ nI i9; rw [show (20 : Int32) = nI 20 from rfl]; exact nI_le (by omega) (by omega)) ?_
    exact hK _ _ _
  | succ n ih =>
    intro i9 a9_5 a9_6 r9_8 w9_8 w9_9 hi hK
    refine am_F.neg 3 rfl (by show ¬ 20 ≤ nI i9; rw [show (20 : Int32) = nI 20 from rfl]; exact nI_ge (by omega) (by omega)) ?_
    have hb9 : i9 < 20 := by omega
    show am_F _ _ 16 [.ref 3, .ref 5, .int (nI fr), .int targets, .ref 86, .int a9_5, .int a9_6, .int (nI i9), w9_8, w9_9] [] (am_S (am_row f 8 r9_8) g) _
    obtain ⟨K, hKd⟩ : ∃ K : (Int32 × Int32 × (Nat → Int32) ⊕ (Int32 × Int32 × (Nat → Int32) ⊕ Empty)) → Prop, K = fun s => am_KX (fun (z : Int32 × Int32 × (Nat → Int32)) => ∀ (wc : Value) (w9_8 : Value) (w9_9 : Value), am_F 3 am_k_89 108 [.ref 3, .ref 5, .int (nI fr), .int targets, .ref 86, .int z.1, .int z.2.1, wc, w9_8, w9_9] [] (am_S (am_row f 8 z.2.2) g) res) (fun (z : Empty) => True) (am_nxt (fun z => am_forX (st_rFewestUp_9 f) n (i9 + 1) z) s) := ⟨_, rfl⟩
    have hK : K ((st_rFewestUp_9 f) i9 (a9_5, a9_6, r9_8)) := by rw [am_forX_s] at hK; rw [hKd]; with_reducible exact hK
    unfold st_rFewestUp_9 at hK
    simp only at hK
    refine am_F.ops (pc' := 18) (L' := [.ref 3, .ref 5, .int (nI fr), .int targets, .ref 86, .int a9_5, .int a9_6, .int (nI i9), w9_8, w9_9]) (S' := [.int a9_5]) (μ' := (am_S (am_row f 8 r9_8) g)) 1 rfl ?_
    refine am_F.iteK 1 rfl K hK (fun c15 hK => ?_) (fun c15 hK => ?_)
    · show am_F _ _ 108 [.ref 3, .ref 5, .int (nI fr), .int targets, .ref 86, .int a9_5, .int a9_6, .int (nI i9), w9_8, w9_9] [] (am_S (am_row f 8 r9_8) g) _
      subst hKd
      exact hK (.int (nI i9)) w9_8 w9_9
    · show am_F _ _ 21 [.ref 3, .ref 5, .int (nI fr), .int targets, .ref 86, .int a9_5, .int a9_6, .int (nI i9), w9_8, w9_9] [] (am_S (am_row f 8 r9_8) g) _
      refine am_F.ops (pc' := 27) (L' := [.ref 3, .ref 5, .int (nI fr), .int targets, .ref 86, .int a9_5, .int a9_6, .int (nI i9), .int 0, .int 0]) (S' := []) (μ' := (am_S (am_row f 8 r9_8) g)) 4 rfl ?_
      show am_F _ _ 27 [.ref 3, .ref 5, .int (nI fr), .int targets, .ref 86, .int a9_5, .int a9_6, .int (nI i9), .int 0, .int (nI 0)] [] (am_S (am_row f 8 r9_8) g) _
      refine lp_rFewestUp_27 fr targets f g i9 a9_5 a9_6 r9_8 hfr hb9 _ 20 0 0 r9_8  (by omega)  ?_
      rw [show am_for (st_rFewestUp_27 f i9 a9_5 a9_6) 20 0 (0, r9_8) = (lf_rFewestUp_27 f i9 a9_5 a9_6 r9_8) from rfl]
      generalize (lf_rFewestUp_27 f i9 a9_5 a9_6 r9_8) = z27_28 at hK ⊢
      intro wc
      show am_F _ _ 91 [.ref 3, .ref 5, .int (nI fr), .int targets, .ref 86, .int a9_5, .int a9_6, .int (nI i9), .int z27_28.1, wc] [] (am_S (am_row f 8 z27_28.2) g) _
      refine am_F.ops (pc' := 9) (L' := [.ref 3, .ref 5, .int (nI fr), .int targets, .ref 86, .int z27_28.1, .int (a9_6 ||| z27_28.1), .int ((nI i9) + 1), .int z27_28.1, wc]) (S' := []) (μ' := (am_S (am_row f 8 z27_28.2) g)) 8 rfl ?_
      rw [nI_1 i9]
      subst hKd
      exact ih (i9 + 1) z27_28.1 (a9_6 ||| z27_28.1) z27_28.2 (.int z27_28.1) wc (by omega)  hK
theorem x_rFewestUp (fr : Nat) (targets : Int32) (f : Nat → Nat → Int32) (g : Nat → Nat → Int64) (hfr : fr < 20) : am_D 3 89 10 [.ref 3, .ref 5, .int (nI fr), .int targets, .ref 86] (am_S f g) (some (Value.int ((fn_rFewestUp fr targets f).1)), am_S (am_row (am_row f 8 ((fn_rFewestUp fr targets f).2.1)) 86 ((fn_rFewestUp fr targets f).2.2)) g) := by
  refine am_D.of (code := am_k_89) rfl (L0 := [.ref 3, .ref 5, .int (nI fr), .int targets, .ref 86, am_un, am_un, am_un, am_un, am_un]) rfl ?_
  generalize hres : (some (Value.int ((fn_rFewestUp fr targets f).1)), am_S (am_row (am_row f 8 ((fn_rFewestUp fr targets f).2.1)) 86 ((fn_rFewestUp fr targets f).2.2)) g) = res
  obtain ⟨K, hKd⟩ : ∃ K : (Int32 × (Nat → Int32) × (Nat → Int32)) → Prop, K = fun z => (some (Value.int z.1), am_S (am_row (am_row f 8 z.2.1) 86 z.2.2) g) = res := ⟨_, rfl⟩
  have hK : K (fn_rFewestUp fr targets f) := by rw [hKd]; exact hres
  clear hres
  unfold fn_rFewestUp at hK
  refine am_F.ops (pc' := 9) (L' := [.ref 3, .ref 5, .int (nI fr), .int targets, .ref 86, .int targets, .int targets, .int 0, am_un, am_un]) (S' := []) (μ' := (am_S f g)) 6 rfl ?_
  refine am_F.mem (F' := (am_row f 8 (f 8))) (G' := g) ?_ (by first | rfl | (funext a; by_cases z0 : a = 8; (subst z0; rfl); simp only [am_ui, am_ul, am_row_ne z0])) (by first | rfl | (funext a; by_cases z0 : a = 8; (subst z0; rfl); simp only [am_ui, am_ul, am_row_ne z0]))
  show am_F _ _ 9 [.ref 3, .ref 5, .int (nI fr), .int targets, .ref 86, .int targets, .int targets, .int (nI 0), am_un, am_un] [] (am_S (am_row f 8 (f 8)) g) _
  refine lp_rFewestUp_9 fr targets f g hfr _ 20 0 targets targets (f 8) am_un am_un (by omega)  ?_
  rw [show am_forX (st_rFewestUp_9 f) 20 0 (targets, targets, f 8) = (lf_rFewestUp_9 targets f) from rfl]
  revert hK
  cases (lf_rFewestUp_9 targets f) with
  | inr z =>
    intro hK
    exact z.elim
  | inl z9 =>
    intro hK wc w9_8 w9_9
    (try simp only [Sum.elim_inl] at hK)
    refine am_F.ops (pc' := 111) (L' := [.ref 3, .ref 5, .int (nI fr), .int targets, .ref 86, .int z9.1, .int z9.2.1, wc, w9_8, w9_9]) (S' := [.int (nI fr), .int z9.2.1]) (μ' := (am_S (am_row f 8 z9.2.2) g)) 2 rfl ?_
    refine am_F.call rfl rfl (x_has z9.2.1 (nI fr) (am_row f 8 z9.2.2) g ) (by decide) ?_
    show am_F _ _ 114 [.ref 3, .ref 5, .int (nI fr), .int targets, .ref 86, .int z9.1, .int z9.2.1, wc, w9_8, w9_9] [.int (am_b (fn_has z9.2.1 (nI fr)))] (am_S (am_row f 8 z9.2.2) g) _
    refine am_F.bifK 1 rfl K hK (fun c30 hK => ?_) (fun c30 hK => ?_)
    · show am_F _ _ 117 [.ref 3, .ref 5, .int (nI fr), .int targets, .ref 86, .int z9.1, .int z9.2.1, wc, w9_8, w9_9] [] (am_S (am_row f 8 z9.2.2) g) _
      refine am_F.ops (pc' := 124) (L' := [.ref 3, .ref 5, .int (nI fr), .int targets, .ref 86, .int z9.1, .int z9.2.1, wc, w9_8, w9_9]) (S' := [.ref 86, .int z9.2.1, .int (nI fr), .ref 5, .ref 3]) (μ' := (am_S (am_row f 8 z9.2.2) g)) 5 rfl ?_
      refine am_F.call rfl rfl (x_walkUp fr z9.2.1 (am_row f 8 z9.2.2) g (by omega)) (by decide) ?_
      obtain ⟨y31, hy31⟩ : ∃ z, (fn_walkUp fr z9.2.1 (am_row f 8 z9.2.2)) = z := ⟨_, rfl⟩
      (try rw [hy31] at hK)
      (try rw [hy31])
      refine am_F.mem (F' := (am_row (am_row f 8 z9.2.2) 86 y31.2)) (G' := g) ?_ (by first | rfl | (funext a; by_cases z0 : a = 8; (subst z0; rfl); by_cases z1 : a = 86; (subst z1; rfl); simp only [am_ui, am_ul, am_row_ne z0, am_row_ne z1])) (by first | rfl | (funext a; by_cases z0 : a = 8; (subst z0; rfl); by_cases z1 : a = 86; (subst z1; rfl); simp only [am_ui, am_ul, am_row_ne z0, am_row_ne z1]))
      show am_F _ _ 127 [.ref 3, .ref 5, .int (nI fr), .int targets, .ref 86, .int z9.1, .int z9.2.1, wc, w9_8, w9_9] [.int y31.1] (am_S (am_row (am_row f 8 z9.2.2) 86 y31.2) g) _
      refine am_F.ops (pc' := 131) (L' := [.ref 3, .ref 5, .int (nI fr), .int targets, .ref 86, .int z9.1, .int z9.2.1, wc, w9_8, w9_9]) (S' := [.int y31.1]) (μ' := (am_S (am_row (am_row f 8 z9.2.2) 86 y31.2) g)) 1 rfl ?_
      subst hKd
      exact am_F.eq (am_F.ret rfl rfl) hK
    · show am_F _ _ 130 [.ref 3, .ref 5, .int (nI fr), .int targets, .ref 86, .int z9.1, .int z9.2.1, wc, w9_8, w9_9] [] (am_S (am_row f 8 z9.2.2) g) _
      refine am_F.ops (pc' := 131) (L' := [.ref 3, .ref 5, .int (nI fr), .int targets, .ref 86, .int z9.1, .int z9.2.1, wc, w9_8, w9_9]) (S' := [.int 0]) (μ' := (am_S (am_row f 8 z9.2.2) g)) 1 rfl ?_
      refine am_F.mem (F' := (am_row (am_row f 8 z9.2.2) 86 (f 86))) (G' := g) ?_ (by first | rfl | (funext a; by_cases z0 : a = 8; (subst z0; rfl); by_cases z1 : a = 86; (subst z1; rfl); simp only [am_ui, am_ul, am_row_ne z0, am_row_ne z1])) (by first | rfl | (funext a; by_cases z0 : a = 8; (subst z0; rfl); by_cases z1 : a = 86; (subst z1; rfl); simp only [am_ui, am_ul, am_row_ne z0, am_row_ne z1]))
      subst hKd
      exact am_F.eq (am_F.ret rfl rfl) hK
/-- AccessLattice.chain -/
def fn_chain (fr : Int32) (to : Int32) (i : Int32) (f : Nat → Nat → Int32) : Int32 × (Nat → Int32) × (Nat → Int32) := (bif (fn_isRole fr) then (bif (fn_isRole to) then (if (-1) ≤ i then (if (fn_rFewest (fr.toNatClampNeg) (1 <<< (to &&& 31)) f).1 = 0 then ((-2), (fn_rFewest (fr.toNatClampNeg) (1 <<< (to &&& 31)) f).2.1, (fn_rFewest (fr.toNatClampNeg) (1 <<< (to &&& 31)) f).2.2) else (if (fn_rFewest (fr.toNatClampNeg) (1 <<< (to &&& 31)) f).1 ≤ i then ((-2), (fn_rFewest (fr.toNatClampNeg) (1 <<< (to &&& 31)) f).2.1, (fn_rFewest (fr.toNatClampNeg) (1 <<< (to &&& 31)) f).2.2) else (if i < 20 then ((if 0 ≤ i then (fn_rFewest (fr.toNatClampNeg) (1 <<< (to &&& 31)) f).2.2 i.toNatClampNeg else (fn_rFewest (fr.toNatClampNeg) (1 <<< (to &&& 31)) f).1 - 1), (fn_rFewest (fr.toNatClampNeg) (1 <<< (to &&& 31)) f).2.1, (fn_rFewest (fr.toNatClampNeg) (1 <<< (to &&& 31)) f).2.2) else ((-2), (fn_rFewest (fr.toNatClampNeg) (1 <<< (to &&& 31)) f).2.1, (fn_rFewest (fr.toNatClampNeg) (1 <<< (to &&& 31)) f).2.2)))) else ((-1), f 8, f 86)) else ((-1), f 8, f 86)) else ((-1), f 8, f 86))
theorem x_chain (fr : Int32) (to : Int32) (i : Int32) (f : Nat → Nat → Int32) (g : Nat → Nat → Int64)  : am_D 4 130 5 [.ref 0, .int fr, .int to, .int i] (am_S f g) (some (Value.int ((fn_chain fr to i f).1)), am_S (am_row (am_row f 8 ((fn_chain fr to i f).2.1)) 86 ((fn_chain fr to i f).2.2)) g) := by
  refine am_D.of (code := am_k_130) rfl (L0 := [.ref 0, .int fr, .int to, .int i, am_un]) rfl ?_
  generalize hres : (some (Value.int ((fn_chain fr to i f).1)), am_S (am_row (am_row f 8 ((fn_chain fr to i f).2.1)) 86 ((fn_chain fr to i f).2.2)) g) = res
  obtain ⟨K, hKd⟩ : ∃ K : (Int32 × (Nat → Int32) × (Nat → Int32)) → Prop, K = fun z => (some (Value.int z.1), am_S (am_row (am_row f 8 z.2.1) 86 z.2.2) g) = res := ⟨_, rfl⟩
  have hK : K (fn_chain fr to i f) := by rw [hKd]; exact hres
  clear hres
  unfold fn_chain at hK
  refine am_F.ops (pc' := 1) (L' := [.ref 0, .int fr, .int to, .int i, am_un]) (S' := [.int fr]) (μ' := (am_S f g)) 1 rfl ?_
  refine am_F.call rfl rfl (x_isRole fr f g ) (by decide) ?_
  show am_F _ _ 4 [.ref 0, .int fr, .int to, .int i, am_un] [.int (am_b (fn_isRole fr))] (am_S f g) _
  refine am_F.bifK 1 rfl K hK (fun c1 hK => ?_) (fun c1 hK => ?_)
  · obtain ⟨fr_n, hfr_n, efr_n⟩ := am_iRole c1
    subst efr_n
    try simp only [nI_clamp (show fr_n < 2147483648 by omega)] at hK
    show am_F _ _ 7 [.ref 0, .int (nI fr_n), .int to, .int i, am_un] [] (am_S f g) _
    refine am_F.ops (pc' := 8) (L' := [.ref 0, .int (nI fr_n), .int to, .int i, am_un]) (S' := [.int to]) (μ' := (am_S f g)) 1 rfl ?_
    refine am_F.call rfl rfl (x_isRole to f g ) (by decide) ?_
    show am_F _ _ 11 [.ref 0, .int (nI fr_n), .int to, .int i, am_un] [.int (am_b (fn_isRole to))] (am_S f g) _
    refine am_F.bifK 1 rfl K hK (fun c2 hK => ?_) (fun c2 hK => ?_)
    · obtain ⟨to_n, hto_n, eto_n⟩ := am_iRole c2
      subst eto_n
      try simp only [nI_clamp (show to_n < 2147483648 by omega)] at hK
      show am_F _ _ 14 [.ref 0, .int (nI fr_n), .int (nI to_n), .int i, am_un] [] (am_S f g) _
      refine am_F.ops (pc' := 16) (L' := [.ref 0, .int (nI fr_n), .int (nI to_n), .int i, am_un]) (S' := [.int (-1), .int i]) (μ' := (am_S f g)) 2 rfl ?_
      refine am_F.iteK 1 rfl K hK (fun c3 hK => ?_) (fun c3 hK => ?_)
      · show am_F _ _ 21 [.ref 0, .int (nI fr_n), .int (nI to_n), .int i, am_un] [] (am_S f g) _
        refine am_F.ops (pc' := 46) (L' := [.ref 0, .int (nI fr_n), .int (nI to_n), .int i, am_un]) (S' := [.ref 86, .int (1 <<< ((nI to_n) &&& 31)), .int (nI fr_n), .ref 4, .ref 3]) (μ' := (am_S f g)) 13 rfl ?_
        refine am_F.call rfl rfl (x_rFewest fr_n (1 <<< ((nI to_n) &&& 31)) f g (by omega)) (by decide) ?_
        obtain ⟨y4, hy4⟩ : ∃ z, (fn_rFewest fr_n (1 <<< ((nI to_n) &&& 31)) f) = z := ⟨_, rfl⟩
        (try rw [hy4] at hK)
        (try rw [hy4])
        refine am_F.mem (F' := (am_row (am_row f 8 y4.2.1) 86 y4.2.2)) (G' := g) ?_ (by first | rfl | (funext a; by_cases z0 : a = 8; (subst z0; rfl); by_cases z1 : a = 86; (subst z1; rfl); simp only [am_ui, am_ul, am_row_ne z0, am_row_ne z1])) (by first | rfl | (funext a; by_cases z0 : a = 8; (subst z0; rfl); by_cases z1 : a = 86; (subst z1; rfl); simp only [am_ui, am_ul, am_row_ne z0, am_row_ne z1]))
        show am_F _ _ 49 [.ref 0, .int (nI fr_n), .int (nI to_n), .int i, am_un] [.int y4.1] (am_S (am_row (am_row f 8 y4.2.1) 86 y4.2.2) g) _
        refine am_F.ops (pc' := 53) (L' := [.ref 0, .int (nI fr_n), .int (nI to_n), .int i, .int y4.1]) (S' := [.int y4.1]) (μ' := (am_S (am_row (am_row f 8 y4.2.1) 86 y4.2.2) g)) 2 rfl ?_
        refine am_F.iteK 1 rfl K hK (fun c5 hK => ?_) (fun c5 hK => ?_)
        · show am_F _ _ 71 [.ref 0, .int (nI fr_n), .int (nI to_n), .int i, .int y4.1] [] (am_S (am_row (am_row f 8 y4.2.1) 86 y4.2.2) g) _
          refine am_F.ops (pc' := 73) (L' := [.ref 0, .int (nI fr_n), .int (nI to_n), .int i, .int y4.1]) (S' := [.int (-2)]) (μ' := (am_S (am_row (am_row f 8 y4.2.1) 86 y4.2.2) g)) 1 rfl ?_
          subst hKd
          exact am_F.eq (am_F.ret rfl rfl) hK
        · show am_F _ _ 56 [.ref 0, .int (nI fr_n), .int (nI to_n), .int i, .int y4.1] [] (am_S (am_row (am_row f 8 y4.2.1) 86 y4.2.2) g) _
          refine am_F.ops (pc' := 59) (L' := [.ref 0, .int (nI fr_n), .int (nI to_n), .int i, .int y4.1]) (S' := [.int y4.1, .int i]) (μ' := (am_S (am_row (am_row f 8 y4.2.1) 86 y4.2.2) g)) 2 rfl ?_
          refine am_F.iteK 1 rfl K hK (fun c6 hK => ?_) (fun c6 hK => ?_)
          · show am_F _ _ 71 [.ref 0, .int (nI fr_n), .int (nI to_n), .int i, .int y4.1] [] (am_S (am_row (am_row f 8 y4.2.1) 86 y4.2.2) g) _
            refine am_F.ops (pc' := 73) (L' := [.ref 0, .int (nI fr_n), .int (nI to_n), .int i, .int y4.1]) (S' := [.int (-2)]) (μ' := (am_S (am_row (am_row f 8 y4.2.1) 86 y4.2.2) g)) 1 rfl ?_
            subst hKd
            exact am_F.eq (am_F.ret rfl rfl) hK
          · show am_F _ _ 62 [.ref 0, .int (nI fr_n), .int (nI to_n), .int i, .int y4.1] [] (am_S (am_row (am_row f 8 y4.2.1) 86 y4.2.2) g) _
            refine am_F.ops (pc' := 68) (L' := [.ref 0, .int (nI fr_n), .int (nI to_n), .int i, .int y4.1]) (S' := [.int 20, .int i]) (μ' := (am_S (am_row (am_row f 8 y4.2.1) 86 y4.2.2) g)) 4 rfl ?_
            refine am_F.iteK 1 rfl K hK (fun c7 hK => ?_) (fun c7 hK => ?_)
            · show am_F _ _ 74 [.ref 0, .int (nI fr_n), .int (nI to_n), .int i, .int y4.1] [] (am_S (am_row (am_row f 8 y4.2.1) 86 y4.2.2) g) _
              refine am_F.ops (pc' := 75) (L' := [.ref 0, .int (nI fr_n), .int (nI to_n), .int i, .int y4.1]) (S' := [.int i]) (μ' := (am_S (am_row (am_row f 8 y4.2.1) 86 y4.2.2) g)) 1 rfl ?_
              refine am_F.to (am_To.ite (pc' := 91) (L2 := [.ref 0, .int (nI fr_n), .int (nI to_n), .int i, .int y4.1]) (S2 := []) (μ2 := (am_S (am_row (am_row f 8 y4.2.1) 86 y4.2.2) g)) (a := y4.2.2 i.toNatClampNeg) (b := y4.1 - 1) 1 rfl (fun c8 => ?_) (fun c8 => ?_)) ?_
              · intro res9 g9
                show am_F _ _ 85 [.ref 0, .int (nI fr_n), .int (nI to_n), .int i, .int y4.1] [] (am_S (am_row (am_row f 8 y4.2.1) 86 y4.2.2) g) _
                refine am_F.ops (pc' := 90) (L' := [.ref 0, .int (nI fr_n), .int (nI to_n), .int i, .int y4.1]) (S' := [.int i, .ref 86]) (μ' := (am_S (am_row (am_row f 8 y4.2.1) 86 y4.2.2) g)) 3 rfl ?_
                refine am_F.ial (N := 20) rfl rfl rfl (am_inbL (y := 20) (Int32.not_lt.mpr (by assumption)) (by assumption) rfl) ?_
                show am_F _ _ 91 [.ref 0, .int (nI fr_n), .int (nI to_n), .int i, .int y4.1] [.int (y4.2.2 i.toNatClampNeg)] (am_S (am_row (am_row f 8 y4.2.1) 86 y4.2.2) g) _
                exact g9
              · intro res9 g9
                show am_F _ _ 78 [.ref 0, .int (nI fr_n), .int (nI to_n), .int i, .int y4.1] [] (am_S (am_row (am_row f 8 y4.2.1) 86 y4.2.2) g) _
                refine am_F.ops (pc' := 91) (L' := [.ref 0, .int (nI fr_n), .int (nI to_n), .int i, .int y4.1]) (S' := [.int (y4.1 - 1)]) (μ' := (am_S (am_row (am_row f 8 y4.2.1) 86 y4.2.2) g)) 4 rfl ?_
                exact g9
              show am_F _ _ 91 [.ref 0, .int (nI fr_n), .int (nI to_n), .int i, .int y4.1] [.int (if 0 ≤ i then y4.2.2 i.toNatClampNeg else y4.1 - 1)] (am_S (am_row (am_row f 8 y4.2.1) 86 y4.2.2) g) _
              subst hKd
              exact am_F.eq (am_F.ret rfl rfl) hK
            · show am_F _ _ 71 [.ref 0, .int (nI fr_n), .int (nI to_n), .int i, .int y4.1] [] (am_S (am_row (am_row f 8 y4.2.1) 86 y4.2.2) g) _
              refine am_F.ops (pc' := 73) (L' := [.ref 0, .int (nI fr_n), .int (nI to_n), .int i, .int y4.1]) (S' := [.int (-2)]) (μ' := (am_S (am_row (am_row f 8 y4.2.1) 86 y4.2.2) g)) 1 rfl ?_
              subst hKd
              exact am_F.eq (am_F.ret rfl rfl) hK
      · show am_F _ _ 19 [.ref 0, .int (nI fr_n), .int (nI to_n), .int i, am_un] [] (am_S f g) _
        refine am_F.ops (pc' := 20) (L' := [.ref 0, .int (nI fr_n), .int (nI to_n), .int i, am_un]) (S' := [.int (-1)]) (μ' := (am_S f g)) 1 rfl ?_
        refine am_F.mem (F' := (am_row (am_row f 8 (f 8)) 86 (f 86))) (G' := g) ?_ (by first | rfl | (funext a; by_cases z0 : a = 8; (subst z0; rfl); by_cases z1 : a = 86; (subst z1; rfl); simp only [am_ui, am_ul, am_row_ne z0, am_row_ne z1])) (by first | rfl | (funext a; by_cases z0 : a = 8; (subst z0; rfl); by_cases z1 : a = 86; (subst z1; rfl); simp only [am_ui, am_ul, am_row_ne z0, am_row_ne z1]))
        subst hKd
        exact am_F.eq (am_F.ret rfl rfl) hK
    · show am_F _ _ 19 [.ref 0, .int (nI fr_n), .int to, .int i, am_un] [] (am_S f g) _
      refine am_F.ops (pc' := 20) (L' := [.ref 0, .int (nI fr_n), .int to, .int i, am_un]) (S' := [.int (-1)]) (μ' := (am_S f g)) 1 rfl ?_
      refine am_F.mem (F' := (am_row (am_row f 8 (f 8)) 86 (f 86))) (G' := g) ?_ (by first | rfl | (funext a; by_cases z0 : a = 8; (subst z0; rfl); by_cases z1 : a = 86; (subst z1; rfl); simp only [am_ui, am_ul, am_row_ne z0, am_row_ne z1])) (by first | rfl | (funext a; by_cases z0 : a = 8; (subst z0; rfl); by_cases z1 : a = 86; (subst z1; rfl); simp only [am_ui, am_ul, am_row_ne z0, am_row_ne z1]))
      subst hKd
      exact am_F.eq (am_F.ret rfl rfl) hK
  · show am_F _ _ 19 [.ref 0, .int fr, .int to, .int i, am_un] [] (am_S f g) _
    refine am_F.ops (pc' := 20) (L' := [.ref 0, .int fr, .int to, .int i, am_un]) (S' := [.int (-1)]) (μ' := (am_S f g)) 1 rfl ?_
    refine am_F.mem (F' := (am_row (am_row f 8 (f 8)) 86 (f 86))) (G' := g) ?_ (by first | rfl | (funext a; by_cases z0 : a = 8; (subst z0; rfl); by_cases z1 : a = 86; (subst z1; rfl); simp only [am_ui, am_ul, am_row_ne z0, am_row_ne z1])) (by first | rfl | (funext a; by_cases z0 : a = 8; (subst z0; rfl); by_cases z1 : a = 86; (subst z1; rfl); simp only [am_ui, am_ul, am_row_ne z0, am_row_ne z1]))
    subst hKd
    exact am_F.eq (am_F.ret rfl rfl) hK
/-- AccessLattice.tellLoans -/
def st_tellLoans_7 (f : Nat → Nat → Int32) : Nat → Int32 × Int32 × (Nat → Int32) × (Nat → Int32) × (Nat → Int32) → Int32 × Int32 × (Nat → Int32) × (Nat → Int32) × (Nat → Int32) ⊕ (Int32 × Int32 × (Nat → Int32) × (Nat → Int32) × (Nat → Int32) ⊕ Empty) := fun i7 z => match z with
  | (a7_2, a7_3, r7_83, r7_84, r7_85) => (bif (fn_isLoan a7_3 (am_row (am_row (am_row f 83 r7_83) 84 r7_84) 85 r7_85)) then .inl (f 12 (a7_3.toNatClampNeg), f 17 (a7_3.toNatClampNeg), (fn_groundsAdd 3 a7_3 (am_row (am_row (am_row f 83 r7_83) 84 r7_84) 85 r7_85)).1, (fn_groundsAdd 3 a7_3 (am_row (am_row (am_row f 83 r7_83) 84 r7_84) 85 r7_85)).2.1, (fn_groundsAdd 3 a7_3 (am_row (am_row (am_row f 83 r7_83) 84 r7_84) 85 r7_85)).2.2) else .inr (.inl (a7_2, a7_3, r7_83, r7_84, r7_85)))
def lf_tellLoans_7 (first : Int32) (f : Nat → Nat → Int32) : Int32 × Int32 × (Nat → Int32) × (Nat → Int32) × (Nat → Int32) ⊕ Empty := am_forX (st_tellLoans_7 f) 40 0 ((-1), first, f 83, f 84, f 85)
def fn_tellLoans (first : Int32) (f : Nat → Nat → Int32) : (Nat → Int32) × (Nat → Int32) × (Nat → Int32) := (Sum.elim (fun (z7 : Int32 × Int32 × (Nat → Int32) × (Nat → Int32) × (Nat → Int32)) => ((fn_groundsAdd 4 z7.1 (am_row (am_row (am_row f 83 z7.2.2.1) 84 z7.2.2.2.1) 85 z7.2.2.2.2)).1, (fn_groundsAdd 4 z7.1 (am_row (am_row (am_row f 83 z7.2.2.1) 84 z7.2.2.2.1) 85 z7.2.2.2.2)).2.1, (fn_groundsAdd 4 z7.1 (am_row (am_row (am_row f 83 z7.2.2.1) 84 z7.2.2.2.1) 85 z7.2.2.2.2)).2.2)) (fun (z : Empty) => z.elim) (lf_tellLoans_7 first f))
theorem lp_tellLoans_7 (first : Int32) (f : Nat → Nat → Int32) (g : Nat → Nat → Int64) (hLc : f 11 7 = nI (f 11 7).toNatClampNeg) (hLn : (f 11 7).toNatClampNeg ≤ 40) (hLf : ∀ i, i < (f 11 7).toNatClampNeg → am_inb (f 12 i) 16 = true) (hLt : ∀ i, i < (f 11 7).toNatClampNeg → am_inb (f 13 i) 16 = true) (hLr : ∀ i, i < (f 11 7).toNatClampNeg → am_inb (f 14 i) 20 = true) (res : Option Value × am_M) : ∀ (n i7 : Nat) (a7_2 : Int32) (a7_3 : Int32) (r7_83 : Nat → Int32) (r7_84 : Nat → Int32) (r7_85 : Nat → Int32) , i7 + n = 40 → am_KX (fun (z : Int32 × Int32 × (Nat → Int32) × (Nat → Int32) × (Nat → Int32)) => ∀ (wc : Value), am_F 2 am_k_93 63 [.ref 0, .int first, .int z.1, .int z.2.1, wc] [] (am_S (am_row (am_row (am_row f 83 z.2.2.1) 84 z.2.2.2.1) 85 z.2.2.2.2) g) res) (fun (z : Empty) => True) (am_forX (st_tellLoans_7 f) n i7 (a7_2, a7_3, r7_83, r7_84, r7_85)) → am_F 2 am_k_93 7 [.ref 0, .int first, .int a7_2, .int a7_3, .int (nI i7)] [] (am_S (am_row (am_row (am_row f 83 r7_83) 84 r7_84) 85 r7_85) g) res := by
  intro n
  induction n with
  | zero =>
    intro i7 a7_2 a7_3 r7_83 r7_84 r7_85 hi hK
    refine am_F.pos 3 rfl (by show 40 ≤ nI i7; rw [show (40 : Int32) = nI 40 from rfl]; exact nI_le (by omega) (by omega)) ?_
    exact hK _
  | succ n ih =>
    intro i7 a7_2 a7_3 r7_83 r7_84 r7_85 hi hK
    refine am_F.neg 3 rfl (by show ¬ 40 ≤ nI i7; rw [show (40 : Int32) = nI 40 from rfl]; exact nI_ge (by omega) (by omega)) ?_
    have hb7 : i7 < 40 := by omega
    show am_F _ _ 14 [.ref 0, .int first, .int a7_2, .int a7_3, .int (nI i7)] [] (am_S (am_row (am_row (am_row f 83 r7_83) 84 r7_84) 85 r7_85) g) _
    obtain ⟨K, hKd⟩ : ∃ K : (Int32 × Int32 × (Nat → Int32) × (Nat → Int32) × (Nat → Int32) ⊕ (Int32 × Int32 × (Nat → Int32) × (Nat → Int32) × (Nat → Int32) ⊕ Empty)) → Prop, K = fun s => am_KX (fun (z : Int32 × Int32 × (Nat → Int32) × (Nat → Int32) × (Nat → Int32)) => ∀ (wc : Value), am_F 2 am_k_93 63 [.ref 0, .int first, .int z.1, .int z.2.1, wc] [] (am_S (am_row (am_row (am_row f 83 z.2.2.1) 84 z.2.2.2.1) 85 z.2.2.2.2) g) res) (fun (z : Empty) => True) (am_nxt (fun z => am_forX (st_tellLoans_7 f) n (i7 + 1) z) s) := ⟨_, rfl⟩
    have hK : K ((st_tellLoans_7 f) i7 (a7_2, a7_3, r7_83, r7_84, r7_85)) := by rw [am_forX_s] at hK; rw [hKd]; with_reducible exact hK
    unfold st_tellLoans_7 at hK
    simp only at hK
    refine am_F.ops (pc' := 16) (L' := [.ref 0, .int first, .int a7_2, .int a7_3, .int (nI i7)]) (S' := [.int a7_3, .ref 0]) (μ' := (am_S (am_row (am_row (am_row f 83 r7_83) 84 r7_84) 85 r7_85) g)) 2 rfl ?_
    refine am_F.call rfl rfl (x_isLoan a7_3 (am_row (am_row (am_row f 83 r7_83) 84 r7_84) 85 r7_85) g hLc hLn) (by decide) ?_
    show am_F _ _ 19 [.ref 0, .int first, .int a7_2, .int a7_3, .int (nI i7)] [.int (am_b (fn_isLoan a7_3 (am_row (am_row (am_row f 83 r7_83) 84 r7_84) 85 r7_85)))] (am_S (am_row (am_row (am_row f 83 r7_83) 84 r7_84) 85 r7_85) g) _
    refine am_F.bifK 1 rfl K hK (fun c3 hK => ?_) (fun c3 hK => ?_)
    · obtain ⟨a7_3_n, ha7_3_n, ea7_3_n⟩ := (am_iLoan hLc (by omega) c3)
      subst ea7_3_n
      try simp only [nI_clamp (show a7_3_n < 2147483648 by omega)] at hK
      show am_F _ _ 22 [.ref 0, .int first, .int a7_2, .int (nI a7_3_n), .int (nI i7)] [] (am_S (am_row (am_row (am_row f 83 r7_83) 84 r7_84) 85 r7_85) g) _
      refine am_F.ops (pc' := 28) (L' := [.ref 0, .int first, .int a7_2, .int (nI a7_3_n), .int (nI i7)]) (S' := [.int (nI a7_3_n), .int 3, .ref 83]) (μ' := (am_S (am_row (am_row (am_row f 83 r7_83) 84 r7_84) 85 r7_85) g)) 4 rfl ?_
      refine am_F.call rfl rfl (x_groundsAdd 3 (nI a7_3_n) (am_row (am_row (am_row f 83 r7_83) 84 r7_84) 85 r7_85) g ) (by decide) ?_
      obtain ⟨y4, hy4⟩ : ∃ z, (fn_groundsAdd 3 (nI a7_3_n) (am_row (am_row (am_row f 83 r7_83) 84 r7_84) 85 r7_85)) = z := ⟨_, rfl⟩
      (try rw [hy4] at hK)
      (try rw [hy4])
      refine am_F.mem (F' := (am_row (am_row (am_row f 83 y4.1) 84 y4.2.1) 85 y4.2.2)) (G' := g) ?_ (by first | rfl | (funext a; by_cases z0 : a = 83; (subst z0; rfl); by_cases z1 : a = 84; (subst z1; rfl); by_cases z2 : a = 85; (subst z2; rfl); simp only [am_ui, am_ul, am_row_ne z0, am_row_ne z1, am_row_ne z2])) (by first | rfl | (funext a; by_cases z0 : a = 83; (subst z0; rfl); by_cases z1 : a = 84; (subst z1; rfl); by_cases z2 : a = 85; (subst z2; rfl); simp only [am_ui, am_ul, am_row_ne z0, am_row_ne z1, am_row_ne z2]))
      show am_F _ _ 31 [.ref 0, .int first, .int a7_2, .int (nI a7_3_n), .int (nI i7)] [] (am_S (am_row (am_row (am_row f 83 y4.1) 84 y4.2.1) 85 y4.2.2) g) _
      refine am_F.ops (pc' := 42) (L' := [.ref 0, .int first, .int a7_2, .int (nI a7_3_n), .int (nI i7)]) (S' := [.int (nI a7_3_n), .ref 12]) (μ' := (am_S (am_row (am_row (am_row f 83 y4.1) 84 y4.2.1) 85 y4.2.2) g)) 5 rfl ?_
      refine am_F.ialE (m := a7_3_n) (N := 40) rfl rfl rfl rfl (by omega) (by decide) ?_
      show am_F _ _ 43 [.ref 0, .int first, .int a7_2, .int (nI a7_3_n), .int (nI i7)] [.int (f 12 a7_3_n)] (am_S (am_row (am_row (am_row f 83 y4.1) 84 y4.2.1) 85 y4.2.2) g) _
      refine am_F.ops (pc' := 55) (L' := [.ref 0, .int first, .int (f 12 a7_3_n), .int (nI a7_3_n), .int (nI i7)]) (S' := [.int (nI a7_3_n), .ref 17]) (μ' := (am_S (am_row (am_row (am_row f 83 y4.1) 84 y4.2.1) 85 y4.2.2) g)) 6 rfl ?_
      refine am_F.ialE (m := a7_3_n) (N := 40) rfl rfl rfl rfl (by omega) (by decide) ?_
      show am_F _ _ 56 [.ref 0, .int first, .int (f 12 a7_3_n), .int (nI a7_3_n), .int (nI i7)] [.int (f 17 a7_3_n)] (am_S (am_row (am_row (am_row f 83 y4.1) 84 y4.2.1) 85 y4.2.2) g) _
      refine am_F.ops (pc' := 7) (L' := [.ref 0, .int first, .int (f 12 a7_3_n), .int (f 17 a7_3_n), .int ((nI i7) + 1)]) (S' := []) (μ' := (am_S (am_row (am_row (am_row f 83 y4.1) 84 y4.2.1) 85 y4.2.2) g)) 3 rfl ?_
      rw [nI_1 i7]
      subst hKd
      exact ih (i7 + 1) (f 12 a7_3_n) (f 17 a7_3_n) y4.1 y4.2.1 y4.2.2 (by omega)  hK
    · show am_F _ _ 63 [.ref 0, .int first, .int a7_2, .int a7_3, .int (nI i7)] [] (am_S (am_row (am_row (am_row f 83 r7_83) 84 r7_84) 85 r7_85) g) _
      subst hKd
      exact hK (.int (nI i7))
theorem x_tellLoans (first : Int32) (f : Nat → Nat → Int32) (g : Nat → Nat → Int64) (hLc : f 11 7 = nI (f 11 7).toNatClampNeg) (hLn : (f 11 7).toNatClampNeg ≤ 40) (hLf : ∀ i, i < (f 11 7).toNatClampNeg → am_inb (f 12 i) 16 = true) (hLt : ∀ i, i < (f 11 7).toNatClampNeg → am_inb (f 13 i) 16 = true) (hLr : ∀ i, i < (f 11 7).toNatClampNeg → am_inb (f 14 i) 20 = true) : am_D 2 93 5 [.ref 0, .int first] (am_S f g) ((none : Option Value), am_S (am_row (am_row (am_row f 83 ((fn_tellLoans first f).1)) 84 ((fn_tellLoans first f).2.1)) 85 ((fn_tellLoans first f).2.2)) g) := by
  refine am_D.of (code := am_k_93) rfl (L0 := [.ref 0, .int first, am_un, am_un, am_un]) rfl ?_
  generalize hres : ((none : Option Value), am_S (am_row (am_row (am_row f 83 ((fn_tellLoans first f).1)) 84 ((fn_tellLoans first f).2.1)) 85 ((fn_tellLoans first f).2.2)) g) = res
  obtain ⟨K, hKd⟩ : ∃ K : ((Nat → Int32) × (Nat → Int32) × (Nat → Int32)) → Prop, K = fun z => ((none : Option Value), am_S (am_row (am_row (am_row f 83 z.1) 84 z.2.1) 85 z.2.2) g) = res := ⟨_, rfl⟩
  have hK : K (fn_tellLoans first f) := by rw [hKd]; exact hres
  clear hres
  unfold fn_tellLoans at hK
  refine am_F.ops (pc' := 7) (L' := [.ref 0, .int first, .int (-1), .int first, .int 0]) (S' := []) (μ' := (am_S f g)) 6 rfl ?_
  refine am_F.mem (F' := (am_row (am_row (am_row f 83 (f 83)) 84 (f 84)) 85 (f 85))) (G' := g) ?_ (by first | rfl | (funext a; by_cases z0 : a = 83; (subst z0; rfl); by_cases z1 : a = 84; (subst z1; rfl); by_cases z2 : a = 85; (subst z2; rfl); simp only [am_ui, am_ul, am_row_ne z0, am_row_ne z1, am_row_ne z2])) (by first | rfl | (funext a; by_cases z0 : a = 83; (subst z0; rfl); by_cases z1 : a = 84; (subst z1; rfl); by_cases z2 : a = 85; (subst z2; rfl); simp only [am_ui, am_ul, am_row_ne z0, am_row_ne z1, am_row_ne z2]))
  show am_F _ _ 7 [.ref 0, .int first, .int (-1), .int first, .int (nI 0)] [] (am_S (am_row (am_row (am_row f 83 (f 83)) 84 (f 84)) 85 (f 85)) g) _
  refine lp_tellLoans_7 first f g hLc hLn hLf hLt hLr _ 40 0 (-1) first (f 83) (f 84) (f 85)  (by omega)  ?_
  rw [show am_forX (st_tellLoans_7 f) 40 0 ((-1), first, f 83, f 84, f 85) = (lf_tellLoans_7 first f) from rfl]
  revert hK
  cases (lf_tellLoans_7 first f) with
  | inr z =>
    intro hK
    exact z.elim
  | inl z7 =>
    intro hK wc
    (try simp only [Sum.elim_inl] at hK)
    refine am_F.ops (pc' := 69) (L' := [.ref 0, .int first, .int z7.1, .int z7.2.1, wc]) (S' := [.int z7.1, .int 4, .ref 83]) (μ' := (am_S (am_row (am_row (am_row f 83 z7.2.2.1) 84 z7.2.2.2.1) 85 z7.2.2.2.2) g)) 4 rfl ?_
    refine am_F.call rfl rfl (x_groundsAdd 4 z7.1 (am_row (am_row (am_row f 83 z7.2.2.1) 84 z7.2.2.2.1) 85 z7.2.2.2.2) g ) (by decide) ?_
    obtain ⟨y5, hy5⟩ : ∃ z, (fn_groundsAdd 4 z7.1 (am_row (am_row (am_row f 83 z7.2.2.1) 84 z7.2.2.2.1) 85 z7.2.2.2.2)) = z := ⟨_, rfl⟩
    (try rw [hy5] at hK)
    (try rw [hy5])
    refine am_F.mem (F' := (am_row (am_row (am_row f 83 y5.1) 84 y5.2.1) 85 y5.2.2)) (G' := g) ?_ (by first | rfl | (funext a; by_cases z0 : a = 83; (subst z0; rfl); by_cases z1 : a = 84; (subst z1; rfl); by_cases z2 : a = 85; (subst z2; rfl); simp only [am_ui, am_ul, am_row_ne z0, am_row_ne z1, am_row_ne z2])) (by first | rfl | (funext a; by_cases z0 : a = 83; (subst z0; rfl); by_cases z1 : a = 84; (subst z1; rfl); by_cases z2 : a = 85; (subst z2; rfl); simp only [am_ui, am_ul, am_row_ne z0, am_row_ne z1, am_row_ne z2]))
    show am_F _ _ 72 [.ref 0, .int first, .int z7.1, .int z7.2.1, wc] [] (am_S (am_row (am_row (am_row f 83 y5.1) 84 y5.2.1) 85 y5.2.2) g) _
    subst hKd
    exact am_F.eq (am_F.ret rfl rfl) hK
