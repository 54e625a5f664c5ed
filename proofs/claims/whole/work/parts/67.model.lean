/-! the reference: while loops (wip/whole/n1.py) -/
set_option linter.constructorNameAsVariable false
set_option linter.unusedVariables false
/-- AccessLatticeModel.sees -/
def fn_m_sees (c : Int32) (f : Nat → Nat → Int32) : Bool := (if 0 ≤ (f 88 13) then false else (if (f 88 11) ≤ (f 88 12) then false else (if (f 97 ((f 88 12).toNatClampNeg)) = c then true else false)))
theorem x_m_sees (c : Int32) (f : Nat → Nat → Int32) (g : Nat → Nat → Int64) (hpI : ¬ f 88 11 ≤ f 88 12 → am_inb (f 88 12) 80 = true) : am_D 0 186 2 [.ref 88, .int c] (am_S f g) (some (Value.int (am_b (fn_m_sees c f))), am_S f g) := by
  refine am_D.of (code := am_k_186) rfl (L0 := [.ref 88, .int c]) rfl ?_
  generalize hres : (some (Value.int (am_b (fn_m_sees c f))), am_S f g) = res
  obtain ⟨K, hKd⟩ : ∃ K : Bool → Prop, K = fun z => (some (Value.int (am_b z)), am_S f g) = res := ⟨_, rfl⟩
  have hK : K (fn_m_sees c f) := by rw [hKd]; exact hres
  clear hres
  unfold fn_m_sees at hK
  refine am_F.ops (pc' := 4) (L' := [.ref 88, .int c]) (S' := [.int (f 88 13)]) (μ' := (am_S f g)) 2 rfl ?_
  refine am_F.to (am_To.iteB (pc' := 36) (L2 := [.ref 88, .int c]) (S2 := []) (μ2 := (am_S f g)) (a := false) (b := (if (f 88 11) ≤ (f 88 12) then false else (if (f 97 ((f 88 12).toNatClampNeg)) = c then true else false))) 1 rfl (fun c1 => ?_) (fun c1 => ?_)) ?_
  · intro res9 g9
    show am_F _ _ 35 [.ref 88, .int c] [] (am_S f g) _
    refine am_F.ops (pc' := 36) (L' := [.ref 88, .int c]) (S' := [.int 0]) (μ' := (am_S f g)) 1 rfl ?_
    exact g9
  · intro res9 g9
    show am_F _ _ 7 [.ref 88, .int c] [] (am_S f g) _
    refine am_F.ops (pc' := 15) (L' := [.ref 88, .int c]) (S' := [.int (f 88 11), .int (f 88 12)]) (μ' := (am_S f g)) 4 rfl ?_
    refine am_F.to (am_To.iteB (pc' := 36) (L2 := [.ref 88, .int c]) (S2 := []) (μ2 := (am_S f g)) (a := false) (b := (if (f 97 ((f 88 12).toNatClampNeg)) = c then true else false)) 1 rfl (fun c2 => ?_) (fun c2 => ?_)) g9
    · intro res9 g9
      show am_F _ _ 35 [.ref 88, .int c] [] (am_S f g) _
      refine am_F.ops (pc' := 36) (L' := [.ref 88, .int c]) (S' := [.int 0]) (μ' := (am_S f g)) 1 rfl ?_
      exact g9
    · intro res9 g9
      show am_F _ _ 18 [.ref 88, .int c] [] (am_S f g) _
      refine am_F.ops (pc' := 26) (L' := [.ref 88, .int c]) (S' := [.int (f 88 12), .ref 97]) (μ' := (am_S f g)) 4 rfl ?_
      refine am_F.ial (N := 80) rfl rfl rfl (hpI (by assumption)) ?_
      show am_F _ _ 27 [.ref 88, .int c] [.int (f 97 ((f 88 12).toNatClampNeg))] (am_S f g) _
      refine am_F.ops (pc' := 28) (L' := [.ref 88, .int c]) (S' := [.int c, .int (f 97 ((f 88 12).toNatClampNeg))]) (μ' := (am_S f g)) 1 rfl ?_
      refine am_F.to (am_To.iteB (pc' := 36) (L2 := [.ref 88, .int c]) (S2 := []) (μ2 := (am_S f g)) (a := true) (b := false) 1 rfl (fun c3 => ?_) (fun c3 => ?_)) g9
      · intro res9 g9
        show am_F _ _ 31 [.ref 88, .int c] [] (am_S f g) _
        refine am_F.ops (pc' := 36) (L' := [.ref 88, .int c]) (S' := [.int 1]) (μ' := (am_S f g)) 2 rfl ?_
        exact g9
      · intro res9 g9
        show am_F _ _ 35 [.ref 88, .int c] [] (am_S f g) _
        refine am_F.ops (pc' := 36) (L' := [.ref 88, .int c]) (S' := [.int 0]) (μ' := (am_S f g)) 1 rfl ?_
        exact g9
  show am_F _ _ 36 [.ref 88, .int c] [.int (am_b (if 0 ≤ (f 88 13) then false else (if (f 88 11) ≤ (f 88 12) then false else (if (f 97 ((f 88 12).toNatClampNeg)) = c then true else false))))] (am_S f g) _
  subst hKd
  exact am_F.eq (am_F.ret rfl (am_retB _ _)) hK
/-- AccessLatticeModel.seesDigit -/
def fn_m_seesDigit (f : Nat → Nat → Int32) : Bool := (if 0 ≤ (f 88 13) then false else (if (f 88 11) ≤ (f 88 12) then false else (bif (fn_m_isIn (f 97 ((f 88 12).toNatClampNeg)) 48 57) then true else false)))
theorem x_m_seesDigit (f : Nat → Nat → Int32) (g : Nat → Nat → Int64) (hpI : ¬ f 88 11 ≤ f 88 12 → am_inb (f 88 12) 80 = true) : am_D 1 181 1 [.ref 88] (am_S f g) (some (Value.int (am_b (fn_m_seesDigit f))), am_S f g) := by
  refine am_D.of (code := am_k_181) rfl (L0 := [.ref 88]) rfl ?_
  generalize hres : (some (Value.int (am_b (fn_m_seesDigit f))), am_S f g) = res
  obtain ⟨K, hKd⟩ : ∃ K : Bool → Prop, K = fun z => (some (Value.int (am_b z)), am_S f g) = res := ⟨_, rfl⟩
  have hK : K (fn_m_seesDigit f) := by rw [hKd]; exact hres
  clear hres
  unfold fn_m_seesDigit at hK
  refine am_F.ops (pc' := 4) (L' := [.ref 88]) (S' := [.int (f 88 13)]) (μ' := (am_S f g)) 2 rfl ?_
  refine am_F.to (am_To.iteB (pc' := 42) (L2 := [.ref 88]) (S2 := []) (μ2 := (am_S f g)) (a := false) (b := (if (f 88 11) ≤ (f 88 12) then false else (bif (fn_m_isIn (f 97 ((f 88 12).toNatClampNeg)) 48 57) then true else false))) 1 rfl (fun c1 => ?_) (fun c1 => ?_)) ?_
  · intro res9 g9
    show am_F _ _ 41 [.ref 88] [] (am_S f g) _
    refine am_F.ops (pc' := 42) (L' := [.ref 88]) (S' := [.int 0]) (μ' := (am_S f g)) 1 rfl ?_
    exact g9
  · intro res9 g9
    show am_F _ _ 7 [.ref 88] [] (am_S f g) _
    refine am_F.ops (pc' := 15) (L' := [.ref 88]) (S' := [.int (f 88 11), .int (f 88 12)]) (μ' := (am_S f g)) 4 rfl ?_
    refine am_F.to (am_To.iteB (pc' := 42) (L2 := [.ref 88]) (S2 := []) (μ2 := (am_S f g)) (a := false) (b := (bif (fn_m_isIn (f 97 ((f 88 12).toNatClampNeg)) 48 57) then true else false)) 1 rfl (fun c2 => ?_) (fun c2 => ?_)) g9
    · intro res9 g9
      show am_F _ _ 41 [.ref 88] [] (am_S f g) _
      refine am_F.ops (pc' := 42) (L' := [.ref 88]) (S' := [.int 0]) (μ' := (am_S f g)) 1 rfl ?_
      exact g9
    · intro res9 g9
      show am_F _ _ 18 [.ref 88] [] (am_S f g) _
      refine am_F.ops (pc' := 26) (L' := [.ref 88]) (S' := [.int (f 88 12), .ref 97]) (μ' := (am_S f g)) 4 rfl ?_
      refine am_F.ial (N := 80) rfl rfl rfl (hpI (by assumption)) ?_
      show am_F _ _ 27 [.ref 88] [.int (f 97 ((f 88 12).toNatClampNeg))] (am_S f g) _
      refine am_F.ops (pc' := 31) (L' := [.ref 88]) (S' := [.int 57, .int 48, .int (f 97 ((f 88 12).toNatClampNeg))]) (μ' := (am_S f g)) 2 rfl ?_
      refine am_F.call rfl rfl (x_m_isIn (f 97 ((f 88 12).toNatClampNeg)) 48 57 f g ) (by decide) ?_
      show am_F _ _ 34 [.ref 88] [.int (am_b (fn_m_isIn (f 97 ((f 88 12).toNatClampNeg)) 48 57))] (am_S f g) _
      refine am_F.to (am_To.bifB (pc' := 42) (L2 := [.ref 88]) (S2 := []) (μ2 := (am_S f g)) (a := true) (b := false) 1 rfl (fun c3 => ?_) (fun c3 => ?_)) g9
      · intro res9 g9
        show am_F _ _ 37 [.ref 88] [] (am_S f g) _
        refine am_F.ops (pc' := 42) (L' := [.ref 88]) (S' := [.int 1]) (μ' := (am_S f g)) 2 rfl ?_
        exact g9
      · intro res9 g9
        show am_F _ _ 41 [.ref 88] [] (am_S f g) _
        refine am_F.ops (pc' := 42) (L' := [.ref 88]) (S' := [.int 0]) (μ' := (am_S f g)) 1 rfl ?_
        exact g9
  show am_F _ _ 42 [.ref 88] [.int (am_b (if 0 ≤ (f 88 13) then false else (if (f 88 11) ≤ (f 88 12) then false else (bif (fn_m_isIn (f 97 ((f 88 12).toNatClampNeg)) 48 57) then true else false))))] (am_S f g) _
  subst hKd
  exact am_F.eq (am_F.ret rfl (am_retB _ _)) hK
/-- AccessLatticeModel.takes -/
def fn_m_takes (c : Int32) (f : Nat → Nat → Int32) : (Nat → Int32) := (bif (fn_m_sees c f) then upd (f 88) 12 ((f 88 12) + 1) else (fn_m_fails (f 88 12) f))
theorem x_m_takes (c : Int32) (f : Nat → Nat → Int32) (g : Nat → Nat → Int64) (hpI : ¬ f 88 11 ≤ f 88 12 → am_inb (f 88 12) 80 = true) : am_D 1 185 2 [.ref 88, .int c] (am_S f g) ((none : Option Value), am_S (am_row f 88 (fn_m_takes c f)) g) := by
  refine am_D.of (code := am_k_185) rfl (L0 := [.ref 88, .int c]) rfl ?_
  generalize hres : ((none : Option Value), am_S (am_row f 88 (fn_m_takes c f)) g) = res
  obtain ⟨K, hKd⟩ : ∃ K : (Nat → Int32) → Prop, K = fun z => ((none : Option Value), am_S (am_row f 88 z) g) = res := ⟨_, rfl⟩
  have hK : K (fn_m_takes c f) := by rw [hKd]; exact hres
  clear hres
  unfold fn_m_takes at hK
  refine am_F.ops (pc' := 2) (L' := [.ref 88, .int c]) (S' := [.int c, .ref 88]) (μ' := (am_S f g)) 2 rfl ?_
  refine am_F.call rfl rfl (x_m_sees c f g hpI) (by decide) ?_
  show am_F _ _ 5 [.ref 88, .int c] [.int (am_b (fn_m_sees c f))] (am_S f g) _
  refine am_F.bifK 1 rfl K hK (fun c2 hK => ?_) (fun c2 hK => ?_)
  · show am_F _ _ 8 [.ref 88, .int c] [] (am_S f g) _
    refine am_F.ops (pc' := 15) (L' := [.ref 88, .int c]) (S' := [.int ((f 88 12) + 1), .ref 88]) (μ' := (am_S f g)) 5 rfl ?_
    refine am_F.pfi (F' := (am_row f 88 (upd (f 88) 12 ((f 88 12) + 1)))) rfl rfl (by first | rfl | (funext a; by_cases z0 : a = 88; (subst z0; rfl); simp only [am_ui, am_ul, am_row_ne z0])) ?_
    refine am_F.ops (pc' := 29) (L' := [.ref 88, .int c]) (S' := []) (μ' := (am_S (am_row f 88 (upd (f 88) 12 ((f 88 12) + 1))) g)) 1 rfl ?_
    subst hKd
    exact am_F.eq (am_F.ret rfl rfl) hK
  · show am_F _ _ 21 [.ref 88, .int c] [] (am_S f g) _
    refine am_F.ops (pc' := 26) (L' := [.ref 88, .int c]) (S' := [.int (f 88 12), .ref 88]) (μ' := (am_S f g)) 3 rfl ?_
    refine am_F.call rfl rfl (x_m_fails (f 88 12) f g ) (by decide) ?_
    obtain ⟨y3, hy3⟩ : ∃ z, (fn_m_fails (f 88 12) f) = z := ⟨_, rfl⟩
    (try rw [hy3] at hK)
    (try rw [hy3])
    refine am_F.mem (F' := (am_row f 88 y3)) (G' := g) ?_ (by first | rfl | (funext a; by_cases z0 : a = 88; (subst z0; rfl); simp only [am_ui, am_ul, am_row_ne z0])) (by first | rfl | (funext a; by_cases z0 : a = 88; (subst z0; rfl); simp only [am_ui, am_ul, am_row_ne z0]))
    show am_F _ _ 29 [.ref 88, .int c] [] (am_S (am_row f 88 y3) g) _
    subst hKd
    exact am_F.eq (am_F.ret rfl rfl) hK
/-- AccessLatticeModel.puts -/
def fn_m_puts (m : Int32) (f : Nat → Nat → Int32) : (Nat → Int32) × (Nat → Int32) := (upd (f 88) 15 ((f 88 15) + 1), upd (f 98) ((f 88 15).toNatClampNeg) m)
theorem x_m_puts (m : Int32) (f : Nat → Nat → Int32) (g : Nat → Nat → Int64) (huI : am_inb (f 88 15) 81 = true) : am_D 0 184 2 [.ref 88, .int m] (am_S f g) ((none : Option Value), am_S (am_row (am_row f 88 ((fn_m_puts m f).1)) 98 ((fn_m_puts m f).2)) g) := by
  refine am_D.of (code := am_k_184) rfl (L0 := [.ref 88, .int m]) rfl ?_
  generalize hres : ((none : Option Value), am_S (am_row (am_row f 88 ((fn_m_puts m f).1)) 98 ((fn_m_puts m f).2)) g) = res
  obtain ⟨K, hKd⟩ : ∃ K : ((Nat → Int32) × (Nat → Int32)) → Prop, K = fun z => ((none : Option Value), am_S (am_row (am_row f 88 z.1) 98 z.2) g) = res := ⟨_, rfl⟩
  have hK : K (fn_m_puts m f) := by rw [hKd]; exact hres
  clear hres
  unfold fn_m_puts at hK
  refine am_F.ops (pc' := 9) (L' := [.ref 88, .int m]) (S' := [.int m, .int (f 88 15), .ref 98]) (μ' := (am_S f g)) 5 rfl ?_
  refine am_F.ias (F' := (am_row f 98 (upd (f 98) ((f 88 15).toNatClampNeg) m))) (N := 81) rfl rfl rfl (by assumption) (by first | rfl | (funext a; by_cases z0 : a = 98; (subst z0; rfl); simp only [am_ui, am_ul, am_row_ne z0])) ?_
  refine am_F.ops (pc' := 17) (L' := [.ref 88, .int m]) (S' := [.int ((f 88 15) + 1), .ref 88]) (μ' := (am_S (am_row f 98 (upd (f 98) ((f 88 15).toNatClampNeg) m)) g)) 5 rfl ?_
  refine am_F.pfi (F' := (am_row (am_row f 88 (upd (f 88) 15 ((f 88 15) + 1))) 98 (upd (f 98) ((f 88 15).toNatClampNeg) m))) rfl rfl (by first | rfl | (funext a; by_cases z0 : a = 88; (subst z0; rfl); by_cases z1 : a = 98; (subst z1; rfl); simp only [am_ui, am_ul, am_row_ne z0, am_row_ne z1])) ?_
  subst hKd
  exact am_F.eq (am_F.ret rfl rfl) hK
/-- AccessLatticeModel.lattice, with checks -/
def st_m_lattice_2 (f : Nat → Nat → Int32) : Nat → (Nat → Int32) → (Nat → Int32) := fun i2 r2_92 => (upd r2_92 i2 (((1 : Int32) <<< ((nI i2) &&& 31)) ||| (f 89 (144 + i2))))
def lf_m_lattice_2 (f : Nat → Nat → Int32) : (Nat → Int32) := am_for (st_m_lattice_2 f) 20 0 (f 92)
def st_m_lattice_60 (i44 : Nat) (r44_92 : Nat → Int32) : Nat → Int32 → Int32 := fun i60 a60_3 => (a60_3 ||| (bif (fn_m_has (r44_92 i44) (nI i60)) then r44_92 i60 else 0))
def lf_m_lattice_60 (i44 : Nat) (r44_92 : Nat → Int32) : Int32 := am_for (st_m_lattice_60 i44 r44_92) 20 0 (r44_92 i44)
def st_m_lattice_44  : Nat → Int32 × (Nat → Int32) → Int32 × (Nat → Int32) := fun i44 z => match z with
  | (a44_1, r44_92) => (a44_1 ||| (am_b (if (lf_m_lattice_60 i44 r44_92) = (r44_92 i44) then false else true)), upd r44_92 i44 (lf_m_lattice_60 i44 r44_92))
def lf_m_lattice_44 (r36_92 : Nat → Int32) : Int32 × (Nat → Int32) := am_for st_m_lattice_44 20 0 (0, r36_92)
noncomputable def st_m_lattice_36  : Int32 × (Nat → Int32) → Option (Int32 × (Nat → Int32) ⊕ (Int32 × (Nat → Int32) ⊕ Empty)) := fun z => match z with
  | (a36_1, r36_92) => (if a36_1 = 0 then (some (.inr (.inl (a36_1, r36_92)))) else (some (.inl ((lf_m_lattice_44 r36_92).1, (lf_m_lattice_44 r36_92).2))))
noncomputable def lf_m_lattice_36 (z2_1 : (Nat → Int32)) : Option (Int32 × (Nat → Int32) ⊕ Empty) := am_while st_m_lattice_36 (1, z2_1)
noncomputable def fn_m_lattice (f : Nat → Nat → Int32) : Option ((Nat → Int32)) := (am_ob (lf_m_lattice_36 (lf_m_lattice_2 f)) (fun zz => Sum.elim (fun (z36 : Int32 × (Nat → Int32)) => (some z36.2)) (fun (z : Empty) => z.elim) zz))
theorem lp_m_lattice_2 (f : Nat → Nat → Int32) (g : Nat → Nat → Int64)  (res : Option Value × am_M) : ∀ (n i2 : Nat) (r2_92 : Nat → Int32) , i2 + n = 20 → (fun (z : (Nat → Int32)) => ∀ (wc2 : Value), am_F 1 am_k_144 34 [.ref 88, wc2, am_un, am_un, am_un] [] (am_S (am_row f 92 z) g) res) (am_for (st_m_lattice_2 f) n i2 r2_92) → am_F 1 am_k_144 2 [.ref 88, .int (nI i2), am_un, am_un, am_un] [] (am_S (am_row f 92 r2_92) g) res := by
  intro n
  induction n with
  | zero =>
    intro i2 r2_92 hi hK
    refine am_F.pos 3 rfl (by show 20 ≤ nI i2; rw [show (20 : Int32) = nI 20 from rfl]; exact nI_le (by omega) (by omega)) ?_
    exact hK _
  | succ n ih =>
    intro i2 r2_92 hi hK
    refine am_F.neg 3 rfl (by show ¬ 20 ≤ nI i2; rw [show (20 : Int32) = nI 20 from rfl]; exact nI_ge (by omega) (by omega)) ?_
    have hb2 : i2 < 20 := by omega
    show am_F _ _ 8 [.ref 88, .int (nI i2), am_un, am_un, am_un] [] (am_S (am_row f 92 r2_92) g) _
    obtain ⟨K, hKd⟩ : ∃ K : ((Nat → Int32)) → Prop, K = fun s => (fun (z : (Nat → Int32)) => ∀ (wc2 : Value), am_F 1 am_k_144 34 [.ref 88, wc2, am_un, am_un, am_un] [] (am_S (am_row f 92 z) g) res) (am_for (st_m_lattice_2 f) n (i2 + 1) s) := ⟨_, rfl⟩
    have hK : K ((st_m_lattice_2 f) i2 r2_92) := by rw [hKd]; exact hK
    unfold st_m_lattice_2 at hK
    refine am_F.ops (pc' := 25) (L' := [.ref 88, .int (nI i2), am_un, am_un, am_un]) (S' := [.int (144 + (nI i2)), .ref 89, .int ((1 : Int32) <<< ((nI i2) &&& 31)), .int (nI i2), .ref 92]) (μ' := (am_S (am_row f 92 r2_92) g)) 11 rfl ?_
    refine am_F.ialE (m := (144 + i2)) (N := 3340) rfl rfl rfl (am_addE rfl rfl) (by omega) (by decide) ?_
    show am_F _ _ 26 [.ref 88, .int (nI i2), am_un, am_un, am_un] [.int (f 89 (144 + i2)), .int ((1 : Int32) <<< ((nI i2) &&& 31)), .int (nI i2), .ref 92] (am_S (am_row f 92 r2_92) g) _
    refine am_F.ops (pc' := 27) (L' := [.ref 88, .int (nI i2), am_un, am_un, am_un]) (S' := [.int (((1 : Int32) <<< ((nI i2) &&& 31)) ||| (f 89 (144 + i2))), .int (nI i2), .ref 92]) (μ' := (am_S (am_row f 92 r2_92) g)) 1 rfl ?_
    refine am_F.iasE (F' := (am_row f 92 (upd r2_92 i2 (((1 : Int32) <<< ((nI i2) &&& 31)) ||| (f 89 (144 + i2)))))) (m := i2) (N := 20) rfl rfl rfl rfl (by omega) (by decide) (by first | rfl | (funext a; by_cases z0 : a = 92; (subst z0; rfl); simp only [am_ui, am_ul, am_row_ne z0])) ?_
    refine am_F.ops (pc' := 2) (L' := [.ref 88, .int ((nI i2) + 1), am_un, am_un, am_un]) (S' := []) (μ' := (am_S (am_row f 92 (upd r2_92 i2 (((1 : Int32) <<< ((nI i2) &&& 31)) ||| (f 89 (144 + i2))))) g)) 2 rfl ?_
    rw [nI_1 i2]
    subst hKd
    exact ih (i2 + 1) (upd r2_92 i2 (((1 : Int32) <<< ((nI i2) &&& 31)) ||| (f 89 (144 + i2)))) (by omega)  hK
theorem lp_m_lattice_60 (f : Nat → Nat → Int32) (g : Nat → Nat → Int64) (z2_1 : (Nat → Int32)) (wc2 : Value) (a36_1 : Int32) (r36_92 : Nat → Int32) (i44 : Nat) (a44_1 : Int32) (r44_92 : Nat → Int32) (hb44 : i44 < 20) (res : Option Value × am_M) : ∀ (n i60 : Nat) (a60_3 : Int32) , i60 + n = 20 → (fun (z : Int32) => ∀ (wc60 : Value), am_F 1 am_k_144 101 [.ref 88, .int a44_1, .int (nI i44), .int z, wc60] [] (am_S (am_row f 92 r44_92) g) res) (am_for (st_m_lattice_60 i44 r44_92) n i60 a60_3) → am_F 1 am_k_144 60 [.ref 88, .int a44_1, .int (nI i44), .int a60_3, .int (nI i60)] [] (am_S (am_row f 92 r44_92) g) res := by
  intro n
  induction n with
  | zero =>
    intro i60 a60_3 hi hK
    refine am_F.pos 3 rfl (by show 20 ≤ nI i60; rw [show (20 : Int32) = nI 20 from rfl]; exact nI_le (by omega) (by omega)) ?_
    exact hK _
  | succ n ih =>
    intro i60 a60_3 hi hK
    refine am_F.neg 3 rfl (by show ¬ 20 ≤ nI i60; rw [show (20 : Int32) = nI 20 from rfl]; exact nI_ge (by omega) (by omega)) ?_
    have hb60 : i60 < 20 := by omega
    show am_F _ _ 67 [.ref 88, .int a44_1, .int (nI i44), .int a60_3, .int (nI i60)] [] (am_S (am_row f 92 r44_92) g) _
    obtain ⟨K, hKd⟩ : ∃ K : (Int32) → Prop, K = fun s => (fun (z : Int32) => ∀ (wc60 : Value), am_F 1 am_k_144 101 [.ref 88, .int a44_1, .int (nI i44), .int z, wc60] [] (am_S (am_row f 92 r44_92) g) res) (am_for (st_m_lattice_60 i44 r44_92) n (i60 + 1) s) := ⟨_, rfl⟩
    have hK : K ((st_m_lattice_60 i44 r44_92) i60 a60_3) := by rw [hKd]; exact hK
    unfold st_m_lattice_60 at hK
    refine am_F.ops (pc' := 73) (L' := [.ref 88, .int a44_1, .int (nI i44), .int a60_3, .int (nI i60)]) (S' := [.int (nI i44), .ref 92, .int a60_3]) (μ' := (am_S (am_row f 92 r44_92) g)) 4 rfl ?_
    refine am_F.ialE (m := i44) (N := 20) rfl rfl rfl rfl (by omega) (by decide) ?_
    show am_F _ _ 74 [.ref 88, .int a44_1, .int (nI i44), .int a60_3, .int (nI i60)] [.int (r44_92 i44), .int a60_3] (am_S (am_row f 92 r44_92) g) _
    refine am_F.ops (pc' := 76) (L' := [.ref 88, .int a44_1, .int (nI i44), .int a60_3, .int (nI i60)]) (S' := [.int (nI i60), .int (r44_92 i44), .int a60_3]) (μ' := (am_S (am_row f 92 r44_92) g)) 1 rfl ?_
    refine am_F.call rfl rfl (x_m_has (r44_92 i44) (nI i60) (am_row f 92 r44_92) g ) (by first | decide | omega) ?_
    show am_F _ _ 79 [.ref 88, .int a44_1, .int (nI i44), .int a60_3, .int (nI i60)] [.int (am_b (fn_m_has (r44_92 i44) (nI i60))), .int a60_3] (am_S (am_row f 92 r44_92) g) _
    refine am_F.to (am_To.bif (pc' := 93) (L2 := [.ref 88, .int a44_1, .int (nI i44), .int a60_3, .int (nI i60)]) (S2 := [.int a60_3]) (μ2 := (am_S (am_row f 92 r44_92) g)) (a := r44_92 i60) (b := 0) 1 rfl (fun c18 => ?_) (fun c18 => ?_)) ?_
    · intro res9 g9
      show am_F _ _ 82 [.ref 88, .int a44_1, .int (nI i44), .int a60_3, .int (nI i60)] [.int a60_3] (am_S (am_row f 92 r44_92) g) _
      refine am_F.ops (pc' := 88) (L' := [.ref 88, .int a44_1, .int (nI i44), .int a60_3, .int (nI i60)]) (S' := [.int (nI i60), .ref 92, .int a60_3]) (μ' := (am_S (am_row f 92 r44_92) g)) 3 rfl ?_
      refine am_F.ialE (m := i60) (N := 20) rfl rfl rfl rfl (by omega) (by decide) ?_
      show am_F _ _ 89 [.ref 88, .int a44_1, .int (nI i44), .int a60_3, .int (nI i60)] [.int (r44_92 i60), .int a60_3] (am_S (am_row f 92 r44_92) g) _
      refine am_F.ops (pc' := 93) (L' := [.ref 88, .int a44_1, .int (nI i44), .int a60_3, .int (nI i60)]) (S' := [.int (r44_92 i60), .int a60_3]) (μ' := (am_S (am_row f 92 r44_92) g)) 1 rfl ?_
      exact g9
    · intro res9 g9
      show am_F _ _ 92 [.ref 88, .int a44_1, .int (nI i44), .int a60_3, .int (nI i60)] [.int a60_3] (am_S (am_row f 92 r44_92) g) _
      refine am_F.ops (pc' := 93) (L' := [.ref 88, .int a44_1, .int (nI i44), .int a60_3, .int (nI i60)]) (S' := [.int 0, .int a60_3]) (μ' := (am_S (am_row f 92 r44_92) g)) 1 rfl ?_
      exact g9
    show am_F _ _ 93 [.ref 88, .int a44_1, .int (nI i44), .int a60_3, .int (nI i60)] [.int (bif (fn_m_has (r44_92 i44) (nI i60)) then r44_92 i60 else 0), .int a60_3] (am_S (am_row f 92 r44_92) g) _
    refine am_F.ops (pc' := 60) (L' := [.ref 88, .int a44_1, .int (nI i44), .int (a60_3 ||| (bif (fn_m_has (r44_92 i44) (nI i60)) then r44_92 i60 else 0)), .int ((nI i60) + 1)]) (S' := []) (μ' := (am_S (am_row f 92 r44_92) g)) 4 rfl ?_
    rw [nI_1 i60]
    subst hKd
    exact ih (i60 + 1) (a60_3 ||| (bif (fn_m_has (r44_92 i44) (nI i60)) then r44_92 i60 else 0)) (by omega)  hK
theorem lp_m_lattice_44 (f : Nat → Nat → Int32) (g : Nat → Nat → Int64) (z2_1 : (Nat → Int32)) (wc2 : Value) (a36_1 : Int32) (r36_92 : Nat → Int32)  (res : Option Value × am_M) : ∀ (n i44 : Nat) (a44_1 : Int32) (r44_92 : Nat → Int32) (w44_3 : Value) (w44_4 : Value), i44 + n = 20 → (fun (z : Int32 × (Nat → Int32)) => ∀ (wc44 : Value) (w44_3 : Value) (w44_4 : Value), am_F 1 am_k_144 132 [.ref 88, .int z.1, wc44, w44_3, w44_4] [] (am_S (am_row f 92 z.2) g) res) (am_for st_m_lattice_44 n i44 (a44_1, r44_92)) → am_F 1 am_k_144 44 [.ref 88, .int a44_1, .int (nI i44), w44_3, w44_4] [] (am_S (am_row f 92 r44_92) g) res := by
  intro n
  induction n with
  | zero =>
    intro i44 a44_1 r44_92 w44_3 w44_4 hi hK
    refine am_F.pos 3 rfl (by show 20 ≤ nI i44; rw [show (20 : Int32) = nI 20 from rfl]; exact nI_le (by omega) (by omega)) ?_
    exact hK _ _ _
  | succ n ih =>
    intro i44 a44_1 r44_92 w44_3 w44_4 hi hK
    refine am_F.neg 3 rfl (by show ¬ 20 ≤ nI i44; rw [show (20 : Int32) = nI 20 from rfl]; exact nI_ge (by omega) (by omega)) ?_
    have hb44 : i44 < 20 := by omega
    show am_F _ _ 50 [.ref 88, .int a44_1, .int (nI i44), w44_3, w44_4] [] (am_S (am_row f 92 r44_92) g) _
    obtain ⟨K, hKd⟩ : ∃ K : (Int32 × (Nat → Int32)) → Prop, K = fun s => (fun (z : Int32 × (Nat → Int32)) => ∀ (wc44 : Value) (w44_3 : Value) (w44_4 : Value), am_F 1 am_k_144 132 [.ref 88, .int z.1, wc44, w44_3, w44_4] [] (am_S (am_row f 92 z.2) g) res) (am_for st_m_lattice_44 n (i44 + 1) s) := ⟨_, rfl⟩
    have hK : K (st_m_lattice_44 i44 (a44_1, r44_92)) := by rw [hKd]; exact hK
    unfold st_m_lattice_44 at hK
    simp only at hK
    refine am_F.ops (pc' := 55) (L' := [.ref 88, .int a44_1, .int (nI i44), w44_3, w44_4]) (S' := [.int (nI i44), .ref 92]) (μ' := (am_S (am_row f 92 r44_92) g)) 3 rfl ?_
    refine am_F.ialE (m := i44) (N := 20) rfl rfl rfl rfl (by omega) (by decide) ?_
    show am_F _ _ 56 [.ref 88, .int a44_1, .int (nI i44), w44_3, w44_4] [.int (r44_92 i44)] (am_S (am_row f 92 r44_92) g) _
    refine am_F.ops (pc' := 60) (L' := [.ref 88, .int a44_1, .int (nI i44), .int (r44_92 i44), .int 0]) (S' := []) (μ' := (am_S (am_row f 92 r44_92) g)) 3 rfl ?_
    show am_F _ _ 60 [.ref 88, .int a44_1, .int (nI i44), .int (r44_92 i44), .int (nI 0)] [] (am_S (am_row f 92 r44_92) g) _
    refine lp_m_lattice_60 f g z2_1 wc2 a36_1 r36_92 i44 a44_1 r44_92 hb44 _ 20 0 (r44_92 i44)  (by omega)  ?_
    rw [show am_for (st_m_lattice_60 i44 r44_92) 20 0 (r44_92 i44) = (lf_m_lattice_60 i44 r44_92) from rfl]
    generalize (lf_m_lattice_60 i44 r44_92) = z60_19 at hK ⊢
    intro wc60
    show am_F _ _ 101 [.ref 88, .int a44_1, .int (nI i44), .int z60_19, wc60] [] (am_S (am_row f 92 r44_92) g) _
    refine am_F.ops (pc' := 108) (L' := [.ref 88, .int a44_1, .int (nI i44), .int z60_19, wc60]) (S' := [.int (nI i44), .ref 92, .int z60_19, .int a44_1]) (μ' := (am_S (am_row f 92 r44_92) g)) 5 rfl ?_
    refine am_F.ialE (m := i44) (N := 20) rfl rfl rfl rfl (by omega) (by decide) ?_
    show am_F _ _ 109 [.ref 88, .int a44_1, .int (nI i44), .int z60_19, wc60] [.int (r44_92 i44), .int z60_19, .int a44_1] (am_S (am_row f 92 r44_92) g) _
    refine am_F.to (am_To.iteB (pc' := 117) (L2 := [.ref 88, .int a44_1, .int (nI i44), .int z60_19, wc60]) (S2 := [.int a44_1]) (μ2 := (am_S (am_row f 92 r44_92) g)) (a := false) (b := true) 1 rfl (fun c20 => ?_) (fun c20 => ?_)) ?_
    · intro res9 g9
      show am_F _ _ 116 [.ref 88, .int a44_1, .int (nI i44), .int z60_19, wc60] [.int a44_1] (am_S (am_row f 92 r44_92) g) _
      refine am_F.ops (pc' := 117) (L' := [.ref 88, .int a44_1, .int (nI i44), .int z60_19, wc60]) (S' := [.int 0, .int a44_1]) (μ' := (am_S (am_row f 92 r44_92) g)) 1 rfl ?_
      exact g9
    · intro res9 g9
      show am_F _ _ 112 [.ref 88, .int a44_1, .int (nI i44), .int z60_19, wc60] [.int a44_1] (am_S (am_row f 92 r44_92) g) _
      refine am_F.ops (pc' := 117) (L' := [.ref 88, .int a44_1, .int (nI i44), .int z60_19, wc60]) (S' := [.int 1, .int a44_1]) (μ' := (am_S (am_row f 92 r44_92) g)) 2 rfl ?_
      exact g9
    show am_F _ _ 117 [.ref 88, .int a44_1, .int (nI i44), .int z60_19, wc60] [.int (am_b (if z60_19 = (r44_92 i44) then false else true)), .int a44_1] (am_S (am_row f 92 r44_92) g) _
    refine am_F.ops (pc' := 125) (L' := [.ref 88, .int (a44_1 ||| (am_b (if z60_19 = (r44_92 i44) then false else true))), .int (nI i44), .int z60_19, wc60]) (S' := [.int z60_19, .int (nI i44), .ref 92]) (μ' := (am_S (am_row f 92 r44_92) g)) 6 rfl ?_
    refine am_F.iasE (F' := (am_row f 92 (upd r44_92 i44 z60_19))) (m := i44) (N := 20) rfl rfl rfl rfl (by omega) (by decide) (by first | rfl | (funext a; by_cases z0 : a = 92; (subst z0; rfl); simp only [am_ui, am_ul, am_row_ne z0])) ?_
    refine am_F.ops (pc' := 44) (L' := [.ref 88, .int (a44_1 ||| (am_b (if z60_19 = (r44_92 i44) then false else true))), .int ((nI i44) + 1), .int z60_19, wc60]) (S' := []) (μ' := (am_S (am_row f 92 (upd r44_92 i44 z60_19)) g)) 2 rfl ?_
    rw [nI_1 i44]
    subst hKd
    exact ih (i44 + 1) (a44_1 ||| (am_b (if z60_19 = (r44_92 i44) then false else true))) (upd r44_92 i44 z60_19) (.int z60_19) wc60 (by omega)  hK
theorem lp_m_lattice_36 (f : Nat → Nat → Int32) (g : Nat → Nat → Int64) (z2_1 : (Nat → Int32)) (wc2 : Value)  (res : Option Value × am_M) : ∀ (n : Nat) (a36_1 : Int32) (r36_92 : Nat → Int32) (w36_2 : Value) (w36_3 : Value) (w36_4 : Value), am_KO (am_KX (fun (z : Int32 × (Nat → Int32)) => ∀ (w36_2 : Value) (w36_3 : Value) (w36_4 : Value), am_F 1 am_k_144 135 [.ref 88, .int z.1, w36_2, w36_3, w36_4] [] (am_S (am_row f 92 z.2) g) res) (fun (z : Empty) => True)) (am_wh st_m_lattice_36 n (a36_1, r36_92)) → am_F 1 am_k_144 36 [.ref 88, .int a36_1, w36_2, w36_3, w36_4] [] (am_S (am_row f 92 r36_92) g) res := by
  intro n
  induction n with
  | zero =>
    intro a36_1 r36_92 w36_2 w36_3 w36_4 hK
    exact False.elim hK
  | succ n ih =>
    intro a36_1 r36_92 w36_2 w36_3 w36_4 hK
    obtain ⟨K, hKd⟩ : ∃ K : Option (Int32 × (Nat → Int32) ⊕ (Int32 × (Nat → Int32) ⊕ Empty)) → Prop, K = fun s => am_KO (am_KX (fun (z : Int32 × (Nat → Int32)) => ∀ (w36_2 : Value) (w36_3 : Value) (w36_4 : Value), am_F 1 am_k_144 135 [.ref 88, .int z.1, w36_2, w36_3, w36_4] [] (am_S (am_row f 92 z.2) g) res) (fun (z : Empty) => True)) (am_whn (am_wh st_m_lattice_36 n) s) := ⟨_, rfl⟩
    have hK : K (st_m_lattice_36 (a36_1, r36_92)) := by rw [am_wh_s] at hK; rw [hKd]; with_reducible exact hK
    have hKn : ¬ K none := by rw [hKd]; exact id
    unfold st_m_lattice_36 at hK
    simp only at hK
    refine am_F.ops (pc' := 37) (L' := [.ref 88, .int a36_1, w36_2, w36_3, w36_4]) (S' := [.int a36_1]) (μ' := (am_S (am_row f 92 r36_92) g)) 1 rfl ?_
    refine am_F.iteK 1 rfl K hK (fun c12 hK => ?_) (fun c12 hK => ?_)
    · show am_F _ _ 135 [.ref 88, .int a36_1, w36_2, w36_3, w36_4] [] (am_S (am_row f 92 r36_92) g) _
      subst hKd
      exact hK w36_2 w36_3 w36_4
    · show am_F _ _ 40 [.ref 88, .int a36_1, w36_2, w36_3, w36_4] [] (am_S (am_row f 92 r36_92) g) _
      refine am_F.ops (pc' := 44) (L' := [.ref 88, .int 0, .int 0, w36_3, w36_4]) (S' := []) (μ' := (am_S (am_row f 92 r36_92) g)) 4 rfl ?_
      show am_F _ _ 44 [.ref 88, .int 0, .int (nI 0), w36_3, w36_4] [] (am_S (am_row f 92 r36_92) g) _
      refine lp_m_lattice_44 f g z2_1 wc2 a36_1 r36_92  _ 20 0 0 r36_92 w36_3 w36_4 (by omega)  ?_
      rw [show am_for st_m_lattice_44 20 0 (0, r36_92) = (lf_m_lattice_44 r36_92) from rfl]
      generalize (lf_m_lattice_44 r36_92) = z44_21 at hK ⊢
      intro wc44 w44_3 w44_4
      show am_F _ _ 132 [.ref 88, .int z44_21.1, wc44, w44_3, w44_4] [] (am_S (am_row f 92 z44_21.2) g) _
      refine am_F.ops (pc' := 36) (L' := [.ref 88, .int z44_21.1, wc44, w44_3, w44_4]) (S' := []) (μ' := (am_S (am_row f 92 z44_21.2) g)) 1 rfl ?_
      subst hKd
      exact ih z44_21.1 z44_21.2 wc44 w44_3 w44_4 hK
theorem x_m_lattice (f : Nat → Nat → Int32) (g : Nat → Nat → Int64)  (z0 : (Nat → Int32)) (hz0 : (fn_m_lattice f) = some z0) : am_D 1 144 5 [.ref 88] (am_S f g) ((none : Option Value), am_S (am_row f 92 z0) g) := by
  refine am_D.of (code := am_k_144) rfl (L0 := [.ref 88, am_un, am_un, am_un, am_un]) rfl ?_
  generalize hres : ((none : Option Value), am_S (am_row f 92 z0) g) = res
  obtain ⟨K, hKd⟩ : ∃ K : Option ((Nat → Int32)) → Prop, K = am_KO (fun z => ((none : Option Value), am_S (am_row f 92 z) g) = res) := ⟨_, rfl⟩
  have hK : K (fn_m_lattice f) := by rw [hKd, hz0]; exact hres
  have hKn : ¬ K none := by rw [hKd]; exact id
  clear hres hz0
  unfold fn_m_lattice at hK
  refine am_F.ops (pc' := 2) (L' := [.ref 88, .int 0, am_un, am_un, am_un]) (S' := []) (μ' := (am_S f g)) 2 rfl ?_
  refine am_F.mem (F' := (am_row f 92 (f 92))) (G' := g) ?_ (by first | rfl | (funext a; by_cases z0 : a = 92; (subst z0; rfl); simp only [am_ui, am_ul, am_row_ne z0])) (by first | rfl | (funext a; by_cases z0 : a = 92; (subst z0; rfl); simp only [am_ui, am_ul, am_row_ne z0]))
  show am_F _ _ 2 [.ref 88, .int (nI 0), am_un, am_un, am_un] [] (am_S (am_row f 92 (f 92)) g) _
  refine lp_m_lattice_2 f g  _ 20 0 (f 92)  (by omega)  ?_
  rw [show am_for (st_m_lattice_2 f) 20 0 (f 92) = (lf_m_lattice_2 f) from rfl]
  generalize (lf_m_lattice_2 f) = z2_1 at hK ⊢
  intro wc2
  show am_F _ _ 34 [.ref 88, wc2, am_un, am_un, am_un] [] (am_S (am_row f 92 z2_1) g) _
  refine am_F.ops (pc' := 36) (L' := [.ref 88, .int 1, am_un, am_un, am_un]) (S' := []) (μ' := (am_S (am_row f 92 z2_1) g)) 2 rfl ?_
  obtain ⟨z36, hz36, hK⟩ := am_ob_e hKn hK
  obtain ⟨nz36, gz36⟩ := am_while_s (show am_while st_m_lattice_36 (1, z2_1) = some z36 from hz36)
  refine lp_m_lattice_36 f g z2_1 wc2  _ nz36 1 z2_1 am_un am_un am_un ?_
  rw [gz36]
  rcases z36 with z36 | z
  · intro w36_2 w36_3 w36_4
    show am_F _ _ 135 [.ref 88, .int z36.1, w36_2, w36_3, w36_4] [] (am_S (am_row f 92 z36.2) g) _
    (try simp only [Sum.elim_inl] at hK)
    subst hKd
    have hQ := am_KO_s hK
    exact am_F.eq (am_F.ret rfl rfl) hQ
  · exact z.elim
/-- AccessLatticeModel.depth, with checks -/
noncomputable def st_m_depth_5 (other : Int32) (f : Nat → Nat → Int32) : Int32 × Int32 → Option (Int32 × Int32 ⊕ (Int32 × Int32 ⊕ Int32)) := fun z => match z with
  | (a5_3, a5_4) => (if a5_4 < 0 then (some (.inr (.inl (a5_3, a5_4)))) else (if a5_4 = other then (some (.inr (.inr a5_3))) else (am_chk (am_inb (128 + a5_4) 3340 = true) (some (.inl (a5_3 + 1, f 89 ((128 + a5_4).toNatClampNeg)))))))
noncomputable def lf_m_depth_5 (thing : Int32) (other : Int32) (f : Nat → Nat → Int32) : Option (Int32 × Int32 ⊕ Int32) := am_while (st_m_depth_5 other f) (0, thing)
noncomputable def fn_m_depth (thing : Int32) (other : Int32) (f : Nat → Nat → Int32) : Option (Int32) := (am_ob (lf_m_depth_5 thing other f) (fun zz => Sum.elim (fun (z5 : Int32 × Int32) => (some (-1))) (fun (z : Int32) => (some z)) zz))
theorem lp_m_depth_5 (thing : Int32) (other : Int32) (f : Nat → Nat → Int32) (g : Nat → Nat → Int64)  (res : Option Value × am_M) : ∀ (n : Nat) (a5_3 : Int32) (a5_4 : Int32), am_KO (am_KX (fun (z : Int32 × Int32) => am_F 0 am_k_150 37 [.ref 88, .int thing, .int other, .int z.1, .int z.2] [] (am_S f g) res) (fun (z : Int32) => (some (Value.int z), am_S f g) = res)) (am_wh (st_m_depth_5 other f) n (a5_3, a5_4)) → am_F 0 am_k_150 5 [.ref 88, .int thing, .int other, .int a5_3, .int a5_4] [] (am_S f g) res := by
  intro n
  induction n with
  | zero =>
    intro a5_3 a5_4 hK
    exact False.elim hK
  | succ n ih =>
    intro a5_3 a5_4 hK
    obtain ⟨K, hKd⟩ : ∃ K : Option (Int32 × Int32 ⊕ (Int32 × Int32 ⊕ Int32)) → Prop, K = fun s => am_KO (am_KX (fun (z : Int32 × Int32) => am_F 0 am_k_150 37 [.ref 88, .int thing, .int other, .int z.1, .int z.2] [] (am_S f g) res) (fun (z : Int32) => (some (Value.int z), am_S f g) = res)) (am_whn (am_wh (st_m_depth_5 other f) n) s) := ⟨_, rfl⟩
    have hK : K ((st_m_depth_5 other f) (a5_3, a5_4)) := by rw [am_wh_s] at hK; rw [hKd]; with_reducible exact hK
    have hKn : ¬ K none := by rw [hKd]; exact id
    unfold st_m_depth_5 at hK
    simp only at hK
    refine am_F.ops (pc' := 7) (L' := [.ref 88, .int thing, .int other, .int a5_3, .int a5_4]) (S' := [.int a5_4]) (μ' := (am_S f g)) 1 rfl ?_
    refine am_F.iteK 1 rfl K hK (fun c1 hK => ?_) (fun c1 hK => ?_)
    · show am_F _ _ 37 [.ref 88, .int thing, .int other, .int a5_3, .int a5_4] [] (am_S f g) _
      subst hKd
      exact hK 
    · show am_F _ _ 10 [.ref 88, .int thing, .int other, .int a5_3, .int a5_4] [] (am_S f g) _
      refine am_F.ops (pc' := 13) (L' := [.ref 88, .int thing, .int other, .int a5_3, .int a5_4]) (S' := [.int other, .int a5_4]) (μ' := (am_S f g)) 2 rfl ?_
      refine am_F.iteK 1 rfl K hK (fun c2 hK => ?_) (fun c2 hK => ?_)
      · show am_F _ _ 16 [.ref 88, .int thing, .int other, .int a5_3, .int a5_4] [] (am_S f g) _
        refine am_F.ops (pc' := 17) (L' := [.ref 88, .int thing, .int other, .int a5_3, .int a5_4]) (S' := [.int a5_3]) (μ' := (am_S f g)) 1 rfl ?_
        subst hKd
        have hQ := am_KO_r hK
        exact am_F.eq (am_F.ret rfl rfl) hQ
      · show am_F _ _ 18 [.ref 88, .int thing, .int other, .int a5_3, .int a5_4] [] (am_S f g) _
        refine am_F.ops (pc' := 31) (L' := [.ref 88, .int thing, .int other, .int (a5_3 + 1), .int a5_4]) (S' := [.int (128 + a5_4), .ref 89]) (μ' := (am_S f g)) 6 rfl ?_
        obtain ⟨q3, hK⟩ := am_chk_e hKn hK
        refine am_F.ial (N := 3340) rfl rfl rfl q3 ?_
        show am_F _ _ 32 [.ref 88, .int thing, .int other, .int (a5_3 + 1), .int a5_4] [.int (f 89 ((128 + a5_4).toNatClampNeg))] (am_S f g) _
        refine am_F.ops (pc' := 5) (L' := [.ref 88, .int thing, .int other, .int (a5_3 + 1), .int (f 89 ((128 + a5_4).toNatClampNeg))]) (S' := []) (μ' := (am_S f g)) 2 rfl ?_
        subst hKd
        exact ih (a5_3 + 1) (f 89 ((128 + a5_4).toNatClampNeg)) hK
theorem x_m_depth (thing : Int32) (other : Int32) (f : Nat → Nat → Int32) (g : Nat → Nat → Int64)  (z0 : Int32) (hz0 : (fn_m_depth thing other f) = some z0) : am_D 0 150 5 [.ref 88, .int thing, .int other] (am_S f g) (some (Value.int z0), am_S f g) := by
  refine am_D.of (code := am_k_150) rfl (L0 := [.ref 88, .int thing, .int other, am_un, am_un]) rfl ?_
  generalize hres : (some (Value.int z0), am_S f g) = res
  obtain ⟨K, hKd⟩ : ∃ K : Option (Int32) → Prop, K = am_KO (fun z => (some (Value.int z), am_S f g) = res) := ⟨_, rfl⟩
  have hK : K (fn_m_depth thing other f) := by rw [hKd, hz0]; exact hres
  have hKn : ¬ K none := by rw [hKd]; exact id
  clear hres hz0
  unfold fn_m_depth at hK
  refine am_F.ops (pc' := 5) (L' := [.ref 88, .int thing, .int other, .int 0, .int thing]) (S' := []) (μ' := (am_S f g)) 4 rfl ?_
  obtain ⟨z5, hz5, hK⟩ := am_ob_e hKn hK
  obtain ⟨nz5, gz5⟩ := am_while_s (show am_while (st_m_depth_5 other f) (0, thing) = some z5 from hz5)
  refine lp_m_depth_5 thing other f g  _ nz5 0 thing  ?_
  rw [gz5]
  rcases z5 with z5 | z
  · skip
    show am_F _ _ 37 [.ref 88, .int thing, .int other, .int z5.1, .int z5.2] [] (am_S f g) _
    (try simp only [Sum.elim_inl] at hK)
    refine am_F.ops (pc' := 38) (L' := [.ref 88, .int thing, .int other, .int z5.1, .int z5.2]) (S' := [.int (-1)]) (μ' := (am_S f g)) 1 rfl ?_
    subst hKd
    have hQ := am_KO_s hK
    exact am_F.eq (am_F.ret rfl rfl) hQ
  · subst hKd
    exact hK
/-- AccessLatticeModel.nearer, with checks -/
noncomputable def st_m_nearer_2 (r : Int32) (up : Bool) (f : Nat → Nat → Int32) : Int32 → Option (Int32 ⊕ (Int32 ⊕ Empty)) := fun a2_3 => (am_chk (am_inb a2_3 20 = true) (am_chk (am_inb r 20 = true) (if (f 95 a2_3.toNatClampNeg) = ((f 95 r.toNatClampNeg) - 1) then (am_chk (am_inb (144 + (bif up then a2_3 else r)) 3340 = true) (bif (fn_m_has (f 89 ((144 + (bif up then a2_3 else r)).toNatClampNeg)) (bif up then r else a2_3)) then (some (.inr (.inl a2_3))) else (some (.inl (a2_3 + 1))))) else (some (.inl (a2_3 + 1))))))
noncomputable def lf_m_nearer_2 (r : Int32) (up : Bool) (f : Nat → Nat → Int32) : Option (Int32 ⊕ Empty) := am_while (st_m_nearer_2 r up f) 0
noncomputable def fn_m_nearer (r : Int32) (up : Bool) (f : Nat → Nat → Int32) : Option (Int32) := (am_ob (lf_m_nearer_2 r up f) (fun zz => Sum.elim (fun (z2 : Int32) => (some z2)) (fun (z : Empty) => z.elim) zz))
theorem lp_m_nearer_2 (r : Int32) (up : Bool) (f : Nat → Nat → Int32) (g : Nat → Nat → Int64)  (res : Option Value × am_M) : ∀ (n : Nat) (a2_3 : Int32), am_KO (am_KX (fun (z : Int32) => am_F 1 am_k_208 58 [.ref 88, .int r, .int (am_b up), .int z] [] (am_S f g) res) (fun (z : Empty) => True)) (am_wh (st_m_nearer_2 r up f) n a2_3) → am_F 1 am_k_208 2 [.ref 88, .int r, .int (am_b up), .int a2_3] [] (am_S f g) res := by
  intro n
  induction n with
  | zero =>
    intro a2_3 hK
    exact False.elim hK
  | succ n ih =>
    intro a2_3 hK
    obtain ⟨K, hKd⟩ : ∃ K : Option (Int32 ⊕ (Int32 ⊕ Empty)) → Prop, K = fun s => am_KO (am_KX (fun (z : Int32) => am_F 1 am_k_208 58 [.ref 88, .int r, .int (am_b up), .int z] [] (am_S f g) res) (fun (z : Empty) => True)) (am_whn (am_wh (st_m_nearer_2 r up f) n) s) := ⟨_, rfl⟩
    have hK : K ((st_m_nearer_2 r up f) a2_3) := by rw [am_wh_s] at hK; rw [hKd]; with_reducible exact hK
    have hKn : ¬ K none := by rw [hKd]; exact id
    unfold st_m_nearer_2 at hK
    refine am_F.ops (pc' := 7) (L' := [.ref 88, .int r, .int (am_b up), .int a2_3]) (S' := [.int a2_3, .ref 95]) (μ' := (am_S f g)) 3 rfl ?_
    obtain ⟨q1, hK⟩ := am_chk_e hKn hK
    refine am_F.ial (N := 20) rfl rfl rfl q1 ?_
    show am_F _ _ 8 [.ref 88, .int r, .int (am_b up), .int a2_3] [.int (f 95 a2_3.toNatClampNeg)] (am_S f g) _
    refine am_F.ops (pc' := 13) (L' := [.ref 88, .int r, .int (am_b up), .int a2_3]) (S' := [.int r, .ref 95, .int (f 95 a2_3.toNatClampNeg)]) (μ' := (am_S f g)) 3 rfl ?_
    obtain ⟨q2, hK⟩ := am_chk_e hKn hK
    refine am_F.ial (N := 20) rfl rfl rfl q2 ?_
    show am_F _ _ 14 [.ref 88, .int r, .int (am_b up), .int a2_3] [.int (f 95 r.toNatClampNeg), .int (f 95 a2_3.toNatClampNeg)] (am_S f g) _
    refine am_F.ops (pc' := 16) (L' := [.ref 88, .int r, .int (am_b up), .int a2_3]) (S' := [.int ((f 95 r.toNatClampNeg) - 1), .int (f 95 a2_3.toNatClampNeg)]) (μ' := (am_S f g)) 2 rfl ?_
    refine am_F.iteK 1 rfl K hK (fun c4 hK => ?_) (fun c4 hK => ?_)
    · show am_F _ _ 19 [.ref 88, .int r, .int (am_b up), .int a2_3] [] (am_S f g) _
      refine am_F.ops (pc' := 27) (L' := [.ref 88, .int r, .int (am_b up), .int a2_3]) (S' := [.int (am_b up), .int 144, .ref 89]) (μ' := (am_S f g)) 4 rfl ?_
      refine am_F.to (am_To.bif (pc' := 35) (L2 := [.ref 88, .int r, .int (am_b up), .int a2_3]) (S2 := [.int 144, .ref 89]) (μ2 := (am_S f g)) (a := a2_3) (b := r) 1 rfl (fun c5 => ?_) (fun c5 => ?_)) ?_
      · intro res9 g9
        show am_F _ _ 30 [.ref 88, .int r, .int (am_b up), .int a2_3] [.int 144, .ref 89] (am_S f g) _
        refine am_F.ops (pc' := 35) (L' := [.ref 88, .int r, .int (am_b up), .int a2_3]) (S' := [.int a2_3, .int 144, .ref 89]) (μ' := (am_S f g)) 2 rfl ?_
        exact g9
      · intro res9 g9
        show am_F _ _ 34 [.ref 88, .int r, .int (am_b up), .int a2_3] [.int 144, .ref 89] (am_S f g) _
        refine am_F.ops (pc' := 35) (L' := [.ref 88, .int r, .int (am_b up), .int a2_3]) (S' := [.int r, .int 144, .ref 89]) (μ' := (am_S f g)) 1 rfl ?_
        exact g9
      show am_F _ _ 35 [.ref 88, .int r, .int (am_b up), .int a2_3] [.int (bif up then a2_3 else r), .int 144, .ref 89] (am_S f g) _
      refine am_F.ops (pc' := 36) (L' := [.ref 88, .int r, .int (am_b up), .int a2_3]) (S' := [.int (144 + (bif up then a2_3 else r)), .ref 89]) (μ' := (am_S f g)) 1 rfl ?_
      obtain ⟨q6, hK⟩ := am_chk_e hKn hK
      refine am_F.ial (N := 3340) rfl rfl rfl q6 ?_
      show am_F _ _ 37 [.ref 88, .int r, .int (am_b up), .int a2_3] [.int (f 89 ((144 + (bif up then a2_3 else r)).toNatClampNeg))] (am_S f g) _
      refine am_F.ops (pc' := 38) (L' := [.ref 88, .int r, .int (am_b up), .int a2_3]) (S' := [.int (am_b up), .int (f 89 ((144 + (bif up then a2_3 else r)).toNatClampNeg))]) (μ' := (am_S f g)) 1 rfl ?_
      refine am_F.to (am_To.bif (pc' := 46) (L2 := [.ref 88, .int r, .int (am_b up), .int a2_3]) (S2 := [.int (f 89 ((144 + (bif up then a2_3 else r)).toNatClampNeg))]) (μ2 := (am_S f g)) (a := r) (b := a2_3) 1 rfl (fun c7 => ?_) (fun c7 => ?_)) ?_
      · intro res9 g9
        show am_F _ _ 41 [.ref 88, .int r, .int (am_b up), .int a2_3] [.int (f 89 ((144 + (bif up then a2_3 else r)).toNatClampNeg))] (am_S f g) _
        refine am_F.ops (pc' := 46) (L' := [.ref 88, .int r, .int (am_b up), .int a2_3]) (S' := [.int r, .int (f 89 ((144 + (bif up then a2_3 else r)).toNatClampNeg))]) (μ' := (am_S f g)) 2 rfl ?_
        exact g9
      · intro res9 g9
        show am_F _ _ 45 [.ref 88, .int r, .int (am_b up), .int a2_3] [.int (f 89 ((144 + (bif up then a2_3 else r)).toNatClampNeg))] (am_S f g) _
        refine am_F.ops (pc' := 46) (L' := [.ref 88, .int r, .int (am_b up), .int a2_3]) (S' := [.int a2_3, .int (f 89 ((144 + (bif up then a2_3 else r)).toNatClampNeg))]) (μ' := (am_S f g)) 1 rfl ?_
        exact g9
      show am_F _ _ 46 [.ref 88, .int r, .int (am_b up), .int a2_3] [.int (bif up then r else a2_3), .int (f 89 ((144 + (bif up then a2_3 else r)).toNatClampNeg))] (am_S f g) _
      refine am_F.call rfl rfl (x_m_has (f 89 ((144 + (bif up then a2_3 else r)).toNatClampNeg)) (bif up then r else a2_3) f g ) (by first | decide | omega) ?_
      show am_F _ _ 49 [.ref 88, .int r, .int (am_b up), .int a2_3] [.int (am_b (fn_m_has (f 89 ((144 + (bif up then a2_3 else r)).toNatClampNeg)) (bif up then r else a2_3)))] (am_S f g) _
      refine am_F.bifK 1 rfl K hK (fun c9 hK => ?_) (fun c9 hK => ?_)
      · show am_F _ _ 58 [.ref 88, .int r, .int (am_b up), .int a2_3] [] (am_S f g) _
        subst hKd
        exact hK 
      · show am_F _ _ 52 [.ref 88, .int r, .int (am_b up), .int a2_3] [] (am_S f g) _
        refine am_F.ops (pc' := 2) (L' := [.ref 88, .int r, .int (am_b up), .int (a2_3 + 1)]) (S' := []) (μ' := (am_S f g)) 2 rfl ?_
        subst hKd
        exact ih (a2_3 + 1) hK
    · show am_F _ _ 52 [.ref 88, .int r, .int (am_b up), .int a2_3] [] (am_S f g) _
      refine am_F.ops (pc' := 2) (L' := [.ref 88, .int r, .int (am_b up), .int (a2_3 + 1)]) (S' := []) (μ' := (am_S f g)) 2 rfl ?_
      subst hKd
      exact ih (a2_3 + 1) hK
theorem x_m_nearer (r : Int32) (up : Bool) (f : Nat → Nat → Int32) (g : Nat → Nat → Int64)  (z0 : Int32) (hz0 : (fn_m_nearer r up f) = some z0) : am_D 1 208 4 [.ref 88, .int r, .int (am_b up)] (am_S f g) (some (Value.int z0), am_S f g) := by
  refine am_D.of (code := am_k_208) rfl (L0 := [.ref 88, .int r, .int (am_b up), am_un]) rfl ?_
  generalize hres : (some (Value.int z0), am_S f g) = res
  obtain ⟨K, hKd⟩ : ∃ K : Option (Int32) → Prop, K = am_KO (fun z => (some (Value.int z), am_S f g) = res) := ⟨_, rfl⟩
  have hK : K (fn_m_nearer r up f) := by rw [hKd, hz0]; exact hres
  have hKn : ¬ K none := by rw [hKd]; exact id
  clear hres hz0
  unfold fn_m_nearer at hK
  refine am_F.ops (pc' := 2) (L' := [.ref 88, .int r, .int (am_b up), .int 0]) (S' := []) (μ' := (am_S f g)) 2 rfl ?_
  obtain ⟨z2, hz2, hK⟩ := am_ob_e hKn hK
  obtain ⟨nz2, gz2⟩ := am_while_s (show am_while (st_m_nearer_2 r up f) 0 = some z2 from hz2)
  refine lp_m_nearer_2 r up f g  _ nz2 0  ?_
  rw [gz2]
  rcases z2 with z2 | z
  · skip
    show am_F _ _ 58 [.ref 88, .int r, .int (am_b up), .int z2] [] (am_S f g) _
    (try simp only [Sum.elim_inl] at hK)
    refine am_F.ops (pc' := 59) (L' := [.ref 88, .int r, .int (am_b up), .int z2]) (S' := [.int z2]) (μ' := (am_S f g)) 1 rfl ?_
    subst hKd
    have hQ := am_KO_s hK
    exact am_F.eq (am_F.ret rfl rfl) hQ
  · exact z.elim
/-- AccessLatticeModel.figures, with checks -/
noncomputable def st_m_figures_19 (greatest : Int32) (f : Nat → Nat → Int32) : Int32 × Int32 × (Nat → Int32) → Option (Int32 × Int32 × (Nat → Int32) ⊕ (Int32 × Int32 × (Nat → Int32) ⊕ Empty)) := fun z => match z with
  | (a19_2, a19_3, r19_88) => (if greatest ≤ a19_3 then (some (.inr (.inl (a19_2, a19_3, r19_88)))) else (am_chk (¬ (am_row f 88 r19_88) 88 11 ≤ (am_row f 88 r19_88) 88 12 → am_inb ((am_row f 88 r19_88) 88 12) 80 = true) (bif (fn_m_seesDigit (am_row f 88 r19_88)) then (am_chk (am_inb (r19_88 12) 80 = true) (some (.inl (((10 * a19_2) + (f 97 ((r19_88 12).toNatClampNeg))) - 48, a19_3 + 1, upd r19_88 12 ((r19_88 12) + 1))))) else (some (.inr (.inl (a19_2, a19_3, r19_88)))))))
noncomputable def lf_m_figures_19 (greatest : Int32) (f : Nat → Nat → Int32) : Option (Int32 × Int32 × (Nat → Int32) ⊕ Empty) := am_while (st_m_figures_19 greatest f) (0, 0, f 88)
noncomputable def st_m_figures_19_26 (greatest : Int32) (f : Nat → Nat → Int32) : Int32 × Int32 × (Nat → Int32) → Option (Int32 × Int32 × (Nat → Int32) ⊕ (Int32 × Int32 × (Nat → Int32) ⊕ Empty)) := fun z => match z with
  | (a19_2, a19_3, r19_88) => (if greatest ≤ a19_3 then (some (.inr (.inl (a19_2, a19_3, r19_88)))) else (am_chk (¬ (am_row f 88 r19_88) 88 11 ≤ (am_row f 88 r19_88) 88 12 → am_inb ((am_row f 88 r19_88) 88 12) 80 = true) (bif (fn_m_seesDigit (am_row f 88 r19_88)) then (am_chk (am_inb (r19_88 12) 80 = true) (some (.inl (((10 * a19_2) + (f 97 ((r19_88 12).toNatClampNeg))) - 48, a19_3 + 1, upd r19_88 12 ((r19_88 12) + 1))))) else (some (.inr (.inl (a19_2, a19_3, r19_88)))))))
noncomputable def lf_m_figures_19_27 (greatest : Int32) (f : Nat → Nat → Int32) (y15 : (Nat → Int32)) : Option (Int32 × Int32 × (Nat → Int32) ⊕ Empty) := am_while (st_m_figures_19_26 greatest f) (0, 0, y15)
noncomputable def fn_m_figures (greatest : Int32) (f : Nat → Nat → Int32) : Option (Int32 × (Nat → Int32)) := (am_chk (¬ f 88 11 ≤ f 88 12 → am_inb (f 88 12) 80 = true) (bif (fn_m_seesDigit f) then (am_ob (lf_m_figures_19 greatest f) (fun zz => Sum.elim (fun (z19 : Int32 × Int32 × (Nat → Int32)) => (some (z19.1, z19.2.2))) (fun (z : Empty) => z.elim) zz)) else (am_ob (lf_m_figures_19_27 greatest f (fn_m_fails (f 88 12) f)) (fun zz => Sum.elim (fun (z19 : Int32 × Int32 × (Nat → Int32)) => (some (z19.1, z19.2.2))) (fun (z : Empty) => z.elim) zz))))
theorem lp_m_figures_19 (greatest : Int32) (f : Nat → Nat → Int32) (g : Nat → Nat → Int64)  (res : Option Value × am_M) : ∀ (n : Nat) (a19_2 : Int32) (a19_3 : Int32) (r19_88 : Nat → Int32), am_KO (am_KX (fun (z : Int32 × Int32 × (Nat → Int32)) => am_F 2 am_k_182 65 [.ref 88, .int greatest, .int z.1, .int z.2.1] [] (am_S (am_row f 88 z.2.2) g) res) (fun (z : Empty) => True)) (am_wh (st_m_figures_19 greatest f) n (a19_2, a19_3, r19_88)) → am_F 2 am_k_182 19 [.ref 88, .int greatest, .int a19_2, .int a19_3] [] (am_S (am_row f 88 r19_88) g) res := by
  intro n
  induction n with
  | zero =>
    intro a19_2 a19_3 r19_88 hK
    exact False.elim hK
  | succ n ih =>
    intro a19_2 a19_3 r19_88 hK
    obtain ⟨K, hKd⟩ : ∃ K : Option (Int32 × Int32 × (Nat → Int32) ⊕ (Int32 × Int32 × (Nat → Int32) ⊕ Empty)) → Prop, K = fun s => am_KO (am_KX (fun (z : Int32 × Int32 × (Nat → Int32)) => am_F 2 am_k_182 65 [.ref 88, .int greatest, .int z.1, .int z.2.1] [] (am_S (am_row f 88 z.2.2) g) res) (fun (z : Empty) => True)) (am_whn (am_wh (st_m_figures_19 greatest f) n) s) := ⟨_, rfl⟩
    have hK : K ((st_m_figures_19 greatest f) (a19_2, a19_3, r19_88)) := by rw [am_wh_s] at hK; rw [hKd]; with_reducible exact hK
    have hKn : ¬ K none := by rw [hKd]; exact id
    unfold st_m_figures_19 at hK
    simp only at hK
    refine am_F.ops (pc' := 21) (L' := [.ref 88, .int greatest, .int a19_2, .int a19_3]) (S' := [.int greatest, .int a19_3]) (μ' := (am_S (am_row f 88 r19_88) g)) 2 rfl ?_
    refine am_F.iteK 1 rfl K hK (fun c10 hK => ?_) (fun c10 hK => ?_)
    · show am_F _ _ 65 [.ref 88, .int greatest, .int a19_2, .int a19_3] [] (am_S (am_row f 88 r19_88) g) _
      subst hKd
      exact hK 
    · show am_F _ _ 24 [.ref 88, .int greatest, .int a19_2, .int a19_3] [] (am_S (am_row f 88 r19_88) g) _
      refine am_F.ops (pc' := 25) (L' := [.ref 88, .int greatest, .int a19_2, .int a19_3]) (S' := [.ref 88]) (μ' := (am_S (am_row f 88 r19_88) g)) 1 rfl ?_
      obtain ⟨q11, hK⟩ := am_chk_e hKn hK
      refine am_F.call rfl rfl (x_m_seesDigit  (am_row f 88 r19_88) g q11) (by first | decide | omega) ?_
      show am_F _ _ 28 [.ref 88, .int greatest, .int a19_2, .int a19_3] [.int (am_b (fn_m_seesDigit (am_row f 88 r19_88)))] (am_S (am_row f 88 r19_88) g) _
      refine am_F.bifK 1 rfl K hK (fun c13 hK => ?_) (fun c13 hK => ?_)
      · show am_F _ _ 31 [.ref 88, .int greatest, .int a19_2, .int a19_3] [] (am_S (am_row f 88 r19_88) g) _
        refine am_F.ops (pc' := 43) (L' := [.ref 88, .int greatest, .int a19_2, .int a19_3]) (S' := [.int (r19_88 12), .ref 97, .int (10 * a19_2)]) (μ' := (am_S (am_row f 88 r19_88) g)) 7 rfl ?_
        obtain ⟨q14, hK⟩ := am_chk_e hKn hK
        refine am_F.ial (N := 80) rfl rfl rfl q14 ?_
        show am_F _ _ 44 [.ref 88, .int greatest, .int a19_2, .int a19_3] [.int (f 97 ((r19_88 12).toNatClampNeg)), .int (10 * a19_2)] (am_S (am_row f 88 r19_88) g) _
        refine am_F.ops (pc' := 56) (L' := [.ref 88, .int greatest, .int (((10 * a19_2) + (f 97 ((r19_88 12).toNatClampNeg))) - 48), .int a19_3]) (S' := [.int ((r19_88 12) + 1), .ref 88]) (μ' := (am_S (am_row f 88 r19_88) g)) 9 rfl ?_
        refine am_F.pfi (F' := (am_row f 88 (upd r19_88 12 ((r19_88 12) + 1)))) rfl rfl (by first | rfl | (funext a; by_cases z0 : a = 88; (subst z0; rfl); simp only [am_ui, am_ul, am_row_ne z0])) ?_
        refine am_F.ops (pc' := 19) (L' := [.ref 88, .int greatest, .int (((10 * a19_2) + (f 97 ((r19_88 12).toNatClampNeg))) - 48), .int (a19_3 + 1)]) (S' := []) (μ' := (am_S (am_row f 88 (upd r19_88 12 ((r19_88 12) + 1))) g)) 2 rfl ?_
        subst hKd
        exact ih (((10 * a19_2) + (f 97 ((r19_88 12).toNatClampNeg))) - 48) (a19_3 + 1) (upd r19_88 12 ((r19_88 12) + 1)) hK
      · show am_F _ _ 65 [.ref 88, .int greatest, .int a19_2, .int a19_3] [] (am_S (am_row f 88 r19_88) g) _
        subst hKd
        exact hK 
theorem lp_m_figures_19_26 (greatest : Int32) (f : Nat → Nat → Int32) (g : Nat → Nat → Int64) (y15 : (Nat → Int32))  (res : Option Value × am_M) : ∀ (n : Nat) (a19_2 : Int32) (a19_3 : Int32) (r19_88 : Nat → Int32), am_KO (am_KX (fun (z : Int32 × Int32 × (Nat → Int32)) => am_F 2 am_k_182 65 [.ref 88, .int greatest, .int z.1, .int z.2.1] [] (am_S (am_row f 88 z.2.2) g) res) (fun (z : Empty) => True)) (am_wh (st_m_figures_19_26 greatest f) n (a19_2, a19_3, r19_88)) → am_F 2 am_k_182 19 [.ref 88, .int greatest, .int a19_2, .int a19_3] [] (am_S (am_row f 88 r19_88) g) res := by
  intro n
  induction n with
  | zero =>
    intro a19_2 a19_3 r19_88 hK
    exact False.elim hK
  | succ n ih =>
    intro a19_2 a19_3 r19_88 hK
    obtain ⟨K, hKd⟩ : ∃ K : Option (Int32 × Int32 × (Nat → Int32) ⊕ (Int32 × Int32 × (Nat → Int32) ⊕ Empty)) → Prop, K = fun s => am_KO (am_KX (fun (z : Int32 × Int32 × (Nat → Int32)) => am_F 2 am_k_182 65 [.ref 88, .int greatest, .int z.1, .int z.2.1] [] (am_S (am_row f 88 z.2.2) g) res) (fun (z : Empty) => True)) (am_whn (am_wh (st_m_figures_19_26 greatest f) n) s) := ⟨_, rfl⟩
    have hK : K ((st_m_figures_19_26 greatest f) (a19_2, a19_3, r19_88)) := by rw [am_wh_s] at hK; rw [hKd]; with_reducible exact hK
    have hKn : ¬ K none := by rw [hKd]; exact id
    unfold st_m_figures_19_26 at hK
    simp only at hK
    refine am_F.ops (pc' := 21) (L' := [.ref 88, .int greatest, .int a19_2, .int a19_3]) (S' := [.int greatest, .int a19_3]) (μ' := (am_S (am_row f 88 r19_88) g)) 2 rfl ?_
    refine am_F.iteK 1 rfl K hK (fun c21 hK => ?_) (fun c21 hK => ?_)
    · show am_F _ _ 65 [.ref 88, .int greatest, .int a19_2, .int a19_3] [] (am_S (am_row f 88 r19_88) g) _
      subst hKd
      exact hK 
    · show am_F _ _ 24 [.ref 88, .int greatest, .int a19_2, .int a19_3] [] (am_S (am_row f 88 r19_88) g) _
      refine am_F.ops (pc' := 25) (L' := [.ref 88, .int greatest, .int a19_2, .int a19_3]) (S' := [.ref 88]) (μ' := (am_S (am_row f 88 r19_88) g)) 1 rfl ?_
      obtain ⟨q22, hK⟩ := am_chk_e hKn hK
      refine am_F.call rfl rfl (x_m_seesDigit  (am_row f 88 r19_88) g q22) (by first | decide | omega) ?_
      show am_F _ _ 28 [.ref 88, .int greatest, .int a19_2, .int a19_3] [.int (am_b (fn_m_seesDigit (am_row f 88 r19_88)))] (am_S (am_row f 88 r19_88) g) _
      refine am_F.bifK 1 rfl K hK (fun c24 hK => ?_) (fun c24 hK => ?_)
      · show am_F _ _ 31 [.ref 88, .int greatest, .int a19_2, .int a19_3] [] (am_S (am_row f 88 r19_88) g) _
        refine am_F.ops (pc' := 43) (L' := [.ref 88, .int greatest, .int a19_2, .int a19_3]) (S' := [.int (r19_88 12), .ref 97, .int (10 * a19_2)]) (μ' := (am_S (am_row f 88 r19_88) g)) 7 rfl ?_
        obtain ⟨q25, hK⟩ := am_chk_e hKn hK
        refine am_F.ial (N := 80) rfl rfl rfl q25 ?_
        show am_F _ _ 44 [.ref 88, .int greatest, .int a19_2, .int a19_3] [.int (f 97 ((r19_88 12).toNatClampNeg)), .int (10 * a19_2)] (am_S (am_row f 88 r19_88) g) _
        refine am_F.ops (pc' := 56) (L' := [.ref 88, .int greatest, .int (((10 * a19_2) + (f 97 ((r19_88 12).toNatClampNeg))) - 48), .int a19_3]) (S' := [.int ((r19_88 12) + 1), .ref 88]) (μ' := (am_S (am_row f 88 r19_88) g)) 9 rfl ?_
        refine am_F.pfi (F' := (am_row f 88 (upd r19_88 12 ((r19_88 12) + 1)))) rfl rfl (by first | rfl | (funext a; by_cases z0 : a = 88; (subst z0; rfl); simp only [am_ui, am_ul, am_row_ne z0])) ?_
        refine am_F.ops (pc' := 19) (L' := [.ref 88, .int greatest, .int (((10 * a19_2) + (f 97 ((r19_88 12).toNatClampNeg))) - 48), .int (a19_3 + 1)]) (S' := []) (μ' := (am_S (am_row f 88 (upd r19_88 12 ((r19_88 12) + 1))) g)) 2 rfl ?_
        subst hKd
        exact ih (((10 * a19_2) + (f 97 ((r19_88 12).toNatClampNeg))) - 48) (a19_3 + 1) (upd r19_88 12 ((r19_88 12) + 1)) hK
      · show am_F _ _ 65 [.ref 88, .int greatest, .int a19_2, .int a19_3] [] (am_S (am_row f 88 r19_88) g) _
        subst hKd
        exact hK 
theorem x_m_figures (greatest : Int32) (f : Nat → Nat → Int32) (g : Nat → Nat → Int64)  (z0 : Int32 × (Nat → Int32)) (hz0 : (fn_m_figures greatest f) = some z0) : am_D 2 182 4 [.ref 88, .int greatest] (am_S f g) (some (Value.int z0.1), am_S (am_row f 88 z0.2) g) := by
  refine am_D.of (code := am_k_182) rfl (L0 := [.ref 88, .int greatest, am_un, am_un]) rfl ?_
  generalize hres : (some (Value.int z0.1), am_S (am_row f 88 z0.2) g) = res
  obtain ⟨K, hKd⟩ : ∃ K : Option (Int32 × (Nat → Int32)) → Prop, K = am_KO (fun z => (some (Value.int z.1), am_S (am_row f 88 z.2) g) = res) := ⟨_, rfl⟩
  have hK : K (fn_m_figures greatest f) := by rw [hKd, hz0]; exact hres
  have hKn : ¬ K none := by rw [hKd]; exact id
  clear hres hz0
  unfold fn_m_figures at hK
  refine am_F.ops (pc' := 1) (L' := [.ref 88, .int greatest, am_un, am_un]) (S' := [.ref 88]) (μ' := (am_S f g)) 1 rfl ?_
  obtain ⟨q1, hK⟩ := am_chk_e hKn hK
  refine am_F.call rfl rfl (x_m_seesDigit  f g q1) (by first | decide | omega) ?_
  show am_F _ _ 4 [.ref 88, .int greatest, am_un, am_un] [.int (am_b (fn_m_seesDigit f))] (am_S f g) _
  refine am_F.bifK 1 rfl K hK (fun c4 hK => ?_) (fun c4 hK => ?_)
  · show am_F _ _ 15 [.ref 88, .int greatest, am_un, am_un] [] (am_S f g) _
    refine am_F.ops (pc' := 19) (L' := [.ref 88, .int greatest, .int 0, .int 0]) (S' := []) (μ' := (am_S f g)) 4 rfl ?_
    obtain ⟨z19, hz19, hK⟩ := am_ob_e hKn hK
    refine am_F.mem (F' := (am_row f 88 (f 88))) (G' := g) ?_ (by first | rfl | (funext a; by_cases z0 : a = 88; (subst z0; rfl); simp only [am_ui, am_ul, am_row_ne z0])) (by first | rfl | (funext a; by_cases z0 : a = 88; (subst z0; rfl); simp only [am_ui, am_ul, am_row_ne z0]))
    obtain ⟨nz19, gz19⟩ := am_while_s (show am_while (st_m_figures_19 greatest f) (0, 0, f 88) = some z19 from hz19)
    refine lp_m_figures_19 greatest f g  _ nz19 0 0 (f 88)  ?_
    rw [gz19]
    rcases z19 with z19 | z
    · skip
      show am_F _ _ 65 [.ref 88, .int greatest, .int z19.1, .int z19.2.1] [] (am_S (am_row f 88 z19.2.2) g) _
      (try simp only [Sum.elim_inl] at hK)
      refine am_F.ops (pc' := 66) (L' := [.ref 88, .int greatest, .int z19.1, .int z19.2.1]) (S' := [.int z19.1]) (μ' := (am_S (am_row f 88 z19.2.2) g)) 1 rfl ?_
      subst hKd
      have hQ := am_KO_s hK
      exact am_F.eq (am_F.ret rfl rfl) hQ
    · exact z.elim
  · show am_F _ _ 7 [.ref 88, .int greatest, am_un, am_un] [] (am_S f g) _
    refine am_F.ops (pc' := 12) (L' := [.ref 88, .int greatest, am_un, am_un]) (S' := [.int (f 88 12), .ref 88]) (μ' := (am_S f g)) 3 rfl ?_
    obtain ⟨y15, hy15⟩ : ∃ z, (fn_m_fails (f 88 12) f) = z := ⟨_, rfl⟩
    (try rw [hy15] at hK)
    refine am_F.call rfl rfl (x_m_fails (f 88 12) f g ) (by first | decide | omega) ?_
    (try rw [hy15])
    refine am_F.mem (F' := (am_row f 88 y15)) (G' := g) ?_ (by first | rfl | (funext a; by_cases z0 : a = 88; (subst z0; rfl); simp only [am_ui, am_ul, am_row_ne z0])) (by first | rfl | (funext a; by_cases z0 : a = 88; (subst z0; rfl); simp only [am_ui, am_ul, am_row_ne z0]))
    show am_F _ _ 15 [.ref 88, .int greatest, am_un, am_un] [] (am_S (am_row f 88 y15) g) _
    refine am_F.ops (pc' := 19) (L' := [.ref 88, .int greatest, .int 0, .int 0]) (S' := []) (μ' := (am_S (am_row f 88 y15) g)) 4 rfl ?_
    obtain ⟨z19, hz19, hK⟩ := am_ob_e hKn hK
    obtain ⟨nz19, gz19⟩ := am_while_s (show am_while (st_m_figures_19_26 greatest f) (0, 0, y15) = some z19 from hz19)
    refine lp_m_figures_19_26 greatest f g y15  _ nz19 0 0 y15  ?_
    rw [gz19]
    rcases z19 with z19 | z
    · skip
      show am_F _ _ 65 [.ref 88, .int greatest, .int z19.1, .int z19.2.1] [] (am_S (am_row f 88 z19.2.2) g) _
      (try simp only [Sum.elim_inl] at hK)
      refine am_F.ops (pc' := 66) (L' := [.ref 88, .int greatest, .int z19.1, .int z19.2.1]) (S' := [.int z19.1]) (μ' := (am_S (am_row f 88 z19.2.2) g)) 1 rfl ?_
      subst hKd
      have hQ := am_KO_s hK
      exact am_F.eq (am_F.ret rfl rfl) hQ
    · exact z.elim
/-- AccessLatticeModel.joins, with checks -/
noncomputable def st_m_joins_5 (frm : Int32) : Int32 × (Nat → Int32) → Option (Int32 × (Nat → Int32) ⊕ (Int32 × (Nat → Int32) ⊕ Empty)) := fun z => match z with
  | (a5_2, r5_98) => (if a5_2 ≤ frm then (some (.inr (.inl (a5_2, r5_98)))) else (am_chk (am_inb (a5_2 - 1) 81 = true) (am_chk (am_inb a5_2 81 = true) (some (.inl (a5_2 + (-1), upd r5_98 a5_2.toNatClampNeg (r5_98 ((a5_2 - 1).toNatClampNeg))))))))
noncomputable def lf_m_joins_5 (frm : Int32) (f : Nat → Nat → Int32) : Option (Int32 × (Nat → Int32) ⊕ Empty) := am_while (st_m_joins_5 frm) (f 88 15, f 98)
noncomputable def fn_m_joins (frm : Int32) (f : Nat → Nat → Int32) : Option ((Nat → Int32) × (Nat → Int32)) := (am_ob (lf_m_joins_5 frm f) (fun zz => Sum.elim (fun (z5 : Int32 × (Nat → Int32)) => (am_chk (am_inb (f 88 12) 80 = true) (am_chk (am_inb frm 81 = true) (some (upd (upd (f 88) 15 ((f 88 15) + 1)) 12 ((f 88 12) + 1), upd z5.2 frm.toNatClampNeg (2000 + (f 97 ((f 88 12).toNatClampNeg)))))))) (fun (z : Empty) => z.elim) zz))
theorem lp_m_joins_5 (frm : Int32) (f : Nat → Nat → Int32) (g : Nat → Nat → Int64)  (res : Option Value × am_M) : ∀ (n : Nat) (a5_2 : Int32) (r5_98 : Nat → Int32), am_KO (am_KX (fun (z : Int32 × (Nat → Int32)) => am_F 0 am_k_187 30 [.ref 88, .int frm, .int z.1] [] (am_S (am_row f 98 z.2) g) res) (fun (z : Empty) => True)) (am_wh (st_m_joins_5 frm) n (a5_2, r5_98)) → am_F 0 am_k_187 5 [.ref 88, .int frm, .int a5_2] [] (am_S (am_row f 98 r5_98) g) res := by
  intro n
  induction n with
  | zero =>
    intro a5_2 r5_98 hK
    exact False.elim hK
  | succ n ih =>
    intro a5_2 r5_98 hK
    obtain ⟨K, hKd⟩ : ∃ K : Option (Int32 × (Nat → Int32) ⊕ (Int32 × (Nat → Int32) ⊕ Empty)) → Prop, K = fun s => am_KO (am_KX (fun (z : Int32 × (Nat → Int32)) => am_F 0 am_k_187 30 [.ref 88, .int frm, .int z.1] [] (am_S (am_row f 98 z.2) g) res) (fun (z : Empty) => True)) (am_whn (am_wh (st_m_joins_5 frm) n) s) := ⟨_, rfl⟩
    have hK : K ((st_m_joins_5 frm) (a5_2, r5_98)) := by rw [am_wh_s] at hK; rw [hKd]; with_reducible exact hK
    have hKn : ¬ K none := by rw [hKd]; exact id
    unfold st_m_joins_5 at hK
    simp only at hK
    refine am_F.ops (pc' := 7) (L' := [.ref 88, .int frm, .int a5_2]) (S' := [.int frm, .int a5_2]) (μ' := (am_S (am_row f 98 r5_98) g)) 2 rfl ?_
    refine am_F.iteK 1 rfl K hK (fun c4 hK => ?_) (fun c4 hK => ?_)
    · show am_F _ _ 30 [.ref 88, .int frm, .int a5_2] [] (am_S (am_row f 98 r5_98) g) _
      subst hKd
      exact hK 
    · show am_F _ _ 10 [.ref 88, .int frm, .int a5_2] [] (am_S (am_row f 98 r5_98) g) _
      refine am_F.ops (pc' := 22) (L' := [.ref 88, .int frm, .int a5_2]) (S' := [.int (a5_2 - 1), .ref 98, .int a5_2, .ref 98]) (μ' := (am_S (am_row f 98 r5_98) g)) 8 rfl ?_
      obtain ⟨q5, hK⟩ := am_chk_e hKn hK
      refine am_F.ial (N := 81) rfl rfl rfl q5 ?_
      show am_F _ _ 23 [.ref 88, .int frm, .int a5_2] [.int (r5_98 ((a5_2 - 1).toNatClampNeg)), .int a5_2, .ref 98] (am_S (am_row f 98 r5_98) g) _
      obtain ⟨q6, hK⟩ := am_chk_e hKn hK
      refine am_F.ias (F' := (am_row f 98 (upd r5_98 a5_2.toNatClampNeg (r5_98 ((a5_2 - 1).toNatClampNeg))))) (N := 81) rfl rfl rfl q6 (by first | rfl | (funext a; by_cases z0 : a = 98; (subst z0; rfl); simp only [am_ui, am_ul, am_row_ne z0])) ?_
      refine am_F.ops (pc' := 5) (L' := [.ref 88, .int frm, .int (a5_2 + (-1))]) (S' := []) (μ' := (am_S (am_row f 98 (upd r5_98 a5_2.toNatClampNeg (r5_98 ((a5_2 - 1).toNatClampNeg)))) g)) 2 rfl ?_
      subst hKd
      exact ih (a5_2 + (-1)) (upd r5_98 a5_2.toNatClampNeg (r5_98 ((a5_2 - 1).toNatClampNeg))) hK
theorem x_m_joins (frm : Int32) (f : Nat → Nat → Int32) (g : Nat → Nat → Int64)  (z0 : (Nat → Int32) × (Nat → Int32)) (hz0 : (fn_m_joins frm f) = some z0) : am_D 0 187 3 [.ref 88, .int frm] (am_S f g) ((none : Option Value), am_S (am_row (am_row f 88 z0.1) 98 z0.2) g) := by
  refine am_D.of (code := am_k_187) rfl (L0 := [.ref 88, .int frm, am_un]) rfl ?_
  generalize hres : ((none : Option Value), am_S (am_row (am_row f 88 z0.1) 98 z0.2) g) = res
  obtain ⟨K, hKd⟩ : ∃ K : Option ((Nat → Int32) × (Nat → Int32)) → Prop, K = am_KO (fun z => ((none : Option Value), am_S (am_row (am_row f 88 z.1) 98 z.2) g) = res) := ⟨_, rfl⟩
  have hK : K (fn_m_joins frm f) := by rw [hKd, hz0]; exact hres
  have hKn : ¬ K none := by rw [hKd]; exact id
  clear hres hz0
  unfold fn_m_joins at hK
  refine am_F.ops (pc' := 5) (L' := [.ref 88, .int frm, .int (f 88 15)]) (S' := []) (μ' := (am_S f g)) 3 rfl ?_
  obtain ⟨z5, hz5, hK⟩ := am_ob_e hKn hK
  refine am_F.mem (F' := (am_row f 98 (f 98))) (G' := g) ?_ (by first | rfl | (funext a; by_cases z0 : a = 98; (subst z0; rfl); simp only [am_ui, am_ul, am_row_ne z0])) (by first | rfl | (funext a; by_cases z0 : a = 98; (subst z0; rfl); simp only [am_ui, am_ul, am_row_ne z0]))
  obtain ⟨nz5, gz5⟩ := am_while_s (show am_while (st_m_joins_5 frm) (f 88 15, f 98) = some z5 from hz5)
  refine lp_m_joins_5 frm f g  _ nz5 (f 88 15) (f 98)  ?_
  rw [gz5]
  rcases z5 with z5 | z
  · skip
    show am_F _ _ 30 [.ref 88, .int frm, .int z5.1] [] (am_S (am_row f 98 z5.2) g) _
    (try simp only [Sum.elim_inl] at hK)
    refine am_F.ops (pc' := 46) (L' := [.ref 88, .int frm, .int z5.1]) (S' := [.int (f 88 12), .ref 97, .int 2000, .int frm, .ref 98]) (μ' := (am_S (am_row f 98 z5.2) g)) 8 rfl ?_
    obtain ⟨q7, hK⟩ := am_chk_e hKn hK
    refine am_F.ial (N := 80) rfl rfl rfl q7 ?_
    show am_F _ _ 47 [.ref 88, .int frm, .int z5.1] [.int (f 97 ((f 88 12).toNatClampNeg)), .int 2000, .int frm, .ref 98] (am_S (am_row f 98 z5.2) g) _
    refine am_F.ops (pc' := 48) (L' := [.ref 88, .int frm, .int z5.1]) (S' := [.int (2000 + (f 97 ((f 88 12).toNatClampNeg))), .int frm, .ref 98]) (μ' := (am_S (am_row f 98 z5.2) g)) 1 rfl ?_
    obtain ⟨q8, hK⟩ := am_chk_e hKn hK
    refine am_F.ias (F' := (am_row f 98 (upd z5.2 frm.toNatClampNeg (2000 + (f 97 ((f 88 12).toNatClampNeg)))))) (N := 81) rfl rfl rfl q8 (by first | rfl | (funext a; by_cases z0 : a = 98; (subst z0; rfl); simp only [am_ui, am_ul, am_row_ne z0])) ?_
    refine am_F.ops (pc' := 56) (L' := [.ref 88, .int frm, .int z5.1]) (S' := [.int ((f 88 15) + 1), .ref 88]) (μ' := (am_S (am_row f 98 (upd z5.2 frm.toNatClampNeg (2000 + (f 97 ((f 88 12).toNatClampNeg))))) g)) 5 rfl ?_
    refine am_F.pfi (F' := (am_row (am_row f 88 (upd (f 88) 15 ((f 88 15) + 1))) 98 (upd z5.2 frm.toNatClampNeg (2000 + (f 97 ((f 88 12).toNatClampNeg)))))) rfl rfl (by first | rfl | (funext a; by_cases z0 : a = 88; (subst z0; rfl); by_cases z1 : a = 98; (subst z1; rfl); simp only [am_ui, am_ul, am_row_ne z0, am_row_ne z1])) ?_
    refine am_F.ops (pc' := 66) (L' := [.ref 88, .int frm, .int z5.1]) (S' := [.int ((f 88 12) + 1), .ref 88]) (μ' := (am_S (am_row (am_row f 88 (upd (f 88) 15 ((f 88 15) + 1))) 98 (upd z5.2 frm.toNatClampNeg (2000 + (f 97 ((f 88 12).toNatClampNeg))))) g)) 5 rfl ?_
    refine am_F.pfi (F' := (am_row (am_row f 88 (upd (upd (f 88) 15 ((f 88 15) + 1)) 12 ((f 88 12) + 1))) 98 (upd z5.2 frm.toNatClampNeg (2000 + (f 97 ((f 88 12).toNatClampNeg)))))) rfl rfl (by first | rfl | (funext a; by_cases z0 : a = 88; (subst z0; rfl); by_cases z1 : a = 98; (subst z1; rfl); simp only [am_ui, am_ul, am_row_ne z0, am_row_ne z1])) ?_
    subst hKd
    have hQ := am_KO_s hK
    exact am_F.eq (am_F.ret rfl rfl) hQ
  · exact z.elim
