/-! Roles (wip/whole/m1.py) -/
/-- AccessLattice$Roles.spread -/
def st_spread_4 (bits : Int32) (f : Nat → Nat → Int32) : Nat → Int32 → Int32 := fun i4 a4_2 => (bif (fn_has bits (nI i4)) then (a4_2 ||| (f 6 i4)) else a4_2)
def lf_spread_4 (bits : Int32) (f : Nat → Nat → Int32) : Int32 := am_for (st_spread_4 bits f) 20 0 0
def fn_spread (bits : Int32) (f : Nat → Nat → Int32) : Int32 := (lf_spread_4 bits f)
theorem lp_spread_4 (bits : Int32) (f : Nat → Nat → Int32) (g : Nat → Nat → Int64)  (res : Option Value × am_M) : ∀ (n i4 : Nat) (a4_2 : Int32) , i4 + n = 20 → (fun (z : Int32) => ∀ (wc : Value), am_F 1 am_k_24 33 [.ref 3, .int bits, .int z, wc] [] (am_S f g) res) (am_for (st_spread_4 bits f) n i4 a4_2) → am_F 1 am_k_24 4 [.ref 3, .int bits, .int a4_2, .int (nI i4)] [] (am_S f g) res := by
  intro n
  induction n with
  | zero =>
    intro i4 a4_2 hi hK
    refine am_F.pos 3 rfl (by show 20 ≤ nI i4; rw [show (20 : Int32) = nI 20 from rfl]; exact nI_le (by omega) (by omega)) ?_
    exact hK _
  | succ n ih =>
    intro i4 a4_2 hi hK
    refine am_F.neg 3 rfl (by show ¬ 20 ≤ nI i4; rw [show (20 : Int32) = nI 20 from rfl]; exact nI_ge (by omega) (by omega)) ?_
    have hb4 : i4 < 20 := by omega
    show am_F _ _ 10 [.ref 3, .int bits, .int a4_2, .int (nI i4)] [] (am_S f g) _
    obtain ⟨K, hKd⟩ : ∃ K : (Int32) → Prop, K = fun s => (fun (z : Int32) => ∀ (wc : Value), am_F 1 am_k_24 33 [.ref 3, .int bits, .int z, wc] [] (am_S f g) res) (am_for (st_spread_4 bits f) n (i4 + 1) s) := ⟨_, rfl⟩
    have hK : K ((st_spread_4 bits f) i4 a4_2) := by rw [hKd]; exact hK
    unfold st_spread_4 at hK
    refine am_F.ops (pc' := 12) (L' := [.ref 3, .int bits, .int a4_2, .int (nI i4)]) (S' := [.int (nI i4), .int bits]) (μ' := (am_S f g)) 2 rfl ?_
    refine am_F.call rfl rfl (x_has bits (nI i4) f g ) (by decide) ?_
    show am_F _ _ 15 [.ref 3, .int bits, .int a4_2, .int (nI i4)] [.int (am_b (fn_has bits (nI i4)))] (am_S f g) _
    refine am_F.bifK 1 rfl K hK (fun c2 hK => ?_) (fun c2 hK => ?_)
    · show am_F _ _ 18 [.ref 3, .int bits, .int a4_2, .int (nI i4)] [] (am_S f g) _
      refine am_F.ops (pc' := 24) (L' := [.ref 3, .int bits, .int a4_2, .int (nI i4)]) (S' := [.int (nI i4), .ref 6, .int a4_2]) (μ' := (am_S f g)) 4 rfl ?_
      refine am_F.ialE (m := i4) (N := 20) rfl rfl rfl rfl (by omega) (by decide) ?_
      show am_F _ _ 25 [.ref 3, .int bits, .int a4_2, .int (nI i4)] [.int (f 6 i4), .int a4_2] (am_S f g) _
      refine am_F.ops (pc' := 4) (L' := [.ref 3, .int bits, .int (a4_2 ||| (f 6 i4)), .int ((nI i4) + 1)]) (S' := []) (μ' := (am_S f g)) 4 rfl ?_
      rw [nI_1 i4]
      subst hKd
      exact ih (i4 + 1) (a4_2 ||| (f 6 i4)) (by omega)  hK
    · show am_F _ _ 27 [.ref 3, .int bits, .int a4_2, .int (nI i4)] [] (am_S f g) _
      refine am_F.ops (pc' := 4) (L' := [.ref 3, .int bits, .int a4_2, .int ((nI i4) + 1)]) (S' := []) (μ' := (am_S f g)) 2 rfl ?_
      rw [nI_1 i4]
      subst hKd
      exact ih (i4 + 1) a4_2 (by omega)  hK
theorem x_spread (bits : Int32) (f : Nat → Nat → Int32) (g : Nat → Nat → Int64)  : am_D 1 24 4 [.ref 3, .int bits] (am_S f g) (some (Value.int (fn_spread bits f)), am_S f g) := by
  refine am_D.of (code := am_k_24) rfl (L0 := [.ref 3, .int bits, am_un, am_un]) rfl ?_
  generalize hres : (some (Value.int (fn_spread bits f)), am_S f g) = res
  obtain ⟨K, hKd⟩ : ∃ K : Int32 → Prop, K = fun z => (some (Value.int z), am_S f g) = res := ⟨_, rfl⟩
  have hK : K (fn_spread bits f) := by rw [hKd]; exact hres
  clear hres
  unfold fn_spread at hK
  refine am_F.ops (pc' := 4) (L' := [.ref 3, .int bits, .int 0, .int 0]) (S' := []) (μ' := (am_S f g)) 4 rfl ?_
  show am_F _ _ 4 [.ref 3, .int bits, .int 0, .int (nI 0)] [] (am_S f g) _
  refine lp_spread_4 bits f g  _ 20 0 0  (by omega)  ?_
  rw [show am_for (st_spread_4 bits f) 20 0 0 = (lf_spread_4 bits f) from rfl]
  generalize (lf_spread_4 bits f) = z4_3 at hK ⊢
  intro wc
  show am_F _ _ 33 [.ref 3, .int bits, .int z4_3, wc] [] (am_S f g) _
  refine am_F.ops (pc' := 34) (L' := [.ref 3, .int bits, .int z4_3, wc]) (S' := [.int z4_3]) (μ' := (am_S f g)) 1 rfl ?_
  subst hKd
  exact am_F.eq (am_F.ret rfl rfl) hK
/-- AccessLattice$Roles.close -/
def st_close_2 (f : Nat → Nat → Int32) : Nat → (Nat → Int32) × (Nat → Int32) → (Nat → Int32) × (Nat → Int32) := fun i2 z => match z with
  | (r2_6, r2_7) => (upd r2_6 i2 ((f 4 i2) ||| (1 <<< ((nI i2) &&& 31))), upd r2_7 i2 ((f 5 i2) ||| (1 <<< ((nI i2) &&& 31))))
def lf_close_2 (f : Nat → Nat → Int32) : (Nat → Int32) × (Nat → Int32) := am_for (st_close_2 f) 20 0 (f 6, f 7)
def st_close_56 (i48 : Nat) : Nat → (Nat → Int32) × (Nat → Int32) → (Nat → Int32) × (Nat → Int32) := fun i56 z => match z with
  | (r56_6, r56_7) => (bif (fn_has (r56_6 i56) (nI i48)) then (bif (fn_has (r56_7 i56) (nI i48)) then (upd r56_6 i56 ((r56_6 i56) ||| (r56_6 i48)), upd r56_7 i56 ((r56_7 i56) ||| (r56_7 i48))) else (upd r56_6 i56 ((r56_6 i56) ||| (r56_6 i48)), r56_7)) else (bif (fn_has (r56_7 i56) (nI i48)) then (r56_6, upd r56_7 i56 ((r56_7 i56) ||| (r56_7 i48))) else (r56_6, r56_7)))
def lf_close_56 (i48 : Nat) (r48_6 : Nat → Int32) (r48_7 : Nat → Int32) : (Nat → Int32) × (Nat → Int32) := am_for (st_close_56 i48) 20 0 (r48_6, r48_7)
def st_close_48  : Nat → (Nat → Int32) × (Nat → Int32) → (Nat → Int32) × (Nat → Int32) := fun i48 z => match z with
  | (r48_6, r48_7) => ((lf_close_56 i48 r48_6 r48_7).1, (lf_close_56 i48 r48_6 r48_7).2)
def lf_close_48 (z2_1 : (Nat → Int32) × (Nat → Int32)) : (Nat → Int32) × (Nat → Int32) := am_for st_close_48 20 0 (z2_1.1, z2_1.2)
def fn_close (f : Nat → Nat → Int32) : (Nat → Int32) × (Nat → Int32) := ((lf_close_48 (lf_close_2 f)).1, (lf_close_48 (lf_close_2 f)).2)
theorem lp_close_2 (f : Nat → Nat → Int32) (g : Nat → Nat → Int64)  (res : Option Value × am_M) : ∀ (n i2 : Nat) (r2_6 : Nat → Int32) (r2_7 : Nat → Int32) , i2 + n = 20 → (fun (z : (Nat → Int32) × (Nat → Int32)) => ∀ (wc : Value), am_F 1 am_k_4 46 [.ref 3, wc, am_un] [] (am_S (am_row (am_row f 6 z.1) 7 z.2) g) res) (am_for (st_close_2 f) n i2 (r2_6, r2_7)) → am_F 1 am_k_4 2 [.ref 3, .int (nI i2), am_un] [] (am_S (am_row (am_row f 6 r2_6) 7 r2_7) g) res := by
  intro n
  induction n with
  | zero =>
    intro i2 r2_6 r2_7 hi hK
    refine am_F.pos 3 rfl (by show 20 ≤ nI i2; rw [show (20 : Int32) = nI 20 from rfl]; exact nI_le (by omega) (by omega)) ?_
    exact hK _
  | succ n ih =>
    intro i2 r2_6 r2_7 hi hK
    refine am_F.neg 3 rfl (by show ¬ 20 ≤ nI i2; rw [show (20 : Int32) = nI 20 from rfl]; exact nI_ge (by omega) (by omega)) ?_
    have hb2 : i2 < 20 := by omega
    show am_F _ _ 8 [.ref 3, .int (nI i2), am_un] [] (am_S (am_row (am_row f 6 r2_6) 7 r2_7) g) _
    obtain ⟨K, hKd⟩ : ∃ K : ((Nat → Int32) × (Nat → Int32)) → Prop, K = fun s => (fun (z : (Nat → Int32) × (Nat → Int32)) => ∀ (wc : Value), am_F 1 am_k_4 46 [.ref 3, wc, am_un] [] (am_S (am_row (am_row f 6 z.1) 7 z.2) g) res) (am_for (st_close_2 f) n (i2 + 1) s) := ⟨_, rfl⟩
    have hK : K ((st_close_2 f) i2 (r2_6, r2_7)) := by rw [hKd]; exact hK
    unfold st_close_2 at hK
    simp only at hK
    refine am_F.ops (pc' := 18) (L' := [.ref 3, .int (nI i2), am_un]) (S' := [.int (nI i2), .ref 4, .int (nI i2), .ref 6]) (μ' := (am_S (am_row (am_row f 6 r2_6) 7 r2_7) g)) 6 rfl ?_
    refine am_F.ialE (m := i2) (N := 20) rfl rfl rfl rfl (by omega) (by decide) ?_
    show am_F _ _ 19 [.ref 3, .int (nI i2), am_un] [.int (f 4 i2), .int (nI i2), .ref 6] (am_S (am_row (am_row f 6 r2_6) 7 r2_7) g) _
    refine am_F.ops (pc' := 23) (L' := [.ref 3, .int (nI i2), am_un]) (S' := [.int ((f 4 i2) ||| (1 <<< ((nI i2) &&& 31))), .int (nI i2), .ref 6]) (μ' := (am_S (am_row (am_row f 6 r2_6) 7 r2_7) g)) 4 rfl ?_
    refine am_F.iasE (F' := (am_row (am_row f 6 (upd r2_6 i2 ((f 4 i2) ||| (1 <<< ((nI i2) &&& 31))))) 7 r2_7)) (m := i2) (N := 20) rfl rfl rfl rfl (by omega) (by decide) (by first | rfl | (funext a; by_cases z0 : a = 6; (subst z0; rfl); by_cases z1 : a = 7; (subst z1; rfl); simp only [am_ui, am_ul, am_row_ne z0, am_row_ne z1])) ?_
    refine am_F.ops (pc' := 34) (L' := [.ref 3, .int (nI i2), am_un]) (S' := [.int (nI i2), .ref 5, .int (nI i2), .ref 7]) (μ' := (am_S (am_row (am_row f 6 (upd r2_6 i2 ((f 4 i2) ||| (1 <<< ((nI i2) &&& 31))))) 7 r2_7) g)) 6 rfl ?_
    refine am_F.ialE (m := i2) (N := 20) rfl rfl rfl rfl (by omega) (by decide) ?_
    show am_F _ _ 35 [.ref 3, .int (nI i2), am_un] [.int (f 5 i2), .int (nI i2), .ref 7] (am_S (am_row (am_row f 6 (upd r2_6 i2 ((f 4 i2) ||| (1 <<< ((nI i2) &&& 31))))) 7 r2_7) g) _
    refine am_F.ops (pc' := 39) (L' := [.ref 3, .int (nI i2), am_un]) (S' := [.int ((f 5 i2) ||| (1 <<< ((nI i2) &&& 31))), .int (nI i2), .ref 7]) (μ' := (am_S (am_row (am_row f 6 (upd r2_6 i2 ((f 4 i2) ||| (1 <<< ((nI i2) &&& 31))))) 7 r2_7) g)) 4 rfl ?_
    refine am_F.iasE (F' := (am_row (am_row f 6 (upd r2_6 i2 ((f 4 i2) ||| (1 <<< ((nI i2) &&& 31))))) 7 (upd r2_7 i2 ((f 5 i2) ||| (1 <<< ((nI i2) &&& 31)))))) (m := i2) (N := 20) rfl rfl rfl rfl (by omega) (by decide) (by first | rfl | (funext a; by_cases z0 : a = 6; (subst z0; rfl); by_cases z1 : a = 7; (subst z1; rfl); simp only [am_ui, am_ul, am_row_ne z0, am_row_ne z1])) ?_
    refine am_F.ops (pc' := 2) (L' := [.ref 3, .int ((nI i2) + 1), am_un]) (S' := []) (μ' := (am_S (am_row (am_row f 6 (upd r2_6 i2 ((f 4 i2) ||| (1 <<< ((nI i2) &&& 31))))) 7 (upd r2_7 i2 ((f 5 i2) ||| (1 <<< ((nI i2) &&& 31))))) g)) 2 rfl ?_
    rw [nI_1 i2]
    subst hKd
    exact ih (i2 + 1) (upd r2_6 i2 ((f 4 i2) ||| (1 <<< ((nI i2) &&& 31)))) (upd r2_7 i2 ((f 5 i2) ||| (1 <<< ((nI i2) &&& 31)))) (by omega)  hK
theorem lp_close_56 (f : Nat → Nat → Int32) (g : Nat → Nat → Int64) (z2_1 : (Nat → Int32) × (Nat → Int32)) (i48 : Nat) (r48_6 : Nat → Int32) (r48_7 : Nat → Int32) (hb48 : i48 < 20) (res : Option Value × am_M) : ∀ (n i56 : Nat) (r56_6 : Nat → Int32) (r56_7 : Nat → Int32) , i56 + n = 20 → (fun (z : (Nat → Int32) × (Nat → Int32)) => ∀ (wc : Value), am_F 1 am_k_4 124 [.ref 3, .int (nI i48), wc] [] (am_S (am_row (am_row f 6 z.1) 7 z.2) g) res) (am_for (st_close_56 i48) n i56 (r56_6, r56_7)) → am_F 1 am_k_4 56 [.ref 3, .int (nI i48), .int (nI i56)] [] (am_S (am_row (am_row f 6 r56_6) 7 r56_7) g) res := by
  intro n
  induction n with
  | zero =>
    intro i56 r56_6 r56_7 hi hK
    refine am_F.pos 3 rfl (by show 20 ≤ nI i56; rw [show (20 : Int32) = nI 20 from rfl]; exact nI_le (by omega) (by omega)) ?_
    exact hK _
  | succ n ih =>
    intro i56 r56_6 r56_7 hi hK
    refine am_F.neg 3 rfl (by show ¬ 20 ≤ nI i56; rw [show (20 : Int32) = nI 20 from rfl]; exact nI_ge (by omega) (by omega)) ?_
    have hb56 : i56 < 20 := by omega
    show am_F _ _ 62 [.ref 3, .int (nI i48), .int (nI i56)] [] (am_S (am_row (am_row f 6 r56_6) 7 r56_7) g) _
    obtain ⟨K, hKd⟩ : ∃ K : ((Nat → Int32) × (Nat → Int32)) → Prop, K = fun s => (fun (z : (Nat → Int32) × (Nat → Int32)) => ∀ (wc : Value), am_F 1 am_k_4 124 [.ref 3, .int (nI i48), wc] [] (am_S (am_row (am_row f 6 z.1) 7 z.2) g) res) (am_for (st_close_56 i48) n (i56 + 1) s) := ⟨_, rfl⟩
    have hK : K ((st_close_56 i48) i56 (r56_6, r56_7)) := by rw [hKd]; exact hK
    unfold st_close_56 at hK
    simp only at hK
    refine am_F.ops (pc' := 67) (L' := [.ref 3, .int (nI i48), .int (nI i56)]) (S' := [.int (nI i56), .ref 6]) (μ' := (am_S (am_row (am_row f 6 r56_6) 7 r56_7) g)) 3 rfl ?_
    refine am_F.ialE (m := i56) (N := 20) rfl rfl rfl rfl (by omega) (by decide) ?_
    show am_F _ _ 68 [.ref 3, .int (nI i48), .int (nI i56)] [.int (r56_6 i56)] (am_S (am_row (am_row f 6 r56_6) 7 r56_7) g) _
    refine am_F.ops (pc' := 69) (L' := [.ref 3, .int (nI i48), .int (nI i56)]) (S' := [.int (nI i48), .int (r56_6 i56)]) (μ' := (am_S (am_row (am_row f 6 r56_6) 7 r56_7) g)) 1 rfl ?_
    refine am_F.call rfl rfl (x_has (r56_6 i56) (nI i48) (am_row (am_row f 6 r56_6) 7 r56_7) g ) (by decide) ?_
    show am_F _ _ 72 [.ref 3, .int (nI i48), .int (nI i56)] [.int (am_b (fn_has (r56_6 i56) (nI i48)))] (am_S (am_row (am_row f 6 r56_6) 7 r56_7) g) _
    refine am_F.bifK 1 rfl K hK (fun c22 hK => ?_) (fun c22 hK => ?_)
    · show am_F _ _ 75 [.ref 3, .int (nI i48), .int (nI i56)] [] (am_S (am_row (am_row f 6 r56_6) 7 r56_7) g) _
      refine am_F.ops (pc' := 81) (L' := [.ref 3, .int (nI i48), .int (nI i56)]) (S' := [.int (nI i56), .ref 6, .int (nI i56), .ref 6]) (μ' := (am_S (am_row (am_row f 6 r56_6) 7 r56_7) g)) 4 rfl ?_
      refine am_F.ialE (m := i56) (N := 20) rfl rfl rfl rfl (by omega) (by decide) ?_
      show am_F _ _ 82 [.ref 3, .int (nI i48), .int (nI i56)] [.int (r56_6 i56), .int (nI i56), .ref 6] (am_S (am_row (am_row f 6 r56_6) 7 r56_7) g) _
      refine am_F.ops (pc' := 87) (L' := [.ref 3, .int (nI i48), .int (nI i56)]) (S' := [.int (nI i48), .ref 6, .int (r56_6 i56), .int (nI i56), .ref 6]) (μ' := (am_S (am_row (am_row f 6 r56_6) 7 r56_7) g)) 3 rfl ?_
      refine am_F.ialE (m := i48) (N := 20) rfl rfl rfl rfl (by omega) (by decide) ?_
      show am_F _ _ 88 [.ref 3, .int (nI i48), .int (nI i56)] [.int (r56_6 i48), .int (r56_6 i56), .int (nI i56), .ref 6] (am_S (am_row (am_row f 6 r56_6) 7 r56_7) g) _
      refine am_F.ops (pc' := 89) (L' := [.ref 3, .int (nI i48), .int (nI i56)]) (S' := [.int ((r56_6 i56) ||| (r56_6 i48)), .int (nI i56), .ref 6]) (μ' := (am_S (am_row (am_row f 6 r56_6) 7 r56_7) g)) 1 rfl ?_
      refine am_F.iasE (F' := (am_row (am_row f 6 (upd r56_6 i56 ((r56_6 i56) ||| (r56_6 i48)))) 7 r56_7)) (m := i56) (N := 20) rfl rfl rfl rfl (by omega) (by decide) (by first | rfl | (funext a; by_cases z0 : a = 6; (subst z0; rfl); by_cases z1 : a = 7; (subst z1; rfl); simp only [am_ui, am_ul, am_row_ne z0, am_row_ne z1])) ?_
      refine am_F.ops (pc' := 95) (L' := [.ref 3, .int (nI i48), .int (nI i56)]) (S' := [.int (nI i56), .ref 7]) (μ' := (am_S (am_row (am_row f 6 (upd r56_6 i56 ((r56_6 i56) ||| (r56_6 i48)))) 7 r56_7) g)) 3 rfl ?_
      refine am_F.ialE (m := i56) (N := 20) rfl rfl rfl rfl (by omega) (by decide) ?_
      show am_F _ _ 96 [.ref 3, .int (nI i48), .int (nI i56)] [.int (r56_7 i56)] (am_S (am_row (am_row f 6 (upd r56_6 i56 ((r56_6 i56) ||| (r56_6 i48)))) 7 r56_7) g) _
      refine am_F.ops (pc' := 97) (L' := [.ref 3, .int (nI i48), .int (nI i56)]) (S' := [.int (nI i48), .int (r56_7 i56)]) (μ' := (am_S (am_row (am_row f 6 (upd r56_6 i56 ((r56_6 i56) ||| (r56_6 i48)))) 7 r56_7) g)) 1 rfl ?_
      refine am_F.call rfl rfl (x_has (r56_7 i56) (nI i48) (am_row (am_row f 6 (upd r56_6 i56 ((r56_6 i56) ||| (r56_6 i48)))) 7 r56_7) g ) (by decide) ?_
      show am_F _ _ 100 [.ref 3, .int (nI i48), .int (nI i56)] [.int (am_b (fn_has (r56_7 i56) (nI i48)))] (am_S (am_row (am_row f 6 (upd r56_6 i56 ((r56_6 i56) ||| (r56_6 i48)))) 7 r56_7) g) _
      refine am_F.bifK 1 rfl K hK (fun c24 hK => ?_) (fun c24 hK => ?_)
      · show am_F _ _ 103 [.ref 3, .int (nI i48), .int (nI i56)] [] (am_S (am_row (am_row f 6 (upd r56_6 i56 ((r56_6 i56) ||| (r56_6 i48)))) 7 r56_7) g) _
        refine am_F.ops (pc' := 109) (L' := [.ref 3, .int (nI i48), .int (nI i56)]) (S' := [.int (nI i56), .ref 7, .int (nI i56), .ref 7]) (μ' := (am_S (am_row (am_row f 6 (upd r56_6 i56 ((r56_6 i56) ||| (r56_6 i48)))) 7 r56_7) g)) 4 rfl ?_
        refine am_F.ialE (m := i56) (N := 20) rfl rfl rfl rfl (by omega) (by decide) ?_
        show am_F _ _ 110 [.ref 3, .int (nI i48), .int (nI i56)] [.int (r56_7 i56), .int (nI i56), .ref 7] (am_S (am_row (am_row f 6 (upd r56_6 i56 ((r56_6 i56) ||| (r56_6 i48)))) 7 r56_7) g) _
        refine am_F.ops (pc' := 115) (L' := [.ref 3, .int (nI i48), .int (nI i56)]) (S' := [.int (nI i48), .ref 7, .int (r56_7 i56), .int (nI i56), .ref 7]) (μ' := (am_S (am_row (am_row f 6 (upd r56_6 i56 ((r56_6 i56) ||| (r56_6 i48)))) 7 r56_7) g)) 3 rfl ?_
        refine am_F.ialE (m := i48) (N := 20) rfl rfl rfl rfl (by omega) (by decide) ?_
        show am_F _ _ 116 [.ref 3, .int (nI i48), .int (nI i56)] [.int (r56_7 i48), .int (r56_7 i56), .int (nI i56), .ref 7] (am_S (am_row (am_row f 6 (upd r56_6 i56 ((r56_6 i56) ||| (r56_6 i48)))) 7 r56_7) g) _
        refine am_F.ops (pc' := 117) (L' := [.ref 3, .int (nI i48), .int (nI i56)]) (S' := [.int ((r56_7 i56) ||| (r56_7 i48)), .int (nI i56), .ref 7]) (μ' := (am_S (am_row (am_row f 6 (upd r56_6 i56 ((r56_6 i56) ||| (r56_6 i48)))) 7 r56_7) g)) 1 rfl ?_
        refine am_F.iasE (F' := (am_row (am_row f 6 (upd r56_6 i56 ((r56_6 i56) ||| (r56_6 i48)))) 7 (upd r56_7 i56 ((r56_7 i56) ||| (r56_7 i48))))) (m := i56) (N := 20) rfl rfl rfl rfl (by omega) (by decide) (by first | rfl | (funext a; by_cases z0 : a = 6; (subst z0; rfl); by_cases z1 : a = 7; (subst z1; rfl); simp only [am_ui, am_ul, am_row_ne z0, am_row_ne z1])) ?_
        refine am_F.ops (pc' := 56) (L' := [.ref 3, .int (nI i48), .int ((nI i56) + 1)]) (S' := []) (μ' := (am_S (am_row (am_row f 6 (upd r56_6 i56 ((r56_6 i56) ||| (r56_6 i48)))) 7 (upd r56_7 i56 ((r56_7 i56) ||| (r56_7 i48)))) g)) 2 rfl ?_
        rw [nI_1 i56]
        subst hKd
        exact ih (i56 + 1) (upd r56_6 i56 ((r56_6 i56) ||| (r56_6 i48))) (upd r56_7 i56 ((r56_7 i56) ||| (r56_7 i48))) (by omega)  hK
      · show am_F _ _ 118 [.ref 3, .int (nI i48), .int (nI i56)] [] (am_S (am_row (am_row f 6 (upd r56_6 i56 ((r56_6 i56) ||| (r56_6 i48)))) 7 r56_7) g) _
        refine am_F.ops (pc' := 56) (L' := [.ref 3, .int (nI i48), .int ((nI i56) + 1)]) (S' := []) (μ' := (am_S (am_row (am_row f 6 (upd r56_6 i56 ((r56_6 i56) ||| (r56_6 i48)))) 7 r56_7) g)) 2 rfl ?_
        rw [nI_1 i56]
        subst hKd
        exact ih (i56 + 1) (upd r56_6 i56 ((r56_6 i56) ||| (r56_6 i48))) r56_7 (by omega)  hK
    · show am_F _ _ 90 [.ref 3, .int (nI i48), .int (nI i56)] [] (am_S (am_row (am_row f 6 r56_6) 7 r56_7) g) _
      refine am_F.ops (pc' := 95) (L' := [.ref 3, .int (nI i48), .int (nI i56)]) (S' := [.int (nI i56), .ref 7]) (μ' := (am_S (am_row (am_row f 6 r56_6) 7 r56_7) g)) 3 rfl ?_
      refine am_F.ialE (m := i56) (N := 20) rfl rfl rfl rfl (by omega) (by decide) ?_
      show am_F _ _ 96 [.ref 3, .int (nI i48), .int (nI i56)] [.int (r56_7 i56)] (am_S (am_row (am_row f 6 r56_6) 7 r56_7) g) _
      refine am_F.ops (pc' := 97) (L' := [.ref 3, .int (nI i48), .int (nI i56)]) (S' := [.int (nI i48), .int (r56_7 i56)]) (μ' := (am_S (am_row (am_row f 6 r56_6) 7 r56_7) g)) 1 rfl ?_
      refine am_F.call rfl rfl (x_has (r56_7 i56) (nI i48) (am_row (am_row f 6 r56_6) 7 r56_7) g ) (by decide) ?_
      show am_F _ _ 100 [.ref 3, .int (nI i48), .int (nI i56)] [.int (am_b (fn_has (r56_7 i56) (nI i48)))] (am_S (am_row (am_row f 6 r56_6) 7 r56_7) g) _
      refine am_F.bifK 1 rfl K hK (fun c26 hK => ?_) (fun c26 hK => ?_)
      · show am_F _ _ 103 [.ref 3, .int (nI i48), .int (nI i56)] [] (am_S (am_row (am_row f 6 r56_6) 7 r56_7) g) _
        refine am_F.ops (pc' := 109) (L' := [.ref 3, .int (nI i48), .int (nI i56)]) (S' := [.int (nI i56), .ref 7, .int (nI i56), .ref 7]) (μ' := (am_S (am_row (am_row f 6 r56_6) 7 r56_7) g)) 4 rfl ?_
        refine am_F.ialE (m := i56) (N := 20) rfl rfl rfl rfl (by omega) (by decide) ?_
        show am_F _ _ 110 [.ref 3, .int (nI i48), .int (nI i56)] [.int (r56_7 i56), .int (nI i56), .ref 7] (am_S (am_row (am_row f 6 r56_6) 7 r56_7) g) _
        refine am_F.ops (pc' := 115) (L' := [.ref 3, .int (nI i48), .int (nI i56)]) (S' := [.int (nI i48), .ref 7, .int (r56_7 i56), .int (nI i56), .ref 7]) (μ' := (am_S (am_row (am_row f 6 r56_6) 7 r56_7) g)) 3 rfl ?_
        refine am_F.ialE (m := i48) (N := 20) rfl rfl rfl rfl (by omega) (by decide) ?_
        show am_F _ _ 116 [.ref 3, .int (nI i48), .int (nI i56)] [.int (r56_7 i48), .int (r56_7 i56), .int (nI i56), .ref 7] (am_S (am_row (am_row f 6 r56_6) 7 r56_7) g) _
        refine am_F.ops (pc' := 117) (L' := [.ref 3, .int (nI i48), .int (nI i56)]) (S' := [.int ((r56_7 i56) ||| (r56_7 i48)), .int (nI i56), .ref 7]) (μ' := (am_S (am_row (am_row f 6 r56_6) 7 r56_7) g)) 1 rfl ?_
        refine am_F.iasE (F' := (am_row (am_row f 6 r56_6) 7 (upd r56_7 i56 ((r56_7 i56) ||| (r56_7 i48))))) (m := i56) (N := 20) rfl rfl rfl rfl (by omega) (by decide) (by first | rfl | (funext a; by_cases z0 : a = 6; (subst z0; rfl); by_cases z1 : a = 7; (subst z1; rfl); simp only [am_ui, am_ul, am_row_ne z0, am_row_ne z1])) ?_
        refine am_F.ops (pc' := 56) (L' := [.ref 3, .int (nI i48), .int ((nI i56) + 1)]) (S' := []) (μ' := (am_S (am_row (am_row f 6 r56_6) 7 (upd r56_7 i56 ((r56_7 i56) ||| (r56_7 i48)))) g)) 2 rfl ?_
        rw [nI_1 i56]
        subst hKd
        exact ih (i56 + 1) r56_6 (upd r56_7 i56 ((r56_7 i56) ||| (r56_7 i48))) (by omega)  hK
      · show am_F _ _ 118 [.ref 3, .int (nI i48), .int (nI i56)] [] (am_S (am_row (am_row f 6 r56_6) 7 r56_7) g) _
        refine am_F.ops (pc' := 56) (L' := [.ref 3, .int (nI i48), .int ((nI i56) + 1)]) (S' := []) (μ' := (am_S (am_row (am_row f 6 r56_6) 7 r56_7) g)) 2 rfl ?_
        rw [nI_1 i56]
        subst hKd
        exact ih (i56 + 1) r56_6 r56_7 (by omega)  hK
theorem lp_close_48 (f : Nat → Nat → Int32) (g : Nat → Nat → Int64) (z2_1 : (Nat → Int32) × (Nat → Int32))  (res : Option Value × am_M) : ∀ (n i48 : Nat) (r48_6 : Nat → Int32) (r48_7 : Nat → Int32) (w48_2 : Value), i48 + n = 20 → (fun (z : (Nat → Int32) × (Nat → Int32)) => ∀ (wc : Value) (w48_2 : Value), am_F 1 am_k_4 130 [.ref 3, wc, w48_2] [] (am_S (am_row (am_row f 6 z.1) 7 z.2) g) res) (am_for st_close_48 n i48 (r48_6, r48_7)) → am_F 1 am_k_4 48 [.ref 3, .int (nI i48), w48_2] [] (am_S (am_row (am_row f 6 r48_6) 7 r48_7) g) res := by
  intro n
  induction n with
  | zero =>
    intro i48 r48_6 r48_7 w48_2 hi hK
    refine am_F.pos 3 rfl (by show 20 ≤ nI i48; rw [show (20 : Int32) = nI 20 from rfl]; exact nI_le (by omega) (by omega)) ?_
    exact hK _ _
  | succ n ih =>
    intro i48 r48_6 r48_7 w48_2 hi hK
    refine am_F.neg 3 rfl (by show ¬ 20 ≤ nI i48; rw [show (20 : Int32) = nI 20 from rfl]; exact nI_ge (by omega) (by omega)) ?_
    have hb48 : i48 < 20 := by omega
    show am_F _ _ 54 [.ref 3, .int (nI i48), w48_2] [] (am_S (am_row (am_row f 6 r48_6) 7 r48_7) g) _
    obtain ⟨K, hKd⟩ : ∃ K : ((Nat → Int32) × (Nat → Int32)) → Prop, K = fun s => (fun (z : (Nat → Int32) × (Nat → Int32)) => ∀ (wc : Value) (w48_2 : Value), am_F 1 am_k_4 130 [.ref 3, wc, w48_2] [] (am_S (am_row (am_row f 6 z.1) 7 z.2) g) res) (am_for st_close_48 n (i48 + 1) s) := ⟨_, rfl⟩
    have hK : K (st_close_48 i48 (r48_6, r48_7)) := by rw [hKd]; exact hK
    unfold st_close_48 at hK
    simp only at hK
    refine am_F.ops (pc' := 56) (L' := [.ref 3, .int (nI i48), .int 0]) (S' := []) (μ' := (am_S (am_row (am_row f 6 r48_6) 7 r48_7) g)) 2 rfl ?_
    show am_F _ _ 56 [.ref 3, .int (nI i48), .int (nI 0)] [] (am_S (am_row (am_row f 6 r48_6) 7 r48_7) g) _
    refine lp_close_56 f g z2_1 i48 r48_6 r48_7 hb48 _ 20 0 r48_6 r48_7  (by omega)  ?_
    rw [show am_for (st_close_56 i48) 20 0 (r48_6, r48_7) = (lf_close_56 i48 r48_6 r48_7) from rfl]
    generalize (lf_close_56 i48 r48_6 r48_7) = z56_27 at hK ⊢
    intro wc
    show am_F _ _ 124 [.ref 3, .int (nI i48), wc] [] (am_S (am_row (am_row f 6 z56_27.1) 7 z56_27.2) g) _
    refine am_F.ops (pc' := 48) (L' := [.ref 3, .int ((nI i48) + 1), wc]) (S' := []) (μ' := (am_S (am_row (am_row f 6 z56_27.1) 7 z56_27.2) g)) 2 rfl ?_
    rw [nI_1 i48]
    subst hKd
    exact ih (i48 + 1) z56_27.1 z56_27.2 wc (by omega)  hK
theorem x_close (f : Nat → Nat → Int32) (g : Nat → Nat → Int64)  : am_D 1 4 3 [.ref 3] (am_S f g) ((none : Option Value), am_S (am_row (am_row f 6 ((fn_close f).1)) 7 ((fn_close f).2)) g) := by
  refine am_D.of (code := am_k_4) rfl (L0 := [.ref 3, am_un, am_un]) rfl ?_
  generalize hres : ((none : Option Value), am_S (am_row (am_row f 6 ((fn_close f).1)) 7 ((fn_close f).2)) g) = res
  obtain ⟨K, hKd⟩ : ∃ K : ((Nat → Int32) × (Nat → Int32)) → Prop, K = fun z => ((none : Option Value), am_S (am_row (am_row f 6 z.1) 7 z.2) g) = res := ⟨_, rfl⟩
  have hK : K (fn_close f) := by rw [hKd]; exact hres
  clear hres
  unfold fn_close at hK
  refine am_F.ops (pc' := 2) (L' := [.ref 3, .int 0, am_un]) (S' := []) (μ' := (am_S f g)) 2 rfl ?_
  refine am_F.mem (F' := (am_row (am_row f 6 (f 6)) 7 (f 7))) (G' := g) ?_ (by first | rfl | (funext a; by_cases z0 : a = 6; (subst z0; rfl); by_cases z1 : a = 7; (subst z1; rfl); simp only [am_ui, am_ul, am_row_ne z0, am_row_ne z1])) (by first | rfl | (funext a; by_cases z0 : a = 6; (subst z0; rfl); by_cases z1 : a = 7; (subst z1; rfl); simp only [am_ui, am_ul, am_row_ne z0, am_row_ne z1]))
  show am_F _ _ 2 [.ref 3, .int (nI 0), am_un] [] (am_S (am_row (am_row f 6 (f 6)) 7 (f 7)) g) _
  refine lp_close_2 f g  _ 20 0 (f 6) (f 7)  (by omega)  ?_
  rw [show am_for (st_close_2 f) 20 0 (f 6, f 7) = (lf_close_2 f) from rfl]
  generalize (lf_close_2 f) = z2_1 at hK ⊢
  intro wc
  show am_F _ _ 46 [.ref 3, wc, am_un] [] (am_S (am_row (am_row f 6 z2_1.1) 7 z2_1.2) g) _
  refine am_F.ops (pc' := 48) (L' := [.ref 3, .int 0, am_un]) (S' := []) (μ' := (am_S (am_row (am_row f 6 z2_1.1) 7 z2_1.2) g)) 2 rfl ?_
  show am_F _ _ 48 [.ref 3, .int (nI 0), am_un] [] (am_S (am_row (am_row f 6 z2_1.1) 7 z2_1.2) g) _
  refine lp_close_48 f g z2_1  _ 20 0 z2_1.1 z2_1.2 am_un (by omega)  ?_
  rw [show am_for st_close_48 20 0 (z2_1.1, z2_1.2) = (lf_close_48 z2_1) from rfl]
  generalize (lf_close_48 z2_1) = z48_28 at hK ⊢
  intro wc w48_2
  show am_F _ _ 130 [.ref 3, wc, w48_2] [] (am_S (am_row (am_row f 6 z48_28.1) 7 z48_28.2) g) _
  subst hKd
  exact am_F.eq (am_F.ret rfl rfl) hK
/-- AccessLattice$Roles.put -/
def fn_put (role : Nat) (other : Nat) (on : Bool) (f : Nat → Nat → Int32) : (Nat → Int32) × (Nat → Int32) × (Nat → Int32) × (Nat → Int32) × (Nat → Int32) := (upd (f 3) 7 ((f 3 7) + (bif on then 1 else (-1))), upd (f 4) role (bif on then (f 4 role) ||| (1 <<< ((nI other) &&& 31)) else (f 4 role) &&& ((1 <<< ((nI other) &&& 31)) ^^^ (-1))), upd (f 5) other (bif on then (f 5 other) ||| (1 <<< ((nI role) &&& 31)) else (f 5 other) &&& ((1 <<< ((nI role) &&& 31)) ^^^ (-1))), (fn_close (am_row (am_row (am_row f 3 (upd (f 3) 7 ((f 3 7) + (bif on then 1 else (-1))))) 4 (upd (f 4) role (bif on then (f 4 role) ||| (1 <<< ((nI other) &&& 31)) else (f 4 role) &&& ((1 <<< ((nI other) &&& 31)) ^^^ (-1))))) 5 (upd (f 5) other (bif on then (f 5 other) ||| (1 <<< ((nI role) &&& 31)) else (f 5 other) &&& ((1 <<< ((nI role) &&& 31)) ^^^ (-1)))))).1, (fn_close (am_row (am_row (am_row f 3 (upd (f 3) 7 ((f 3 7) + (bif on then 1 else (-1))))) 4 (upd (f 4) role (bif on then (f 4 role) ||| (1 <<< ((nI other) &&& 31)) else (f 4 role) &&& ((1 <<< ((nI other) &&& 31)) ^^^ (-1))))) 5 (upd (f 5) other (bif on then (f 5 other) ||| (1 <<< ((nI role) &&& 31)) else (f 5 other) &&& ((1 <<< ((nI role) &&& 31)) ^^^ (-1)))))).2)
theorem x_put (role : Nat) (other : Nat) (on : Bool) (f : Nat → Nat → Int32) (g : Nat → Nat → Int64) (hrole : role < 20) (hother : other < 20) : am_D 2 21 4 [.ref 3, .int (nI role), .int (nI other), .int (am_b on)] (am_S f g) ((none : Option Value), am_S (am_row (am_row (am_row (am_row (am_row f 3 ((fn_put role other on f).1)) 4 ((fn_put role other on f).2.1)) 5 ((fn_put role other on f).2.2.1)) 6 ((fn_put role other on f).2.2.2.1)) 7 ((fn_put role other on f).2.2.2.2)) g) := by
  refine am_D.of (code := am_k_21) rfl (L0 := [.ref 3, .int (nI role), .int (nI other), .int (am_b on)]) rfl ?_
  generalize hres : ((none : Option Value), am_S (am_row (am_row (am_row (am_row (am_row f 3 ((fn_put role other on f).1)) 4 ((fn_put role other on f).2.1)) 5 ((fn_put role other on f).2.2.1)) 6 ((fn_put role other on f).2.2.2.1)) 7 ((fn_put role other on f).2.2.2.2)) g) = res
  obtain ⟨K, hKd⟩ : ∃ K : ((Nat → Int32) × (Nat → Int32) × (Nat → Int32) × (Nat → Int32) × (Nat → Int32)) → Prop, K = fun z => ((none : Option Value), am_S (am_row (am_row (am_row (am_row (am_row f 3 z.1) 4 z.2.1) 5 z.2.2.1) 6 z.2.2.2.1) 7 z.2.2.2.2) g) = res := ⟨_, rfl⟩
  have hK : K (fn_put role other on f) := by rw [hKd]; exact hres
  clear hres
  unfold fn_put at hK
  refine am_F.ops (pc' := 6) (L' := [.ref 3, .int (nI role), .int (nI other), .int (am_b on)]) (S' := [.int (am_b on), .int (nI role), .ref 4]) (μ' := (am_S f g)) 4 rfl ?_
  refine am_F.to (am_To.bif (pc' := 34) (L2 := [.ref 3, .int (nI role), .int (nI other), .int (am_b on)]) (S2 := [.int (nI role), .ref 4]) (μ2 := (am_S f g)) (a := (f 4 role) ||| (1 <<< ((nI other) &&& 31))) (b := (f 4 role) &&& ((1 <<< ((nI other) &&& 31)) ^^^ (-1))) 1 rfl (fun c1 => ?_) (fun c1 => ?_)) ?_
  · intro res9 g9
    show am_F _ _ 9 [.ref 3, .int (nI role), .int (nI other), .int (am_b on)] [.int (nI role), .ref 4] (am_S f g) _
    refine am_F.ops (pc' := 14) (L' := [.ref 3, .int (nI role), .int (nI other), .int (am_b on)]) (S' := [.int (nI role), .ref 4, .int (nI role), .ref 4]) (μ' := (am_S f g)) 3 rfl ?_
    refine am_F.ialE (m := role) (N := 20) rfl rfl rfl rfl (by omega) (by decide) ?_
    show am_F _ _ 15 [.ref 3, .int (nI role), .int (nI other), .int (am_b on)] [.int (f 4 role), .int (nI role), .ref 4] (am_S f g) _
    refine am_F.ops (pc' := 34) (L' := [.ref 3, .int (nI role), .int (nI other), .int (am_b on)]) (S' := [.int ((f 4 role) ||| (1 <<< ((nI other) &&& 31))), .int (nI role), .ref 4]) (μ' := (am_S f g)) 5 rfl ?_
    exact g9
  · intro res9 g9
    show am_F _ _ 22 [.ref 3, .int (nI role), .int (nI other), .int (am_b on)] [.int (nI role), .ref 4] (am_S f g) _
    refine am_F.ops (pc' := 27) (L' := [.ref 3, .int (nI role), .int (nI other), .int (am_b on)]) (S' := [.int (nI role), .ref 4, .int (nI role), .ref 4]) (μ' := (am_S f g)) 3 rfl ?_
    refine am_F.ialE (m := role) (N := 20) rfl rfl rfl rfl (by omega) (by decide) ?_
    show am_F _ _ 28 [.ref 3, .int (nI role), .int (nI other), .int (am_b on)] [.int (f 4 role), .int (nI role), .ref 4] (am_S f g) _
    refine am_F.ops (pc' := 34) (L' := [.ref 3, .int (nI role), .int (nI other), .int (am_b on)]) (S' := [.int ((f 4 role) &&& ((1 <<< ((nI other) &&& 31)) ^^^ (-1))), .int (nI role), .ref 4]) (μ' := (am_S f g)) 6 rfl ?_
    exact g9
  show am_F _ _ 34 [.ref 3, .int (nI role), .int (nI other), .int (am_b on)] [.int (bif on then (f 4 role) ||| (1 <<< ((nI other) &&& 31)) else (f 4 role) &&& ((1 <<< ((nI other) &&& 31)) ^^^ (-1))), .int (nI role), .ref 4] (am_S f g) _
  refine am_F.iasE (F' := (am_row f 4 (upd (f 4) role (bif on then (f 4 role) ||| (1 <<< ((nI other) &&& 31)) else (f 4 role) &&& ((1 <<< ((nI other) &&& 31)) ^^^ (-1)))))) (m := role) (N := 20) rfl rfl rfl rfl (by omega) (by decide) (by first | rfl | (funext a; by_cases z0 : a = 4; (subst z0; rfl); simp only [am_ui, am_ul, am_row_ne z0])) ?_
  refine am_F.ops (pc' := 41) (L' := [.ref 3, .int (nI role), .int (nI other), .int (am_b on)]) (S' := [.int (am_b on), .int (nI other), .ref 5]) (μ' := (am_S (am_row f 4 (upd (f 4) role (bif on then (f 4 role) ||| (1 <<< ((nI other) &&& 31)) else (f 4 role) &&& ((1 <<< ((nI other) &&& 31)) ^^^ (-1))))) g)) 4 rfl ?_
  refine am_F.to (am_To.bif (pc' := 69) (L2 := [.ref 3, .int (nI role), .int (nI other), .int (am_b on)]) (S2 := [.int (nI other), .ref 5]) (μ2 := (am_S (am_row f 4 (upd (f 4) role (bif on then (f 4 role) ||| (1 <<< ((nI other) &&& 31)) else (f 4 role) &&& ((1 <<< ((nI other) &&& 31)) ^^^ (-1))))) g)) (a := (f 5 other) ||| (1 <<< ((nI role) &&& 31))) (b := (f 5 other) &&& ((1 <<< ((nI role) &&& 31)) ^^^ (-1))) 1 rfl (fun c2 => ?_) (fun c2 => ?_)) ?_
  · intro res9 g9
    show am_F _ _ 44 [.ref 3, .int (nI role), .int (nI other), .int (am_b on)] [.int (nI other), .ref 5] (am_S (am_row f 4 (upd (f 4) role (bif on then (f 4 role) ||| (1 <<< ((nI other) &&& 31)) else (f 4 role) &&& ((1 <<< ((nI other) &&& 31)) ^^^ (-1))))) g) _
    refine am_F.ops (pc' := 49) (L' := [.ref 3, .int (nI role), .int (nI other), .int (am_b on)]) (S' := [.int (nI other), .ref 5, .int (nI other), .ref 5]) (μ' := (am_S (am_row f 4 (upd (f 4) role (bif on then (f 4 role) ||| (1 <<< ((nI other) &&& 31)) else (f 4 role) &&& ((1 <<< ((nI other) &&& 31)) ^^^ (-1))))) g)) 3 rfl ?_
    refine am_F.ialE (m := other) (N := 20) rfl rfl rfl rfl (by omega) (by decide) ?_
    show am_F _ _ 50 [.ref 3, .int (nI role), .int (nI other), .int (am_b on)] [.int (f 5 other), .int (nI other), .ref 5] (am_S (am_row f 4 (upd (f 4) role (bif on then (f 4 role) ||| (1 <<< ((nI other) &&& 31)) else (f 4 role) &&& ((1 <<< ((nI other) &&& 31)) ^^^ (-1))))) g) _
    refine am_F.ops (pc' := 69) (L' := [.ref 3, .int (nI role), .int (nI other), .int (am_b on)]) (S' := [.int ((f 5 other) ||| (1 <<< ((nI role) &&& 31))), .int (nI other), .ref 5]) (μ' := (am_S (am_row f 4 (upd (f 4) role (bif on then (f 4 role) ||| (1 <<< ((nI other) &&& 31)) else (f 4 role) &&& ((1 <<< ((nI other) &&& 31)) ^^^ (-1))))) g)) 5 rfl ?_
    exact g9
  · intro res9 g9
    show am_F _ _ 57 [.ref 3, .int (nI role), .int (nI other), .int (am_b on)] [.int (nI other), .ref 5] (am_S (am_row f 4 (upd (f 4) role (bif on then (f 4 role) ||| (1 <<< ((nI other) &&& 31)) else (f 4 role) &&& ((1 <<< ((nI other) &&& 31)) ^^^ (-1))))) g) _
    refine am_F.ops (pc' := 62) (L' := [.ref 3, .int (nI role), .int (nI other), .int (am_b on)]) (S' := [.int (nI other), .ref 5, .int (nI other), .ref 5]) (μ' := (am_S (am_row f 4 (upd (f 4) role (bif on then (f 4 role) ||| (1 <<< ((nI other) &&& 31)) else (f 4 role) &&& ((1 <<< ((nI other) &&& 31)) ^^^ (-1))))) g)) 3 rfl ?_
    refine am_F.ialE (m := other) (N := 20) rfl rfl rfl rfl (by omega) (by decide) ?_
    show am_F _ _ 63 [.ref 3, .int (nI role), .int (nI other), .int (am_b on)] [.int (f 5 other), .int (nI other), .ref 5] (am_S (am_row f 4 (upd (f 4) role (bif on then (f 4 role) ||| (1 <<< ((nI other) &&& 31)) else (f 4 role) &&& ((1 <<< ((nI other) &&& 31)) ^^^ (-1))))) g) _
    refine am_F.ops (pc' := 69) (L' := [.ref 3, .int (nI role), .int (nI other), .int (am_b on)]) (S' := [.int ((f 5 other) &&& ((1 <<< ((nI role) &&& 31)) ^^^ (-1))), .int (nI other), .ref 5]) (μ' := (am_S (am_row f 4 (upd (f 4) role (bif on then (f 4 role) ||| (1 <<< ((nI other) &&& 31)) else (f 4 role) &&& ((1 <<< ((nI other) &&& 31)) ^^^ (-1))))) g)) 6 rfl ?_
    exact g9
  show am_F _ _ 69 [.ref 3, .int (nI role), .int (nI other), .int (am_b on)] [.int (bif on then (f 5 other) ||| (1 <<< ((nI role) &&& 31)) else (f 5 other) &&& ((1 <<< ((nI role) &&& 31)) ^^^ (-1))), .int (nI other), .ref 5] (am_S (am_row f 4 (upd (f 4) role (bif on then (f 4 role) ||| (1 <<< ((nI other) &&& 31)) else (f 4 role) &&& ((1 <<< ((nI other) &&& 31)) ^^^ (-1))))) g) _
  refine am_F.iasE (F' := (am_row (am_row f 4 (upd (f 4) role (bif on then (f 4 role) ||| (1 <<< ((nI other) &&& 31)) else (f 4 role) &&& ((1 <<< ((nI other) &&& 31)) ^^^ (-1))))) 5 (upd (f 5) other (bif on then (f 5 other) ||| (1 <<< ((nI role) &&& 31)) else (f 5 other) &&& ((1 <<< ((nI role) &&& 31)) ^^^ (-1)))))) (m := other) (N := 20) rfl rfl rfl rfl (by omega) (by decide) (by first | rfl | (funext a; by_cases z0 : a = 4; (subst z0; rfl); by_cases z1 : a = 5; (subst z1; rfl); simp only [am_ui, am_ul, am_row_ne z0, am_row_ne z1])) ?_
  refine am_F.ops (pc' := 76) (L' := [.ref 3, .int (nI role), .int (nI other), .int (am_b on)]) (S' := [.int (am_b on), .int (f 3 7), .ref 3]) (μ' := (am_S (am_row (am_row f 4 (upd (f 4) role (bif on then (f 4 role) ||| (1 <<< ((nI other) &&& 31)) else (f 4 role) &&& ((1 <<< ((nI other) &&& 31)) ^^^ (-1))))) 5 (upd (f 5) other (bif on then (f 5 other) ||| (1 <<< ((nI role) &&& 31)) else (f 5 other) &&& ((1 <<< ((nI role) &&& 31)) ^^^ (-1))))) g)) 4 rfl ?_
  refine am_F.to (am_To.bif (pc' := 84) (L2 := [.ref 3, .int (nI role), .int (nI other), .int (am_b on)]) (S2 := [.int (f 3 7), .ref 3]) (μ2 := (am_S (am_row (am_row f 4 (upd (f 4) role (bif on then (f 4 role) ||| (1 <<< ((nI other) &&& 31)) else (f 4 role) &&& ((1 <<< ((nI other) &&& 31)) ^^^ (-1))))) 5 (upd (f 5) other (bif on then (f 5 other) ||| (1 <<< ((nI role) &&& 31)) else (f 5 other) &&& ((1 <<< ((nI role) &&& 31)) ^^^ (-1))))) g)) (a := 1) (b := (-1)) 1 rfl (fun c3 => ?_) (fun c3 => ?_)) ?_
  · intro res9 g9
    show am_F _ _ 79 [.ref 3, .int (nI role), .int (nI other), .int (am_b on)] [.int (f 3 7), .ref 3] (am_S (am_row (am_row f 4 (upd (f 4) role (bif on then (f 4 role) ||| (1 <<< ((nI other) &&& 31)) else (f 4 role) &&& ((1 <<< ((nI other) &&& 31)) ^^^ (-1))))) 5 (upd (f 5) other (bif on then (f 5 other) ||| (1 <<< ((nI role) &&& 31)) else (f 5 other) &&& ((1 <<< ((nI role) &&& 31)) ^^^ (-1))))) g) _
    refine am_F.ops (pc' := 84) (L' := [.ref 3, .int (nI role), .int (nI other), .int (am_b on)]) (S' := [.int 1, .int (f 3 7), .ref 3]) (μ' := (am_S (am_row (am_row f 4 (upd (f 4) role (bif on then (f 4 role) ||| (1 <<< ((nI other) &&& 31)) else (f 4 role) &&& ((1 <<< ((nI other) &&& 31)) ^^^ (-1))))) 5 (upd (f 5) other (bif on then (f 5 other) ||| (1 <<< ((nI role) &&& 31)) else (f 5 other) &&& ((1 <<< ((nI role) &&& 31)) ^^^ (-1))))) g)) 2 rfl ?_
    exact g9
  · intro res9 g9
    show am_F _ _ 83 [.ref 3, .int (nI role), .int (nI other), .int (am_b on)] [.int (f 3 7), .ref 3] (am_S (am_row (am_row f 4 (upd (f 4) role (bif on then (f 4 role) ||| (1 <<< ((nI other) &&& 31)) else (f 4 role) &&& ((1 <<< ((nI other) &&& 31)) ^^^ (-1))))) 5 (upd (f 5) other (bif on then (f 5 other) ||| (1 <<< ((nI role) &&& 31)) else (f 5 other) &&& ((1 <<< ((nI role) &&& 31)) ^^^ (-1))))) g) _
    refine am_F.ops (pc' := 84) (L' := [.ref 3, .int (nI role), .int (nI other), .int (am_b on)]) (S' := [.int (-1), .int (f 3 7), .ref 3]) (μ' := (am_S (am_row (am_row f 4 (upd (f 4) role (bif on then (f 4 role) ||| (1 <<< ((nI other) &&& 31)) else (f 4 role) &&& ((1 <<< ((nI other) &&& 31)) ^^^ (-1))))) 5 (upd (f 5) other (bif on then (f 5 other) ||| (1 <<< ((nI role) &&& 31)) else (f 5 other) &&& ((1 <<< ((nI role) &&& 31)) ^^^ (-1))))) g)) 1 rfl ?_
    exact g9
  show am_F _ _ 84 [.ref 3, .int (nI role), .int (nI other), .int (am_b on)] [.int (bif on then 1 else (-1)), .int (f 3 7), .ref 3] (am_S (am_row (am_row f 4 (upd (f 4) role (bif on then (f 4 role) ||| (1 <<< ((nI other) &&& 31)) else (f 4 role) &&& ((1 <<< ((nI other) &&& 31)) ^^^ (-1))))) 5 (upd (f 5) other (bif on then (f 5 other) ||| (1 <<< ((nI role) &&& 31)) else (f 5 other) &&& ((1 <<< ((nI role) &&& 31)) ^^^ (-1))))) g) _
  refine am_F.ops (pc' := 85) (L' := [.ref 3, .int (nI role), .int (nI other), .int (am_b on)]) (S' := [.int ((f 3 7) + (bif on then 1 else (-1))), .ref 3]) (μ' := (am_S (am_row (am_row f 4 (upd (f 4) role (bif on then (f 4 role) ||| (1 <<< ((nI other) &&& 31)) else (f 4 role) &&& ((1 <<< ((nI other) &&& 31)) ^^^ (-1))))) 5 (upd (f 5) other (bif on then (f 5 other) ||| (1 <<< ((nI role) &&& 31)) else (f 5 other) &&& ((1 <<< ((nI role) &&& 31)) ^^^ (-1))))) g)) 1 rfl ?_
  refine am_F.pfi (F' := (am_row (am_row (am_row f 3 (upd (f 3) 7 ((f 3 7) + (bif on then 1 else (-1))))) 4 (upd (f 4) role (bif on then (f 4 role) ||| (1 <<< ((nI other) &&& 31)) else (f 4 role) &&& ((1 <<< ((nI other) &&& 31)) ^^^ (-1))))) 5 (upd (f 5) other (bif on then (f 5 other) ||| (1 <<< ((nI role) &&& 31)) else (f 5 other) &&& ((1 <<< ((nI role) &&& 31)) ^^^ (-1)))))) rfl rfl (by first | rfl | (funext a; by_cases z0 : a = 3; (subst z0; rfl); by_cases z1 : a = 4; (subst z1; rfl); by_cases z2 : a = 5; (subst z2; rfl); simp only [am_ui, am_ul, am_row_ne z0, am_row_ne z1, am_row_ne z2])) ?_
  refine am_F.ops (pc' := 89) (L' := [.ref 3, .int (nI role), .int (nI other), .int (am_b on)]) (S' := [.ref 3]) (μ' := (am_S (am_row (am_row (am_row f 3 (upd (f 3) 7 ((f 3 7) + (bif on then 1 else (-1))))) 4 (upd (f 4) role (bif on then (f 4 role) ||| (1 <<< ((nI other) &&& 31)) else (f 4 role) &&& ((1 <<< ((nI other) &&& 31)) ^^^ (-1))))) 5 (upd (f 5) other (bif on then (f 5 other) ||| (1 <<< ((nI role) &&& 31)) else (f 5 other) &&& ((1 <<< ((nI role) &&& 31)) ^^^ (-1))))) g)) 1 rfl ?_
  refine am_F.call rfl rfl (x_close  (am_row (am_row (am_row f 3 (upd (f 3) 7 ((f 3 7) + (bif on then 1 else (-1))))) 4 (upd (f 4) role (bif on then (f 4 role) ||| (1 <<< ((nI other) &&& 31)) else (f 4 role) &&& ((1 <<< ((nI other) &&& 31)) ^^^ (-1))))) 5 (upd (f 5) other (bif on then (f 5 other) ||| (1 <<< ((nI role) &&& 31)) else (f 5 other) &&& ((1 <<< ((nI role) &&& 31)) ^^^ (-1))))) g ) (by decide) ?_
  obtain ⟨y4, hy4⟩ : ∃ z, (fn_close (am_row (am_row (am_row f 3 (upd (f 3) 7 ((f 3 7) + (bif on then 1 else (-1))))) 4 (upd (f 4) role (bif on then (f 4 role) ||| (1 <<< ((nI other) &&& 31)) else (f 4 role) &&& ((1 <<< ((nI other) &&& 31)) ^^^ (-1))))) 5 (upd (f 5) other (bif on then (f 5 other) ||| (1 <<< ((nI role) &&& 31)) else (f 5 other) &&& ((1 <<< ((nI role) &&& 31)) ^^^ (-1)))))) = z := ⟨_, rfl⟩
  (try rw [hy4] at hK)
  (try rw [hy4])
  refine am_F.mem (F' := (am_row (am_row (am_row (am_row (am_row f 3 (upd (f 3) 7 ((f 3 7) + (bif on then 1 else (-1))))) 4 (upd (f 4) role (bif on then (f 4 role) ||| (1 <<< ((nI other) &&& 31)) else (f 4 role) &&& ((1 <<< ((nI other) &&& 31)) ^^^ (-1))))) 5 (upd (f 5) other (bif on then (f 5 other) ||| (1 <<< ((nI role) &&& 31)) else (f 5 other) &&& ((1 <<< ((nI role) &&& 31)) ^^^ (-1))))) 6 y4.1) 7 y4.2)) (G' := g) ?_ (by first | rfl | (funext a; by_cases z0 : a = 3; (subst z0; rfl); by_cases z1 : a = 4; (subst z1; rfl); by_cases z2 : a = 5; (subst z2; rfl); by_cases z3 : a = 6; (subst z3; rfl); by_cases z4 : a = 7; (subst z4; rfl); simp only [am_ui, am_ul, am_row_ne z0, am_row_ne z1, am_row_ne z2, am_row_ne z3, am_row_ne z4])) (by first | rfl | (funext a; by_cases z0 : a = 3; (subst z0; rfl); by_cases z1 : a = 4; (subst z1; rfl); by_cases z2 : a = 5; (subst z2; rfl); by_cases z3 : a = 6; (subst z3; rfl); by_cases z4 : a = 7; (subst z4; rfl); simp only [am_ui, am_ul, am_row_ne z0, am_row_ne z1, am_row_ne z2, am_row_ne z3, am_row_ne z4]))
  show am_F _ _ 92 [.ref 3, .int (nI role), .int (nI other), .int (am_b on)] [] (am_S (am_row (am_row (am_row (am_row (am_row f 3 (upd (f 3) 7 ((f 3 7) + (bif on then 1 else (-1))))) 4 (upd (f 4) role (bif on then (f 4 role) ||| (1 <<< ((nI other) &&& 31)) else (f 4 role) &&& ((1 <<< ((nI other) &&& 31)) ^^^ (-1))))) 5 (upd (f 5) other (bif on then (f 5 other) ||| (1 <<< ((nI role) &&& 31)) else (f 5 other) &&& ((1 <<< ((nI role) &&& 31)) ^^^ (-1))))) 6 y4.1) 7 y4.2) g) _
  subst hKd
  exact am_F.eq (am_F.ret rfl rfl) hK
/-- AccessLattice$Roles.nearest -/
def st_nearest_2 (choice : Int32) (steps : Int32) (f : Nat → Nat → Int32) : Nat → Unit → Unit ⊕ (Unit ⊕ Int32) := fun i2 _ => (bif (fn_has choice (nI i2)) then (if (f 8 i2) = steps then .inr (.inr (nI i2)) else .inl ()) else .inl ())
def lf_nearest_2 (choice : Int32) (steps : Int32) (f : Nat → Nat → Int32) : Unit ⊕ Int32 := am_forX (st_nearest_2 choice steps f) 20 0 ()
def fn_nearest (choice : Int32) (steps : Int32) (f : Nat → Nat → Int32) : Int32 := (Sum.elim (fun (z2 : Unit) => (-1)) (fun (z : Int32) => z) (lf_nearest_2 choice steps f))
theorem lp_nearest_2 (choice : Int32) (steps : Int32) (f : Nat → Nat → Int32) (g : Nat → Nat → Int64)  (res : Option Value × am_M) : ∀ (n i2 : Nat)  , i2 + n = 20 → am_KX (fun (z : Unit) => ∀ (wc : Value), am_F 1 am_k_91 34 [.ref 3, .int choice, .int steps, wc] [] (am_S f g) res) (fun (z : Int32) => (some (Value.int z), am_S f g) = res) (am_forX (st_nearest_2 choice steps f) n i2 ()) → am_F 1 am_k_91 2 [.ref 3, .int choice, .int steps, .int (nI i2)] [] (am_S f g) res := by
  intro n
  induction n with
  | zero =>
    intro i2 hi hK
    refine am_F.pos 3 rfl (by show 20 ≤ nI i2; rw [show (20 : Int32) = nI 20 from rfl]; exact nI_le (by omega) (by omega)) ?_
    exact hK _
  | succ n ih =>
    intro i2 hi hK
    refine am_F.neg 3 rfl (by show ¬ 20 ≤ nI i2; rw [show (20 : Int32) = nI 20 from rfl]; exact nI_ge (by omega) (by omega)) ?_
    have hb2 : i2 < 20 := by omega
    show am_F _ _ 8 [.ref 3, .int choice, .int steps, .int (nI i2)] [] (am_S f g) _
    obtain ⟨K, hKd⟩ : ∃ K : (Unit ⊕ (Unit ⊕ Int32)) → Prop, K = fun s => am_KX (fun (z : Unit) => ∀ (wc : Value), am_F 1 am_k_91 34 [.ref 3, .int choice, .int steps, wc] [] (am_S f g) res) (fun (z : Int32) => (some (Value.int z), am_S f g) = res) (am_nxt (fun z => am_forX (st_nearest_2 choice steps f) n (i2 + 1) z) s) := ⟨_, rfl⟩
    have hK : K ((st_nearest_2 choice steps f) i2 ()) := by rw [hKd]; exact hK
    unfold st_nearest_2 at hK
    refine am_F.ops (pc' := 10) (L' := [.ref 3, .int choice, .int steps, .int (nI i2)]) (S' := [.int (nI i2), .int choice]) (μ' := (am_S f g)) 2 rfl ?_
    refine am_F.call rfl rfl (x_has choice (nI i2) f g ) (by decide) ?_
    show am_F _ _ 13 [.ref 3, .int choice, .int steps, .int (nI i2)] [.int (am_b (fn_has choice (nI i2)))] (am_S f g) _
    refine am_F.bifK 1 rfl K hK (fun c1 hK => ?_) (fun c1 hK => ?_)
    · show am_F _ _ 16 [.ref 3, .int choice, .int steps, .int (nI i2)] [] (am_S f g) _
      refine am_F.ops (pc' := 21) (L' := [.ref 3, .int choice, .int steps, .int (nI i2)]) (S' := [.int (nI i2), .ref 8]) (μ' := (am_S f g)) 3 rfl ?_
      refine am_F.ialE (m := i2) (N := 20) rfl rfl rfl rfl (by omega) (by decide) ?_
      show am_F _ _ 22 [.ref 3, .int choice, .int steps, .int (nI i2)] [.int (f 8 i2)] (am_S f g) _
      refine am_F.ops (pc' := 23) (L' := [.ref 3, .int choice, .int steps, .int (nI i2)]) (S' := [.int steps, .int (f 8 i2)]) (μ' := (am_S f g)) 1 rfl ?_
      refine am_F.iteK 1 rfl K hK (fun c2 hK => ?_) (fun c2 hK => ?_)
      · show am_F _ _ 26 [.ref 3, .int choice, .int steps, .int (nI i2)] [] (am_S f g) _
        refine am_F.ops (pc' := 27) (L' := [.ref 3, .int choice, .int steps, .int (nI i2)]) (S' := [.int (nI i2)]) (μ' := (am_S f g)) 1 rfl ?_
        subst hKd
        exact am_F.eq (am_F.ret rfl rfl) hK
      · show am_F _ _ 28 [.ref 3, .int choice, .int steps, .int (nI i2)] [] (am_S f g) _
        refine am_F.ops (pc' := 2) (L' := [.ref 3, .int choice, .int steps, .int ((nI i2) + 1)]) (S' := []) (μ' := (am_S f g)) 2 rfl ?_
        rw [nI_1 i2]
        subst hKd
        exact ih (i2 + 1)  (by omega)  hK
    · show am_F _ _ 28 [.ref 3, .int choice, .int steps, .int (nI i2)] [] (am_S f g) _
      refine am_F.ops (pc' := 2) (L' := [.ref 3, .int choice, .int steps, .int ((nI i2) + 1)]) (S' := []) (μ' := (am_S f g)) 2 rfl ?_
      rw [nI_1 i2]
      subst hKd
      exact ih (i2 + 1)  (by omega)  hK
theorem x_nearest (choice : Int32) (steps : Int32) (f : Nat → Nat → Int32) (g : Nat → Nat → Int64)  : am_D 1 91 4 [.ref 3, .int choice, .int steps] (am_S f g) (some (Value.int (fn_nearest choice steps f)), am_S f g) := by
  refine am_D.of (code := am_k_91) rfl (L0 := [.ref 3, .int choice, .int steps, am_un]) rfl ?_
  generalize hres : (some (Value.int (fn_nearest choice steps f)), am_S f g) = res
  obtain ⟨K, hKd⟩ : ∃ K : Int32 → Prop, K = fun z => (some (Value.int z), am_S f g) = res := ⟨_, rfl⟩
  have hK : K (fn_nearest choice steps f) := by rw [hKd]; exact hres
  clear hres
  unfold fn_nearest at hK
  refine am_F.ops (pc' := 2) (L' := [.ref 3, .int choice, .int steps, .int 0]) (S' := []) (μ' := (am_S f g)) 2 rfl ?_
  show am_F _ _ 2 [.ref 3, .int choice, .int steps, .int (nI 0)] [] (am_S f g) _
  refine lp_nearest_2 choice steps f g  _ 20 0   (by omega)  ?_
  rw [show am_forX (st_nearest_2 choice steps f) 20 0 () = (lf_nearest_2 choice steps f) from rfl]
  revert hK
  cases (lf_nearest_2 choice steps f) with
  | inr z =>
    intro hK
    subst hKd
    exact hK
  | inl z2 =>
    intro hK wc
    refine am_F.ops (pc' := 35) (L' := [.ref 3, .int choice, .int steps, wc]) (S' := [.int (-1)]) (μ' := (am_S f g)) 1 rfl ?_
    subst hKd
    exact am_F.eq (am_F.ret rfl rfl) hK
theorem am_nearest_lt (choice steps : Int32) (f : Nat → Nat → Int32) : (fn_nearest choice steps f).toInt < 20 := by
  unfold fn_nearest
  cases h : lf_nearest_2 choice steps f with
  | inl z => show (-1 : Int32).toInt < 20; decide
  | inr z =>
    show z.toInt < 20
    refine am_forX_inr (P := fun z : Int32 => z.toInt < 20) 20 0 () (fun j a' h1 h2 b hb => ?_) z h
    unfold st_nearest_2 at hb
    cases h3 : fn_has choice (nI j) with
    | false => rw [h3] at hb; cases hb
    | true =>
      rw [h3, cond_true] at hb
      by_cases h4 : f 8 j = steps
      · rw [if_pos h4] at hb
        cases hb
        rw [nI_toInt (by omega)]
        omega
      · rw [if_neg h4] at hb; cases hb
/-- AccessLattice$Roles.walk -/
def st_walk_6 (seen : Int32) (f : Nat → Nat → Int32) : Nat → Int32 × (Nat → Int32) → Int32 × (Nat → Int32) ⊕ (Int32 × (Nat → Int32) ⊕ Int32 × (Nat → Int32)) := fun i6 z => match z with
  | (a6_5, r6_86) => (if 20 ≤ (nI i6) then .inr (.inl (a6_5, r6_86)) else (if a6_5 < 0 then .inr (.inl (a6_5, r6_86)) else (if (f 8 a6_5.toNatClampNeg) = 0 then .inr (.inr ((nI i6) + 1, upd r6_86 i6 a6_5)) else .inl ((fn_nearest ((f 4 a6_5.toNatClampNeg) &&& seen) ((f 8 a6_5.toNatClampNeg) - 1) (am_row f 86 (upd r6_86 i6 a6_5))), upd r6_86 i6 a6_5))))
def lf_walk_6 (fr : Nat) (seen : Int32) (f : Nat → Nat → Int32) : Int32 × (Nat → Int32) ⊕ Int32 × (Nat → Int32) := am_forX (st_walk_6 seen f) 20 0 (nI fr, f 86)
def fn_walk (fr : Nat) (seen : Int32) (f : Nat → Nat → Int32) : Int32 × (Nat → Int32) := (Sum.elim (fun (z6 : Int32 × (Nat → Int32)) => (0, z6.2)) (fun (z : Int32 × (Nat → Int32)) => z) (lf_walk_6 fr seen f))
theorem lp_walk_6 (fr : Nat) (seen : Int32) (f : Nat → Nat → Int32) (g : Nat → Nat → Int64) (hfr : fr < 20) (res : Option Value × am_M) : ∀ (n i6 : Nat) (a6_5 : Int32) (r6_86 : Nat → Int32) , i6 + n = 20 → (a6_5.toInt < 20) → am_KX (fun (z : Int32 × (Nat → Int32)) => ∀ (wc : Value), am_F 2 am_k_90 75 [.ref 3, .ref 4, .int (nI fr), .int seen, .ref 86, .int z.1, wc] [] (am_S (am_row f 86 z.2) g) res) (fun (z : Int32 × (Nat → Int32)) => (some (Value.int z.1), am_S (am_row f 86 z.2) g) = res) (am_forX (st_walk_6 seen f) n i6 (a6_5, r6_86)) → am_F 2 am_k_90 6 [.ref 3, .ref 4, .int (nI fr), .int seen, .ref 86, .int a6_5, .int (nI i6)] [] (am_S (am_row f 86 r6_86) g) res := by
  intro n
  induction n with
  | zero =>
    intro i6 a6_5 r6_86 hi hv6 hK
    refine am_F.pos 3 rfl (by show 20 ≤ nI i6; rw [show (20 : Int32) = nI 20 from rfl]; exact nI_le (by omega) (by omega)) ?_
    exact hK _
  | succ n ih =>
    intro i6 a6_5 r6_86 hi hv6 hK
    refine am_F.neg 3 rfl (by show ¬ 20 ≤ nI i6; rw [show (20 : Int32) = nI 20 from rfl]; exact nI_ge (by omega) (by omega)) ?_
    have hb6 : i6 < 20 := by omega
    show am_F _ _ 13 [.ref 3, .ref 4, .int (nI fr), .int seen, .ref 86, .int a6_5, .int (nI i6)] [] (am_S (am_row f 86 r6_86) g) _
    obtain ⟨K, hKd⟩ : ∃ K : (Int32 × (Nat → Int32) ⊕ (Int32 × (Nat → Int32) ⊕ Int32 × (Nat → Int32))) → Prop, K = fun s => am_KX (fun (z : Int32 × (Nat → Int32)) => ∀ (wc : Value), am_F 2 am_k_90 75 [.ref 3, .ref 4, .int (nI fr), .int seen, .ref 86, .int z.1, wc] [] (am_S (am_row f 86 z.2) g) res) (fun (z : Int32 × (Nat → Int32)) => (some (Value.int z.1), am_S (am_row f 86 z.2) g) = res) (am_nxt (fun z => am_forX (st_walk_6 seen f) n (i6 + 1) z) s) := ⟨_, rfl⟩
    have hK : K ((st_walk_6 seen f) i6 (a6_5, r6_86)) := by rw [hKd]; exact hK
    unfold st_walk_6 at hK
    simp only at hK
    refine am_F.ops (pc' := 18) (L' := [.ref 3, .ref 4, .int (nI fr), .int seen, .ref 86, .int a6_5, .int (nI i6)]) (S' := [.int 20, .int (nI i6)]) (μ' := (am_S (am_row f 86 r6_86) g)) 3 rfl ?_
    refine am_F.iteK 1 rfl K hK (fun c4 hK => ?_) (fun c4 hK => ?_)
    · show am_F _ _ 75 [.ref 3, .ref 4, .int (nI fr), .int seen, .ref 86, .int a6_5, .int (nI i6)] [] (am_S (am_row f 86 r6_86) g) _
      subst hKd
      exact hK (.int (nI i6))
    · show am_F _ _ 21 [.ref 3, .ref 4, .int (nI fr), .int seen, .ref 86, .int a6_5, .int (nI i6)] [] (am_S (am_row f 86 r6_86) g) _
      refine am_F.ops (pc' := 23) (L' := [.ref 3, .ref 4, .int (nI fr), .int seen, .ref 86, .int a6_5, .int (nI i6)]) (S' := [.int a6_5]) (μ' := (am_S (am_row f 86 r6_86) g)) 1 rfl ?_
      refine am_F.iteK 1 rfl K hK (fun c5 hK => ?_) (fun c5 hK => ?_)
      · show am_F _ _ 75 [.ref 3, .ref 4, .int (nI fr), .int seen, .ref 86, .int a6_5, .int (nI i6)] [] (am_S (am_row f 86 r6_86) g) _
        subst hKd
        exact hK (.int (nI i6))
      · show am_F _ _ 26 [.ref 3, .ref 4, .int (nI fr), .int seen, .ref 86, .int a6_5, .int (nI i6)] [] (am_S (am_row f 86 r6_86) g) _
        refine am_F.ops (pc' := 32) (L' := [.ref 3, .ref 4, .int (nI fr), .int seen, .ref 86, .int a6_5, .int (nI i6)]) (S' := [.int a6_5, .int (nI i6), .ref 86]) (μ' := (am_S (am_row f 86 r6_86) g)) 3 rfl ?_
        refine am_F.iasE (F' := (am_row f 86 (upd r6_86 i6 a6_5))) (m := i6) (N := 20) rfl rfl rfl rfl (by omega) (by decide) (by first | rfl | (funext a; by_cases z0 : a = 86; (subst z0; rfl); simp only [am_ui, am_ul, am_row_ne z0])) ?_
        refine am_F.ops (pc' := 39) (L' := [.ref 3, .ref 4, .int (nI fr), .int seen, .ref 86, .int a6_5, .int (nI i6)]) (S' := [.int a6_5, .ref 8]) (μ' := (am_S (am_row f 86 (upd r6_86 i6 a6_5)) g)) 3 rfl ?_
        refine am_F.ial (N := 20) rfl rfl rfl (am_inbD (by assumption) hv6) ?_
        show am_F _ _ 40 [.ref 3, .ref 4, .int (nI fr), .int seen, .ref 86, .int a6_5, .int (nI i6)] [.int (f 8 a6_5.toNatClampNeg)] (am_S (am_row f 86 (upd r6_86 i6 a6_5)) g) _
        refine am_F.iteK 1 rfl K hK (fun c6 hK => ?_) (fun c6 hK => ?_)
        · show am_F _ _ 43 [.ref 3, .ref 4, .int (nI fr), .int seen, .ref 86, .int a6_5, .int (nI i6)] [] (am_S (am_row f 86 (upd r6_86 i6 a6_5)) g) _
          refine am_F.ops (pc' := 47) (L' := [.ref 3, .ref 4, .int (nI fr), .int seen, .ref 86, .int a6_5, .int (nI i6)]) (S' := [.int ((nI i6) + 1)]) (μ' := (am_S (am_row f 86 (upd r6_86 i6 a6_5)) g)) 3 rfl ?_
          subst hKd
          exact am_F.eq (am_F.ret rfl rfl) hK
        · show am_F _ _ 48 [.ref 3, .ref 4, .int (nI fr), .int seen, .ref 86, .int a6_5, .int (nI i6)] [] (am_S (am_row f 86 (upd r6_86 i6 a6_5)) g) _
          refine am_F.ops (pc' := 52) (L' := [.ref 3, .ref 4, .int (nI fr), .int seen, .ref 86, .int a6_5, .int (nI i6)]) (S' := [.int a6_5, .ref 4, .ref 3]) (μ' := (am_S (am_row f 86 (upd r6_86 i6 a6_5)) g)) 3 rfl ?_
          refine am_F.ial (N := 20) rfl rfl rfl (am_inbD (by assumption) hv6) ?_
          show am_F _ _ 53 [.ref 3, .ref 4, .int (nI fr), .int seen, .ref 86, .int a6_5, .int (nI i6)] [.int (f 4 a6_5.toNatClampNeg), .ref 3] (am_S (am_row f 86 (upd r6_86 i6 a6_5)) g) _
          refine am_F.ops (pc' := 61) (L' := [.ref 3, .ref 4, .int (nI fr), .int seen, .ref 86, .int a6_5, .int (nI i6)]) (S' := [.int a6_5, .ref 8, .int ((f 4 a6_5.toNatClampNeg) &&& seen), .ref 3]) (μ' := (am_S (am_row f 86 (upd r6_86 i6 a6_5)) g)) 5 rfl ?_
          refine am_F.ial (N := 20) rfl rfl rfl (am_inbD (by assumption) hv6) ?_
          show am_F _ _ 62 [.ref 3, .ref 4, .int (nI fr), .int seen, .ref 86, .int a6_5, .int (nI i6)] [.int (f 8 a6_5.toNatClampNeg), .int ((f 4 a6_5.toNatClampNeg) &&& seen), .ref 3] (am_S (am_row f 86 (upd r6_86 i6 a6_5)) g) _
          refine am_F.ops (pc' := 64) (L' := [.ref 3, .ref 4, .int (nI fr), .int seen, .ref 86, .int a6_5, .int (nI i6)]) (S' := [.int ((f 8 a6_5.toNatClampNeg) - 1), .int ((f 4 a6_5.toNatClampNeg) &&& seen), .ref 3]) (μ' := (am_S (am_row f 86 (upd r6_86 i6 a6_5)) g)) 2 rfl ?_
          refine am_F.call rfl rfl (x_nearest ((f 4 a6_5.toNatClampNeg) &&& seen) ((f 8 a6_5.toNatClampNeg) - 1) (am_row f 86 (upd r6_86 i6 a6_5)) g ) (by decide) ?_
          show am_F _ _ 67 [.ref 3, .ref 4, .int (nI fr), .int seen, .ref 86, .int a6_5, .int (nI i6)] [.int (fn_nearest ((f 4 a6_5.toNatClampNeg) &&& seen) ((f 8 a6_5.toNatClampNeg) - 1) (am_row f 86 (upd r6_86 i6 a6_5)))] (am_S (am_row f 86 (upd r6_86 i6 a6_5)) g) _
          refine am_F.ops (pc' := 6) (L' := [.ref 3, .ref 4, .int (nI fr), .int seen, .ref 86, .int (fn_nearest ((f 4 a6_5.toNatClampNeg) &&& seen) ((f 8 a6_5.toNatClampNeg) - 1) (am_row f 86 (upd r6_86 i6 a6_5))), .int ((nI i6) + 1)]) (S' := []) (μ' := (am_S (am_row f 86 (upd r6_86 i6 a6_5)) g)) 3 rfl ?_
          rw [nI_1 i6]
          subst hKd
          exact ih (i6 + 1) (fn_nearest ((f 4 a6_5.toNatClampNeg) &&& seen) ((f 8 a6_5.toNatClampNeg) - 1) (am_row f 86 (upd r6_86 i6 a6_5))) (upd r6_86 i6 a6_5) (by omega) (am_nearest_lt _ _ _) hK
theorem x_walk (fr : Nat) (seen : Int32) (f : Nat → Nat → Int32) (g : Nat → Nat → Int64) (hfr : fr < 20) : am_D 2 90 7 [.ref 3, .ref 4, .int (nI fr), .int seen, .ref 86] (am_S f g) (some (Value.int ((fn_walk fr seen f).1)), am_S (am_row f 86 ((fn_walk fr seen f).2)) g) := by
  refine am_D.of (code := am_k_90) rfl (L0 := [.ref 3, .ref 4, .int (nI fr), .int seen, .ref 86, am_un, am_un]) rfl ?_
  generalize hres : (some (Value.int ((fn_walk fr seen f).1)), am_S (am_row f 86 ((fn_walk fr seen f).2)) g) = res
  obtain ⟨K, hKd⟩ : ∃ K : (Int32 × (Nat → Int32)) → Prop, K = fun z => (some (Value.int z.1), am_S (am_row f 86 z.2) g) = res := ⟨_, rfl⟩
  have hK : K (fn_walk fr seen f) := by rw [hKd]; exact hres
  clear hres
  unfold fn_walk at hK
  refine am_F.ops (pc' := 6) (L' := [.ref 3, .ref 4, .int (nI fr), .int seen, .ref 86, .int (nI fr), .int 0]) (S' := []) (μ' := (am_S f g)) 4 rfl ?_
  refine am_F.mem (F' := (am_row f 86 (f 86))) (G' := g) ?_ (by first | rfl | (funext a; by_cases z0 : a = 86; (subst z0; rfl); simp only [am_ui, am_ul, am_row_ne z0])) (by first | rfl | (funext a; by_cases z0 : a = 86; (subst z0; rfl); simp only [am_ui, am_ul, am_row_ne z0]))
  show am_F _ _ 6 [.ref 3, .ref 4, .int (nI fr), .int seen, .ref 86, .int (nI fr), .int (nI 0)] [] (am_S (am_row f 86 (f 86)) g) _
  refine lp_walk_6 fr seen f g hfr _ 20 0 (nI fr) (f 86)  (by omega) (by rw [nI_toInt (by omega)]; omega) ?_
  rw [show am_forX (st_walk_6 seen f) 20 0 (nI fr, f 86) = (lf_walk_6 fr seen f) from rfl]
  revert hK
  cases (lf_walk_6 fr seen f) with
  | inr z =>
    intro hK
    subst hKd
    exact hK
  | inl z6 =>
    intro hK wc
    refine am_F.ops (pc' := 76) (L' := [.ref 3, .ref 4, .int (nI fr), .int seen, .ref 86, .int z6.1, wc]) (S' := [.int 0]) (μ' := (am_S (am_row f 86 z6.2) g)) 1 rfl ?_
    subst hKd
    exact am_F.eq (am_F.ret rfl rfl) hK
/-- AccessLattice$Roles.walk -/
def st_walkUp_6 (seen : Int32) (f : Nat → Nat → Int32) : Nat → Int32 × (Nat → Int32) → Int32 × (Nat → Int32) ⊕ (Int32 × (Nat → Int32) ⊕ Int32 × (Nat → Int32)) := fun i6 z => match z with
  | (a6_5, r6_86) => (if 20 ≤ (nI i6) then .inr (.inl (a6_5, r6_86)) else (if a6_5 < 0 then .inr (.inl (a6_5, r6_86)) else (if (f 8 a6_5.toNatClampNeg) = 0 then .inr (.inr ((nI i6) + 1, upd r6_86 i6 a6_5)) else .inl ((fn_nearest ((f 5 a6_5.toNatClampNeg) &&& seen) ((f 8 a6_5.toNatClampNeg) - 1) (am_row f 86 (upd r6_86 i6 a6_5))), upd r6_86 i6 a6_5))))
def lf_walkUp_6 (fr : Nat) (seen : Int32) (f : Nat → Nat → Int32) : Int32 × (Nat → Int32) ⊕ Int32 × (Nat → Int32) := am_forX (st_walkUp_6 seen f) 20 0 (nI fr, f 86)
def fn_walkUp (fr : Nat) (seen : Int32) (f : Nat → Nat → Int32) : Int32 × (Nat → Int32) := (Sum.elim (fun (z6 : Int32 × (Nat → Int32)) => (0, z6.2)) (fun (z : Int32 × (Nat → Int32)) => z) (lf_walkUp_6 fr seen f))
theorem lp_walkUp_6 (fr : Nat) (seen : Int32) (f : Nat → Nat → Int32) (g : Nat → Nat → Int64) (hfr : fr < 20) (res : Option Value × am_M) : ∀ (n i6 : Nat) (a6_5 : Int32) (r6_86 : Nat → Int32) , i6 + n = 20 → (a6_5.toInt < 20) → am_KX (fun (z : Int32 × (Nat → Int32)) => ∀ (wc : Value), am_F 2 am_k_90 75 [.ref 3, .ref 5, .int (nI fr), .int seen, .ref 86, .int z.1, wc] [] (am_S (am_row f 86 z.2) g) res) (fun (z : Int32 × (Nat → Int32)) => (some (Value.int z.1), am_S (am_row f 86 z.2) g) = res) (am_forX (st_walkUp_6 seen f) n i6 (a6_5, r6_86)) → am_F 2 am_k_90 6 [.ref 3, .ref 5, .int (nI fr), .int seen, .ref 86, .int a6_5, .int (nI i6)] [] (am_S (am_row f 86 r6_86) g) res := by
  intro n
  induction n with
  | zero =>
    intro i6 a6_5 r6_86 hi hv6 hK
    refine am_F.pos 3 rfl (by show 20 ≤ nI i6; rw [show (20 : Int32) = nI 20 from rfl]; exact nI_le (by omega) (by omega)) ?_
    exact hK _
  | succ n ih =>
    intro i6 a6_5 r6_86 hi hv6 hK
    refine am_F.neg 3 rfl (by show ¬ 20 ≤ nI i6; rw [show (20 : Int32) = nI 20 from rfl]; exact nI_ge (by omega) (by omega)) ?_
    have hb6 : i6 < 20 := by omega
    show am_F _ _ 13 [.ref 3, .ref 5, .int (nI fr), .int seen, .ref 86, .int a6_5, .int (nI i6)] [] (am_S (am_row f 86 r6_86) g) _
    obtain ⟨K, hKd⟩ : ∃ K : (Int32 × (Nat → Int32) ⊕ (Int32 × (Nat → Int32) ⊕ Int32 × (Nat → Int32))) → Prop, K = fun s => am_KX (fun (z : Int32 × (Nat → Int32)) => ∀ (wc : Value), am_F 2 am_k_90 75 [.ref 3, .ref 5, .int (nI fr), .int seen, .ref 86, .int z.1, wc] [] (am_S (am_row f 86 z.2) g) res) (fun (z : Int32 × (Nat → Int32)) => (some (Value.int z.1), am_S (am_row f 86 z.2) g) = res) (am_nxt (fun z => am_forX (st_walkUp_6 seen f) n (i6 + 1) z) s) := ⟨_, rfl⟩
    have hK : K ((st_walkUp_6 seen f) i6 (a6_5, r6_86)) := by rw [hKd]; exact hK
    unfold st_walkUp_6 at hK
    simp only at hK
    refine am_F.ops (pc' := 18) (L' := [.ref 3, .ref 5, .int (nI fr), .int seen, .ref 86, .int a6_5, .int (nI i6)]) (S' := [.int 20, .int (nI i6)]) (μ' := (am_S (am_row f 86 r6_86) g)) 3 rfl ?_
    refine am_F.iteK 1 rfl K hK (fun c4 hK => ?_) (fun c4 hK => ?_)
    · show am_F _ _ 75 [.ref 3, .ref 5, .int (nI fr), .int seen, .ref 86, .int a6_5, .int (nI i6)] [] (am_S (am_row f 86 r6_86) g) _
      subst hKd
      exact hK (.int (nI i6))
    · show am_F _ _ 21 [.ref 3, .ref 5, .int (nI fr), .int seen, .ref 86, .int a6_5, .int (nI i6)] [] (am_S (am_row f 86 r6_86) g) _
      refine am_F.ops (pc' := 23) (L' := [.ref 3, .ref 5, .int (nI fr), .int seen, .ref 86, .int a6_5, .int (nI i6)]) (S' := [.int a6_5]) (μ' := (am_S (am_row f 86 r6_86) g)) 1 rfl ?_
      refine am_F.iteK 1 rfl K hK (fun c5 hK => ?_) (fun c5 hK => ?_)
      · show am_F _ _ 75 [.ref 3, .ref 5, .int (nI fr), .int seen, .ref 86, .int a6_5, .int (nI i6)] [] (am_S (am_row f 86 r6_86) g) _
        subst hKd
        exact hK (.int (nI i6))
      · show am_F _ _ 26 [.ref 3, .ref 5, .int (nI fr), .int seen, .ref 86, .int a6_5, .int (nI i6)] [] (am_S (am_row f 86 r6_86) g) _
        refine am_F.ops (pc' := 32) (L' := [.ref 3, .ref 5, .int (nI fr), .int seen, .ref 86, .int a6_5, .int (nI i6)]) (S' := [.int a6_5, .int (nI i6), .ref 86]) (μ' := (am_S (am_row f 86 r6_86) g)) 3 rfl ?_
        refine am_F.iasE (F' := (am_row f 86 (upd r6_86 i6 a6_5))) (m := i6) (N := 20) rfl rfl rfl rfl (by omega) (by decide) (by first | rfl | (funext a; by_cases z0 : a = 86; (subst z0; rfl); simp only [am_ui, am_ul, am_row_ne z0])) ?_
        refine am_F.ops (pc' := 39) (L' := [.ref 3, .ref 5, .int (nI fr), .int seen, .ref 86, .int a6_5, .int (nI i6)]) (S' := [.int a6_5, .ref 8]) (μ' := (am_S (am_row f 86 (upd r6_86 i6 a6_5)) g)) 3 rfl ?_
        refine am_F.ial (N := 20) rfl rfl rfl (am_inbD (by assumption) hv6) ?_
        show am_F _ _ 40 [.ref 3, .ref 5, .int (nI fr), .int seen, .ref 86, .int a6_5, .int (nI i6)] [.int (f 8 a6_5.toNatClampNeg)] (am_S (am_row f 86 (upd r6_86 i6 a6_5)) g) _
        refine am_F.iteK 1 rfl K hK (fun c6 hK => ?_) (fun c6 hK => ?_)
        · show am_F _ _ 43 [.ref 3, .ref 5, .int (nI fr), .int seen, .ref 86, .int a6_5, .int (nI i6)] [] (am_S (am_row f 86 (upd r6_86 i6 a6_5)) g) _
          refine am_F.ops (pc' := 47) (L' := [.ref 3, .ref 5, .int (nI fr), .int seen, .ref 86, .int a6_5, .int (nI i6)]) (S' := [.int ((nI i6) + 1)]) (μ' := (am_S (am_row f 86 (upd r6_86 i6 a6_5)) g)) 3 rfl ?_
          subst hKd
          exact am_F.eq (am_F.ret rfl rfl) hK
        · show am_F _ _ 48 [.ref 3, .ref 5, .int (nI fr), .int seen, .ref 86, .int a6_5, .int (nI i6)] [] (am_S (am_row f 86 (upd r6_86 i6 a6_5)) g) _
          refine am_F.ops (pc' := 52) (L' := [.ref 3, .ref 5, .int (nI fr), .int seen, .ref 86, .int a6_5, .int (nI i6)]) (S' := [.int a6_5, .ref 5, .ref 3]) (μ' := (am_S (am_row f 86 (upd r6_86 i6 a6_5)) g)) 3 rfl ?_
          refine am_F.ial (N := 20) rfl rfl rfl (am_inbD (by assumption) hv6) ?_
          show am_F _ _ 53 [.ref 3, .ref 5, .int (nI fr), .int seen, .ref 86, .int a6_5, .int (nI i6)] [.int (f 5 a6_5.toNatClampNeg), .ref 3] (am_S (am_row f 86 (upd r6_86 i6 a6_5)) g) _
          refine am_F.ops (pc' := 61) (L' := [.ref 3, .ref 5, .int (nI fr), .int seen, .ref 86, .int a6_5, .int (nI i6)]) (S' := [.int a6_5, .ref 8, .int ((f 5 a6_5.toNatClampNeg) &&& seen), .ref 3]) (μ' := (am_S (am_row f 86 (upd r6_86 i6 a6_5)) g)) 5 rfl ?_
          refine am_F.ial (N := 20) rfl rfl rfl (am_inbD (by assumption) hv6) ?_
          show am_F _ _ 62 [.ref 3, .ref 5, .int (nI fr), .int seen, .ref 86, .int a6_5, .int (nI i6)] [.int (f 8 a6_5.toNatClampNeg), .int ((f 5 a6_5.toNatClampNeg) &&& seen), .ref 3] (am_S (am_row f 86 (upd r6_86 i6 a6_5)) g) _
          refine am_F.ops (pc' := 64) (L' := [.ref 3, .ref 5, .int (nI fr), .int seen, .ref 86, .int a6_5, .int (nI i6)]) (S' := [.int ((f 8 a6_5.toNatClampNeg) - 1), .int ((f 5 a6_5.toNatClampNeg) &&& seen), .ref 3]) (μ' := (am_S (am_row f 86 (upd r6_86 i6 a6_5)) g)) 2 rfl ?_
          refine am_F.call rfl rfl (x_nearest ((f 5 a6_5.toNatClampNeg) &&& seen) ((f 8 a6_5.toNatClampNeg) - 1) (am_row f 86 (upd r6_86 i6 a6_5)) g ) (by decide) ?_
          show am_F _ _ 67 [.ref 3, .ref 5, .int (nI fr), .int seen, .ref 86, .int a6_5, .int (nI i6)] [.int (fn_nearest ((f 5 a6_5.toNatClampNeg) &&& seen) ((f 8 a6_5.toNatClampNeg) - 1) (am_row f 86 (upd r6_86 i6 a6_5)))] (am_S (am_row f 86 (upd r6_86 i6 a6_5)) g) _
          refine am_F.ops (pc' := 6) (L' := [.ref 3, .ref 5, .int (nI fr), .int seen, .ref 86, .int (fn_nearest ((f 5 a6_5.toNatClampNeg) &&& seen) ((f 8 a6_5.toNatClampNeg) - 1) (am_row f 86 (upd r6_86 i6 a6_5))), .int ((nI i6) + 1)]) (S' := []) (μ' := (am_S (am_row f 86 (upd r6_86 i6 a6_5)) g)) 3 rfl ?_
          rw [nI_1 i6]
          subst hKd
          exact ih (i6 + 1) (fn_nearest ((f 5 a6_5.toNatClampNeg) &&& seen) ((f 8 a6_5.toNatClampNeg) - 1) (am_row f 86 (upd r6_86 i6 a6_5))) (upd r6_86 i6 a6_5) (by omega) (am_nearest_lt _ _ _) hK
theorem x_walkUp (fr : Nat) (seen : Int32) (f : Nat → Nat → Int32) (g : Nat → Nat → Int64) (hfr : fr < 20) : am_D 2 90 7 [.ref 3, .ref 5, .int (nI fr), .int seen, .ref 86] (am_S f g) (some (Value.int ((fn_walkUp fr seen f).1)), am_S (am_row f 86 ((fn_walkUp fr seen f).2)) g) := by
  refine am_D.of (code := am_k_90) rfl (L0 := [.ref 3, .ref 5, .int (nI fr), .int seen, .ref 86, am_un, am_un]) rfl ?_
  generalize hres : (some (Value.int ((fn_walkUp fr seen f).1)), am_S (am_row f 86 ((fn_walkUp fr seen f).2)) g) = res
  obtain ⟨K, hKd⟩ : ∃ K : (Int32 × (Nat → Int32)) → Prop, K = fun z => (some (Value.int z.1), am_S (am_row f 86 z.2) g) = res := ⟨_, rfl⟩
  have hK : K (fn_walkUp fr seen f) := by rw [hKd]; exact hres
  clear hres
  unfold fn_walkUp at hK
  refine am_F.ops (pc' := 6) (L' := [.ref 3, .ref 5, .int (nI fr), .int seen, .ref 86, .int (nI fr), .int 0]) (S' := []) (μ' := (am_S f g)) 4 rfl ?_
  refine am_F.mem (F' := (am_row f 86 (f 86))) (G' := g) ?_ (by first | rfl | (funext a; by_cases z0 : a = 86; (subst z0; rfl); simp only [am_ui, am_ul, am_row_ne z0])) (by first | rfl | (funext a; by_cases z0 : a = 86; (subst z0; rfl); simp only [am_ui, am_ul, am_row_ne z0]))
  show am_F _ _ 6 [.ref 3, .ref 5, .int (nI fr), .int seen, .ref 86, .int (nI fr), .int (nI 0)] [] (am_S (am_row f 86 (f 86)) g) _
  refine lp_walkUp_6 fr seen f g hfr _ 20 0 (nI fr) (f 86)  (by omega) (by rw [nI_toInt (by omega)]; omega) ?_
  rw [show am_forX (st_walkUp_6 seen f) 20 0 (nI fr, f 86) = (lf_walkUp_6 fr seen f) from rfl]
  revert hK
  cases (lf_walkUp_6 fr seen f) with
  | inr z =>
    intro hK
    subst hKd
    exact hK
  | inl z6 =>
    intro hK wc
    refine am_F.ops (pc' := 76) (L' := [.ref 3, .ref 5, .int (nI fr), .int seen, .ref 86, .int z6.1, wc]) (S' := [.int 0]) (μ' := (am_S (am_row f 86 z6.2) g)) 1 rfl ?_
    subst hKd
    exact am_F.eq (am_F.ret rfl rfl) hK
/-- AccessLattice$Roles.countWays -/
def st_countWays_2 (role : Int32) : Nat → (Nat → Int32) → (Nat → Int32) := fun i2 r2_9 => (upd r2_9 i2 (am_b (if (nI i2) = role then true else false)))
def lf_countWays_2 (role : Int32) (f : Nat → Nat → Int32) : (Nat → Int32) := am_for (st_countWays_2 role) 20 0 (f 9)
def st_countWays_85 (f : Nat → Nat → Int32) (r35_9 : Nat → Int32) (i45 : Nat) : Nat → (Nat → Int32) → (Nat → Int32) := fun i85 r85_10 => (upd r85_10 i45 ((r85_10 i45) + (bif (fn_has (f 4 i45) (nI i85)) then r35_9 i85 else 0)))
def lf_countWays_85 (f : Nat → Nat → Int32) (r35_9 : Nat → Int32) (i45 : Nat) (r45_10 : Nat → Int32) : (Nat → Int32) := am_for (st_countWays_85 f r35_9 i45) 20 0 (upd r45_10 i45 0)
def st_countWays_45 (f : Nat → Nat → Int32) (r35_9 : Nat → Int32) : Nat → Int32 × (Nat → Int32) → Int32 × (Nat → Int32) ⊕ (Int32 × (Nat → Int32) ⊕ Empty) := fun i45 z => match z with
  | (a45_3, r45_10) => (if 20 ≤ (nI i45) then .inr (.inl (a45_3, r45_10)) else .inl (a45_3 + ((f 87 i45) * (r35_9 i45)), (lf_countWays_85 f r35_9 i45 r45_10)))
def lf_countWays_45 (f : Nat → Nat → Int32) (a35_3 : Int32) (r35_9 : Nat → Int32) (r35_10 : Nat → Int32) : Int32 × (Nat → Int32) ⊕ Empty := am_forX (st_countWays_45 f r35_9) 20 0 (a35_3, r35_10)
def st_countWays_35 (f : Nat → Nat → Int32) : Nat → Int32 × (Nat → Int32) × (Nat → Int32) → Int32 × (Nat → Int32) × (Nat → Int32) := fun i35 z => match z with
  | (a35_3, r35_9, r35_10) => (Sum.elim (fun (z45 : Int32 × (Nat → Int32)) => (z45.1, va_cpy z45.2 r35_9 0 0 20, z45.2)) (fun (z : Empty) => z.elim) (lf_countWays_45 f a35_3 r35_9 r35_10))
def lf_countWays_35 (f : Nat → Nat → Int32) (z2_3 : (Nat → Int32)) : Int32 × (Nat → Int32) × (Nat → Int32) := am_for (st_countWays_35 f) 20 0 (0, z2_3, f 10)
def fn_countWays (role : Int32) (f : Nat → Nat → Int32) : Int32 × (Nat → Int32) × (Nat → Int32) := ((lf_countWays_35 f (lf_countWays_2 role f)).1, (lf_countWays_35 f (lf_countWays_2 role f)).2.1, (lf_countWays_35 f (lf_countWays_2 role f)).2.2)
theorem lp_countWays_2 (role : Int32) (f : Nat → Nat → Int32) (g : Nat → Nat → Int64)  (res : Option Value × am_M) : ∀ (n i2 : Nat) (r2_9 : Nat → Int32) , i2 + n = 20 → (fun (z : (Nat → Int32)) => ∀ (wc : Value), am_F 1 am_k_117 30 [.ref 3, .ref 87, .int role, wc, am_un, am_un, am_un] [] (am_S (am_row f 9 z) g) res) (am_for (st_countWays_2 role) n i2 r2_9) → am_F 1 am_k_117 2 [.ref 3, .ref 87, .int role, .int (nI i2), am_un, am_un, am_un] [] (am_S (am_row f 9 r2_9) g) res := by
  intro n
  induction n with
  | zero =>
    intro i2 r2_9 hi hK
    refine am_F.pos 3 rfl (by show 20 ≤ nI i2; rw [show (20 : Int32) = nI 20 from rfl]; exact nI_le (by omega) (by omega)) ?_
    exact hK _
  | succ n ih =>
    intro i2 r2_9 hi hK
    refine am_F.neg 3 rfl (by show ¬ 20 ≤ nI i2; rw [show (20 : Int32) = nI 20 from rfl]; exact nI_ge (by omega) (by omega)) ?_
    have hb2 : i2 < 20 := by omega
    show am_F _ _ 8 [.ref 3, .ref 87, .int role, .int (nI i2), am_un, am_un, am_un] [] (am_S (am_row f 9 r2_9) g) _
    obtain ⟨K, hKd⟩ : ∃ K : ((Nat → Int32)) → Prop, K = fun s => (fun (z : (Nat → Int32)) => ∀ (wc : Value), am_F 1 am_k_117 30 [.ref 3, .ref 87, .int role, wc, am_un, am_un, am_un] [] (am_S (am_row f 9 z) g) res) (am_for (st_countWays_2 role) n (i2 + 1) s) := ⟨_, rfl⟩
    have hK : K ((st_countWays_2 role) i2 r2_9) := by rw [hKd]; exact hK
    unfold st_countWays_2 at hK
    refine am_F.ops (pc' := 15) (L' := [.ref 3, .ref 87, .int role, .int (nI i2), am_un, am_un, am_un]) (S' := [.int role, .int (nI i2), .int (nI i2), .ref 9]) (μ' := (am_S (am_row f 9 r2_9) g)) 5 rfl ?_
    refine am_F.to (am_To.iteB (pc' := 23) (L2 := [.ref 3, .ref 87, .int role, .int (nI i2), am_un, am_un, am_un]) (S2 := [.int (nI i2), .ref 9]) (μ2 := (am_S (am_row f 9 r2_9) g)) (a := true) (b := false) 1 rfl (fun c2 => ?_) (fun c2 => ?_)) ?_
    · intro res9 g9
      show am_F _ _ 18 [.ref 3, .ref 87, .int role, .int (nI i2), am_un, am_un, am_un] [.int (nI i2), .ref 9] (am_S (am_row f 9 r2_9) g) _
      refine am_F.ops (pc' := 23) (L' := [.ref 3, .ref 87, .int role, .int (nI i2), am_un, am_un, am_un]) (S' := [.int 1, .int (nI i2), .ref 9]) (μ' := (am_S (am_row f 9 r2_9) g)) 2 rfl ?_
      exact g9
    · intro res9 g9
      show am_F _ _ 22 [.ref 3, .ref 87, .int role, .int (nI i2), am_un, am_un, am_un] [.int (nI i2), .ref 9] (am_S (am_row f 9 r2_9) g) _
      refine am_F.ops (pc' := 23) (L' := [.ref 3, .ref 87, .int role, .int (nI i2), am_un, am_un, am_un]) (S' := [.int 0, .int (nI i2), .ref 9]) (μ' := (am_S (am_row f 9 r2_9) g)) 1 rfl ?_
      exact g9
    show am_F _ _ 23 [.ref 3, .ref 87, .int role, .int (nI i2), am_un, am_un, am_un] [.int (am_b (if (nI i2) = role then true else false)), .int (nI i2), .ref 9] (am_S (am_row f 9 r2_9) g) _
    refine am_F.iasE (F' := (am_row f 9 (upd r2_9 i2 (am_b (if (nI i2) = role then true else false))))) (m := i2) (N := 20) rfl rfl rfl rfl (by omega) (by decide) (by first | rfl | (funext a; by_cases z0 : a = 9; (subst z0; rfl); simp only [am_ui, am_ul, am_row_ne z0])) ?_
    refine am_F.ops (pc' := 2) (L' := [.ref 3, .ref 87, .int role, .int ((nI i2) + 1), am_un, am_un, am_un]) (S' := []) (μ' := (am_S (am_row f 9 (upd r2_9 i2 (am_b (if (nI i2) = role then true else false)))) g)) 2 rfl ?_
    rw [nI_1 i2]
    subst hKd
    exact ih (i2 + 1) (upd r2_9 i2 (am_b (if (nI i2) = role then true else false))) (by omega)  hK
theorem lp_countWays_85 (role : Int32) (f : Nat → Nat → Int32) (g : Nat → Nat → Int64) (z2_3 : (Nat → Int32)) (i35 : Nat) (a35_3 : Int32) (r35_9 : Nat → Int32) (r35_10 : Nat → Int32) (i45 : Nat) (a45_3 : Int32) (r45_10 : Nat → Int32) (hb35 : i35 < 20) (hb45 : i45 < 20) (res : Option Value × am_M) : ∀ (n i85 : Nat) (r85_10 : Nat → Int32) , i85 + n = 20 → (fun (z : (Nat → Int32)) => ∀ (wc : Value), am_F 1 am_k_117 134 [.ref 3, .ref 87, .int role, .int (a45_3 + ((f 87 i45) * (r35_9 i45))), .int (nI i35), .int (nI i45), wc] [] (am_S (am_row (am_row f 9 r35_9) 10 z) g) res) (am_for (st_countWays_85 f r35_9 i45) n i85 r85_10) → am_F 1 am_k_117 85 [.ref 3, .ref 87, .int role, .int (a45_3 + ((f 87 i45) * (r35_9 i45))), .int (nI i35), .int (nI i45), .int (nI i85)] [] (am_S (am_row (am_row f 9 r35_9) 10 r85_10) g) res := by
  intro n
  induction n with
  | zero =>
    intro i85 r85_10 hi hK
    refine am_F.pos 3 rfl (by show 20 ≤ nI i85; rw [show (20 : Int32) = nI 20 from rfl]; exact nI_le (by omega) (by omega)) ?_
    exact hK _
  | succ n ih =>
    intro i85 r85_10 hi hK
    refine am_F.neg 3 rfl (by show ¬ 20 ≤ nI i85; rw [show (20 : Int32) = nI 20 from rfl]; exact nI_ge (by omega) (by omega)) ?_
    have hb85 : i85 < 20 := by omega
    show am_F _ _ 92 [.ref 3, .ref 87, .int role, .int (a45_3 + ((f 87 i45) * (r35_9 i45))), .int (nI i35), .int (nI i45), .int (nI i85)] [] (am_S (am_row (am_row f 9 r35_9) 10 r85_10) g) _
    obtain ⟨K, hKd⟩ : ∃ K : ((Nat → Int32)) → Prop, K = fun s => (fun (z : (Nat → Int32)) => ∀ (wc : Value), am_F 1 am_k_117 134 [.ref 3, .ref 87, .int role, .int (a45_3 + ((f 87 i45) * (r35_9 i45))), .int (nI i35), .int (nI i45), wc] [] (am_S (am_row (am_row f 9 r35_9) 10 z) g) res) (am_for (st_countWays_85 f r35_9 i45) n (i85 + 1) s) := ⟨_, rfl⟩
    have hK : K ((st_countWays_85 f r35_9 i45) i85 r85_10) := by rw [hKd]; exact hK
    unfold st_countWays_85 at hK
    refine am_F.ops (pc' := 99) (L' := [.ref 3, .ref 87, .int role, .int (a45_3 + ((f 87 i45) * (r35_9 i45))), .int (nI i35), .int (nI i45), .int (nI i85)]) (S' := [.int (nI i45), .ref 10, .int (nI i45), .ref 10]) (μ' := (am_S (am_row (am_row f 9 r35_9) 10 r85_10) g)) 4 rfl ?_
    refine am_F.ialE (m := i45) (N := 20) rfl rfl rfl rfl (by omega) (by decide) ?_
    show am_F _ _ 100 [.ref 3, .ref 87, .int role, .int (a45_3 + ((f 87 i45) * (r35_9 i45))), .int (nI i35), .int (nI i45), .int (nI i85)] [.int (r85_10 i45), .int (nI i45), .ref 10] (am_S (am_row (am_row f 9 r35_9) 10 r85_10) g) _
    refine am_F.ops (pc' := 106) (L' := [.ref 3, .ref 87, .int role, .int (a45_3 + ((f 87 i45) * (r35_9 i45))), .int (nI i35), .int (nI i45), .int (nI i85)]) (S' := [.int (nI i45), .ref 4, .int (r85_10 i45), .int (nI i45), .ref 10]) (μ' := (am_S (am_row (am_row f 9 r35_9) 10 r85_10) g)) 3 rfl ?_
    refine am_F.ialE (m := i45) (N := 20) rfl rfl rfl rfl (by omega) (by decide) ?_
    show am_F _ _ 107 [.ref 3, .ref 87, .int role, .int (a45_3 + ((f 87 i45) * (r35_9 i45))), .int (nI i35), .int (nI i45), .int (nI i85)] [.int (f 4 i45), .int (r85_10 i45), .int (nI i45), .ref 10] (am_S (am_row (am_row f 9 r35_9) 10 r85_10) g) _
    refine am_F.ops (pc' := 109) (L' := [.ref 3, .ref 87, .int role, .int (a45_3 + ((f 87 i45) * (r35_9 i45))), .int (nI i35), .int (nI i45), .int (nI i85)]) (S' := [.int (nI i85), .int (f 4 i45), .int (r85_10 i45), .int (nI i45), .ref 10]) (μ' := (am_S (am_row (am_row f 9 r35_9) 10 r85_10) g)) 1 rfl ?_
    refine am_F.call rfl rfl (x_has (f 4 i45) (nI i85) (am_row (am_row f 9 r35_9) 10 r85_10) g ) (by decide) ?_
    show am_F _ _ 112 [.ref 3, .ref 87, .int role, .int (a45_3 + ((f 87 i45) * (r35_9 i45))), .int (nI i35), .int (nI i45), .int (nI i85)] [.int (am_b (fn_has (f 4 i45) (nI i85))), .int (r85_10 i45), .int (nI i45), .ref 10] (am_S (am_row (am_row f 9 r35_9) 10 r85_10) g) _
    refine am_F.to (am_To.bif (pc' := 126) (L2 := [.ref 3, .ref 87, .int role, .int (a45_3 + ((f 87 i45) * (r35_9 i45))), .int (nI i35), .int (nI i45), .int (nI i85)]) (S2 := [.int (r85_10 i45), .int (nI i45), .ref 10]) (μ2 := (am_S (am_row (am_row f 9 r35_9) 10 r85_10) g)) (a := r35_9 i85) (b := 0) 1 rfl (fun c18 => ?_) (fun c18 => ?_)) ?_
    · intro res9 g9
      show am_F _ _ 115 [.ref 3, .ref 87, .int role, .int (a45_3 + ((f 87 i45) * (r35_9 i45))), .int (nI i35), .int (nI i45), .int (nI i85)] [.int (r85_10 i45), .int (nI i45), .ref 10] (am_S (am_row (am_row f 9 r35_9) 10 r85_10) g) _
      refine am_F.ops (pc' := 121) (L' := [.ref 3, .ref 87, .int role, .int (a45_3 + ((f 87 i45) * (r35_9 i45))), .int (nI i35), .int (nI i45), .int (nI i85)]) (S' := [.int (nI i85), .ref 9, .int (r85_10 i45), .int (nI i45), .ref 10]) (μ' := (am_S (am_row (am_row f 9 r35_9) 10 r85_10) g)) 3 rfl ?_
      refine am_F.ialE (m := i85) (N := 20) rfl rfl rfl rfl (by omega) (by decide) ?_
      show am_F _ _ 122 [.ref 3, .ref 87, .int role, .int (a45_3 + ((f 87 i45) * (r35_9 i45))), .int (nI i35), .int (nI i45), .int (nI i85)] [.int (r35_9 i85), .int (r85_10 i45), .int (nI i45), .ref 10] (am_S (am_row (am_row f 9 r35_9) 10 r85_10) g) _
      refine am_F.ops (pc' := 126) (L' := [.ref 3, .ref 87, .int role, .int (a45_3 + ((f 87 i45) * (r35_9 i45))), .int (nI i35), .int (nI i45), .int (nI i85)]) (S' := [.int (r35_9 i85), .int (r85_10 i45), .int (nI i45), .ref 10]) (μ' := (am_S (am_row (am_row f 9 r35_9) 10 r85_10) g)) 1 rfl ?_
      exact g9
    · intro res9 g9
      show am_F _ _ 125 [.ref 3, .ref 87, .int role, .int (a45_3 + ((f 87 i45) * (r35_9 i45))), .int (nI i35), .int (nI i45), .int (nI i85)] [.int (r85_10 i45), .int (nI i45), .ref 10] (am_S (am_row (am_row f 9 r35_9) 10 r85_10) g) _
      refine am_F.ops (pc' := 126) (L' := [.ref 3, .ref 87, .int role, .int (a45_3 + ((f 87 i45) * (r35_9 i45))), .int (nI i35), .int (nI i45), .int (nI i85)]) (S' := [.int 0, .int (r85_10 i45), .int (nI i45), .ref 10]) (μ' := (am_S (am_row (am_row f 9 r35_9) 10 r85_10) g)) 1 rfl ?_
      exact g9
    show am_F _ _ 126 [.ref 3, .ref 87, .int role, .int (a45_3 + ((f 87 i45) * (r35_9 i45))), .int (nI i35), .int (nI i45), .int (nI i85)] [.int (bif (fn_has (f 4 i45) (nI i85)) then r35_9 i85 else 0), .int (r85_10 i45), .int (nI i45), .ref 10] (am_S (am_row (am_row f 9 r35_9) 10 r85_10) g) _
    refine am_F.ops (pc' := 127) (L' := [.ref 3, .ref 87, .int role, .int (a45_3 + ((f 87 i45) * (r35_9 i45))), .int (nI i35), .int (nI i45), .int (nI i85)]) (S' := [.int ((r85_10 i45) + (bif (fn_has (f 4 i45) (nI i85)) then r35_9 i85 else 0)), .int (nI i45), .ref 10]) (μ' := (am_S (am_row (am_row f 9 r35_9) 10 r85_10) g)) 1 rfl ?_
    refine am_F.iasE (F' := (am_row (am_row f 9 r35_9) 10 (upd r85_10 i45 ((r85_10 i45) + (bif (fn_has (f 4 i45) (nI i85)) then r35_9 i85 else 0))))) (m := i45) (N := 20) rfl rfl rfl rfl (by omega) (by decide) (by first | rfl | (funext a; by_cases z0 : a = 9; (subst z0; rfl); by_cases z1 : a = 10; (subst z1; rfl); simp only [am_ui, am_ul, am_row_ne z0, am_row_ne z1])) ?_
    refine am_F.ops (pc' := 85) (L' := [.ref 3, .ref 87, .int role, .int (a45_3 + ((f 87 i45) * (r35_9 i45))), .int (nI i35), .int (nI i45), .int ((nI i85) + 1)]) (S' := []) (μ' := (am_S (am_row (am_row f 9 r35_9) 10 (upd r85_10 i45 ((r85_10 i45) + (bif (fn_has (f 4 i45) (nI i85)) then r35_9 i85 else 0)))) g)) 2 rfl ?_
    rw [nI_1 i85]
    subst hKd
    exact ih (i85 + 1) (upd r85_10 i45 ((r85_10 i45) + (bif (fn_has (f 4 i45) (nI i85)) then r35_9 i85 else 0))) (by omega)  hK
theorem lp_countWays_45 (role : Int32) (f : Nat → Nat → Int32) (g : Nat → Nat → Int64) (z2_3 : (Nat → Int32)) (i35 : Nat) (a35_3 : Int32) (r35_9 : Nat → Int32) (r35_10 : Nat → Int32) (hb35 : i35 < 20) (res : Option Value × am_M) : ∀ (n i45 : Nat) (a45_3 : Int32) (r45_10 : Nat → Int32) (w45_6 : Value), i45 + n = 20 → am_KX (fun (z : Int32 × (Nat → Int32)) => ∀ (wc : Value) (w45_6 : Value), am_F 1 am_k_117 140 [.ref 3, .ref 87, .int role, .int z.1, .int (nI i35), wc, w45_6] [] (am_S (am_row (am_row f 9 r35_9) 10 z.2) g) res) (fun (z : Empty) => True) (am_forX (st_countWays_45 f r35_9) n i45 (a45_3, r45_10)) → am_F 1 am_k_117 45 [.ref 3, .ref 87, .int role, .int a45_3, .int (nI i35), .int (nI i45), w45_6] [] (am_S (am_row (am_row f 9 r35_9) 10 r45_10) g) res := by
  intro n
  induction n with
  | zero =>
    intro i45 a45_3 r45_10 w45_6 hi hK
    refine am_F.pos 3 rfl (by show 20 ≤ nI i45; rw [show (20 : Int32) = nI 20 from rfl]; exact nI_le (by omega) (by omega)) ?_
    exact hK _ _
  | succ n ih =>
    intro i45 a45_3 r45_10 w45_6 hi hK
    refine am_F.neg 3 rfl (by show ¬ 20 ≤ nI i45; rw [show (20 : Int32) = nI 20 from rfl]; exact nI_ge (by omega) (by omega)) ?_
    have hb45 : i45 < 20 := by omega
    show am_F _ _ 52 [.ref 3, .ref 87, .int role, .int a45_3, .int (nI i35), .int (nI i45), w45_6] [] (am_S (am_row (am_row f 9 r35_9) 10 r45_10) g) _
    obtain ⟨K, hKd⟩ : ∃ K : (Int32 × (Nat → Int32) ⊕ (Int32 × (Nat → Int32) ⊕ Empty)) → Prop, K = fun s => am_KX (fun (z : Int32 × (Nat → Int32)) => ∀ (wc : Value) (w45_6 : Value), am_F 1 am_k_117 140 [.ref 3, .ref 87, .int role, .int z.1, .int (nI i35), wc, w45_6] [] (am_S (am_row (am_row f 9 r35_9) 10 z.2) g) res) (fun (z : Empty) => True) (am_nxt (fun z => am_forX (st_countWays_45 f r35_9) n (i45 + 1) z) s) := ⟨_, rfl⟩
    have hK : K ((st_countWays_45 f r35_9) i45 (a45_3, r45_10)) := by rw [hKd]; exact hK
    unfold st_countWays_45 at hK
    simp only at hK
    refine am_F.ops (pc' := 56) (L' := [.ref 3, .ref 87, .int role, .int a45_3, .int (nI i35), .int (nI i45), w45_6]) (S' := [.int 20, .int (nI i45)]) (μ' := (am_S (am_row (am_row f 9 r35_9) 10 r45_10) g)) 3 rfl ?_
    refine am_F.iteK 1 rfl K hK (fun c16 hK => ?_) (fun c16 hK => ?_)
    · show am_F _ _ 140 [.ref 3, .ref 87, .int role, .int a45_3, .int (nI i35), .int (nI i45), w45_6] [] (am_S (am_row (am_row f 9 r35_9) 10 r45_10) g) _
      subst hKd
      exact hK (.int (nI i45)) w45_6
    · show am_F _ _ 59 [.ref 3, .ref 87, .int role, .int a45_3, .int (nI i35), .int (nI i45), w45_6] [] (am_S (am_row (am_row f 9 r35_9) 10 r45_10) g) _
      refine am_F.ops (pc' := 63) (L' := [.ref 3, .ref 87, .int role, .int a45_3, .int (nI i35), .int (nI i45), w45_6]) (S' := [.int (nI i45), .ref 87, .int a45_3]) (μ' := (am_S (am_row (am_row f 9 r35_9) 10 r45_10) g)) 3 rfl ?_
      refine am_F.ialE (m := i45) (N := 20) rfl rfl rfl rfl (by omega) (by decide) ?_
      show am_F _ _ 64 [.ref 3, .ref 87, .int role, .int a45_3, .int (nI i35), .int (nI i45), w45_6] [.int (f 87 i45), .int a45_3] (am_S (am_row (am_row f 9 r35_9) 10 r45_10) g) _
      refine am_F.ops (pc' := 70) (L' := [.ref 3, .ref 87, .int role, .int a45_3, .int (nI i35), .int (nI i45), w45_6]) (S' := [.int (nI i45), .ref 9, .int (f 87 i45), .int a45_3]) (μ' := (am_S (am_row (am_row f 9 r35_9) 10 r45_10) g)) 3 rfl ?_
      refine am_F.ialE (m := i45) (N := 20) rfl rfl rfl rfl (by omega) (by decide) ?_
      show am_F _ _ 71 [.ref 3, .ref 87, .int role, .int a45_3, .int (nI i35), .int (nI i45), w45_6] [.int (r35_9 i45), .int (f 87 i45), .int a45_3] (am_S (am_row (am_row f 9 r35_9) 10 r45_10) g) _
      refine am_F.ops (pc' := 81) (L' := [.ref 3, .ref 87, .int role, .int (a45_3 + ((f 87 i45) * (r35_9 i45))), .int (nI i35), .int (nI i45), w45_6]) (S' := [.int 0, .int (nI i45), .ref 10]) (μ' := (am_S (am_row (am_row f 9 r35_9) 10 r45_10) g)) 7 rfl ?_
      refine am_F.iasE (F' := (am_row (am_row f 9 r35_9) 10 (upd r45_10 i45 0))) (m := i45) (N := 20) rfl rfl rfl rfl (by omega) (by decide) (by first | rfl | (funext a; by_cases z0 : a = 9; (subst z0; rfl); by_cases z1 : a = 10; (subst z1; rfl); simp only [am_ui, am_ul, am_row_ne z0, am_row_ne z1])) ?_
      refine am_F.ops (pc' := 85) (L' := [.ref 3, .ref 87, .int role, .int (a45_3 + ((f 87 i45) * (r35_9 i45))), .int (nI i35), .int (nI i45), .int 0]) (S' := []) (μ' := (am_S (am_row (am_row f 9 r35_9) 10 (upd r45_10 i45 0)) g)) 2 rfl ?_
      show am_F _ _ 85 [.ref 3, .ref 87, .int role, .int (a45_3 + ((f 87 i45) * (r35_9 i45))), .int (nI i35), .int (nI i45), .int (nI 0)] [] (am_S (am_row (am_row f 9 r35_9) 10 (upd r45_10 i45 0)) g) _
      refine lp_countWays_85 role f g z2_3 i35 a35_3 r35_9 r35_10 i45 a45_3 r45_10 hb35 hb45 _ 20 0 (upd r45_10 i45 0)  (by omega)  ?_
      rw [show am_for (st_countWays_85 f r35_9 i45) 20 0 (upd r45_10 i45 0) = (lf_countWays_85 f r35_9 i45 r45_10) from rfl]
      generalize (lf_countWays_85 f r35_9 i45 r45_10) = z85_19 at hK ⊢
      intro wc
      show am_F _ _ 134 [.ref 3, .ref 87, .int role, .int (a45_3 + ((f 87 i45) * (r35_9 i45))), .int (nI i35), .int (nI i45), wc] [] (am_S (am_row (am_row f 9 r35_9) 10 z85_19) g) _
      refine am_F.ops (pc' := 45) (L' := [.ref 3, .ref 87, .int role, .int (a45_3 + ((f 87 i45) * (r35_9 i45))), .int (nI i35), .int ((nI i45) + 1), wc]) (S' := []) (μ' := (am_S (am_row (am_row f 9 r35_9) 10 z85_19) g)) 2 rfl ?_
      rw [nI_1 i45]
      subst hKd
      exact ih (i45 + 1) (a45_3 + ((f 87 i45) * (r35_9 i45))) z85_19 wc (by omega)  hK
theorem lp_countWays_35 (role : Int32) (f : Nat → Nat → Int32) (g : Nat → Nat → Int64) (z2_3 : (Nat → Int32))  (res : Option Value × am_M) : ∀ (n i35 : Nat) (a35_3 : Int32) (r35_9 : Nat → Int32) (r35_10 : Nat → Int32) (w35_5 : Value) (w35_6 : Value), i35 + n = 20 → (fun (z : Int32 × (Nat → Int32) × (Nat → Int32)) => ∀ (wc : Value) (w35_5 : Value) (w35_6 : Value), am_F 1 am_k_117 161 [.ref 3, .ref 87, .int role, .int z.1, wc, w35_5, w35_6] [] (am_S (am_row (am_row f 9 z.2.1) 10 z.2.2) g) res) (am_for (st_countWays_35 f) n i35 (a35_3, r35_9, r35_10)) → am_F 1 am_k_117 35 [.ref 3, .ref 87, .int role, .int a35_3, .int (nI i35), w35_5, w35_6] [] (am_S (am_row (am_row f 9 r35_9) 10 r35_10) g) res := by
  intro n
  induction n with
  | zero =>
    intro i35 a35_3 r35_9 r35_10 w35_5 w35_6 hi hK
    refine am_F.pos 3 rfl (by show 20 ≤ nI i35; rw [show (20 : Int32) = nI 20 from rfl]; exact nI_le (by omega) (by omega)) ?_
    exact hK _ _ _
  | succ n ih =>
    intro i35 a35_3 r35_9 r35_10 w35_5 w35_6 hi hK
    refine am_F.neg 3 rfl (by show ¬ 20 ≤ nI i35; rw [show (20 : Int32) = nI 20 from rfl]; exact nI_ge (by omega) (by omega)) ?_
    have hb35 : i35 < 20 := by omega
    show am_F _ _ 42 [.ref 3, .ref 87, .int role, .int a35_3, .int (nI i35), w35_5, w35_6] [] (am_S (am_row (am_row f 9 r35_9) 10 r35_10) g) _
    obtain ⟨K, hKd⟩ : ∃ K : (Int32 × (Nat → Int32) × (Nat → Int32)) → Prop, K = fun s => (fun (z : Int32 × (Nat → Int32) × (Nat → Int32)) => ∀ (wc : Value) (w35_5 : Value) (w35_6 : Value), am_F 1 am_k_117 161 [.ref 3, .ref 87, .int role, .int z.1, wc, w35_5, w35_6] [] (am_S (am_row (am_row f 9 z.2.1) 10 z.2.2) g) res) (am_for (st_countWays_35 f) n (i35 + 1) s) := ⟨_, rfl⟩
    have hK : K ((st_countWays_35 f) i35 (a35_3, r35_9, r35_10)) := by rw [hKd]; exact hK
    unfold st_countWays_35 at hK
    simp only at hK
    refine am_F.ops (pc' := 45) (L' := [.ref 3, .ref 87, .int role, .int a35_3, .int (nI i35), .int 0, w35_6]) (S' := []) (μ' := (am_S (am_row (am_row f 9 r35_9) 10 r35_10) g)) 2 rfl ?_
    show am_F _ _ 45 [.ref 3, .ref 87, .int role, .int a35_3, .int (nI i35), .int (nI 0), w35_6] [] (am_S (am_row (am_row f 9 r35_9) 10 r35_10) g) _
    refine lp_countWays_45 role f g z2_3 i35 a35_3 r35_9 r35_10 hb35 _ 20 0 a35_3 r35_10 w35_6 (by omega)  ?_
    rw [show am_forX (st_countWays_45 f r35_9) 20 0 (a35_3, r35_10) = (lf_countWays_45 f a35_3 r35_9 r35_10) from rfl]
    revert hK
    cases (lf_countWays_45 f a35_3 r35_9 r35_10) with
    | inr z =>
      intro hK
      exact z.elim
    | inl z45 =>
      intro hK wc w45_6
      refine am_F.ops (pc' := 152) (L' := [.ref 3, .ref 87, .int role, .int z45.1, .int (nI i35), wc, w45_6]) (S' := [.int 20, .int 0, .ref 9, .int 0, .ref 10]) (μ' := (am_S (am_row (am_row f 9 r35_9) 10 z45.2) g)) 7 rfl ?_
      refine am_F.cpyE (F' := (am_row (am_row f 9 (va_cpy z45.2 r35_9 0 0 20)) 10 z45.2)) (sp := 0) (dp := 0) (z := 20) (n0 := 20) (n1 := 20) rfl rfl rfl rfl rfl rfl rfl rfl (by omega) (by omega) (by decide) (by decide) (by first | rfl | (funext a; by_cases z0 : a = 9; (subst z0; rfl); by_cases z1 : a = 10; (subst z1; rfl); simp only [am_ui, am_ul, am_row_ne z0, am_row_ne z1])) ?_
      refine am_F.ops (pc' := 35) (L' := [.ref 3, .ref 87, .int role, .int z45.1, .int ((nI i35) + 1), wc, w45_6]) (S' := []) (μ' := (am_S (am_row (am_row f 9 (va_cpy z45.2 r35_9 0 0 20)) 10 z45.2) g)) 2 rfl ?_
      rw [nI_1 i35]
      subst hKd
      exact ih (i35 + 1) z45.1 (va_cpy z45.2 r35_9 0 0 20) z45.2 wc w45_6 (by omega)  hK
theorem x_countWays (role : Int32) (f : Nat → Nat → Int32) (g : Nat → Nat → Int64)  : am_D 1 117 7 [.ref 3, .ref 87, .int role] (am_S f g) (some (Value.int ((fn_countWays role f).1)), am_S (am_row (am_row f 9 ((fn_countWays role f).2.1)) 10 ((fn_countWays role f).2.2)) g) := by
  refine am_D.of (code := am_k_117) rfl (L0 := [.ref 3, .ref 87, .int role, am_un, am_un, am_un, am_un]) rfl ?_
  generalize hres : (some (Value.int ((fn_countWays role f).1)), am_S (am_row (am_row f 9 ((fn_countWays role f).2.1)) 10 ((fn_countWays role f).2.2)) g) = res
  obtain ⟨K, hKd⟩ : ∃ K : (Int32 × (Nat → Int32) × (Nat → Int32)) → Prop, K = fun z => (some (Value.int z.1), am_S (am_row (am_row f 9 z.2.1) 10 z.2.2) g) = res := ⟨_, rfl⟩
  have hK : K (fn_countWays role f) := by rw [hKd]; exact hres
  clear hres
  unfold fn_countWays at hK
  refine am_F.ops (pc' := 2) (L' := [.ref 3, .ref 87, .int role, .int 0, am_un, am_un, am_un]) (S' := []) (μ' := (am_S f g)) 2 rfl ?_
  refine am_F.mem (F' := (am_row f 9 (f 9))) (G' := g) ?_ (by first | rfl | (funext a; by_cases z0 : a = 9; (subst z0; rfl); simp only [am_ui, am_ul, am_row_ne z0])) (by first | rfl | (funext a; by_cases z0 : a = 9; (subst z0; rfl); simp only [am_ui, am_ul, am_row_ne z0]))
  show am_F _ _ 2 [.ref 3, .ref 87, .int role, .int (nI 0), am_un, am_un, am_un] [] (am_S (am_row f 9 (f 9)) g) _
  refine lp_countWays_2 role f g  _ 20 0 (f 9)  (by omega)  ?_
  rw [show am_for (st_countWays_2 role) 20 0 (f 9) = (lf_countWays_2 role f) from rfl]
  generalize (lf_countWays_2 role f) = z2_3 at hK ⊢
  intro wc
  show am_F _ _ 30 [.ref 3, .ref 87, .int role, wc, am_un, am_un, am_un] [] (am_S (am_row f 9 z2_3) g) _
  refine am_F.ops (pc' := 35) (L' := [.ref 3, .ref 87, .int role, .int 0, .int 0, am_un, am_un]) (S' := []) (μ' := (am_S (am_row f 9 z2_3) g)) 4 rfl ?_
  refine am_F.mem (F' := (am_row (am_row f 9 z2_3) 10 (f 10))) (G' := g) ?_ (by first | rfl | (funext a; by_cases z0 : a = 9; (subst z0; rfl); by_cases z1 : a = 10; (subst z1; rfl); simp only [am_ui, am_ul, am_row_ne z0, am_row_ne z1])) (by first | rfl | (funext a; by_cases z0 : a = 9; (subst z0; rfl); by_cases z1 : a = 10; (subst z1; rfl); simp only [am_ui, am_ul, am_row_ne z0, am_row_ne z1]))
  show am_F _ _ 35 [.ref 3, .ref 87, .int role, .int 0, .int (nI 0), am_un, am_un] [] (am_S (am_row (am_row f 9 z2_3) 10 (f 10)) g) _
  refine lp_countWays_35 role f g z2_3  _ 20 0 0 z2_3 (f 10) am_un am_un (by omega)  ?_
  rw [show am_for (st_countWays_35 f) 20 0 (0, z2_3, f 10) = (lf_countWays_35 f z2_3) from rfl]
  generalize (lf_countWays_35 f z2_3) = z35_20 at hK ⊢
  intro wc w35_5 w35_6
  show am_F _ _ 161 [.ref 3, .ref 87, .int role, .int z35_20.1, wc, w35_5, w35_6] [] (am_S (am_row (am_row f 9 z35_20.2.1) 10 z35_20.2.2) g) _
  refine am_F.ops (pc' := 162) (L' := [.ref 3, .ref 87, .int role, .int z35_20.1, wc, w35_5, w35_6]) (S' := [.int z35_20.1]) (μ' := (am_S (am_row (am_row f 9 z35_20.2.1) 10 z35_20.2.2) g)) 1 rfl ?_
  subst hKd
  exact am_F.eq (am_F.ret rfl rfl) hK
/-- AccessLattice$Roles.longestDown -/
def st_longestDown_29 (f : Nat → Nat → Int32) (a12_2 : Int32) : Nat → Int32 → Int32 := fun i29 a29_5 => (a29_5 ||| (bif (fn_has a12_2 (nI i29)) then f 4 i29 else 0))
def lf_longestDown_29 (f : Nat → Nat → Int32) (a12_2 : Int32) : Int32 := am_for (st_longestDown_29 f a12_2) 20 0 0
def st_longestDown_12 (f : Nat → Nat → Int32) : Nat → Int32 × Int32 → Int32 × Int32 ⊕ (Int32 × Int32 ⊕ Empty) := fun i12 z => match z with
  | (a12_2, a12_3) => (if a12_2 = 0 then .inr (.inl (a12_2, a12_3)) else .inl ((lf_longestDown_29 f a12_2), a12_3 + 1))
def lf_longestDown_12 (role : Nat) (f : Nat → Nat → Int32) : Int32 × Int32 ⊕ Empty := am_forX (st_longestDown_12 f) 20 0 (f 4 role, 0)
def fn_longestDown (role : Nat) (f : Nat → Nat → Int32) : Int32 := (Sum.elim (fun (z12 : Int32 × Int32) => z12.2) (fun (z : Empty) => z.elim) (lf_longestDown_12 role f))
theorem lp_longestDown_29 (role : Nat) (f : Nat → Nat → Int32) (g : Nat → Nat → Int64) (i12 : Nat) (a12_2 : Int32) (a12_3 : Int32) (hrole : role < 20) (hb12 : i12 < 20) (res : Option Value × am_M) : ∀ (n i29 : Nat) (a29_5 : Int32) , i29 + n = 20 → (fun (z : Int32) => ∀ (wc : Value), am_F 1 am_k_129 67 [.ref 3, .int (nI role), .int a12_2, .int a12_3, .int (nI i12), .int z, wc] [] (am_S f g) res) (am_for (st_longestDown_29 f a12_2) n i29 a29_5) → am_F 1 am_k_129 29 [.ref 3, .int (nI role), .int a12_2, .int a12_3, .int (nI i12), .int a29_5, .int (nI i29)] [] (am_S f g) res := by
  intro n
  induction n with
  | zero =>
    intro i29 a29_5 hi hK
    refine am_F.pos 3 rfl (by show 20 ≤ nI i29; rw [show (20 : Int32) = nI 20 from rfl]; exact nI_le (by omega) (by omega)) ?_
    exact hK _
  | succ n ih =>
    intro i29 a29_5 hi hK
    refine am_F.neg 3 rfl (by show ¬ 20 ≤ nI i29; rw [show (20 : Int32) = nI 20 from rfl]; exact nI_ge (by omega) (by omega)) ?_
    have hb29 : i29 < 20 := by omega
    show am_F _ _ 36 [.ref 3, .int (nI role), .int a12_2, .int a12_3, .int (nI i12), .int a29_5, .int (nI i29)] [] (am_S f g) _
    obtain ⟨K, hKd⟩ : ∃ K : (Int32) → Prop, K = fun s => (fun (z : Int32) => ∀ (wc : Value), am_F 1 am_k_129 67 [.ref 3, .int (nI role), .int a12_2, .int a12_3, .int (nI i12), .int z, wc] [] (am_S f g) res) (am_for (st_longestDown_29 f a12_2) n (i29 + 1) s) := ⟨_, rfl⟩
    have hK : K ((st_longestDown_29 f a12_2) i29 a29_5) := by rw [hKd]; exact hK
    unfold st_longestDown_29 at hK
    refine am_F.ops (pc' := 41) (L' := [.ref 3, .int (nI role), .int a12_2, .int a12_3, .int (nI i12), .int a29_5, .int (nI i29)]) (S' := [.int (nI i29), .int a12_2, .int a29_5]) (μ' := (am_S f g)) 3 rfl ?_
    refine am_F.call rfl rfl (x_has a12_2 (nI i29) f g ) (by decide) ?_
    show am_F _ _ 44 [.ref 3, .int (nI role), .int a12_2, .int a12_3, .int (nI i12), .int a29_5, .int (nI i29)] [.int (am_b (fn_has a12_2 (nI i29))), .int a29_5] (am_S f g) _
    refine am_F.to (am_To.bif (pc' := 58) (L2 := [.ref 3, .int (nI role), .int a12_2, .int a12_3, .int (nI i12), .int a29_5, .int (nI i29)]) (S2 := [.int a29_5]) (μ2 := (am_S f g)) (a := f 4 i29) (b := 0) 1 rfl (fun c2 => ?_) (fun c2 => ?_)) ?_
    · intro res9 g9
      show am_F _ _ 47 [.ref 3, .int (nI role), .int a12_2, .int a12_3, .int (nI i12), .int a29_5, .int (nI i29)] [.int a29_5] (am_S f g) _
      refine am_F.ops (pc' := 53) (L' := [.ref 3, .int (nI role), .int a12_2, .int a12_3, .int (nI i12), .int a29_5, .int (nI i29)]) (S' := [.int (nI i29), .ref 4, .int a29_5]) (μ' := (am_S f g)) 3 rfl ?_
      refine am_F.ialE (m := i29) (N := 20) rfl rfl rfl rfl (by omega) (by decide) ?_
      show am_F _ _ 54 [.ref 3, .int (nI role), .int a12_2, .int a12_3, .int (nI i12), .int a29_5, .int (nI i29)] [.int (f 4 i29), .int a29_5] (am_S f g) _
      refine am_F.ops (pc' := 58) (L' := [.ref 3, .int (nI role), .int a12_2, .int a12_3, .int (nI i12), .int a29_5, .int (nI i29)]) (S' := [.int (f 4 i29), .int a29_5]) (μ' := (am_S f g)) 1 rfl ?_
      exact g9
    · intro res9 g9
      show am_F _ _ 57 [.ref 3, .int (nI role), .int a12_2, .int a12_3, .int (nI i12), .int a29_5, .int (nI i29)] [.int a29_5] (am_S f g) _
      refine am_F.ops (pc' := 58) (L' := [.ref 3, .int (nI role), .int a12_2, .int a12_3, .int (nI i12), .int a29_5, .int (nI i29)]) (S' := [.int 0, .int a29_5]) (μ' := (am_S f g)) 1 rfl ?_
      exact g9
    show am_F _ _ 58 [.ref 3, .int (nI role), .int a12_2, .int a12_3, .int (nI i12), .int a29_5, .int (nI i29)] [.int (bif (fn_has a12_2 (nI i29)) then f 4 i29 else 0), .int a29_5] (am_S f g) _
    refine am_F.ops (pc' := 29) (L' := [.ref 3, .int (nI role), .int a12_2, .int a12_3, .int (nI i12), .int (a29_5 ||| (bif (fn_has a12_2 (nI i29)) then f 4 i29 else 0)), .int ((nI i29) + 1)]) (S' := []) (μ' := (am_S f g)) 4 rfl ?_
    rw [nI_1 i29]
    subst hKd
    exact ih (i29 + 1) (a29_5 ||| (bif (fn_has a12_2 (nI i29)) then f 4 i29 else 0)) (by omega)  hK
theorem lp_longestDown_12 (role : Nat) (f : Nat → Nat → Int32) (g : Nat → Nat → Int64) (hrole : role < 20) (res : Option Value × am_M) : ∀ (n i12 : Nat) (a12_2 : Int32) (a12_3 : Int32) (w12_5 : Value) (w12_6 : Value), i12 + n = 20 → am_KX (fun (z : Int32 × Int32) => ∀ (wc : Value) (w12_5 : Value) (w12_6 : Value), am_F 1 am_k_129 79 [.ref 3, .int (nI role), .int z.1, .int z.2, wc, w12_5, w12_6] [] (am_S f g) res) (fun (z : Empty) => True) (am_forX (st_longestDown_12 f) n i12 (a12_2, a12_3)) → am_F 1 am_k_129 12 [.ref 3, .int (nI role), .int a12_2, .int a12_3, .int (nI i12), w12_5, w12_6] [] (am_S f g) res := by
  intro n
  induction n with
  | zero =>
    intro i12 a12_2 a12_3 w12_5 w12_6 hi hK
    refine am_F.pos 3 rfl (by show 20 ≤ nI i12; rw [show (20 : Int32) = nI 20 from rfl]; exact nI_le (by omega) (by omega)) ?_
    exact hK _ _ _
  | succ n ih =>
    intro i12 a12_2 a12_3 w12_5 w12_6 hi hK
    refine am_F.neg 3 rfl (by show ¬ 20 ≤ nI i12; rw [show (20 : Int32) = nI 20 from rfl]; exact nI_ge (by omega) (by omega)) ?_
    have hb12 : i12 < 20 := by omega
    show am_F _ _ 19 [.ref 3, .int (nI role), .int a12_2, .int a12_3, .int (nI i12), w12_5, w12_6] [] (am_S f g) _
    obtain ⟨K, hKd⟩ : ∃ K : (Int32 × Int32 ⊕ (Int32 × Int32 ⊕ Empty)) → Prop, K = fun s => am_KX (fun (z : Int32 × Int32) => ∀ (wc : Value) (w12_5 : Value) (w12_6 : Value), am_F 1 am_k_129 79 [.ref 3, .int (nI role), .int z.1, .int z.2, wc, w12_5, w12_6] [] (am_S f g) res) (fun (z : Empty) => True) (am_nxt (fun z => am_forX (st_longestDown_12 f) n (i12 + 1) z) s) := ⟨_, rfl⟩
    have hK : K ((st_longestDown_12 f) i12 (a12_2, a12_3)) := by rw [hKd]; exact hK
    unfold st_longestDown_12 at hK
    simp only at hK
    refine am_F.ops (pc' := 20) (L' := [.ref 3, .int (nI role), .int a12_2, .int a12_3, .int (nI i12), w12_5, w12_6]) (S' := [.int a12_2]) (μ' := (am_S f g)) 1 rfl ?_
    refine am_F.iteK 1 rfl K hK (fun c1 hK => ?_) (fun c1 hK => ?_)
    · show am_F _ _ 79 [.ref 3, .int (nI role), .int a12_2, .int a12_3, .int (nI i12), w12_5, w12_6] [] (am_S f g) _
      subst hKd
      exact hK (.int (nI i12)) w12_5 w12_6
    · show am_F _ _ 23 [.ref 3, .int (nI role), .int a12_2, .int a12_3, .int (nI i12), w12_5, w12_6] [] (am_S f g) _
      refine am_F.ops (pc' := 29) (L' := [.ref 3, .int (nI role), .int a12_2, .int a12_3, .int (nI i12), .int 0, .int 0]) (S' := []) (μ' := (am_S f g)) 4 rfl ?_
      show am_F _ _ 29 [.ref 3, .int (nI role), .int a12_2, .int a12_3, .int (nI i12), .int 0, .int (nI 0)] [] (am_S f g) _
      refine lp_longestDown_29 role f g i12 a12_2 a12_3 hrole hb12 _ 20 0 0  (by omega)  ?_
      rw [show am_for (st_longestDown_29 f a12_2) 20 0 0 = (lf_longestDown_29 f a12_2) from rfl]
      generalize (lf_longestDown_29 f a12_2) = z29_3 at hK ⊢
      intro wc
      show am_F _ _ 67 [.ref 3, .int (nI role), .int a12_2, .int a12_3, .int (nI i12), .int z29_3, wc] [] (am_S f g) _
      refine am_F.ops (pc' := 12) (L' := [.ref 3, .int (nI role), .int z29_3, .int (a12_3 + 1), .int ((nI i12) + 1), .int z29_3, wc]) (S' := []) (μ' := (am_S f g)) 5 rfl ?_
      rw [nI_1 i12]
      subst hKd
      exact ih (i12 + 1) z29_3 (a12_3 + 1) (.int z29_3) wc (by omega)  hK
theorem x_longestDown (role : Nat) (f : Nat → Nat → Int32) (g : Nat → Nat → Int64) (hrole : role < 20) : am_D 1 129 7 [.ref 3, .int (nI role)] (am_S f g) (some (Value.int (fn_longestDown role f)), am_S f g) := by
  refine am_D.of (code := am_k_129) rfl (L0 := [.ref 3, .int (nI role), am_un, am_un, am_un, am_un, am_un]) rfl ?_
  generalize hres : (some (Value.int (fn_longestDown role f)), am_S f g) = res
  obtain ⟨K, hKd⟩ : ∃ K : Int32 → Prop, K = fun z => (some (Value.int z), am_S f g) = res := ⟨_, rfl⟩
  have hK : K (fn_longestDown role f) := by rw [hKd]; exact hres
  clear hres
  unfold fn_longestDown at hK
  refine am_F.ops (pc' := 5) (L' := [.ref 3, .int (nI role), am_un, am_un, am_un, am_un, am_un]) (S' := [.int (nI role), .ref 4]) (μ' := (am_S f g)) 3 rfl ?_
  refine am_F.ialE (m := role) (N := 20) rfl rfl rfl rfl (by omega) (by decide) ?_
  show am_F _ _ 6 [.ref 3, .int (nI role), am_un, am_un, am_un, am_un, am_un] [.int (f 4 role)] (am_S f g) _
  refine am_F.ops (pc' := 12) (L' := [.ref 3, .int (nI role), .int (f 4 role), .int 0, .int 0, am_un, am_un]) (S' := []) (μ' := (am_S f g)) 5 rfl ?_
  show am_F _ _ 12 [.ref 3, .int (nI role), .int (f 4 role), .int 0, .int (nI 0), am_un, am_un] [] (am_S f g) _
  refine lp_longestDown_12 role f g hrole _ 20 0 (f 4 role) 0 am_un am_un (by omega)  ?_
  rw [show am_forX (st_longestDown_12 f) 20 0 (f 4 role, 0) = (lf_longestDown_12 role f) from rfl]
  revert hK
  cases (lf_longestDown_12 role f) with
  | inr z =>
    intro hK
    exact z.elim
  | inl z12 =>
    intro hK wc w12_5 w12_6
    refine am_F.ops (pc' := 80) (L' := [.ref 3, .int (nI role), .int z12.1, .int z12.2, wc, w12_5, w12_6]) (S' := [.int z12.2]) (μ' := (am_S f g)) 1 rfl ?_
    subst hKd
    exact am_F.eq (am_F.ret rfl rfl) hK
/-- AccessLattice$Roles.copyFrom -/
def fn_copyRoles (f : Nat → Nat → Int32) : (Nat → Int32) × (Nat → Int32) × (Nat → Int32) × (Nat → Int32) × (Nat → Int32) := (upd (f 3) 7 (f 40 7), va_cpy (f 41) (f 4) 0 0 20, va_cpy (f 42) (f 5) 0 0 20, va_cpy (f 43) (f 6) 0 0 20, va_cpy (f 44) (f 7) 0 0 20)
theorem x_copyRoles (f : Nat → Nat → Int32) (g : Nat → Nat → Int64)  : am_D 0 138 2 [.ref 3, .ref 40] (am_S f g) ((none : Option Value), am_S (am_row (am_row (am_row (am_row (am_row f 3 ((fn_copyRoles f).1)) 4 ((fn_copyRoles f).2.1)) 5 ((fn_copyRoles f).2.2.1)) 6 ((fn_copyRoles f).2.2.2.1)) 7 ((fn_copyRoles f).2.2.2.2)) g) := by
  refine am_D.of (code := am_k_138) rfl (L0 := [.ref 3, .ref 40]) rfl ?_
  generalize hres : ((none : Option Value), am_S (am_row (am_row (am_row (am_row (am_row f 3 ((fn_copyRoles f).1)) 4 ((fn_copyRoles f).2.1)) 5 ((fn_copyRoles f).2.2.1)) 6 ((fn_copyRoles f).2.2.2.1)) 7 ((fn_copyRoles f).2.2.2.2)) g) = res
  obtain ⟨K, hKd⟩ : ∃ K : ((Nat → Int32) × (Nat → Int32) × (Nat → Int32) × (Nat → Int32) × (Nat → Int32)) → Prop, K = fun z => ((none : Option Value), am_S (am_row (am_row (am_row (am_row (am_row f 3 z.1) 4 z.2.1) 5 z.2.2.1) 6 z.2.2.2.1) 7 z.2.2.2.2) g) = res := ⟨_, rfl⟩
  have hK : K (fn_copyRoles f) := by rw [hKd]; exact hres
  clear hres
  unfold fn_copyRoles at hK
  refine am_F.ops (pc' := 12) (L' := [.ref 3, .ref 40]) (S' := [.int 20, .int 0, .ref 4, .int 0, .ref 41]) (μ' := (am_S f g)) 7 rfl ?_
  refine am_F.cpyE (F' := (am_row f 4 (va_cpy (f 41) (f 4) 0 0 20))) (sp := 0) (dp := 0) (z := 20) (n0 := 20) (n1 := 20) rfl rfl rfl rfl rfl rfl rfl rfl (by omega) (by omega) (by decide) (by decide) (by first | rfl | (funext a; by_cases z0 : a = 4; (subst z0; rfl); simp only [am_ui, am_ul, am_row_ne z0])) ?_
  refine am_F.ops (pc' := 27) (L' := [.ref 3, .ref 40]) (S' := [.int 20, .int 0, .ref 5, .int 0, .ref 42]) (μ' := (am_S (am_row f 4 (va_cpy (f 41) (f 4) 0 0 20)) g)) 7 rfl ?_
  refine am_F.cpyE (F' := (am_row (am_row f 4 (va_cpy (f 41) (f 4) 0 0 20)) 5 (va_cpy (f 42) (f 5) 0 0 20))) (sp := 0) (dp := 0) (z := 20) (n0 := 20) (n1 := 20) rfl rfl rfl rfl rfl rfl rfl rfl (by omega) (by omega) (by decide) (by decide) (by first | rfl | (funext a; by_cases z0 : a = 4; (subst z0; rfl); by_cases z1 : a = 5; (subst z1; rfl); simp only [am_ui, am_ul, am_row_ne z0, am_row_ne z1])) ?_
  refine am_F.ops (pc' := 42) (L' := [.ref 3, .ref 40]) (S' := [.int 20, .int 0, .ref 6, .int 0, .ref 43]) (μ' := (am_S (am_row (am_row f 4 (va_cpy (f 41) (f 4) 0 0 20)) 5 (va_cpy (f 42) (f 5) 0 0 20)) g)) 7 rfl ?_
  refine am_F.cpyE (F' := (am_row (am_row (am_row f 4 (va_cpy (f 41) (f 4) 0 0 20)) 5 (va_cpy (f 42) (f 5) 0 0 20)) 6 (va_cpy (f 43) (f 6) 0 0 20))) (sp := 0) (dp := 0) (z := 20) (n0 := 20) (n1 := 20) rfl rfl rfl rfl rfl rfl rfl rfl (by omega) (by omega) (by decide) (by decide) (by first | rfl | (funext a; by_cases z0 : a = 4; (subst z0; rfl); by_cases z1 : a = 5; (subst z1; rfl); by_cases z2 : a = 6; (subst z2; rfl); simp only [am_ui, am_ul, am_row_ne z0, am_row_ne z1, am_row_ne z2])) ?_
  refine am_F.ops (pc' := 57) (L' := [.ref 3, .ref 40]) (S' := [.int 20, .int 0, .ref 7, .int 0, .ref 44]) (μ' := (am_S (am_row (am_row (am_row f 4 (va_cpy (f 41) (f 4) 0 0 20)) 5 (va_cpy (f 42) (f 5) 0 0 20)) 6 (va_cpy (f 43) (f 6) 0 0 20)) g)) 7 rfl ?_
  refine am_F.cpyE (F' := (am_row (am_row (am_row (am_row f 4 (va_cpy (f 41) (f 4) 0 0 20)) 5 (va_cpy (f 42) (f 5) 0 0 20)) 6 (va_cpy (f 43) (f 6) 0 0 20)) 7 (va_cpy (f 44) (f 7) 0 0 20))) (sp := 0) (dp := 0) (z := 20) (n0 := 20) (n1 := 20) rfl rfl rfl rfl rfl rfl rfl rfl (by omega) (by omega) (by decide) (by decide) (by first | rfl | (funext a; by_cases z0 : a = 4; (subst z0; rfl); by_cases z1 : a = 5; (subst z1; rfl); by_cases z2 : a = 6; (subst z2; rfl); by_cases z3 : a = 7; (subst z3; rfl); simp only [am_ui, am_ul, am_row_ne z0, am_row_ne z1, am_row_ne z2, am_row_ne z3])) ?_
  refine am_F.ops (pc' := 65) (L' := [.ref 3, .ref 40]) (S' := [.int (f 40 7), .ref 3]) (μ' := (am_S (am_row (am_row (am_row (am_row f 4 (va_cpy (f 41) (f 4) 0 0 20)) 5 (va_cpy (f 42) (f 5) 0 0 20)) 6 (va_cpy (f 43) (f 6) 0 0 20)) 7 (va_cpy (f 44) (f 7) 0 0 20)) g)) 3 rfl ?_
  refine am_F.pfi (F' := (am_row (am_row (am_row (am_row (am_row f 3 (upd (f 3) 7 (f 40 7))) 4 (va_cpy (f 41) (f 4) 0 0 20)) 5 (va_cpy (f 42) (f 5) 0 0 20)) 6 (va_cpy (f 43) (f 6) 0 0 20)) 7 (va_cpy (f 44) (f 7) 0 0 20))) rfl rfl (by first | rfl | (funext a; by_cases z0 : a = 3; (subst z0; rfl); by_cases z1 : a = 4; (subst z1; rfl); by_cases z2 : a = 5; (subst z2; rfl); by_cases z3 : a = 6; (subst z3; rfl); by_cases z4 : a = 7; (subst z4; rfl); simp only [am_ui, am_ul, am_row_ne z0, am_row_ne z1, am_row_ne z2, am_row_ne z3, am_row_ne z4])) ?_
  subst hKd
  exact am_F.eq (am_F.ret rfl rfl) hK
