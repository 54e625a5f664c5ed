/-! view, state, rules (wip/whole/m4.py) -/
/-- java/lang/Integer.bitCount -/
def nm_bitCount_9 (v : Int32) : Int32 := v - (((v.toUInt32 >>> ((1 : Int32).toUInt32 &&& Int32.toUInt32 31)).toInt32) &&& 1431655765)
def nm_bitCount_23 (v : Int32) : Int32 := ((nm_bitCount_9 v) &&& 858993459) + ((((nm_bitCount_9 v).toUInt32 >>> ((2 : Int32).toUInt32 &&& Int32.toUInt32 31)).toInt32) &&& 858993459)
def nm_bitCount_33 (v : Int32) : Int32 := ((nm_bitCount_23 v) + (((nm_bitCount_23 v).toUInt32 >>> ((4 : Int32).toUInt32 &&& Int32.toUInt32 31)).toInt32)) &&& 252645135
def nm_bitCount_40 (v : Int32) : Int32 := (nm_bitCount_33 v) + (((nm_bitCount_33 v).toUInt32 >>> ((8 : Int32).toUInt32 &&& Int32.toUInt32 31)).toInt32)
def nm_bitCount_47 (v : Int32) : Int32 := (nm_bitCount_40 v) + (((nm_bitCount_40 v).toUInt32 >>> ((16 : Int32).toUInt32 &&& Int32.toUInt32 31)).toInt32)
def fn_bitCount (v : Int32) : Int32 := (nm_bitCount_47 v) &&& 63
theorem x_bitCount (v : Int32) (f : Nat → Nat → Int32) (g : Nat → Nat → Int64)  : am_D 0 33 1 [.int v] (am_S f g) (some (Value.int (fn_bitCount v)), am_S f g) := by
  refine am_D.of (code := am_k_33) rfl (L0 := [.int v]) rfl ?_
  generalize hres : (some (Value.int (fn_bitCount v)), am_S f g) = res
  obtain ⟨K, hKd⟩ : ∃ K : Int32 → Prop, K = fun z => (some (Value.int z), am_S f g) = res := ⟨_, rfl⟩
  have hK : K (fn_bitCount v) := by rw [hKd]; exact hres
  clear hres
  unfold fn_bitCount at hK
  refine am_F.ops (pc' := 10) (L' := [.int (nm_bitCount_9 v)]) (S' := []) (μ' := (am_S f g)) 8 rfl ?_
  refine am_F.ops (pc' := 24) (L' := [.int (nm_bitCount_23 v)]) (S' := []) (μ' := (am_S f g)) 10 rfl ?_
  refine am_F.ops (pc' := 34) (L' := [.int (nm_bitCount_33 v)]) (S' := []) (μ' := (am_S f g)) 8 rfl ?_
  refine am_F.ops (pc' := 41) (L' := [.int (nm_bitCount_40 v)]) (S' := []) (μ' := (am_S f g)) 6 rfl ?_
  refine am_F.ops (pc' := 48) (L' := [.int (nm_bitCount_47 v)]) (S' := []) (μ' := (am_S f g)) 6 rfl ?_
  refine am_F.ops (pc' := 52) (L' := [.int (nm_bitCount_47 v)]) (S' := [.int ((nm_bitCount_47 v) &&& 63)]) (μ' := (am_S f g)) 3 rfl ?_
  subst hKd
  exact am_F.eq (am_F.ret rfl rfl) hK
/-- java/lang/Long.bitCount -/
def nm_bitCountL_9 (v : Int64) : Int64 := v - (((v.toUInt64 >>> ((1 : Int32).toInt64.toUInt64 &&& Int64.toUInt64 63)).toInt64) &&& 6148914691236517205)
def nm_bitCountL_23 (v : Int64) : Int64 := ((nm_bitCountL_9 v) &&& 3689348814741910323) + ((((nm_bitCountL_9 v).toUInt64 >>> ((2 : Int32).toInt64.toUInt64 &&& Int64.toUInt64 63)).toInt64) &&& 3689348814741910323)
def nm_bitCountL_33 (v : Int64) : Int64 := ((nm_bitCountL_23 v) + (((nm_bitCountL_23 v).toUInt64 >>> ((4 : Int32).toInt64.toUInt64 &&& Int64.toUInt64 63)).toInt64)) &&& 1085102592571150095
def nm_bitCountL_40 (v : Int64) : Int64 := (nm_bitCountL_33 v) + (((nm_bitCountL_33 v).toUInt64 >>> ((8 : Int32).toInt64.toUInt64 &&& Int64.toUInt64 63)).toInt64)
def nm_bitCountL_47 (v : Int64) : Int64 := (nm_bitCountL_40 v) + (((nm_bitCountL_40 v).toUInt64 >>> ((16 : Int32).toInt64.toUInt64 &&& Int64.toUInt64 63)).toInt64)
def nm_bitCountL_54 (v : Int64) : Int64 := (nm_bitCountL_47 v) + (((nm_bitCountL_47 v).toUInt64 >>> ((32 : Int32).toInt64.toUInt64 &&& Int64.toUInt64 63)).toInt64)
def fn_bitCountL (v : Int64) : Int32 := ((nm_bitCountL_54 v).toInt32) &&& 127
theorem x_bitCountL (v : Int64) (f : Nat → Nat → Int32) (g : Nat → Nat → Int64)  : am_D 0 42 2 [.long v] (am_S f g) (some (Value.int (fn_bitCountL v)), am_S f g) := by
  refine am_D.of (code := am_k_42) rfl (L0 := [.long v, am_un]) rfl ?_
  generalize hres : (some (Value.int (fn_bitCountL v)), am_S f g) = res
  obtain ⟨K, hKd⟩ : ∃ K : Int32 → Prop, K = fun z => (some (Value.int z), am_S f g) = res := ⟨_, rfl⟩
  have hK : K (fn_bitCountL v) := by rw [hKd]; exact hres
  clear hres
  unfold fn_bitCountL at hK
  refine am_F.ops (pc' := 10) (L' := [.long (nm_bitCountL_9 v), am_un]) (S' := []) (μ' := (am_S f g)) 8 rfl ?_
  refine am_F.ops (pc' := 24) (L' := [.long (nm_bitCountL_23 v), am_un]) (S' := []) (μ' := (am_S f g)) 10 rfl ?_
  refine am_F.ops (pc' := 34) (L' := [.long (nm_bitCountL_33 v), am_un]) (S' := []) (μ' := (am_S f g)) 8 rfl ?_
  refine am_F.ops (pc' := 41) (L' := [.long (nm_bitCountL_40 v), am_un]) (S' := []) (μ' := (am_S f g)) 6 rfl ?_
  refine am_F.ops (pc' := 48) (L' := [.long (nm_bitCountL_47 v), am_un]) (S' := []) (μ' := (am_S f g)) 6 rfl ?_
  refine am_F.ops (pc' := 55) (L' := [.long (nm_bitCountL_54 v), am_un]) (S' := []) (μ' := (am_S f g)) 6 rfl ?_
  refine am_F.ops (pc' := 60) (L' := [.long (nm_bitCountL_54 v), am_un]) (S' := [.int (((nm_bitCountL_54 v).toInt32) &&& 127)]) (μ' := (am_S f g)) 4 rfl ?_
  subst hKd
  exact am_F.eq (am_F.ret rfl rfl) hK
/-- AccessLattice$View.answer -/
def fn_answer (user : Nat) (act : Int32) (thing : Nat) (f : Nat → Nat → Int32) : Int32 × (Nat → Int32) × (Nat → Int32) := ((fn_answerBy (fn_decider user act thing (fn_rulesOn act thing f) f).1 (am_row (am_row f 36 (fn_decider user act thing (fn_rulesOn act thing f) f).2.1) 37 (fn_decider user act thing (fn_rulesOn act thing f) f).2.2)), (fn_decider user act thing (fn_rulesOn act thing f) f).2.1, (fn_decider user act thing (fn_rulesOn act thing f) f).2.2)
theorem x_answer (user : Nat) (act : Int32) (thing : Nat) (f : Nat → Nat → Int32) (g : Nat → Nat → Int64) (hRc : f 18 11 = nI (f 18 11).toNatClampNeg) (hRn : (f 18 11).toNatClampNeg ≤ 30) (hPa : ∀ t, t < 16 → (f 29 t).toInt < 16) (hCs : ∀ i, i < (f 18 11).toNatClampNeg → f 25 i = nI (f 25 i).toNatClampNeg ∧ (f 25 i).toNatClampNeg ≤ 80) (huser : user < 16) (hthing : thing < 16) : am_D 5 100 4 [.ref 1, .int (nI user), .int act, .int (nI thing)] (am_S f g) (some (Value.int ((fn_answer user act thing f).1)), am_S (am_row (am_row f 36 ((fn_answer user act thing f).2.1)) 37 ((fn_answer user act thing f).2.2)) g) := by
  refine am_D.of (code := am_k_100) rfl (L0 := [.ref 1, .int (nI user), .int act, .int (nI thing)]) rfl ?_
  generalize hres : (some (Value.int ((fn_answer user act thing f).1)), am_S (am_row (am_row f 36 ((fn_answer user act thing f).2.1)) 37 ((fn_answer user act thing f).2.2)) g) = res
  obtain ⟨K, hKd⟩ : ∃ K : (Int32 × (Nat → Int32) × (Nat → Int32)) → Prop, K = fun z => (some (Value.int z.1), am_S (am_row (am_row f 36 z.2.1) 37 z.2.2) g) = res := ⟨_, rfl⟩
  have hK : K (fn_answer user act thing f) := by rw [hKd]; exact hres
  clear hres
  unfold fn_answer at hK
  refine am_F.ops (pc' := 14) (L' := [.ref 1, .int (nI user), .int act, .int (nI thing)]) (S' := [.int (nI thing), .int act, .ref 1, .int (nI thing), .int act, .int (nI user), .ref 1, .ref 18]) (μ' := (am_S f g)) 10 rfl ?_
  refine am_F.call rfl rfl (x_rulesOn act thing f g hRc hRn hPa (by omega)) (by decide) ?_
  show am_F _ _ 17 [.ref 1, .int (nI user), .int act, .int (nI thing)] [.int (fn_rulesOn act thing f), .int (nI thing), .int act, .int (nI user), .ref 1, .ref 18] (am_S f g) _
  refine am_F.call rfl rfl (x_decider user act thing (fn_rulesOn act thing f) f g hRc hRn hPa hCs (by omega) (by omega)) (by decide) ?_
  obtain ⟨y1, hy1⟩ : ∃ z, (fn_decider user act thing (fn_rulesOn act thing f) f) = z := ⟨_, rfl⟩
  (try rw [hy1] at hK)
  (try rw [hy1])
  refine am_F.mem (F' := (am_row (am_row f 36 y1.2.1) 37 y1.2.2)) (G' := g) ?_ (by first | rfl | (funext a; by_cases z0 : a = 36; (subst z0; rfl); by_cases z1 : a = 37; (subst z1; rfl); simp only [am_ui, am_ul, am_row_ne z0, am_row_ne z1])) (by first | rfl | (funext a; by_cases z0 : a = 36; (subst z0; rfl); by_cases z1 : a = 37; (subst z1; rfl); simp only [am_ui, am_ul, am_row_ne z0, am_row_ne z1]))
  show am_F _ _ 20 [.ref 1, .int (nI user), .int act, .int (nI thing)] [.int y1.1, .ref 18] (am_S (am_row (am_row f 36 y1.2.1) 37 y1.2.2) g) _
  refine am_F.call rfl rfl (x_answerBy y1.1 (am_row (am_row f 36 y1.2.1) 37 y1.2.2) g ) (by decide) ?_
  show am_F _ _ 23 [.ref 1, .int (nI user), .int act, .int (nI thing)] [.int (fn_answerBy y1.1 (am_row (am_row f 36 y1.2.1) 37 y1.2.2))] (am_S (am_row (am_row f 36 y1.2.1) 37 y1.2.2) g) _
  subst hKd
  exact am_F.eq (am_F.ret rfl rfl) hK
/-- AccessLattice$View.usersWith -/
def st_usersWith_14 (ans : Int32) (act : Int32) (thing : Nat) (f : Nat → Nat → Int32) : Nat → Int32 × (Nat → Int32) × (Nat → Int32) → Int32 × (Nat → Int32) × (Nat → Int32) := fun i14 z => match z with
  | (a14_5, r14_36, r14_37) => (if (fn_answerBy (fn_decider i14 act thing (fn_rulesOn act thing f) (am_row (am_row f 36 r14_36) 37 r14_37)).1 (am_row (am_row f 36 (fn_decider i14 act thing (fn_rulesOn act thing f) (am_row (am_row f 36 r14_36) 37 r14_37)).2.1) 37 (fn_decider i14 act thing (fn_rulesOn act thing f) (am_row (am_row f 36 r14_36) 37 r14_37)).2.2)) = ans then (a14_5 ||| (1 <<< ((nI i14) &&& 31)), (fn_decider i14 act thing (fn_rulesOn act thing f) (am_row (am_row f 36 r14_36) 37 r14_37)).2.1, (fn_decider i14 act thing (fn_rulesOn act thing f) (am_row (am_row f 36 r14_36) 37 r14_37)).2.2) else (a14_5, (fn_decider i14 act thing (fn_rulesOn act thing f) (am_row (am_row f 36 r14_36) 37 r14_37)).2.1, (fn_decider i14 act thing (fn_rulesOn act thing f) (am_row (am_row f 36 r14_36) 37 r14_37)).2.2))
def lf_usersWith_14 (ans : Int32) (act : Int32) (thing : Nat) (f : Nat → Nat → Int32) : Int32 × (Nat → Int32) × (Nat → Int32) := am_for (st_usersWith_14 ans act thing f) 16 0 (0, f 36, f 37)
def fn_usersWith (ans : Int32) (act : Int32) (thing : Nat) (f : Nat → Nat → Int32) : Int32 × (Nat → Int32) × (Nat → Int32) := ((lf_usersWith_14 ans act thing f).1, (lf_usersWith_14 ans act thing f).2.1, (lf_usersWith_14 ans act thing f).2.2)
theorem lp_usersWith_14 (ans : Int32) (act : Int32) (thing : Nat) (f : Nat → Nat → Int32) (g : Nat → Nat → Int64) (hRc : f 18 11 = nI (f 18 11).toNatClampNeg) (hRn : (f 18 11).toNatClampNeg ≤ 30) (hPa : ∀ t, t < 16 → (f 29 t).toInt < 16) (hCs : ∀ i, i < (f 18 11).toNatClampNeg → f 25 i = nI (f 25 i).toNatClampNeg ∧ (f 25 i).toNatClampNeg ≤ 80) (hthing : thing < 16) (res : Option Value × am_M) : ∀ (n i14 : Nat) (a14_5 : Int32) (r14_36 : Nat → Int32) (r14_37 : Nat → Int32) , i14 + n = 16 → (fun (z : Int32 × (Nat → Int32) × (Nat → Int32)) => ∀ (wc : Value), am_F 5 am_k_98 60 [.ref 1, .int ans, .int act, .int (nI thing), .int (fn_rulesOn act thing f), .int z.1, wc] [] (am_S (am_row (am_row f 36 z.2.1) 37 z.2.2) g) res) (am_for (st_usersWith_14 ans act thing f) n i14 (a14_5, r14_36, r14_37)) → am_F 5 am_k_98 14 [.ref 1, .int ans, .int act, .int (nI thing), .int (fn_rulesOn act thing f), .int a14_5, .int (nI i14)] [] (am_S (am_row (am_row f 36 r14_36) 37 r14_37) g) res := by
  intro n
  induction n with
  | zero =>
    intro i14 a14_5 r14_36 r14_37 hi hK
    refine am_F.pos 3 rfl (by show 16 ≤ nI i14; rw [show (16 : Int32) = nI 16 from rfl]; exact nI_le (by omega) (by omega)) ?_
    exact hK _
  | succ n ih =>
    intro i14 a14_5 r14_36 r14_37 hi hK
    refine am_F.neg 3 rfl (by show ¬ 16 ≤ nI i14; rw [show (16 : Int32) = nI 16 from rfl]; exact nI_ge (by omega) (by omega)) ?_
    have hb14 : i14 < 16 := by omega
    show am_F _ _ 21 [.ref 1, .int ans, .int act, .int (nI thing), .int (fn_rulesOn act thing f), .int a14_5, .int (nI i14)] [] (am_S (am_row (am_row f 36 r14_36) 37 r14_37) g) _
    obtain ⟨K, hKd⟩ : ∃ K : (Int32 × (Nat → Int32) × (Nat → Int32)) → Prop, K = fun s => (fun (z : Int32 × (Nat → Int32) × (Nat → Int32)) => ∀ (wc : Value), am_F 5 am_k_98 60 [.ref 1, .int ans, .int act, .int (nI thing), .int (fn_rulesOn act thing f), .int z.1, wc] [] (am_S (am_row (am_row f 36 z.2.1) 37 z.2.2) g) res) (am_for (st_usersWith_14 ans act thing f) n (i14 + 1) s) := ⟨_, rfl⟩
    have hK : K ((st_usersWith_14 ans act thing f) i14 (a14_5, r14_36, r14_37)) := by rw [hKd]; exact hK
    unfold st_usersWith_14 at hK
    simp only at hK
    refine am_F.ops (pc' := 35) (L' := [.ref 1, .int ans, .int act, .int (nI thing), .int (fn_rulesOn act thing f), .int a14_5, .int (nI i14)]) (S' := [.int (fn_rulesOn act thing f), .int (nI thing), .int act, .int (nI i14), .ref 1, .ref 18]) (μ' := (am_S (am_row (am_row f 36 r14_36) 37 r14_37) g)) 8 rfl ?_
    refine am_F.call rfl rfl (x_decider i14 act thing (fn_rulesOn act thing f) (am_row (am_row f 36 r14_36) 37 r14_37) g hRc hRn hPa hCs (by omega) (by omega)) (by decide) ?_
    obtain ⟨y4, hy4⟩ : ∃ z, (fn_decider i14 act thing (fn_rulesOn act thing f) (am_row (am_row f 36 r14_36) 37 r14_37)) = z := ⟨_, rfl⟩
    (try rw [hy4] at hK)
    (try rw [hy4])
    refine am_F.mem (F' := (am_row (am_row f 36 y4.2.1) 37 y4.2.2)) (G' := g) ?_ (by first | rfl | (funext a; by_cases z0 : a = 36; (subst z0; rfl); by_cases z1 : a = 37; (subst z1; rfl); simp only [am_ui, am_ul, am_row_ne z0, am_row_ne z1])) (by first | rfl | (funext a; by_cases z0 : a = 36; (subst z0; rfl); by_cases z1 : a = 37; (subst z1; rfl); simp only [am_ui, am_ul, am_row_ne z0, am_row_ne z1]))
    show am_F _ _ 38 [.ref 1, .int ans, .int act, .int (nI thing), .int (fn_rulesOn act thing f), .int a14_5, .int (nI i14)] [.int y4.1, .ref 18] (am_S (am_row (am_row f 36 y4.2.1) 37 y4.2.2) g) _
    refine am_F.call rfl rfl (x_answerBy y4.1 (am_row (am_row f 36 y4.2.1) 37 y4.2.2) g ) (by decide) ?_
    show am_F _ _ 41 [.ref 1, .int ans, .int act, .int (nI thing), .int (fn_rulesOn act thing f), .int a14_5, .int (nI i14)] [.int (fn_answerBy y4.1 (am_row (am_row f 36 y4.2.1) 37 y4.2.2))] (am_S (am_row (am_row f 36 y4.2.1) 37 y4.2.2) g) _
    refine am_F.ops (pc' := 42) (L' := [.ref 1, .int ans, .int act, .int (nI thing), .int (fn_rulesOn act thing f), .int a14_5, .int (nI i14)]) (S' := [.int ans, .int (fn_answerBy y4.1 (am_row (am_row f 36 y4.2.1) 37 y4.2.2))]) (μ' := (am_S (am_row (am_row f 36 y4.2.1) 37 y4.2.2) g)) 1 rfl ?_
    refine am_F.iteK 1 rfl K hK (fun c6 hK => ?_) (fun c6 hK => ?_)
    · show am_F _ _ 45 [.ref 1, .int ans, .int act, .int (nI thing), .int (fn_rulesOn act thing f), .int a14_5, .int (nI i14)] [] (am_S (am_row (am_row f 36 y4.2.1) 37 y4.2.2) g) _
      refine am_F.ops (pc' := 14) (L' := [.ref 1, .int ans, .int act, .int (nI thing), .int (fn_rulesOn act thing f), .int (a14_5 ||| (1 <<< ((nI i14) &&& 31))), .int ((nI i14) + 1)]) (S' := []) (μ' := (am_S (am_row (am_row f 36 y4.2.1) 37 y4.2.2) g)) 8 rfl ?_
      rw [nI_1 i14]
      subst hKd
      exact ih (i14 + 1) (a14_5 ||| (1 <<< ((nI i14) &&& 31))) y4.2.1 y4.2.2 (by omega)  hK
    · show am_F _ _ 54 [.ref 1, .int ans, .int act, .int (nI thing), .int (fn_rulesOn act thing f), .int a14_5, .int (nI i14)] [] (am_S (am_row (am_row f 36 y4.2.1) 37 y4.2.2) g) _
      refine am_F.ops (pc' := 14) (L' := [.ref 1, .int ans, .int act, .int (nI thing), .int (fn_rulesOn act thing f), .int a14_5, .int ((nI i14) + 1)]) (S' := []) (μ' := (am_S (am_row (am_row f 36 y4.2.1) 37 y4.2.2) g)) 2 rfl ?_
      rw [nI_1 i14]
      subst hKd
      exact ih (i14 + 1) a14_5 y4.2.1 y4.2.2 (by omega)  hK
theorem x_usersWith (ans : Int32) (act : Int32) (thing : Nat) (f : Nat → Nat → Int32) (g : Nat → Nat → Int64) (hRc : f 18 11 = nI (f 18 11).toNatClampNeg) (hRn : (f 18 11).toNatClampNeg ≤ 30) (hPa : ∀ t, t < 16 → (f 29 t).toInt < 16) (hCs : ∀ i, i < (f 18 11).toNatClampNeg → f 25 i = nI (f 25 i).toNatClampNeg ∧ (f 25 i).toNatClampNeg ≤ 80) (hthing : thing < 16) : am_D 5 98 7 [.ref 1, .int ans, .int act, .int (nI thing)] (am_S f g) (some (Value.int ((fn_usersWith ans act thing f).1)), am_S (am_row (am_row f 36 ((fn_usersWith ans act thing f).2.1)) 37 ((fn_usersWith ans act thing f).2.2)) g) := by
  refine am_D.of (code := am_k_98) rfl (L0 := [.ref 1, .int ans, .int act, .int (nI thing), am_un, am_un, am_un]) rfl ?_
  generalize hres : (some (Value.int ((fn_usersWith ans act thing f).1)), am_S (am_row (am_row f 36 ((fn_usersWith ans act thing f).2.1)) 37 ((fn_usersWith ans act thing f).2.2)) g) = res
  obtain ⟨K, hKd⟩ : ∃ K : (Int32 × (Nat → Int32) × (Nat → Int32)) → Prop, K = fun z => (some (Value.int z.1), am_S (am_row (am_row f 36 z.2.1) 37 z.2.2) g) = res := ⟨_, rfl⟩
  have hK : K (fn_usersWith ans act thing f) := by rw [hKd]; exact hres
  clear hres
  unfold fn_usersWith at hK
  refine am_F.ops (pc' := 3) (L' := [.ref 1, .int ans, .int act, .int (nI thing), am_un, am_un, am_un]) (S' := [.int (nI thing), .int act, .ref 1]) (μ' := (am_S f g)) 3 rfl ?_
  refine am_F.call rfl rfl (x_rulesOn act thing f g hRc hRn hPa (by omega)) (by decide) ?_
  show am_F _ _ 6 [.ref 1, .int ans, .int act, .int (nI thing), am_un, am_un, am_un] [.int (fn_rulesOn act thing f)] (am_S f g) _
  refine am_F.ops (pc' := 14) (L' := [.ref 1, .int ans, .int act, .int (nI thing), .int (fn_rulesOn act thing f), .int 0, .int 0]) (S' := []) (μ' := (am_S f g)) 5 rfl ?_
  refine am_F.mem (F' := (am_row (am_row f 36 (f 36)) 37 (f 37))) (G' := g) ?_ (by first | rfl | (funext a; by_cases z0 : a = 36; (subst z0; rfl); by_cases z1 : a = 37; (subst z1; rfl); simp only [am_ui, am_ul, am_row_ne z0, am_row_ne z1])) (by first | rfl | (funext a; by_cases z0 : a = 36; (subst z0; rfl); by_cases z1 : a = 37; (subst z1; rfl); simp only [am_ui, am_ul, am_row_ne z0, am_row_ne z1]))
  show am_F _ _ 14 [.ref 1, .int ans, .int act, .int (nI thing), .int (fn_rulesOn act thing f), .int 0, .int (nI 0)] [] (am_S (am_row (am_row f 36 (f 36)) 37 (f 37)) g) _
  refine lp_usersWith_14 ans act thing f g hRc hRn hPa hCs hthing _ 16 0 0 (f 36) (f 37)  (by omega)  ?_
  rw [show am_for (st_usersWith_14 ans act thing f) 16 0 (0, f 36, f 37) = (lf_usersWith_14 ans act thing f) from rfl]
  generalize (lf_usersWith_14 ans act thing f) = z14_7 at hK ⊢
  intro wc
  show am_F _ _ 60 [.ref 1, .int ans, .int act, .int (nI thing), .int (fn_rulesOn act thing f), .int z14_7.1, wc] [] (am_S (am_row (am_row f 36 z14_7.2.1) 37 z14_7.2.2) g) _
  refine am_F.ops (pc' := 62) (L' := [.ref 1, .int ans, .int act, .int (nI thing), .int (fn_rulesOn act thing f), .int z14_7.1, wc]) (S' := [.int z14_7.1]) (μ' := (am_S (am_row (am_row f 36 z14_7.2.1) 37 z14_7.2.2) g)) 1 rfl ?_
  subst hKd
  exact am_F.eq (am_F.ret rfl rfl) hK
/-- AccessLattice$View.someBarred -/
def st_someBarred_13 (f : Nat → Nat → Int32) (y1 : (Nat → Int32) × (Nat → Int32) × (Nat → Int32) × (Nat → Int64)) : Nat → Unit → Unit ⊕ (Unit ⊕ Bool × (Nat → Int32) × (Nat → Int32) × (Nat → Int32) × (Nat → Int64)) := fun i13 _ => (bif (fn_isBarred (y1.2.2.1 i13) (am_row (am_row (am_row f 1 y1.1) 34 y1.2.1) 35 y1.2.2.1)) then .inr (.inr (true, y1.1, y1.2.1, y1.2.2.1, y1.2.2.2)) else .inl ())
def lf_someBarred_13 (f : Nat → Nat → Int32) (y1 : (Nat → Int32) × (Nat → Int32) × (Nat → Int32) × (Nat → Int64)) : Unit ⊕ Bool × (Nat → Int32) × (Nat → Int32) × (Nat → Int32) × (Nat → Int64) := am_forX (st_someBarred_13 f y1) 16 0 ()
def fn_someBarred (f : Nat → Nat → Int32) (g : Nat → Nat → Int64) : Bool × (Nat → Int32) × (Nat → Int32) × (Nat → Int32) × (Nat → Int64) := (Sum.elim (fun (z13 : Unit) => (false, (fn_settle (f 2 12) f g).1, (fn_settle (f 2 12) f g).2.1, (fn_settle (f 2 12) f g).2.2.1, (fn_settle (f 2 12) f g).2.2.2)) (fun (z : Bool × (Nat → Int32) × (Nat → Int32) × (Nat → Int32) × (Nat → Int64)) => z) (lf_someBarred_13 f (fn_settle (f 2 12) f g)))
theorem lp_someBarred_13 (f : Nat → Nat → Int32) (g : Nat → Nat → Int64) (y1 : (Nat → Int32) × (Nat → Int32) × (Nat → Int32) × (Nat → Int64)) (hLc : f 11 7 = nI (f 11 7).toNatClampNeg) (hLn : (f 11 7).toNatClampNeg ≤ 40) (hLf : ∀ i, i < (f 11 7).toNatClampNeg → am_inb (f 12 i) 16 = true) (hLt : ∀ i, i < (f 11 7).toNatClampNeg → am_inb (f 13 i) 16 = true) (hLr : ∀ i, i < (f 11 7).toNatClampNeg → am_inb (f 14 i) 20 = true) (hRc : f 18 11 = nI (f 18 11).toNatClampNeg) (hRn : (f 18 11).toNatClampNeg ≤ 30) (res : Option Value × am_M) : ∀ (n i13 : Nat)  , i13 + n = 16 → am_KX (fun (z : Unit) => ∀ (wc : Value), am_F 4 am_k_22 43 [.ref 1, wc] [] (am_S (am_row (am_row (am_row f 1 y1.1) 34 y1.2.1) 35 y1.2.2.1) (am_row g 1 y1.2.2.2)) res) (fun (z : Bool × (Nat → Int32) × (Nat → Int32) × (Nat → Int32) × (Nat → Int64)) => (some (Value.int (am_b z.1)), am_S (am_row (am_row (am_row f 1 z.2.1) 34 z.2.2.1) 35 z.2.2.2.1) (am_row g 1 z.2.2.2.2)) = res) (am_forX (st_someBarred_13 f y1) n i13 ()) → am_F 4 am_k_22 13 [.ref 1, .int (nI i13)] [] (am_S (am_row (am_row (am_row f 1 y1.1) 34 y1.2.1) 35 y1.2.2.1) (am_row g 1 y1.2.2.2)) res := by
  intro n
  induction n with
  | zero =>
    intro i13 hi hK
    refine am_F.pos 3 rfl (by show 16 ≤ nI i13; rw [show (16 : Int32) = nI 16 from rfl]; exact nI_le (by omega) (by omega)) ?_
    exact hK _
  | succ n ih =>
    intro i13 hi hK
    refine am_F.neg 3 rfl (by show ¬ 16 ≤ nI i13; rw [show (16 : Int32) = nI 16 from rfl]; exact nI_ge (by omega) (by omega)) ?_
    have hb13 : i13 < 16 := by omega
    show am_F _ _ 19 [.ref 1, .int (nI i13)] [] (am_S (am_row (am_row (am_row f 1 y1.1) 34 y1.2.1) 35 y1.2.2.1) (am_row g 1 y1.2.2.2)) _
    obtain ⟨K, hKd⟩ : ∃ K : (Unit ⊕ (Unit ⊕ Bool × (Nat → Int32) × (Nat → Int32) × (Nat → Int32) × (Nat → Int64))) → Prop, K = fun s => am_KX (fun (z : Unit) => ∀ (wc : Value), am_F 4 am_k_22 43 [.ref 1, wc] [] (am_S (am_row (am_row (am_row f 1 y1.1) 34 y1.2.1) 35 y1.2.2.1) (am_row g 1 y1.2.2.2)) res) (fun (z : Bool × (Nat → Int32) × (Nat → Int32) × (Nat → Int32) × (Nat → Int64)) => (some (Value.int (am_b z.1)), am_S (am_row (am_row (am_row f 1 z.2.1) 34 z.2.2.1) 35 z.2.2.2.1) (am_row g 1 z.2.2.2.2)) = res) (am_nxt (fun z => am_forX (st_someBarred_13 f y1) n (i13 + 1) z) s) := ⟨_, rfl⟩
    have hK : K ((st_someBarred_13 f y1) i13 ()) := by rw [hKd]; exact hK
    unfold st_someBarred_13 at hK
    refine am_F.ops (pc' := 28) (L' := [.ref 1, .int (nI i13)]) (S' := [.int (nI i13), .ref 35, .ref 2]) (μ' := (am_S (am_row (am_row (am_row f 1 y1.1) 34 y1.2.1) 35 y1.2.2.1) (am_row g 1 y1.2.2.2))) 5 rfl ?_
    refine am_F.ialE (m := i13) (N := 16) rfl rfl rfl rfl (by omega) (by decide) ?_
    show am_F _ _ 29 [.ref 1, .int (nI i13)] [.int (y1.2.2.1 i13), .ref 2] (am_S (am_row (am_row (am_row f 1 y1.1) 34 y1.2.1) 35 y1.2.2.1) (am_row g 1 y1.2.2.2)) _
    refine am_F.call rfl rfl (x_isBarred (y1.2.2.1 i13) (am_row (am_row (am_row f 1 y1.1) 34 y1.2.1) 35 y1.2.2.1) (am_row g 1 y1.2.2.2) ) (by decide) ?_
    show am_F _ _ 32 [.ref 1, .int (nI i13)] [.int (am_b (fn_isBarred (y1.2.2.1 i13) (am_row (am_row (am_row f 1 y1.1) 34 y1.2.1) 35 y1.2.2.1)))] (am_S (am_row (am_row (am_row f 1 y1.1) 34 y1.2.1) 35 y1.2.2.1) (am_row g 1 y1.2.2.2)) _
    refine am_F.bifK 1 rfl K hK (fun c2 hK => ?_) (fun c2 hK => ?_)
    · show am_F _ _ 35 [.ref 1, .int (nI i13)] [] (am_S (am_row (am_row (am_row f 1 y1.1) 34 y1.2.1) 35 y1.2.2.1) (am_row g 1 y1.2.2.2)) _
      refine am_F.ops (pc' := 36) (L' := [.ref 1, .int (nI i13)]) (S' := [.int 1]) (μ' := (am_S (am_row (am_row (am_row f 1 y1.1) 34 y1.2.1) 35 y1.2.2.1) (am_row g 1 y1.2.2.2))) 1 rfl ?_
      subst hKd
      exact am_F.eq (am_F.ret rfl rfl) hK
    · show am_F _ _ 37 [.ref 1, .int (nI i13)] [] (am_S (am_row (am_row (am_row f 1 y1.1) 34 y1.2.1) 35 y1.2.2.1) (am_row g 1 y1.2.2.2)) _
      refine am_F.ops (pc' := 13) (L' := [.ref 1, .int ((nI i13) + 1)]) (S' := []) (μ' := (am_S (am_row (am_row (am_row f 1 y1.1) 34 y1.2.1) 35 y1.2.2.1) (am_row g 1 y1.2.2.2))) 2 rfl ?_
      rw [nI_1 i13]
      subst hKd
      exact ih (i13 + 1)  (by omega)  hK
theorem x_someBarred (f : Nat → Nat → Int32) (g : Nat → Nat → Int64) (hLc : f 11 7 = nI (f 11 7).toNatClampNeg) (hLn : (f 11 7).toNatClampNeg ≤ 40) (hLf : ∀ i, i < (f 11 7).toNatClampNeg → am_inb (f 12 i) 16 = true) (hLt : ∀ i, i < (f 11 7).toNatClampNeg → am_inb (f 13 i) 16 = true) (hLr : ∀ i, i < (f 11 7).toNatClampNeg → am_inb (f 14 i) 20 = true) (hRc : f 18 11 = nI (f 18 11).toNatClampNeg) (hRn : (f 18 11).toNatClampNeg ≤ 30) : am_D 4 22 2 [.ref 1] (am_S f g) (some (Value.int (am_b ((fn_someBarred f g).1))), am_S (am_row (am_row (am_row f 1 ((fn_someBarred f g).2.1)) 34 ((fn_someBarred f g).2.2.1)) 35 ((fn_someBarred f g).2.2.2.1)) (am_row g 1 ((fn_someBarred f g).2.2.2.2))) := by
  refine am_D.of (code := am_k_22) rfl (L0 := [.ref 1, am_un]) rfl ?_
  generalize hres : (some (Value.int (am_b ((fn_someBarred f g).1))), am_S (am_row (am_row (am_row f 1 ((fn_someBarred f g).2.1)) 34 ((fn_someBarred f g).2.2.1)) 35 ((fn_someBarred f g).2.2.2.1)) (am_row g 1 ((fn_someBarred f g).2.2.2.2))) = res
  obtain ⟨K, hKd⟩ : ∃ K : (Bool × (Nat → Int32) × (Nat → Int32) × (Nat → Int32) × (Nat → Int64)) → Prop, K = fun z => (some (Value.int (am_b z.1)), am_S (am_row (am_row (am_row f 1 z.2.1) 34 z.2.2.1) 35 z.2.2.2.1) (am_row g 1 z.2.2.2.2)) = res := ⟨_, rfl⟩
  have hK : K (fn_someBarred f g) := by rw [hKd]; exact hres
  clear hres
  unfold fn_someBarred at hK
  refine am_F.ops (pc' := 8) (L' := [.ref 1, am_un]) (S' := [.int (f 2 12), .ref 1]) (μ' := (am_S f g)) 4 rfl ?_
  refine am_F.call rfl rfl (x_settle (f 2 12) f g hLc hLn hLf hLt hLr hRc hRn) (by decide) ?_
  obtain ⟨y1, hy1⟩ : ∃ z, (fn_settle (f 2 12) f g) = z := ⟨_, rfl⟩
  (try rw [hy1] at hK)
  (try rw [hy1])
  refine am_F.mem (F' := (am_row (am_row (am_row f 1 y1.1) 34 y1.2.1) 35 y1.2.2.1)) (G' := (am_row g 1 y1.2.2.2)) ?_ (by first | rfl | (funext a; by_cases z0 : a = 1; (subst z0; rfl); by_cases z1 : a = 34; (subst z1; rfl); by_cases z2 : a = 35; (subst z2; rfl); simp only [am_ui, am_ul, am_row_ne z0, am_row_ne z1, am_row_ne z2])) (by first | rfl | (funext a; by_cases z0 : a = 1; (subst z0; rfl); by_cases z1 : a = 34; (subst z1; rfl); by_cases z2 : a = 35; (subst z2; rfl); simp only [am_ui, am_ul, am_row_ne z0, am_row_ne z1, am_row_ne z2]))
  show am_F _ _ 11 [.ref 1, am_un] [] (am_S (am_row (am_row (am_row f 1 y1.1) 34 y1.2.1) 35 y1.2.2.1) (am_row g 1 y1.2.2.2)) _
  refine am_F.ops (pc' := 13) (L' := [.ref 1, .int 0]) (S' := []) (μ' := (am_S (am_row (am_row (am_row f 1 y1.1) 34 y1.2.1) 35 y1.2.2.1) (am_row g 1 y1.2.2.2))) 2 rfl ?_
  show am_F _ _ 13 [.ref 1, .int (nI 0)] [] (am_S (am_row (am_row (am_row f 1 y1.1) 34 y1.2.1) 35 y1.2.2.1) (am_row g 1 y1.2.2.2)) _
  refine lp_someBarred_13 f g y1 hLc hLn hLf hLt hLr hRc hRn _ 16 0   (by omega)  ?_
  rw [show am_forX (st_someBarred_13 f y1) 16 0 () = (lf_someBarred_13 f y1) from rfl]
  revert hK
  cases (lf_someBarred_13 f y1) with
  | inr z =>
    intro hK
    subst hKd
    exact hK
  | inl z13 =>
    intro hK wc
    refine am_F.ops (pc' := 44) (L' := [.ref 1, wc]) (S' := [.int 0]) (μ' := (am_S (am_row (am_row (am_row f 1 y1.1) 34 y1.2.1) 35 y1.2.2.1) (am_row g 1 y1.2.2.2))) 1 rfl ?_
    subst hKd
    exact am_F.eq (am_F.ret rfl rfl) hK
/-- AccessLattice$View.sourceFor -/
def st_sourceFor_12 (lender : Int32) (role : Int32) (further : Int32) (f : Nat → Nat → Int32) (g : Nat → Nat → Int64) : Nat → Unit → Unit ⊕ (Unit ⊕ Int32) := fun i12 _ => (bif (fn_isStanding (nI i12) g) then (if (f 13 i12) = lender then (if (f 16 i12) ≤ further then .inl () else (bif (fn_has (f 6 ((f 14 i12).toNatClampNeg)) role) then .inr (.inr (nI i12)) else .inl ())) else .inl ()) else .inl ())
def lf_sourceFor_12 (lender : Int32) (role : Int32) (further : Int32) (f : Nat → Nat → Int32) (g : Nat → Nat → Int64) : Unit ⊕ Int32 := am_forX (st_sourceFor_12 lender role further f g) ((f 11 7).toNatClampNeg) 0 ()
def fn_sourceFor (lender : Int32) (role : Int32) (further : Int32) (f : Nat → Nat → Int32) (g : Nat → Nat → Int64) : Int32 := (Sum.elim (fun (z12 : Unit) => (-2)) (fun (z : Int32) => z) (lf_sourceFor_12 lender role further f g))
theorem lp_sourceFor_12 (lender : Int32) (role : Int32) (further : Int32) (f : Nat → Nat → Int32) (g : Nat → Nat → Int64) (hLc : f 11 7 = nI (f 11 7).toNatClampNeg) (hLn : (f 11 7).toNatClampNeg ≤ 40) (hLf : ∀ i, i < (f 11 7).toNatClampNeg → am_inb (f 12 i) 16 = true) (hLt : ∀ i, i < (f 11 7).toNatClampNeg → am_inb (f 13 i) 16 = true) (hLr : ∀ i, i < (f 11 7).toNatClampNeg → am_inb (f 14 i) 20 = true) (res : Option Value × am_M) : ∀ (n i12 : Nat)  , i12 + n = (f 11 7).toNatClampNeg → am_KX (fun (z : Unit) => ∀ (wc : Value), am_F 2 am_k_38 90 [.ref 1, .int lender, .int role, .int further, .ref 11, wc] [] (am_S f g) res) (fun (z : Int32) => (some (Value.int z), am_S f g) = res) (am_forX (st_sourceFor_12 lender role further f g) n i12 ()) → am_F 2 am_k_38 12 [.ref 1, .int lender, .int role, .int further, .ref 11, .int (nI i12)] [] (am_S f g) res := by
  intro n
  induction n with
  | zero =>
    intro i12 hi hK
    refine am_F.pos 4 rfl (by show (f 11 7) ≤ nI i12; rw [show (f 11 7 : Int32) = nI ((f 11 7).toNatClampNeg) from hLc]; exact nI_le (by omega) (by omega)) ?_
    exact hK _
  | succ n ih =>
    intro i12 hi hK
    refine am_F.neg 4 rfl (by show ¬ (f 11 7) ≤ nI i12; rw [show (f 11 7 : Int32) = nI ((f 11 7).toNatClampNeg) from hLc]; exact nI_ge (by omega) (by omega)) ?_
    have hb12 : i12 < (f 11 7).toNatClampNeg := by omega
    show am_F _ _ 22 [.ref 1, .int lender, .int role, .int further, .ref 11, .int (nI i12)] [] (am_S f g) _
    obtain ⟨K, hKd⟩ : ∃ K : (Unit ⊕ (Unit ⊕ Int32)) → Prop, K = fun s => am_KX (fun (z : Unit) => ∀ (wc : Value), am_F 2 am_k_38 90 [.ref 1, .int lender, .int role, .int further, .ref 11, wc] [] (am_S f g) res) (fun (z : Int32) => (some (Value.int z), am_S f g) = res) (am_nxt (fun z => am_forX (st_sourceFor_12 lender role further f g) n (i12 + 1) z) s) := ⟨_, rfl⟩
    have hK : K ((st_sourceFor_12 lender role further f g) i12 ()) := by rw [hKd]; exact hK
    unfold st_sourceFor_12 at hK
    refine am_F.ops (pc' := 25) (L' := [.ref 1, .int lender, .int role, .int further, .ref 11, .int (nI i12)]) (S' := [.int (nI i12), .ref 1]) (μ' := (am_S f g)) 2 rfl ?_
    refine am_F.call rfl rfl (x_isStanding (nI i12) f g ) (by decide) ?_
    show am_F _ _ 28 [.ref 1, .int lender, .int role, .int further, .ref 11, .int (nI i12)] [.int (am_b (fn_isStanding (nI i12) g))] (am_S f g) _
    refine am_F.bifK 1 rfl K hK (fun c1 hK => ?_) (fun c1 hK => ?_)
    · show am_F _ _ 31 [.ref 1, .int lender, .int role, .int further, .ref 11, .int (nI i12)] [] (am_S f g) _
      refine am_F.ops (pc' := 38) (L' := [.ref 1, .int lender, .int role, .int further, .ref 11, .int (nI i12)]) (S' := [.int (nI i12), .ref 13]) (μ' := (am_S f g)) 3 rfl ?_
      refine am_F.ialE (m := i12) (N := 40) rfl rfl rfl rfl (by omega) (by decide) ?_
      show am_F _ _ 39 [.ref 1, .int lender, .int role, .int further, .ref 11, .int (nI i12)] [.int (f 13 i12)] (am_S f g) _
      refine am_F.ops (pc' := 40) (L' := [.ref 1, .int lender, .int role, .int further, .ref 11, .int (nI i12)]) (S' := [.int lender, .int (f 13 i12)]) (μ' := (am_S f g)) 1 rfl ?_
      refine am_F.iteK 1 rfl K hK (fun c2 hK => ?_) (fun c2 hK => ?_)
      · show am_F _ _ 43 [.ref 1, .int lender, .int role, .int further, .ref 11, .int (nI i12)] [] (am_S f g) _
        refine am_F.ops (pc' := 50) (L' := [.ref 1, .int lender, .int role, .int further, .ref 11, .int (nI i12)]) (S' := [.int (nI i12), .ref 16]) (μ' := (am_S f g)) 3 rfl ?_
        refine am_F.ialE (m := i12) (N := 40) rfl rfl rfl rfl (by omega) (by decide) ?_
        show am_F _ _ 51 [.ref 1, .int lender, .int role, .int further, .ref 11, .int (nI i12)] [.int (f 16 i12)] (am_S f g) _
        refine am_F.ops (pc' := 52) (L' := [.ref 1, .int lender, .int role, .int further, .ref 11, .int (nI i12)]) (S' := [.int further, .int (f 16 i12)]) (μ' := (am_S f g)) 1 rfl ?_
        refine am_F.iteK 1 rfl K hK (fun c3 hK => ?_) (fun c3 hK => ?_)
        · show am_F _ _ 84 [.ref 1, .int lender, .int role, .int further, .ref 11, .int (nI i12)] [] (am_S f g) _
          refine am_F.ops (pc' := 12) (L' := [.ref 1, .int lender, .int role, .int further, .ref 11, .int ((nI i12) + 1)]) (S' := []) (μ' := (am_S f g)) 2 rfl ?_
          rw [nI_1 i12]
          subst hKd
          exact ih (i12 + 1)  (by omega)  hK
        · show am_F _ _ 55 [.ref 1, .int lender, .int role, .int further, .ref 11, .int (nI i12)] [] (am_S f g) _
          refine am_F.ops (pc' := 72) (L' := [.ref 1, .int lender, .int role, .int further, .ref 11, .int (nI i12)]) (S' := [.int (nI i12), .ref 14, .ref 6]) (μ' := (am_S f g)) 7 rfl ?_
          refine am_F.ialE (m := i12) (N := 40) rfl rfl rfl rfl (by omega) (by decide) ?_
          show am_F _ _ 73 [.ref 1, .int lender, .int role, .int further, .ref 11, .int (nI i12)] [.int (f 14 i12), .ref 6] (am_S f g) _
          refine am_F.ial (N := 20) rfl rfl rfl (hLr _ (by omega)) ?_
          show am_F _ _ 74 [.ref 1, .int lender, .int role, .int further, .ref 11, .int (nI i12)] [.int (f 6 ((f 14 i12).toNatClampNeg))] (am_S f g) _
          refine am_F.ops (pc' := 75) (L' := [.ref 1, .int lender, .int role, .int further, .ref 11, .int (nI i12)]) (S' := [.int role, .int (f 6 ((f 14 i12).toNatClampNeg))]) (μ' := (am_S f g)) 1 rfl ?_
          refine am_F.call rfl rfl (x_has (f 6 ((f 14 i12).toNatClampNeg)) role f g ) (by decide) ?_
          show am_F _ _ 78 [.ref 1, .int lender, .int role, .int further, .ref 11, .int (nI i12)] [.int (am_b (fn_has (f 6 ((f 14 i12).toNatClampNeg)) role))] (am_S f g) _
          refine am_F.bifK 1 rfl K hK (fun c4 hK => ?_) (fun c4 hK => ?_)
          · show am_F _ _ 81 [.ref 1, .int lender, .int role, .int further, .ref 11, .int (nI i12)] [] (am_S f g) _
            refine am_F.ops (pc' := 83) (L' := [.ref 1, .int lender, .int role, .int further, .ref 11, .int (nI i12)]) (S' := [.int (nI i12)]) (μ' := (am_S f g)) 1 rfl ?_
            subst hKd
            exact am_F.eq (am_F.ret rfl rfl) hK
          · show am_F _ _ 84 [.ref 1, .int lender, .int role, .int further, .ref 11, .int (nI i12)] [] (am_S f g) _
            refine am_F.ops (pc' := 12) (L' := [.ref 1, .int lender, .int role, .int further, .ref 11, .int ((nI i12) + 1)]) (S' := []) (μ' := (am_S f g)) 2 rfl ?_
            rw [nI_1 i12]
            subst hKd
            exact ih (i12 + 1)  (by omega)  hK
      · show am_F _ _ 84 [.ref 1, .int lender, .int role, .int further, .ref 11, .int (nI i12)] [] (am_S f g) _
        refine am_F.ops (pc' := 12) (L' := [.ref 1, .int lender, .int role, .int further, .ref 11, .int ((nI i12) + 1)]) (S' := []) (μ' := (am_S f g)) 2 rfl ?_
        rw [nI_1 i12]
        subst hKd
        exact ih (i12 + 1)  (by omega)  hK
    · show am_F _ _ 84 [.ref 1, .int lender, .int role, .int further, .ref 11, .int (nI i12)] [] (am_S f g) _
      refine am_F.ops (pc' := 12) (L' := [.ref 1, .int lender, .int role, .int further, .ref 11, .int ((nI i12) + 1)]) (S' := []) (μ' := (am_S f g)) 2 rfl ?_
      rw [nI_1 i12]
      subst hKd
      exact ih (i12 + 1)  (by omega)  hK
theorem x_sourceFor (lender : Int32) (role : Int32) (further : Int32) (f : Nat → Nat → Int32) (g : Nat → Nat → Int64) (hLc : f 11 7 = nI (f 11 7).toNatClampNeg) (hLn : (f 11 7).toNatClampNeg ≤ 40) (hLf : ∀ i, i < (f 11 7).toNatClampNeg → am_inb (f 12 i) 16 = true) (hLt : ∀ i, i < (f 11 7).toNatClampNeg → am_inb (f 13 i) 16 = true) (hLr : ∀ i, i < (f 11 7).toNatClampNeg → am_inb (f 14 i) 20 = true) : am_D 2 38 6 [.ref 1, .int lender, .int role, .int further] (am_S f g) (some (Value.int (fn_sourceFor lender role further f g)), am_S f g) := by
  refine am_D.of (code := am_k_38) rfl (L0 := [.ref 1, .int lender, .int role, .int further, am_un, am_un]) rfl ?_
  generalize hres : (some (Value.int (fn_sourceFor lender role further f g)), am_S f g) = res
  obtain ⟨K, hKd⟩ : ∃ K : Int32 → Prop, K = fun z => (some (Value.int z), am_S f g) = res := ⟨_, rfl⟩
  have hK : K (fn_sourceFor lender role further f g) := by rw [hKd]; exact hres
  clear hres
  unfold fn_sourceFor at hK
  refine am_F.ops (pc' := 12) (L' := [.ref 1, .int lender, .int role, .int further, .ref 11, .int 0]) (S' := []) (μ' := (am_S f g)) 6 rfl ?_
  show am_F _ _ 12 [.ref 1, .int lender, .int role, .int further, .ref 11, .int (nI 0)] [] (am_S f g) _
  refine lp_sourceFor_12 lender role further f g hLc hLn hLf hLt hLr _ ((f 11 7).toNatClampNeg) 0   (by omega)  ?_
  rw [show am_forX (st_sourceFor_12 lender role further f g) ((f 11 7).toNatClampNeg) 0 () = (lf_sourceFor_12 lender role further f g) from rfl]
  revert hK
  cases (lf_sourceFor_12 lender role further f g) with
  | inr z =>
    intro hK
    subst hKd
    exact hK
  | inl z12 =>
    intro hK wc
    refine am_F.ops (pc' := 92) (L' := [.ref 1, .int lender, .int role, .int further, .ref 11, wc]) (S' := [.int (-2)]) (μ' := (am_S f g)) 1 rfl ?_
    subst hKd
    exact am_F.eq (am_F.ret rfl rfl) hK
/-- AccessLattice$View.lentTo -/
def st_lentTo_4 (user : Int32) (f : Nat → Nat → Int32) (g : Nat → Nat → Int64) : Nat → Int32 → Int32 := fun i4 a4_2 => (bif (fn_isStanding (nI i4) g) then (if (f 13 i4) = user then (a4_2 ||| (1 <<< ((f 14 i4) &&& 31))) else a4_2) else a4_2)
def lf_lentTo_4 (user : Int32) (f : Nat → Nat → Int32) (g : Nat → Nat → Int64) : Int32 := am_for (st_lentTo_4 user f g) ((f 11 7).toNatClampNeg) 0 0
def fn_lentTo (user : Int32) (f : Nat → Nat → Int32) (g : Nat → Nat → Int64) : Int32 := (lf_lentTo_4 user f g)
theorem lp_lentTo_4 (user : Int32) (f : Nat → Nat → Int32) (g : Nat → Nat → Int64) (hLc : f 11 7 = nI (f 11 7).toNatClampNeg) (hLn : (f 11 7).toNatClampNeg ≤ 40) (hLf : ∀ i, i < (f 11 7).toNatClampNeg → am_inb (f 12 i) 16 = true) (hLt : ∀ i, i < (f 11 7).toNatClampNeg → am_inb (f 13 i) 16 = true) (hLr : ∀ i, i < (f 11 7).toNatClampNeg → am_inb (f 14 i) 20 = true) (res : Option Value × am_M) : ∀ (n i4 : Nat) (a4_2 : Int32) , i4 + n = (f 11 7).toNatClampNeg → (fun (z : Int32) => ∀ (wc : Value), am_F 2 am_k_88 65 [.ref 1, .int user, .int z, wc] [] (am_S f g) res) (am_for (st_lentTo_4 user f g) n i4 a4_2) → am_F 2 am_k_88 4 [.ref 1, .int user, .int a4_2, .int (nI i4)] [] (am_S f g) res := by
  intro n
  induction n with
  | zero =>
    intro i4 a4_2 hi hK
    refine am_F.pos 6 rfl (by show (f 11 7) ≤ nI i4; rw [show (f 11 7 : Int32) = nI ((f 11 7).toNatClampNeg) from hLc]; exact nI_le (by omega) (by omega)) ?_
    exact hK _
  | succ n ih =>
    intro i4 a4_2 hi hK
    refine am_F.neg 6 rfl (by show ¬ (f 11 7) ≤ nI i4; rw [show (f 11 7 : Int32) = nI ((f 11 7).toNatClampNeg) from hLc]; exact nI_ge (by omega) (by omega)) ?_
    have hb4 : i4 < (f 11 7).toNatClampNeg := by omega
    show am_F _ _ 18 [.ref 1, .int user, .int a4_2, .int (nI i4)] [] (am_S f g) _
    obtain ⟨K, hKd⟩ : ∃ K : (Int32) → Prop, K = fun s => (fun (z : Int32) => ∀ (wc : Value), am_F 2 am_k_88 65 [.ref 1, .int user, .int z, wc] [] (am_S f g) res) (am_for (st_lentTo_4 user f g) n (i4 + 1) s) := ⟨_, rfl⟩
    have hK : K ((st_lentTo_4 user f g) i4 a4_2) := by rw [hKd]; exact hK
    unfold st_lentTo_4 at hK
    refine am_F.ops (pc' := 20) (L' := [.ref 1, .int user, .int a4_2, .int (nI i4)]) (S' := [.int (nI i4), .ref 1]) (μ' := (am_S f g)) 2 rfl ?_
    refine am_F.call rfl rfl (x_isStanding (nI i4) f g ) (by decide) ?_
    show am_F _ _ 23 [.ref 1, .int user, .int a4_2, .int (nI i4)] [.int (am_b (fn_isStanding (nI i4) g))] (am_S f g) _
    refine am_F.bifK 1 rfl K hK (fun c3 hK => ?_) (fun c3 hK => ?_)
    · show am_F _ _ 26 [.ref 1, .int user, .int a4_2, .int (nI i4)] [] (am_S f g) _
      refine am_F.ops (pc' := 37) (L' := [.ref 1, .int user, .int a4_2, .int (nI i4)]) (S' := [.int (nI i4), .ref 13]) (μ' := (am_S f g)) 5 rfl ?_
      refine am_F.ialE (m := i4) (N := 40) rfl rfl rfl rfl (by omega) (by decide) ?_
      show am_F _ _ 38 [.ref 1, .int user, .int a4_2, .int (nI i4)] [.int (f 13 i4)] (am_S f g) _
      refine am_F.ops (pc' := 39) (L' := [.ref 1, .int user, .int a4_2, .int (nI i4)]) (S' := [.int user, .int (f 13 i4)]) (μ' := (am_S f g)) 1 rfl ?_
      refine am_F.iteK 1 rfl K hK (fun c5 hK => ?_) (fun c5 hK => ?_)
      · show am_F _ _ 42 [.ref 1, .int user, .int a4_2, .int (nI i4)] [] (am_S f g) _
        refine am_F.ops (pc' := 55) (L' := [.ref 1, .int user, .int a4_2, .int (nI i4)]) (S' := [.int (nI i4), .ref 14, .int 1, .int a4_2]) (μ' := (am_S f g)) 7 rfl ?_
        refine am_F.ialE (m := i4) (N := 40) rfl rfl rfl rfl (by omega) (by decide) ?_
        show am_F _ _ 56 [.ref 1, .int user, .int a4_2, .int (nI i4)] [.int (f 14 i4), .int 1, .int a4_2] (am_S f g) _
        refine am_F.ops (pc' := 4) (L' := [.ref 1, .int user, .int (a4_2 ||| (1 <<< ((f 14 i4) &&& 31))), .int ((nI i4) + 1)]) (S' := []) (μ' := (am_S f g)) 5 rfl ?_
        rw [nI_1 i4]
        subst hKd
        exact ih (i4 + 1) (a4_2 ||| (1 <<< ((f 14 i4) &&& 31))) (by omega)  hK
      · show am_F _ _ 59 [.ref 1, .int user, .int a4_2, .int (nI i4)] [] (am_S f g) _
        refine am_F.ops (pc' := 4) (L' := [.ref 1, .int user, .int a4_2, .int ((nI i4) + 1)]) (S' := []) (μ' := (am_S f g)) 2 rfl ?_
        rw [nI_1 i4]
        subst hKd
        exact ih (i4 + 1) a4_2 (by omega)  hK
    · show am_F _ _ 59 [.ref 1, .int user, .int a4_2, .int (nI i4)] [] (am_S f g) _
      refine am_F.ops (pc' := 4) (L' := [.ref 1, .int user, .int a4_2, .int ((nI i4) + 1)]) (S' := []) (μ' := (am_S f g)) 2 rfl ?_
      rw [nI_1 i4]
      subst hKd
      exact ih (i4 + 1) a4_2 (by omega)  hK
theorem x_lentTo (user : Int32) (f : Nat → Nat → Int32) (g : Nat → Nat → Int64) (hLc : f 11 7 = nI (f 11 7).toNatClampNeg) (hLn : (f 11 7).toNatClampNeg ≤ 40) (hLf : ∀ i, i < (f 11 7).toNatClampNeg → am_inb (f 12 i) 16 = true) (hLt : ∀ i, i < (f 11 7).toNatClampNeg → am_inb (f 13 i) 16 = true) (hLr : ∀ i, i < (f 11 7).toNatClampNeg → am_inb (f 14 i) 20 = true) : am_D 2 88 4 [.ref 1, .int user] (am_S f g) (some (Value.int (fn_lentTo user f g)), am_S f g) := by
  refine am_D.of (code := am_k_88) rfl (L0 := [.ref 1, .int user, am_un, am_un]) rfl ?_
  generalize hres : (some (Value.int (fn_lentTo user f g)), am_S f g) = res
  obtain ⟨K, hKd⟩ : ∃ K : Int32 → Prop, K = fun z => (some (Value.int z), am_S f g) = res := ⟨_, rfl⟩
  have hK : K (fn_lentTo user f g) := by rw [hKd]; exact hres
  clear hres
  unfold fn_lentTo at hK
  refine am_F.ops (pc' := 4) (L' := [.ref 1, .int user, .int 0, .int 0]) (S' := []) (μ' := (am_S f g)) 4 rfl ?_
  show am_F _ _ 4 [.ref 1, .int user, .int 0, .int (nI 0)] [] (am_S f g) _
  refine lp_lentTo_4 user f g hLc hLn hLf hLt hLr _ ((f 11 7).toNatClampNeg) 0 0  (by omega)  ?_
  rw [show am_for (st_lentTo_4 user f g) ((f 11 7).toNatClampNeg) 0 0 = (lf_lentTo_4 user f g) from rfl]
  generalize (lf_lentTo_4 user f g) = z4_6 at hK ⊢
  intro wc
  show am_F _ _ 65 [.ref 1, .int user, .int z4_6, wc] [] (am_S f g) _
  refine am_F.ops (pc' := 66) (L' := [.ref 1, .int user, .int z4_6, wc]) (S' := [.int z4_6]) (μ' := (am_S f g)) 1 rfl ?_
  subst hKd
  exact am_F.eq (am_F.ret rfl rfl) hK
/-- AccessLattice$View.leastLoan -/
def st_leastLoan_2 (user : Int32) (role : Int32) (f : Nat → Nat → Int32) (g : Nat → Nat → Int64) : Nat → Unit → Unit ⊕ (Unit ⊕ Int32) := fun i2 _ => (bif (fn_isStanding (nI i2) g) then (if (f 13 i2) = user then (if (f 14 i2) = role then .inr (.inr (nI i2)) else .inl ()) else .inl ()) else .inl ())
def lf_leastLoan_2 (user : Int32) (role : Int32) (f : Nat → Nat → Int32) (g : Nat → Nat → Int64) : Unit ⊕ Int32 := am_forX (st_leastLoan_2 user role f g) ((f 11 7).toNatClampNeg) 0 ()
def fn_leastLoan (user : Int32) (role : Int32) (f : Nat → Nat → Int32) (g : Nat → Nat → Int64) : Int32 := (Sum.elim (fun (z2 : Unit) => (-1)) (fun (z : Int32) => z) (lf_leastLoan_2 user role f g))
theorem lp_leastLoan_2 (user : Int32) (role : Int32) (f : Nat → Nat → Int32) (g : Nat → Nat → Int64) (hLc : f 11 7 = nI (f 11 7).toNatClampNeg) (hLn : (f 11 7).toNatClampNeg ≤ 40) (hLf : ∀ i, i < (f 11 7).toNatClampNeg → am_inb (f 12 i) 16 = true) (hLt : ∀ i, i < (f 11 7).toNatClampNeg → am_inb (f 13 i) 16 = true) (hLr : ∀ i, i < (f 11 7).toNatClampNeg → am_inb (f 14 i) 20 = true) (res : Option Value × am_M) : ∀ (n i2 : Nat)  , i2 + n = (f 11 7).toNatClampNeg → am_KX (fun (z : Unit) => ∀ (wc : Value), am_F 2 am_k_92 64 [.ref 1, .int user, .int role, wc] [] (am_S f g) res) (fun (z : Int32) => (some (Value.int z), am_S f g) = res) (am_forX (st_leastLoan_2 user role f g) n i2 ()) → am_F 2 am_k_92 2 [.ref 1, .int user, .int role, .int (nI i2)] [] (am_S f g) res := by
  intro n
  induction n with
  | zero =>
    intro i2 hi hK
    refine am_F.pos 6 rfl (by show (f 11 7) ≤ nI i2; rw [show (f 11 7 : Int32) = nI ((f 11 7).toNatClampNeg) from hLc]; exact nI_le (by omega) (by omega)) ?_
    exact hK _
  | succ n ih =>
    intro i2 hi hK
    refine am_F.neg 6 rfl (by show ¬ (f 11 7) ≤ nI i2; rw [show (f 11 7 : Int32) = nI ((f 11 7).toNatClampNeg) from hLc]; exact nI_ge (by omega) (by omega)) ?_
    have hb2 : i2 < (f 11 7).toNatClampNeg := by omega
    show am_F _ _ 16 [.ref 1, .int user, .int role, .int (nI i2)] [] (am_S f g) _
    obtain ⟨K, hKd⟩ : ∃ K : (Unit ⊕ (Unit ⊕ Int32)) → Prop, K = fun s => am_KX (fun (z : Unit) => ∀ (wc : Value), am_F 2 am_k_92 64 [.ref 1, .int user, .int role, wc] [] (am_S f g) res) (fun (z : Int32) => (some (Value.int z), am_S f g) = res) (am_nxt (fun z => am_forX (st_leastLoan_2 user role f g) n (i2 + 1) z) s) := ⟨_, rfl⟩
    have hK : K ((st_leastLoan_2 user role f g) i2 ()) := by rw [hKd]; exact hK
    unfold st_leastLoan_2 at hK
    refine am_F.ops (pc' := 18) (L' := [.ref 1, .int user, .int role, .int (nI i2)]) (S' := [.int (nI i2), .ref 1]) (μ' := (am_S f g)) 2 rfl ?_
    refine am_F.call rfl rfl (x_isStanding (nI i2) f g ) (by decide) ?_
    show am_F _ _ 21 [.ref 1, .int user, .int role, .int (nI i2)] [.int (am_b (fn_isStanding (nI i2) g))] (am_S f g) _
    refine am_F.bifK 1 rfl K hK (fun c1 hK => ?_) (fun c1 hK => ?_)
    · show am_F _ _ 24 [.ref 1, .int user, .int role, .int (nI i2)] [] (am_S f g) _
      refine am_F.ops (pc' := 35) (L' := [.ref 1, .int user, .int role, .int (nI i2)]) (S' := [.int (nI i2), .ref 13]) (μ' := (am_S f g)) 5 rfl ?_
      refine am_F.ialE (m := i2) (N := 40) rfl rfl rfl rfl (by omega) (by decide) ?_
      show am_F _ _ 36 [.ref 1, .int user, .int role, .int (nI i2)] [.int (f 13 i2)] (am_S f g) _
      refine am_F.ops (pc' := 37) (L' := [.ref 1, .int user, .int role, .int (nI i2)]) (S' := [.int user, .int (f 13 i2)]) (μ' := (am_S f g)) 1 rfl ?_
      refine am_F.iteK 1 rfl K hK (fun c2 hK => ?_) (fun c2 hK => ?_)
      · show am_F _ _ 40 [.ref 1, .int user, .int role, .int (nI i2)] [] (am_S f g) _
        refine am_F.ops (pc' := 51) (L' := [.ref 1, .int user, .int role, .int (nI i2)]) (S' := [.int (nI i2), .ref 14]) (μ' := (am_S f g)) 5 rfl ?_
        refine am_F.ialE (m := i2) (N := 40) rfl rfl rfl rfl (by omega) (by decide) ?_
        show am_F _ _ 52 [.ref 1, .int user, .int role, .int (nI i2)] [.int (f 14 i2)] (am_S f g) _
        refine am_F.ops (pc' := 53) (L' := [.ref 1, .int user, .int role, .int (nI i2)]) (S' := [.int role, .int (f 14 i2)]) (μ' := (am_S f g)) 1 rfl ?_
        refine am_F.iteK 1 rfl K hK (fun c3 hK => ?_) (fun c3 hK => ?_)
        · show am_F _ _ 56 [.ref 1, .int user, .int role, .int (nI i2)] [] (am_S f g) _
          refine am_F.ops (pc' := 57) (L' := [.ref 1, .int user, .int role, .int (nI i2)]) (S' := [.int (nI i2)]) (μ' := (am_S f g)) 1 rfl ?_
          subst hKd
          exact am_F.eq (am_F.ret rfl rfl) hK
        · show am_F _ _ 58 [.ref 1, .int user, .int role, .int (nI i2)] [] (am_S f g) _
          refine am_F.ops (pc' := 2) (L' := [.ref 1, .int user, .int role, .int ((nI i2) + 1)]) (S' := []) (μ' := (am_S f g)) 2 rfl ?_
          rw [nI_1 i2]
          subst hKd
          exact ih (i2 + 1)  (by omega)  hK
      · show am_F _ _ 58 [.ref 1, .int user, .int role, .int (nI i2)] [] (am_S f g) _
        refine am_F.ops (pc' := 2) (L' := [.ref 1, .int user, .int role, .int ((nI i2) + 1)]) (S' := []) (μ' := (am_S f g)) 2 rfl ?_
        rw [nI_1 i2]
        subst hKd
        exact ih (i2 + 1)  (by omega)  hK
    · show am_F _ _ 58 [.ref 1, .int user, .int role, .int (nI i2)] [] (am_S f g) _
      refine am_F.ops (pc' := 2) (L' := [.ref 1, .int user, .int role, .int ((nI i2) + 1)]) (S' := []) (μ' := (am_S f g)) 2 rfl ?_
      rw [nI_1 i2]
      subst hKd
      exact ih (i2 + 1)  (by omega)  hK
theorem x_leastLoan (user : Int32) (role : Int32) (f : Nat → Nat → Int32) (g : Nat → Nat → Int64) (hLc : f 11 7 = nI (f 11 7).toNatClampNeg) (hLn : (f 11 7).toNatClampNeg ≤ 40) (hLf : ∀ i, i < (f 11 7).toNatClampNeg → am_inb (f 12 i) 16 = true) (hLt : ∀ i, i < (f 11 7).toNatClampNeg → am_inb (f 13 i) 16 = true) (hLr : ∀ i, i < (f 11 7).toNatClampNeg → am_inb (f 14 i) 20 = true) : am_D 2 92 4 [.ref 1, .int user, .int role] (am_S f g) (some (Value.int (fn_leastLoan user role f g)), am_S f g) := by
  refine am_D.of (code := am_k_92) rfl (L0 := [.ref 1, .int user, .int role, am_un]) rfl ?_
  generalize hres : (some (Value.int (fn_leastLoan user role f g)), am_S f g) = res
  obtain ⟨K, hKd⟩ : ∃ K : Int32 → Prop, K = fun z => (some (Value.int z), am_S f g) = res := ⟨_, rfl⟩
  have hK : K (fn_leastLoan user role f g) := by rw [hKd]; exact hres
  clear hres
  unfold fn_leastLoan at hK
  refine am_F.ops (pc' := 2) (L' := [.ref 1, .int user, .int role, .int 0]) (S' := []) (μ' := (am_S f g)) 2 rfl ?_
  show am_F _ _ 2 [.ref 1, .int user, .int role, .int (nI 0)] [] (am_S f g) _
  refine lp_leastLoan_2 user role f g hLc hLn hLf hLt hLr _ ((f 11 7).toNatClampNeg) 0   (by omega)  ?_
  rw [show am_forX (st_leastLoan_2 user role f g) ((f 11 7).toNatClampNeg) 0 () = (lf_leastLoan_2 user role f g) from rfl]
  revert hK
  cases (lf_leastLoan_2 user role f g) with
  | inr z =>
    intro hK
    subst hKd
    exact hK
  | inl z2 =>
    intro hK wc
    refine am_F.ops (pc' := 65) (L' := [.ref 1, .int user, .int role, wc]) (S' := [.int (-1)]) (μ' := (am_S f g)) 1 rfl ?_
    subst hKd
    exact am_F.eq (am_F.ret rfl rfl) hK
/-- AccessLattice$View.loansBehind -/
def st_loansBehind_16 (user : Int32) (f : Nat → Nat → Int32) (g : Nat → Nat → Int64) : Nat → Int64 → Int64 := fun i16 a16_2 => (bif (fn_isStanding (nI i16) g) then (bif (if (f 13 i16) = user then true else (bif (fn_hasLong a16_2 (nI i16)) then true else false)) then ((a16_2 ||| ((1 : Int64) <<< ((nI i16).toInt64 &&& 63))) ||| (if (f 17 i16) < 0 then (0 : Int64) else (1 : Int64) <<< ((f 17 i16).toInt64 &&& 63))) else a16_2) else a16_2)
def lf_loansBehind_16 (user : Int32) (f : Nat → Nat → Int32) (g : Nat → Nat → Int64) : Int64 := am_dn (st_loansBehind_16 user f g) ((f 11 7).toNatClampNeg) (0 : Int64)
def fn_loansBehind (user : Int32) (f : Nat → Nat → Int32) (g : Nat → Nat → Int64) : Int64 := (lf_loansBehind_16 user f g)
theorem lp_loansBehind_16 (user : Int32) (f : Nat → Nat → Int32) (g : Nat → Nat → Int64) (hLc : f 11 7 = nI (f 11 7).toNatClampNeg) (hLn : (f 11 7).toNatClampNeg ≤ 40) (hLf : ∀ i, i < (f 11 7).toNatClampNeg → am_inb (f 12 i) 16 = true) (hLt : ∀ i, i < (f 11 7).toNatClampNeg → am_inb (f 13 i) 16 = true) (hLr : ∀ i, i < (f 11 7).toNatClampNeg → am_inb (f 14 i) 20 = true) (res : Option Value × am_M) : ∀ (n : Nat) (a16_2 : Int64) (w16_5 : Value) (w16_6 : Value), n ≤ (f 11 7).toNatClampNeg → (fun (z : Int64) => ∀ (wc : Value) (w16_5 : Value) (w16_6 : Value), am_F 2 am_k_114 112 [.ref 1, .int user, .long z, am_un, wc, w16_5, w16_6] [] (am_S f g) res) (am_dn (st_loansBehind_16 user f g) n a16_2) → am_F 2 am_k_114 16 [.ref 1, .int user, .long a16_2, am_un, .int ((nI n) - 1), w16_5, w16_6] [] (am_S f g) res := by
  intro n
  induction n with
  | zero =>
    intro a16_2 w16_5 w16_6 hi hK
    refine am_F.pos 2 rfl (by decide) ?_
    exact hK _ _ _
  | succ i16 ih =>
    intro a16_2 w16_5 w16_6 hi hK
    rw [nI_pred i16]
    refine am_F.neg 2 rfl (nI_pos (n := i16) (by omega)) ?_
    have hb16 : i16 < (f 11 7).toNatClampNeg := by omega
    show am_F _ _ 21 [.ref 1, .int user, .long a16_2, am_un, .int (nI i16), w16_5, w16_6] [] (am_S f g) _
    obtain ⟨K, hKd⟩ : ∃ K : (Int64) → Prop, K = fun s => (fun (z : Int64) => ∀ (wc : Value) (w16_5 : Value) (w16_6 : Value), am_F 2 am_k_114 112 [.ref 1, .int user, .long z, am_un, wc, w16_5, w16_6] [] (am_S f g) res) (am_dn (st_loansBehind_16 user f g) i16 s) := ⟨_, rfl⟩
    have hK : K ((st_loansBehind_16 user f g) i16 a16_2) := by rw [hKd]; exact hK
    unfold st_loansBehind_16 at hK
    refine am_F.ops (pc' := 33) (L' := [.ref 1, .int user, .long a16_2, am_un, .int (nI i16), w16_5, w16_6]) (S' := [.int (nI i16), .ref 13]) (μ' := (am_S f g)) 5 rfl ?_
    refine am_F.ialE (m := i16) (N := 40) rfl rfl rfl rfl (by omega) (by decide) ?_
    show am_F _ _ 34 [.ref 1, .int user, .long a16_2, am_un, .int (nI i16), w16_5, w16_6] [.int (f 13 i16)] (am_S f g) _
    refine am_F.ops (pc' := 35) (L' := [.ref 1, .int user, .long a16_2, am_un, .int (nI i16), w16_5, w16_6]) (S' := [.int user, .int (f 13 i16)]) (μ' := (am_S f g)) 1 rfl ?_
    refine am_F.to (am_To.iteB (pc' := 52) (L2 := [.ref 1, .int user, .long a16_2, am_un, .int (nI i16), w16_5, w16_6]) (S2 := []) (μ2 := (am_S f g)) (a := true) (b := (bif (fn_hasLong a16_2 (nI i16)) then true else false)) 1 rfl (fun c1 => ?_) (fun c1 => ?_)) ?_
    · intro res9 g9
      show am_F _ _ 47 [.ref 1, .int user, .long a16_2, am_un, .int (nI i16), w16_5, w16_6] [] (am_S f g) _
      refine am_F.ops (pc' := 52) (L' := [.ref 1, .int user, .long a16_2, am_un, .int (nI i16), w16_5, w16_6]) (S' := [.int 1]) (μ' := (am_S f g)) 2 rfl ?_
      exact g9
    · intro res9 g9
      show am_F _ _ 38 [.ref 1, .int user, .long a16_2, am_un, .int (nI i16), w16_5, w16_6] [] (am_S f g) _
      refine am_F.ops (pc' := 41) (L' := [.ref 1, .int user, .long a16_2, am_un, .int (nI i16), w16_5, w16_6]) (S' := [.int (nI i16), .long a16_2]) (μ' := (am_S f g)) 2 rfl ?_
      refine am_F.call rfl rfl (x_hasLong a16_2 (nI i16) f g ) (by decide) ?_
      show am_F _ _ 44 [.ref 1, .int user, .long a16_2, am_un, .int (nI i16), w16_5, w16_6] [.int (am_b (fn_hasLong a16_2 (nI i16)))] (am_S f g) _
      refine am_F.to (am_To.bifB (pc' := 52) (L2 := [.ref 1, .int user, .long a16_2, am_un, .int (nI i16), w16_5, w16_6]) (S2 := []) (μ2 := (am_S f g)) (a := true) (b := false) 1 rfl (fun c2 => ?_) (fun c2 => ?_)) g9
      · intro res9 g9
        show am_F _ _ 47 [.ref 1, .int user, .long a16_2, am_un, .int (nI i16), w16_5, w16_6] [] (am_S f g) _
        refine am_F.ops (pc' := 52) (L' := [.ref 1, .int user, .long a16_2, am_un, .int (nI i16), w16_5, w16_6]) (S' := [.int 1]) (μ' := (am_S f g)) 2 rfl ?_
        exact g9
      · intro res9 g9
        show am_F _ _ 51 [.ref 1, .int user, .long a16_2, am_un, .int (nI i16), w16_5, w16_6] [] (am_S f g) _
        refine am_F.ops (pc' := 52) (L' := [.ref 1, .int user, .long a16_2, am_un, .int (nI i16), w16_5, w16_6]) (S' := [.int 0]) (μ' := (am_S f g)) 1 rfl ?_
        exact g9
    show am_F _ _ 52 [.ref 1, .int user, .long a16_2, am_un, .int (nI i16), w16_5, w16_6] [.int (am_b (if (f 13 i16) = user then true else (bif (fn_hasLong a16_2 (nI i16)) then true else false)))] (am_S f g) _
    refine am_F.ops (pc' := 57) (L' := [.ref 1, .int user, .long a16_2, am_un, .int (nI i16), .int (am_b (if (f 13 i16) = user then true else (bif (fn_hasLong a16_2 (nI i16)) then true else false))), w16_6]) (S' := [.int (nI i16), .ref 1]) (μ' := (am_S f g)) 3 rfl ?_
    refine am_F.call rfl rfl (x_isStanding (nI i16) f g ) (by decide) ?_
    show am_F _ _ 60 [.ref 1, .int user, .long a16_2, am_un, .int (nI i16), .int (am_b (if (f 13 i16) = user then true else (bif (fn_hasLong a16_2 (nI i16)) then true else false))), w16_6] [.int (am_b (fn_isStanding (nI i16) g))] (am_S f g) _
    refine am_F.bifK 1 rfl K hK (fun c5 hK => ?_) (fun c5 hK => ?_)
    · show am_F _ _ 63 [.ref 1, .int user, .long a16_2, am_un, .int (nI i16), .int (am_b (if (f 13 i16) = user then true else (bif (fn_hasLong a16_2 (nI i16)) then true else false))), w16_6] [] (am_S f g) _
      refine am_F.ops (pc' := 65) (L' := [.ref 1, .int user, .long a16_2, am_un, .int (nI i16), .int (am_b (if (f 13 i16) = user then true else (bif (fn_hasLong a16_2 (nI i16)) then true else false))), w16_6]) (S' := [.int (am_b (if (f 13 i16) = user then true else (bif (fn_hasLong a16_2 (nI i16)) then true else false)))]) (μ' := (am_S f g)) 1 rfl ?_
      refine am_F.bifK 1 rfl K hK (fun c7 hK => ?_) (fun c7 hK => ?_)
      · show am_F _ _ 68 [.ref 1, .int user, .long a16_2, am_un, .int (nI i16), .int (am_b (if (f 13 i16) = user then true else (bif (fn_hasLong a16_2 (nI i16)) then true else false))), w16_6] [] (am_S f g) _
        refine am_F.ops (pc' := 87) (L' := [.ref 1, .int user, .long (a16_2 ||| ((1 : Int64) <<< ((nI i16).toInt64 &&& 63))), am_un, .int (nI i16), .int (am_b (if (f 13 i16) = user then true else (bif (fn_hasLong a16_2 (nI i16)) then true else false))), w16_6]) (S' := [.int (nI i16), .ref 17]) (μ' := (am_S f g)) 11 rfl ?_
        refine am_F.ialE (m := i16) (N := 40) rfl rfl rfl rfl (by omega) (by decide) ?_
        show am_F _ _ 88 [.ref 1, .int user, .long (a16_2 ||| ((1 : Int64) <<< ((nI i16).toInt64 &&& 63))), am_un, .int (nI i16), .int (am_b (if (f 13 i16) = user then true else (bif (fn_hasLong a16_2 (nI i16)) then true else false))), w16_6] [.int (f 17 i16)] (am_S f g) _
        refine am_F.ops (pc' := 93) (L' := [.ref 1, .int user, .long (a16_2 ||| ((1 : Int64) <<< ((nI i16).toInt64 &&& 63))), am_un, .int (nI i16), .int (am_b (if (f 13 i16) = user then true else (bif (fn_hasLong a16_2 (nI i16)) then true else false))), .int (f 17 i16)]) (S' := [.int (f 17 i16), .long (a16_2 ||| ((1 : Int64) <<< ((nI i16).toInt64 &&& 63)))]) (μ' := (am_S f g)) 3 rfl ?_
        refine am_F.to (am_To.iteJ (pc' := 104) (L2 := [.ref 1, .int user, .long (a16_2 ||| ((1 : Int64) <<< ((nI i16).toInt64 &&& 63))), am_un, .int (nI i16), .int (am_b (if (f 13 i16) = user then true else (bif (fn_hasLong a16_2 (nI i16)) then true else false))), .int (f 17 i16)]) (S2 := [.long (a16_2 ||| ((1 : Int64) <<< ((nI i16).toInt64 &&& 63)))]) (μ2 := (am_S f g)) (a := (0 : Int64)) (b := (1 : Int64) <<< ((f 17 i16).toInt64 &&& 63)) 1 rfl (fun c8 => ?_) (fun c8 => ?_)) ?_
        · intro res9 g9
          show am_F _ _ 103 [.ref 1, .int user, .long (a16_2 ||| ((1 : Int64) <<< ((nI i16).toInt64 &&& 63))), am_un, .int (nI i16), .int (am_b (if (f 13 i16) = user then true else (bif (fn_hasLong a16_2 (nI i16)) then true else false))), .int (f 17 i16)] [.long (a16_2 ||| ((1 : Int64) <<< ((nI i16).toInt64 &&& 63)))] (am_S f g) _
          refine am_F.ops (pc' := 104) (L' := [.ref 1, .int user, .long (a16_2 ||| ((1 : Int64) <<< ((nI i16).toInt64 &&& 63))), am_un, .int (nI i16), .int (am_b (if (f 13 i16) = user then true else (bif (fn_hasLong a16_2 (nI i16)) then true else false))), .int (f 17 i16)]) (S' := [.long (0 : Int64), .long (a16_2 ||| ((1 : Int64) <<< ((nI i16).toInt64 &&& 63)))]) (μ' := (am_S f g)) 1 rfl ?_
          exact g9
        · intro res9 g9
          show am_F _ _ 96 [.ref 1, .int user, .long (a16_2 ||| ((1 : Int64) <<< ((nI i16).toInt64 &&& 63))), am_un, .int (nI i16), .int (am_b (if (f 13 i16) = user then true else (bif (fn_hasLong a16_2 (nI i16)) then true else false))), .int (f 17 i16)] [.long (a16_2 ||| ((1 : Int64) <<< ((nI i16).toInt64 &&& 63)))] (am_S f g) _
          refine am_F.ops (pc' := 104) (L' := [.ref 1, .int user, .long (a16_2 ||| ((1 : Int64) <<< ((nI i16).toInt64 &&& 63))), am_un, .int (nI i16), .int (am_b (if (f 13 i16) = user then true else (bif (fn_hasLong a16_2 (nI i16)) then true else false))), .int (f 17 i16)]) (S' := [.long ((1 : Int64) <<< ((f 17 i16).toInt64 &&& 63)), .long (a16_2 ||| ((1 : Int64) <<< ((nI i16).toInt64 &&& 63)))]) (μ' := (am_S f g)) 4 rfl ?_
          exact g9
        show am_F _ _ 104 [.ref 1, .int user, .long (a16_2 ||| ((1 : Int64) <<< ((nI i16).toInt64 &&& 63))), am_un, .int (nI i16), .int (am_b (if (f 13 i16) = user then true else (bif (fn_hasLong a16_2 (nI i16)) then true else false))), .int (f 17 i16)] [.long (if (f 17 i16) < 0 then (0 : Int64) else (1 : Int64) <<< ((f 17 i16).toInt64 &&& 63)), .long (a16_2 ||| ((1 : Int64) <<< ((nI i16).toInt64 &&& 63)))] (am_S f g) _
        refine am_F.ops (pc' := 16) (L' := [.ref 1, .int user, .long ((a16_2 ||| ((1 : Int64) <<< ((nI i16).toInt64 &&& 63))) ||| (if (f 17 i16) < 0 then (0 : Int64) else (1 : Int64) <<< ((f 17 i16).toInt64 &&& 63))), am_un, .int ((nI i16) + (-1)), .int (am_b (if (f 13 i16) = user then true else (bif (fn_hasLong a16_2 (nI i16)) then true else false))), .int (f 17 i16)]) (S' := []) (μ' := (am_S f g)) 4 rfl ?_
        rw [am_m1]
        subst hKd
        exact ih ((a16_2 ||| ((1 : Int64) <<< ((nI i16).toInt64 &&& 63))) ||| (if (f 17 i16) < 0 then (0 : Int64) else (1 : Int64) <<< ((f 17 i16).toInt64 &&& 63))) (.int (am_b (if (f 13 i16) = user then true else (bif (fn_hasLong a16_2 (nI i16)) then true else false)))) (.int (f 17 i16)) (by omega)  hK
      · show am_F _ _ 106 [.ref 1, .int user, .long a16_2, am_un, .int (nI i16), .int (am_b (if (f 13 i16) = user then true else (bif (fn_hasLong a16_2 (nI i16)) then true else false))), w16_6] [] (am_S f g) _
        refine am_F.ops (pc' := 16) (L' := [.ref 1, .int user, .long a16_2, am_un, .int ((nI i16) + (-1)), .int (am_b (if (f 13 i16) = user then true else (bif (fn_hasLong a16_2 (nI i16)) then true else false))), w16_6]) (S' := []) (μ' := (am_S f g)) 2 rfl ?_
        rw [am_m1]
        subst hKd
        exact ih a16_2 (.int (am_b (if (f 13 i16) = user then true else (bif (fn_hasLong a16_2 (nI i16)) then true else false)))) w16_6 (by omega)  hK
    · show am_F _ _ 106 [.ref 1, .int user, .long a16_2, am_un, .int (nI i16), .int (am_b (if (f 13 i16) = user then true else (bif (fn_hasLong a16_2 (nI i16)) then true else false))), w16_6] [] (am_S f g) _
      refine am_F.ops (pc' := 16) (L' := [.ref 1, .int user, .long a16_2, am_un, .int ((nI i16) + (-1)), .int (am_b (if (f 13 i16) = user then true else (bif (fn_hasLong a16_2 (nI i16)) then true else false))), w16_6]) (S' := []) (μ' := (am_S f g)) 2 rfl ?_
      rw [am_m1]
      subst hKd
      exact ih a16_2 (.int (am_b (if (f 13 i16) = user then true else (bif (fn_hasLong a16_2 (nI i16)) then true else false)))) w16_6 (by omega)  hK
theorem x_loansBehind (user : Int32) (f : Nat → Nat → Int32) (g : Nat → Nat → Int64) (hLc : f 11 7 = nI (f 11 7).toNatClampNeg) (hLn : (f 11 7).toNatClampNeg ≤ 40) (hLf : ∀ i, i < (f 11 7).toNatClampNeg → am_inb (f 12 i) 16 = true) (hLt : ∀ i, i < (f 11 7).toNatClampNeg → am_inb (f 13 i) 16 = true) (hLr : ∀ i, i < (f 11 7).toNatClampNeg → am_inb (f 14 i) 20 = true) : am_D 2 114 7 [.ref 1, .int user] (am_S f g) (some (Value.long (fn_loansBehind user f g)), am_S f g) := by
  refine am_D.of (code := am_k_114) rfl (L0 := [.ref 1, .int user, am_un, am_un, am_un, am_un, am_un]) rfl ?_
  generalize hres : (some (Value.long (fn_loansBehind user f g)), am_S f g) = res
  obtain ⟨K, hKd⟩ : ∃ K : Int64 → Prop, K = fun z => (some (Value.long z), am_S f g) = res := ⟨_, rfl⟩
  have hK : K (fn_loansBehind user f g) := by rw [hKd]; exact hres
  clear hres
  unfold fn_loansBehind at hK
  refine am_F.ops (pc' := 16) (L' := [.ref 1, .int user, .long (0 : Int64), am_un, .int ((f 11 7) - 1), am_un, am_un]) (S' := []) (μ' := (am_S f g)) 9 rfl ?_
  rw [show ((f 11 7) - 1 : Int32) = (nI ((f 11 7).toNatClampNeg)) - 1 from congrArg (fun x => x - 1) hLc]
  refine lp_loansBehind_16 user f g hLc hLn hLf hLt hLr _ ((f 11 7).toNatClampNeg) (0 : Int64) am_un am_un (Nat.le_refl _)  ?_
  rw [show am_dn (st_loansBehind_16 user f g) ((f 11 7).toNatClampNeg) (0 : Int64) = (lf_loansBehind_16 user f g) from rfl]
  generalize (lf_loansBehind_16 user f g) = z16_9 at hK ⊢
  intro wc w16_5 w16_6
  show am_F _ _ 112 [.ref 1, .int user, .long z16_9, am_un, wc, w16_5, w16_6] [] (am_S f g) _
  refine am_F.ops (pc' := 113) (L' := [.ref 1, .int user, .long z16_9, am_un, wc, w16_5, w16_6]) (S' := [.long z16_9]) (μ' := (am_S f g)) 1 rfl ?_
  subst hKd
  exact am_F.eq (am_F.ret rfl rfl) hK
/-- AccessLattice$View.suppose -/
def fn_suppose (user : Nat) (turned : Int32) (lost : Int64) (f : Nat → Nat → Int32) (g : Nat → Nat → Int64) : (Nat → Int32) × (Nat → Int32) × (Nat → Int64) := (upd (f 34) user (fn_spread ((f 30 user) ^^^ turned) f), (fn_settleLoans lost (am_row f 34 (upd (f 34) user (fn_spread ((f 30 user) ^^^ turned) f))) g).1, (fn_settleLoans lost (am_row f 34 (upd (f 34) user (fn_spread ((f 30 user) ^^^ turned) f))) g).2)
theorem x_suppose (user : Nat) (turned : Int32) (lost : Int64) (f : Nat → Nat → Int32) (g : Nat → Nat → Int64) (hLc : f 11 7 = nI (f 11 7).toNatClampNeg) (hLn : (f 11 7).toNatClampNeg ≤ 40) (hLf : ∀ i, i < (f 11 7).toNatClampNeg → am_inb (f 12 i) 16 = true) (hLt : ∀ i, i < (f 11 7).toNatClampNeg → am_inb (f 13 i) 16 = true) (hLr : ∀ i, i < (f 11 7).toNatClampNeg → am_inb (f 14 i) 20 = true) (huser : user < 16) : am_D 2 109 5 [.ref 1, .int (nI user), .int turned, .long lost] (am_S f g) ((none : Option Value), am_S (am_row (am_row f 34 ((fn_suppose user turned lost f g).1)) 35 ((fn_suppose user turned lost f g).2.1)) (am_row g 1 ((fn_suppose user turned lost f g).2.2))) := by
  refine am_D.of (code := am_k_109) rfl (L0 := [.ref 1, .int (nI user), .int turned, .long lost, am_un]) rfl ?_
  generalize hres : ((none : Option Value), am_S (am_row (am_row f 34 ((fn_suppose user turned lost f g).1)) 35 ((fn_suppose user turned lost f g).2.1)) (am_row g 1 ((fn_suppose user turned lost f g).2.2))) = res
  obtain ⟨K, hKd⟩ : ∃ K : ((Nat → Int32) × (Nat → Int32) × (Nat → Int64)) → Prop, K = fun z => ((none : Option Value), am_S (am_row (am_row f 34 z.1) 35 z.2.1) (am_row g 1 z.2.2)) = res := ⟨_, rfl⟩
  have hK : K (fn_suppose user turned lost f g) := by rw [hKd]; exact hres
  clear hres
  unfold fn_suppose at hK
  refine am_F.ops (pc' := 20) (L' := [.ref 1, .int (nI user), .int turned, .long lost, am_un]) (S' := [.int (nI user), .ref 30, .ref 3, .int (nI user), .ref 34]) (μ' := (am_S f g)) 10 rfl ?_
  refine am_F.ialE (m := user) (N := 16) rfl rfl rfl rfl (by omega) (by decide) ?_
  show am_F _ _ 21 [.ref 1, .int (nI user), .int turned, .long lost, am_un] [.int (f 30 user), .ref 3, .int (nI user), .ref 34] (am_S f g) _
  refine am_F.ops (pc' := 23) (L' := [.ref 1, .int (nI user), .int turned, .long lost, am_un]) (S' := [.int ((f 30 user) ^^^ turned), .ref 3, .int (nI user), .ref 34]) (μ' := (am_S f g)) 2 rfl ?_
  refine am_F.call rfl rfl (x_spread ((f 30 user) ^^^ turned) f g ) (by decide) ?_
  show am_F _ _ 26 [.ref 1, .int (nI user), .int turned, .long lost, am_un] [.int (fn_spread ((f 30 user) ^^^ turned) f), .int (nI user), .ref 34] (am_S f g) _
  refine am_F.iasE (F' := (am_row f 34 (upd (f 34) user (fn_spread ((f 30 user) ^^^ turned) f)))) (m := user) (N := 16) rfl rfl rfl rfl (by omega) (by decide) (by first | rfl | (funext a; by_cases z0 : a = 34; (subst z0; rfl); simp only [am_ui, am_ul, am_row_ne z0])) ?_
  refine am_F.ops (pc' := 29) (L' := [.ref 1, .int (nI user), .int turned, .long lost, am_un]) (S' := [.long lost, .ref 1]) (μ' := (am_S (am_row f 34 (upd (f 34) user (fn_spread ((f 30 user) ^^^ turned) f))) g)) 2 rfl ?_
  refine am_F.call rfl rfl (x_settleLoans lost (am_row f 34 (upd (f 34) user (fn_spread ((f 30 user) ^^^ turned) f))) g hLc hLn hLf hLt hLr) (by decide) ?_
  obtain ⟨y1, hy1⟩ : ∃ z, (fn_settleLoans lost (am_row f 34 (upd (f 34) user (fn_spread ((f 30 user) ^^^ turned) f))) g) = z := ⟨_, rfl⟩
  (try rw [hy1] at hK)
  (try rw [hy1])
  refine am_F.mem (F' := (am_row (am_row f 34 (upd (f 34) user (fn_spread ((f 30 user) ^^^ turned) f))) 35 y1.1)) (G' := (am_row g 1 y1.2)) ?_ (by first | rfl | (funext a; by_cases z0 : a = 1; (subst z0; rfl); by_cases z1 : a = 34; (subst z1; rfl); by_cases z2 : a = 35; (subst z2; rfl); simp only [am_ui, am_ul, am_row_ne z0, am_row_ne z1, am_row_ne z2])) (by first | rfl | (funext a; by_cases z0 : a = 1; (subst z0; rfl); by_cases z1 : a = 34; (subst z1; rfl); by_cases z2 : a = 35; (subst z2; rfl); simp only [am_ui, am_ul, am_row_ne z0, am_row_ne z1, am_row_ne z2]))
  show am_F _ _ 32 [.ref 1, .int (nI user), .int turned, .long lost, am_un] [] (am_S (am_row (am_row f 34 (upd (f 34) user (fn_spread ((f 30 user) ^^^ turned) f))) 35 y1.1) (am_row g 1 y1.2)) _
  subst hKd
  exact am_F.eq (am_F.ret rfl rfl) hK
/-- AccessLattice$State.toggleBarred -/
def fn_toggleBarred (a : Nat) (b : Nat) (f : Nat → Nat → Int32) : (Nat → Int32) × (Nat → Int32) := (upd (f 2) 10 ((f 2 10) + (bif (fn_has (f 31 a) (nI b)) then (-1) else 1)), upd (upd (f 31) a ((f 31 a) ^^^ (1 <<< ((nI b) &&& 31)))) b (((upd (f 31) a ((f 31 a) ^^^ (1 <<< ((nI b) &&& 31)))) b) ^^^ (1 <<< ((nI a) &&& 31))))
theorem x_toggleBarred (a : Nat) (b : Nat) (f : Nat → Nat → Int32) (g : Nat → Nat → Int64) (ha : a < 20) (hb : b < 20) : am_D 1 35 3 [.ref 2, .int (nI a), .int (nI b)] (am_S f g) ((none : Option Value), am_S (am_row (am_row f 2 ((fn_toggleBarred a b f).1)) 31 ((fn_toggleBarred a b f).2)) g) := by
  refine am_D.of (code := am_k_35) rfl (L0 := [.ref 2, .int (nI a), .int (nI b)]) rfl ?_
  generalize hres : ((none : Option Value), am_S (am_row (am_row f 2 ((fn_toggleBarred a b f).1)) 31 ((fn_toggleBarred a b f).2)) g) = res
  obtain ⟨K, hKd⟩ : ∃ K : ((Nat → Int32) × (Nat → Int32)) → Prop, K = fun z => ((none : Option Value), am_S (am_row (am_row f 2 z.1) 31 z.2) g) = res := ⟨_, rfl⟩
  have hK : K (fn_toggleBarred a b f) := by rw [hKd]; exact hres
  clear hres
  unfold fn_toggleBarred at hK
  refine am_F.ops (pc' := 10) (L' := [.ref 2, .int (nI a), .int (nI b)]) (S' := [.int (nI a), .ref 31, .int (f 2 10), .ref 2]) (μ' := (am_S f g)) 6 rfl ?_
  refine am_F.ialE (m := a) (N := 20) rfl rfl rfl rfl (by omega) (by decide) ?_
  show am_F _ _ 11 [.ref 2, .int (nI a), .int (nI b)] [.int (f 31 a), .int (f 2 10), .ref 2] (am_S f g) _
  refine am_F.ops (pc' := 12) (L' := [.ref 2, .int (nI a), .int (nI b)]) (S' := [.int (nI b), .int (f 31 a), .int (f 2 10), .ref 2]) (μ' := (am_S f g)) 1 rfl ?_
  refine am_F.call rfl rfl (x_has (f 31 a) (nI b) f g ) (by decide) ?_
  show am_F _ _ 15 [.ref 2, .int (nI a), .int (nI b)] [.int (am_b (fn_has (f 31 a) (nI b))), .int (f 2 10), .ref 2] (am_S f g) _
  refine am_F.to (am_To.bif (pc' := 23) (L2 := [.ref 2, .int (nI a), .int (nI b)]) (S2 := [.int (f 2 10), .ref 2]) (μ2 := (am_S f g)) (a := (-1)) (b := 1) 1 rfl (fun c1 => ?_) (fun c1 => ?_)) ?_
  · intro res9 g9
    show am_F _ _ 18 [.ref 2, .int (nI a), .int (nI b)] [.int (f 2 10), .ref 2] (am_S f g) _
    refine am_F.ops (pc' := 23) (L' := [.ref 2, .int (nI a), .int (nI b)]) (S' := [.int (-1), .int (f 2 10), .ref 2]) (μ' := (am_S f g)) 2 rfl ?_
    exact g9
  · intro res9 g9
    show am_F _ _ 22 [.ref 2, .int (nI a), .int (nI b)] [.int (f 2 10), .ref 2] (am_S f g) _
    refine am_F.ops (pc' := 23) (L' := [.ref 2, .int (nI a), .int (nI b)]) (S' := [.int 1, .int (f 2 10), .ref 2]) (μ' := (am_S f g)) 1 rfl ?_
    exact g9
  show am_F _ _ 23 [.ref 2, .int (nI a), .int (nI b)] [.int (bif (fn_has (f 31 a) (nI b)) then (-1) else 1), .int (f 2 10), .ref 2] (am_S f g) _
  refine am_F.ops (pc' := 24) (L' := [.ref 2, .int (nI a), .int (nI b)]) (S' := [.int ((f 2 10) + (bif (fn_has (f 31 a) (nI b)) then (-1) else 1)), .ref 2]) (μ' := (am_S f g)) 1 rfl ?_
  refine am_F.pfi (F' := (am_row f 2 (upd (f 2) 10 ((f 2 10) + (bif (fn_has (f 31 a) (nI b)) then (-1) else 1))))) rfl rfl (by first | rfl | (funext a; by_cases z0 : a = 2; (subst z0; rfl); simp only [am_ui, am_ul, am_row_ne z0])) ?_
  refine am_F.ops (pc' := 33) (L' := [.ref 2, .int (nI a), .int (nI b)]) (S' := [.int (nI a), .ref 31, .int (nI a), .ref 31]) (μ' := (am_S (am_row f 2 (upd (f 2) 10 ((f 2 10) + (bif (fn_has (f 31 a) (nI b)) then (-1) else 1)))) g)) 4 rfl ?_
  refine am_F.ialE (m := a) (N := 20) rfl rfl rfl rfl (by omega) (by decide) ?_
  show am_F _ _ 34 [.ref 2, .int (nI a), .int (nI b)] [.int (f 31 a), .int (nI a), .ref 31] (am_S (am_row f 2 (upd (f 2) 10 ((f 2 10) + (bif (fn_has (f 31 a) (nI b)) then (-1) else 1)))) g) _
  refine am_F.ops (pc' := 38) (L' := [.ref 2, .int (nI a), .int (nI b)]) (S' := [.int ((f 31 a) ^^^ (1 <<< ((nI b) &&& 31))), .int (nI a), .ref 31]) (μ' := (am_S (am_row f 2 (upd (f 2) 10 ((f 2 10) + (bif (fn_has (f 31 a) (nI b)) then (-1) else 1)))) g)) 4 rfl ?_
  refine am_F.iasE (F' := (am_row (am_row f 2 (upd (f 2) 10 ((f 2 10) + (bif (fn_has (f 31 a) (nI b)) then (-1) else 1)))) 31 (upd (f 31) a ((f 31 a) ^^^ (1 <<< ((nI b) &&& 31)))))) (m := a) (N := 20) rfl rfl rfl rfl (by omega) (by decide) (by first | rfl | (funext a; by_cases z0 : a = 2; (subst z0; rfl); by_cases z1 : a = 31; (subst z1; rfl); simp only [am_ui, am_ul, am_row_ne z0, am_row_ne z1])) ?_
  refine am_F.ops (pc' := 45) (L' := [.ref 2, .int (nI a), .int (nI b)]) (S' := [.int (nI b), .ref 31, .int (nI b), .ref 31]) (μ' := (am_S (am_row (am_row f 2 (upd (f 2) 10 ((f 2 10) + (bif (fn_has (f 31 a) (nI b)) then (-1) else 1)))) 31 (upd (f 31) a ((f 31 a) ^^^ (1 <<< ((nI b) &&& 31))))) g)) 4 rfl ?_
  refine am_F.ialE (m := b) (N := 20) rfl rfl rfl rfl (by omega) (by decide) ?_
  show am_F _ _ 46 [.ref 2, .int (nI a), .int (nI b)] [.int ((upd (f 31) a ((f 31 a) ^^^ (1 <<< ((nI b) &&& 31)))) b), .int (nI b), .ref 31] (am_S (am_row (am_row f 2 (upd (f 2) 10 ((f 2 10) + (bif (fn_has (f 31 a) (nI b)) then (-1) else 1)))) 31 (upd (f 31) a ((f 31 a) ^^^ (1 <<< ((nI b) &&& 31))))) g) _
  refine am_F.ops (pc' := 50) (L' := [.ref 2, .int (nI a), .int (nI b)]) (S' := [.int (((upd (f 31) a ((f 31 a) ^^^ (1 <<< ((nI b) &&& 31)))) b) ^^^ (1 <<< ((nI a) &&& 31))), .int (nI b), .ref 31]) (μ' := (am_S (am_row (am_row f 2 (upd (f 2) 10 ((f 2 10) + (bif (fn_has (f 31 a) (nI b)) then (-1) else 1)))) 31 (upd (f 31) a ((f 31 a) ^^^ (1 <<< ((nI b) &&& 31))))) g)) 4 rfl ?_
  refine am_F.iasE (F' := (am_row (am_row f 2 (upd (f 2) 10 ((f 2 10) + (bif (fn_has (f 31 a) (nI b)) then (-1) else 1)))) 31 (upd (upd (f 31) a ((f 31 a) ^^^ (1 <<< ((nI b) &&& 31)))) b (((upd (f 31) a ((f 31 a) ^^^ (1 <<< ((nI b) &&& 31)))) b) ^^^ (1 <<< ((nI a) &&& 31)))))) (m := b) (N := 20) rfl rfl rfl rfl (by omega) (by decide) (by first | rfl | (funext a; by_cases z0 : a = 2; (subst z0; rfl); by_cases z1 : a = 31; (subst z1; rfl); simp only [am_ui, am_ul, am_row_ne z0, am_row_ne z1])) ?_
  subst hKd
  exact am_F.eq (am_F.ret rfl rfl) hK
/-- AccessLattice$State.note -/
def fn_note (user : Int32) (act : Int32) (thing : Int32) (ans : Nat) (rule : Int32) (f : Nat → Nat → Int32) : (Nat → Int32) × (Nat → Int32) × (Nat → Int32) := (if (f 2 11) < 30 then (upd (f 2) 11 ((f 2 11) + 1), upd (upd (upd (upd (upd (upd (f 32) ((f 2 11).toNatClampNeg * 6) (f 2 12)) (((f 2 11).toNatClampNeg * 6) + 1) user) (((f 2 11).toNatClampNeg * 6) + 2) act) (((f 2 11).toNatClampNeg * 6) + 3) thing) (((f 2 11).toNatClampNeg * 6) + 4) (nI ans)) (((f 2 11).toNatClampNeg * 6) + 5) rule, upd (f 33) ans ((f 33 ans) + 1)) else (upd (upd (f 2) 11 29) 11 (29 + 1), upd (upd (upd (upd (upd (upd (va_cpy (f 32) (f 32) 6 0 174) 174 (f 2 12)) (174 + 1) user) (174 + 2) act) (174 + 3) thing) (174 + 4) (nI ans)) (174 + 5) rule, upd (f 33) ans ((f 33 ans) + 1)))
theorem x_note (user : Int32) (act : Int32) (thing : Int32) (ans : Nat) (rule : Int32) (f : Nat → Nat → Int32) (g : Nat → Nat → Int64) (hBk : f 2 11 = nI (f 2 11).toNatClampNeg) (hBn : (f 2 11).toNatClampNeg ≤ 30) (hans : ans < 3) : am_D 0 95 7 [.ref 2, .int user, .int act, .int thing, .int (nI ans), .int rule] (am_S f g) ((none : Option Value), am_S (am_row (am_row (am_row f 2 ((fn_note user act thing ans rule f).1)) 32 ((fn_note user act thing ans rule f).2.1)) 33 ((fn_note user act thing ans rule f).2.2)) g) := by
  refine am_D.of (code := am_k_95) rfl (L0 := [.ref 2, .int user, .int act, .int thing, .int (nI ans), .int rule, am_un]) rfl ?_
  generalize hres : ((none : Option Value), am_S (am_row (am_row (am_row f 2 ((fn_note user act thing ans rule f).1)) 32 ((fn_note user act thing ans rule f).2.1)) 33 ((fn_note user act thing ans rule f).2.2)) g) = res
  obtain ⟨K, hKd⟩ : ∃ K : ((Nat → Int32) × (Nat → Int32) × (Nat → Int32)) → Prop, K = fun z => ((none : Option Value), am_S (am_row (am_row (am_row f 2 z.1) 32 z.2.1) 33 z.2.2) g) = res := ⟨_, rfl⟩
  have hK : K (fn_note user act thing ans rule f) := by rw [hKd]; exact hres
  clear hres
  unfold fn_note at hK
  refine am_F.ops (pc' := 6) (L' := [.ref 2, .int user, .int act, .int thing, .int (nI ans), .int rule, am_un]) (S' := [.int 30, .int (f 2 11)]) (μ' := (am_S f g)) 3 rfl ?_
  refine am_F.iteK 1 rfl K hK (fun c2 hK => ?_) (fun c2 hK => ?_)
  · show am_F _ _ 37 [.ref 2, .int user, .int act, .int thing, .int (nI ans), .int rule, am_un] [] (am_S f g) _
    refine am_F.ops (pc' := 56) (L' := [.ref 2, .int user, .int act, .int thing, .int (nI ans), .int rule, .int ((f 2 11) * 6)]) (S' := [.int (f 2 12), .int ((f 2 11) * 6), .ref 32]) (μ' := (am_S f g)) 10 rfl ?_
    refine am_F.iasE (F' := (am_row f 32 (upd (f 32) ((f 2 11).toNatClampNeg * 6) (f 2 12)))) (m := ((f 2 11).toNatClampNeg * 6)) (N := 180) rfl rfl rfl (am_mulE hBk rfl) (by first | omega | (have z9 := am_ltN (m := 30) hBk (by omega) rfl (by assumption); omega)) (by decide) (by first | rfl | (funext a; by_cases z0 : a = 32; (subst z0; rfl); simp only [am_ui, am_ul, am_row_ne z0])) ?_
    refine am_F.ops (pc' := 66) (L' := [.ref 2, .int user, .int act, .int thing, .int (nI ans), .int rule, .int ((f 2 11) * 6)]) (S' := [.int user, .int (((f 2 11) * 6) + 1), .ref 32]) (μ' := (am_S (am_row f 32 (upd (f 32) ((f 2 11).toNatClampNeg * 6) (f 2 12))) g)) 6 rfl ?_
    refine am_F.iasE (F' := (am_row f 32 (upd (upd (f 32) ((f 2 11).toNatClampNeg * 6) (f 2 12)) (((f 2 11).toNatClampNeg * 6) + 1) user))) (m := (((f 2 11).toNatClampNeg * 6) + 1)) (N := 180) rfl rfl rfl (am_addE (am_mulE hBk rfl) rfl) (by first | omega | (have z9 := am_ltN (m := 30) hBk (by omega) rfl (by assumption); omega)) (by decide) (by first | rfl | (funext a; by_cases z0 : a = 32; (subst z0; rfl); simp only [am_ui, am_ul, am_row_ne z0])) ?_
    refine am_F.ops (pc' := 76) (L' := [.ref 2, .int user, .int act, .int thing, .int (nI ans), .int rule, .int ((f 2 11) * 6)]) (S' := [.int act, .int (((f 2 11) * 6) + 2), .ref 32]) (μ' := (am_S (am_row f 32 (upd (upd (f 32) ((f 2 11).toNatClampNeg * 6) (f 2 12)) (((f 2 11).toNatClampNeg * 6) + 1) user)) g)) 6 rfl ?_
    refine am_F.iasE (F' := (am_row f 32 (upd (upd (upd (f 32) ((f 2 11).toNatClampNeg * 6) (f 2 12)) (((f 2 11).toNatClampNeg * 6) + 1) user) (((f 2 11).toNatClampNeg * 6) + 2) act))) (m := (((f 2 11).toNatClampNeg * 6) + 2)) (N := 180) rfl rfl rfl (am_addE (am_mulE hBk rfl) rfl) (by first | omega | (have z9 := am_ltN (m := 30) hBk (by omega) rfl (by assumption); omega)) (by decide) (by first | rfl | (funext a; by_cases z0 : a = 32; (subst z0; rfl); simp only [am_ui, am_ul, am_row_ne z0])) ?_
    refine am_F.ops (pc' := 86) (L' := [.ref 2, .int user, .int act, .int thing, .int (nI ans), .int rule, .int ((f 2 11) * 6)]) (S' := [.int thing, .int (((f 2 11) * 6) + 3), .ref 32]) (μ' := (am_S (am_row f 32 (upd (upd (upd (f 32) ((f 2 11).toNatClampNeg * 6) (f 2 12)) (((f 2 11).toNatClampNeg * 6) + 1) user) (((f 2 11).toNatClampNeg * 6) + 2) act)) g)) 6 rfl ?_
    refine am_F.iasE (F' := (am_row f 32 (upd (upd (upd (upd (f 32) ((f 2 11).toNatClampNeg * 6) (f 2 12)) (((f 2 11).toNatClampNeg * 6) + 1) user) (((f 2 11).toNatClampNeg * 6) + 2) act) (((f 2 11).toNatClampNeg * 6) + 3) thing))) (m := (((f 2 11).toNatClampNeg * 6) + 3)) (N := 180) rfl rfl rfl (am_addE (am_mulE hBk rfl) rfl) (by first | omega | (have z9 := am_ltN (m := 30) hBk (by omega) rfl (by assumption); omega)) (by decide) (by first | rfl | (funext a; by_cases z0 : a = 32; (subst z0; rfl); simp only [am_ui, am_ul, am_row_ne z0])) ?_
    refine am_F.ops (pc' := 97) (L' := [.ref 2, .int user, .int act, .int thing, .int (nI ans), .int rule, .int ((f 2 11) * 6)]) (S' := [.int (nI ans), .int (((f 2 11) * 6) + 4), .ref 32]) (μ' := (am_S (am_row f 32 (upd (upd (upd (upd (f 32) ((f 2 11).toNatClampNeg * 6) (f 2 12)) (((f 2 11).toNatClampNeg * 6) + 1) user) (((f 2 11).toNatClampNeg * 6) + 2) act) (((f 2 11).toNatClampNeg * 6) + 3) thing)) g)) 6 rfl ?_
    refine am_F.iasE (F' := (am_row f 32 (upd (upd (upd (upd (upd (f 32) ((f 2 11).toNatClampNeg * 6) (f 2 12)) (((f 2 11).toNatClampNeg * 6) + 1) user) (((f 2 11).toNatClampNeg * 6) + 2) act) (((f 2 11).toNatClampNeg * 6) + 3) thing) (((f 2 11).toNatClampNeg * 6) + 4) (nI ans)))) (m := (((f 2 11).toNatClampNeg * 6) + 4)) (N := 180) rfl rfl rfl (am_addE (am_mulE hBk rfl) rfl) (by first | omega | (have z9 := am_ltN (m := 30) hBk (by omega) rfl (by assumption); omega)) (by decide) (by first | rfl | (funext a; by_cases z0 : a = 32; (subst z0; rfl); simp only [am_ui, am_ul, am_row_ne z0])) ?_
    refine am_F.ops (pc' := 108) (L' := [.ref 2, .int user, .int act, .int thing, .int (nI ans), .int rule, .int ((f 2 11) * 6)]) (S' := [.int rule, .int (((f 2 11) * 6) + 5), .ref 32]) (μ' := (am_S (am_row f 32 (upd (upd (upd (upd (upd (f 32) ((f 2 11).toNatClampNeg * 6) (f 2 12)) (((f 2 11).toNatClampNeg * 6) + 1) user) (((f 2 11).toNatClampNeg * 6) + 2) act) (((f 2 11).toNatClampNeg * 6) + 3) thing) (((f 2 11).toNatClampNeg * 6) + 4) (nI ans))) g)) 6 rfl ?_
    refine am_F.iasE (F' := (am_row f 32 (upd (upd (upd (upd (upd (upd (f 32) ((f 2 11).toNatClampNeg * 6) (f 2 12)) (((f 2 11).toNatClampNeg * 6) + 1) user) (((f 2 11).toNatClampNeg * 6) + 2) act) (((f 2 11).toNatClampNeg * 6) + 3) thing) (((f 2 11).toNatClampNeg * 6) + 4) (nI ans)) (((f 2 11).toNatClampNeg * 6) + 5) rule))) (m := (((f 2 11).toNatClampNeg * 6) + 5)) (N := 180) rfl rfl rfl (am_addE (am_mulE hBk rfl) rfl) (by first | omega | (have z9 := am_ltN (m := 30) hBk (by omega) rfl (by assumption); omega)) (by decide) (by first | rfl | (funext a; by_cases z0 : a = 32; (subst z0; rfl); simp only [am_ui, am_ul, am_row_ne z0])) ?_
    refine am_F.ops (pc' := 116) (L' := [.ref 2, .int user, .int act, .int thing, .int (nI ans), .int rule, .int ((f 2 11) * 6)]) (S' := [.int ((f 2 11) + 1), .ref 2]) (μ' := (am_S (am_row f 32 (upd (upd (upd (upd (upd (upd (f 32) ((f 2 11).toNatClampNeg * 6) (f 2 12)) (((f 2 11).toNatClampNeg * 6) + 1) user) (((f 2 11).toNatClampNeg * 6) + 2) act) (((f 2 11).toNatClampNeg * 6) + 3) thing) (((f 2 11).toNatClampNeg * 6) + 4) (nI ans)) (((f 2 11).toNatClampNeg * 6) + 5) rule)) g)) 5 rfl ?_
    refine am_F.pfi (F' := (am_row (am_row f 2 (upd (f 2) 11 ((f 2 11) + 1))) 32 (upd (upd (upd (upd (upd (upd (f 32) ((f 2 11).toNatClampNeg * 6) (f 2 12)) (((f 2 11).toNatClampNeg * 6) + 1) user) (((f 2 11).toNatClampNeg * 6) + 2) act) (((f 2 11).toNatClampNeg * 6) + 3) thing) (((f 2 11).toNatClampNeg * 6) + 4) (nI ans)) (((f 2 11).toNatClampNeg * 6) + 5) rule))) rfl rfl (by first | rfl | (funext a; by_cases z0 : a = 2; (subst z0; rfl); by_cases z1 : a = 32; (subst z1; rfl); simp only [am_ui, am_ul, am_row_ne z0, am_row_ne z1])) ?_
    refine am_F.ops (pc' := 126) (L' := [.ref 2, .int user, .int act, .int thing, .int (nI ans), .int rule, .int ((f 2 11) * 6)]) (S' := [.int (nI ans), .ref 33, .int (nI ans), .ref 33]) (μ' := (am_S (am_row (am_row f 2 (upd (f 2) 11 ((f 2 11) + 1))) 32 (upd (upd (upd (upd (upd (upd (f 32) ((f 2 11).toNatClampNeg * 6) (f 2 12)) (((f 2 11).toNatClampNeg * 6) + 1) user) (((f 2 11).toNatClampNeg * 6) + 2) act) (((f 2 11).toNatClampNeg * 6) + 3) thing) (((f 2 11).toNatClampNeg * 6) + 4) (nI ans)) (((f 2 11).toNatClampNeg * 6) + 5) rule)) g)) 4 rfl ?_
    refine am_F.ialE (m := ans) (N := 3) rfl rfl rfl rfl (by first | omega | (have z9 := am_ltN (m := 30) hBk (by omega) rfl (by assumption); omega)) (by decide) ?_
    show am_F _ _ 127 [.ref 2, .int user, .int act, .int thing, .int (nI ans), .int rule, .int ((f 2 11) * 6)] [.int (f 33 ans), .int (nI ans), .ref 33] (am_S (am_row (am_row f 2 (upd (f 2) 11 ((f 2 11) + 1))) 32 (upd (upd (upd (upd (upd (upd (f 32) ((f 2 11).toNatClampNeg * 6) (f 2 12)) (((f 2 11).toNatClampNeg * 6) + 1) user) (((f 2 11).toNatClampNeg * 6) + 2) act) (((f 2 11).toNatClampNeg * 6) + 3) thing) (((f 2 11).toNatClampNeg * 6) + 4) (nI ans)) (((f 2 11).toNatClampNeg * 6) + 5) rule)) g) _
    refine am_F.ops (pc' := 129) (L' := [.ref 2, .int user, .int act, .int thing, .int (nI ans), .int rule, .int ((f 2 11) * 6)]) (S' := [.int ((f 33 ans) + 1), .int (nI ans), .ref 33]) (μ' := (am_S (am_row (am_row f 2 (upd (f 2) 11 ((f 2 11) + 1))) 32 (upd (upd (upd (upd (upd (upd (f 32) ((f 2 11).toNatClampNeg * 6) (f 2 12)) (((f 2 11).toNatClampNeg * 6) + 1) user) (((f 2 11).toNatClampNeg * 6) + 2) act) (((f 2 11).toNatClampNeg * 6) + 3) thing) (((f 2 11).toNatClampNeg * 6) + 4) (nI ans)) (((f 2 11).toNatClampNeg * 6) + 5) rule)) g)) 2 rfl ?_
    refine am_F.iasE (F' := (am_row (am_row (am_row f 2 (upd (f 2) 11 ((f 2 11) + 1))) 32 (upd (upd (upd (upd (upd (upd (f 32) ((f 2 11).toNatClampNeg * 6) (f 2 12)) (((f 2 11).toNatClampNeg * 6) + 1) user) (((f 2 11).toNatClampNeg * 6) + 2) act) (((f 2 11).toNatClampNeg * 6) + 3) thing) (((f 2 11).toNatClampNeg * 6) + 4) (nI ans)) (((f 2 11).toNatClampNeg * 6) + 5) rule)) 33 (upd (f 33) ans ((f 33 ans) + 1)))) (m := ans) (N := 3) rfl rfl rfl rfl (by first | omega | (have z9 := am_ltN (m := 30) hBk (by omega) rfl (by assumption); omega)) (by decide) (by first | rfl | (funext a; by_cases z0 : a = 2; (subst z0; rfl); by_cases z1 : a = 32; (subst z1; rfl); by_cases z2 : a = 33; (subst z2; rfl); simp only [am_ui, am_ul, am_row_ne z0, am_row_ne z1, am_row_ne z2])) ?_
    subst hKd
    exact am_F.eq (am_F.ret rfl rfl) hK
  · show am_F _ _ 9 [.ref 2, .int user, .int act, .int thing, .int (nI ans), .int rule, am_un] [] (am_S f g) _
    refine am_F.ops (pc' := 28) (L' := [.ref 2, .int user, .int act, .int thing, .int (nI ans), .int rule, am_un]) (S' := [.int (180 - 6), .int 0, .ref 32, .int 6, .ref 32]) (μ' := (am_S f g)) 11 rfl ?_
    refine am_F.cpyE (F' := (am_row f 32 (va_cpy (f 32) (f 32) 6 0 174))) (sp := 6) (dp := 0) (z := 174) (n0 := 180) (n1 := 180) rfl rfl rfl rfl rfl rfl rfl (by decide +kernel) (by omega) (by omega) (by decide) (by decide) (by first | rfl | (funext a; by_cases z0 : a = 32; (subst z0; rfl); simp only [am_ui, am_ul, am_row_ne z0])) ?_
    refine am_F.ops (pc' := 34) (L' := [.ref 2, .int user, .int act, .int thing, .int (nI ans), .int rule, am_un]) (S' := [.int 29, .ref 2]) (μ' := (am_S (am_row f 32 (va_cpy (f 32) (f 32) 6 0 174)) g)) 2 rfl ?_
    refine am_F.pfi (F' := (am_row (am_row f 2 (upd (f 2) 11 29)) 32 (va_cpy (f 32) (f 32) 6 0 174))) rfl rfl (by first | rfl | (funext a; by_cases z0 : a = 2; (subst z0; rfl); by_cases z1 : a = 32; (subst z1; rfl); simp only [am_ui, am_ul, am_row_ne z0, am_row_ne z1])) ?_
    refine am_F.ops (pc' := 56) (L' := [.ref 2, .int user, .int act, .int thing, .int (nI ans), .int rule, .int (29 * 6)]) (S' := [.int (f 2 12), .int (29 * 6), .ref 32]) (μ' := (am_S (am_row (am_row f 2 (upd (f 2) 11 29)) 32 (va_cpy (f 32) (f 32) 6 0 174)) g)) 10 rfl ?_
    refine am_F.iasE (F' := (am_row (am_row f 2 (upd (f 2) 11 29)) 32 (upd (va_cpy (f 32) (f 32) 6 0 174) 174 (f 2 12)))) (m := 174) (N := 180) rfl rfl rfl (by decide +kernel) (by first | omega | (have z9 := am_ltN (m := 30) hBk (by omega) rfl (by assumption); omega)) (by decide) (by first | rfl | (funext a; by_cases z0 : a = 2; (subst z0; rfl); by_cases z1 : a = 32; (subst z1; rfl); simp only [am_ui, am_ul, am_row_ne z0, am_row_ne z1])) ?_
    refine am_F.ops (pc' := 66) (L' := [.ref 2, .int user, .int act, .int thing, .int (nI ans), .int rule, .int (29 * 6)]) (S' := [.int user, .int ((29 * 6) + 1), .ref 32]) (μ' := (am_S (am_row (am_row f 2 (upd (f 2) 11 29)) 32 (upd (va_cpy (f 32) (f 32) 6 0 174) 174 (f 2 12))) g)) 6 rfl ?_
    refine am_F.iasE (F' := (am_row (am_row f 2 (upd (f 2) 11 29)) 32 (upd (upd (va_cpy (f 32) (f 32) 6 0 174) 174 (f 2 12)) (174 + 1) user))) (m := (174 + 1)) (N := 180) rfl rfl rfl (am_addE (by decide +kernel) rfl) (by first | omega | (have z9 := am_ltN (m := 30) hBk (by omega) rfl (by assumption); omega)) (by decide) (by first | rfl | (funext a; by_cases z0 : a = 2; (subst z0; rfl); by_cases z1 : a = 32; (subst z1; rfl); simp only [am_ui, am_ul, am_row_ne z0, am_row_ne z1])) ?_
    refine am_F.ops (pc' := 76) (L' := [.ref 2, .int user, .int act, .int thing, .int (nI ans), .int rule, .int (29 * 6)]) (S' := [.int act, .int ((29 * 6) + 2), .ref 32]) (μ' := (am_S (am_row (am_row f 2 (upd (f 2) 11 29)) 32 (upd (upd (va_cpy (f 32) (f 32) 6 0 174) 174 (f 2 12)) (174 + 1) user)) g)) 6 rfl ?_
    refine am_F.iasE (F' := (am_row (am_row f 2 (upd (f 2) 11 29)) 32 (upd (upd (upd (va_cpy (f 32) (f 32) 6 0 174) 174 (f 2 12)) (174 + 1) user) (174 + 2) act))) (m := (174 + 2)) (N := 180) rfl rfl rfl (am_addE (by decide +kernel) rfl) (by first | omega | (have z9 := am_ltN (m := 30) hBk (by omega) rfl (by assumption); omega)) (by decide) (by first | rfl | (funext a; by_cases z0 : a = 2; (subst z0; rfl); by_cases z1 : a = 32; (subst z1; rfl); simp only [am_ui, am_ul, am_row_ne z0, am_row_ne z1])) ?_
    refine am_F.ops (pc' := 86) (L' := [.ref 2, .int user, .int act, .int thing, .int (nI ans), .int rule, .int (29 * 6)]) (S' := [.int thing, .int ((29 * 6) + 3), .ref 32]) (μ' := (am_S (am_row (am_row f 2 (upd (f 2) 11 29)) 32 (upd (upd (upd (va_cpy (f 32) (f 32) 6 0 174) 174 (f 2 12)) (174 + 1) user) (174 + 2) act)) g)) 6 rfl ?_
    refine am_F.iasE (F' := (am_row (am_row f 2 (upd (f 2) 11 29)) 32 (upd (upd (upd (upd (va_cpy (f 32) (f 32) 6 0 174) 174 (f 2 12)) (174 + 1) user) (174 + 2) act) (174 + 3) thing))) (m := (174 + 3)) (N := 180) rfl rfl rfl (am_addE (by decide +kernel) rfl) (by first | omega | (have z9 := am_ltN (m := 30) hBk (by omega) rfl (by assumption); omega)) (by decide) (by first | rfl | (funext a; by_cases z0 : a = 2; (subst z0; rfl); by_cases z1 : a = 32; (subst z1; rfl); simp only [am_ui, am_ul, am_row_ne z0, am_row_ne z1])) ?_
    refine am_F.ops (pc' := 97) (L' := [.ref 2, .int user, .int act, .int thing, .int (nI ans), .int rule, .int (29 * 6)]) (S' := [.int (nI ans), .int ((29 * 6) + 4), .ref 32]) (μ' := (am_S (am_row (am_row f 2 (upd (f 2) 11 29)) 32 (upd (upd (upd (upd (va_cpy (f 32) (f 32) 6 0 174) 174 (f 2 12)) (174 + 1) user) (174 + 2) act) (174 + 3) thing)) g)) 6 rfl ?_
    refine am_F.iasE (F' := (am_row (am_row f 2 (upd (f 2) 11 29)) 32 (upd (upd (upd (upd (upd (va_cpy (f 32) (f 32) 6 0 174) 174 (f 2 12)) (174 + 1) user) (174 + 2) act) (174 + 3) thing) (174 + 4) (nI ans)))) (m := (174 + 4)) (N := 180) rfl rfl rfl (am_addE (by decide +kernel) rfl) (by first | omega | (have z9 := am_ltN (m := 30) hBk (by omega) rfl (by assumption); omega)) (by decide) (by first | rfl | (funext a; by_cases z0 : a = 2; (subst z0; rfl); by_cases z1 : a = 32; (subst z1; rfl); simp only [am_ui, am_ul, am_row_ne z0, am_row_ne z1])) ?_
    refine am_F.ops (pc' := 108) (L' := [.ref 2, .int user, .int act, .int thing, .int (nI ans), .int rule, .int (29 * 6)]) (S' := [.int rule, .int ((29 * 6) + 5), .ref 32]) (μ' := (am_S (am_row (am_row f 2 (upd (f 2) 11 29)) 32 (upd (upd (upd (upd (upd (va_cpy (f 32) (f 32) 6 0 174) 174 (f 2 12)) (174 + 1) user) (174 + 2) act) (174 + 3) thing) (174 + 4) (nI ans))) g)) 6 rfl ?_
    refine am_F.iasE (F' := (am_row (am_row f 2 (upd (f 2) 11 29)) 32 (upd (upd (upd (upd (upd (upd (va_cpy (f 32) (f 32) 6 0 174) 174 (f 2 12)) (174 + 1) user) (174 + 2) act) (174 + 3) thing) (174 + 4) (nI ans)) (174 + 5) rule))) (m := (174 + 5)) (N := 180) rfl rfl rfl (am_addE (by decide +kernel) rfl) (by first | omega | (have z9 := am_ltN (m := 30) hBk (by omega) rfl (by assumption); omega)) (by decide) (by first | rfl | (funext a; by_cases z0 : a = 2; (subst z0; rfl); by_cases z1 : a = 32; (subst z1; rfl); simp only [am_ui, am_ul, am_row_ne z0, am_row_ne z1])) ?_
    refine am_F.ops (pc' := 116) (L' := [.ref 2, .int user, .int act, .int thing, .int (nI ans), .int rule, .int (29 * 6)]) (S' := [.int (29 + 1), .ref 2]) (μ' := (am_S (am_row (am_row f 2 (upd (f 2) 11 29)) 32 (upd (upd (upd (upd (upd (upd (va_cpy (f 32) (f 32) 6 0 174) 174 (f 2 12)) (174 + 1) user) (174 + 2) act) (174 + 3) thing) (174 + 4) (nI ans)) (174 + 5) rule)) g)) 5 rfl ?_
    refine am_F.pfi (F' := (am_row (am_row f 2 (upd (upd (f 2) 11 29) 11 (29 + 1))) 32 (upd (upd (upd (upd (upd (upd (va_cpy (f 32) (f 32) 6 0 174) 174 (f 2 12)) (174 + 1) user) (174 + 2) act) (174 + 3) thing) (174 + 4) (nI ans)) (174 + 5) rule))) rfl rfl (by first | rfl | (funext a; by_cases z0 : a = 2; (subst z0; rfl); by_cases z1 : a = 32; (subst z1; rfl); simp only [am_ui, am_ul, am_row_ne z0, am_row_ne z1])) ?_
    refine am_F.ops (pc' := 126) (L' := [.ref 2, .int user, .int act, .int thing, .int (nI ans), .int rule, .int (29 * 6)]) (S' := [.int (nI ans), .ref 33, .int (nI ans), .ref 33]) (μ' := (am_S (am_row (am_row f 2 (upd (upd (f 2) 11 29) 11 (29 + 1))) 32 (upd (upd (upd (upd (upd (upd (va_cpy (f 32) (f 32) 6 0 174) 174 (f 2 12)) (174 + 1) user) (174 + 2) act) (174 + 3) thing) (174 + 4) (nI ans)) (174 + 5) rule)) g)) 4 rfl ?_
    refine am_F.ialE (m := ans) (N := 3) rfl rfl rfl rfl (by first | omega | (have z9 := am_ltN (m := 30) hBk (by omega) rfl (by assumption); omega)) (by decide) ?_
    show am_F _ _ 127 [.ref 2, .int user, .int act, .int thing, .int (nI ans), .int rule, .int (29 * 6)] [.int (f 33 ans), .int (nI ans), .ref 33] (am_S (am_row (am_row f 2 (upd (upd (f 2) 11 29) 11 (29 + 1))) 32 (upd (upd (upd (upd (upd (upd (va_cpy (f 32) (f 32) 6 0 174) 174 (f 2 12)) (174 + 1) user) (174 + 2) act) (174 + 3) thing) (174 + 4) (nI ans)) (174 + 5) rule)) g) _
    refine am_F.ops (pc' := 129) (L' := [.ref 2, .int user, .int act, .int thing, .int (nI ans), .int rule, .int (29 * 6)]) (S' := [.int ((f 33 ans) + 1), .int (nI ans), .ref 33]) (μ' := (am_S (am_row (am_row f 2 (upd (upd (f 2) 11 29) 11 (29 + 1))) 32 (upd (upd (upd (upd (upd (upd (va_cpy (f 32) (f 32) 6 0 174) 174 (f 2 12)) (174 + 1) user) (174 + 2) act) (174 + 3) thing) (174 + 4) (nI ans)) (174 + 5) rule)) g)) 2 rfl ?_
    refine am_F.iasE (F' := (am_row (am_row (am_row f 2 (upd (upd (f 2) 11 29) 11 (29 + 1))) 32 (upd (upd (upd (upd (upd (upd (va_cpy (f 32) (f 32) 6 0 174) 174 (f 2 12)) (174 + 1) user) (174 + 2) act) (174 + 3) thing) (174 + 4) (nI ans)) (174 + 5) rule)) 33 (upd (f 33) ans ((f 33 ans) + 1)))) (m := ans) (N := 3) rfl rfl rfl rfl (by first | omega | (have z9 := am_ltN (m := 30) hBk (by omega) rfl (by assumption); omega)) (by decide) (by first | rfl | (funext a; by_cases z0 : a = 2; (subst z0; rfl); by_cases z1 : a = 32; (subst z1; rfl); by_cases z2 : a = 33; (subst z2; rfl); simp only [am_ui, am_ul, am_row_ne z0, am_row_ne z1, am_row_ne z2])) ?_
    subst hKd
    exact am_F.eq (am_F.ret rfl rfl) hK
/-- AccessLattice$Rules.open -/
def fn_openRule (rule : Nat) (isDeny : Bool) (isDeep : Bool) (f : Nat → Nat → Int32) : (Nat → Int32) := upd (upd (upd (upd (f 18) 8 ((f 18 8) ||| (1 <<< ((nI rule) &&& 31)))) 9 (bif isDeny then (f 18 9) ||| (1 <<< ((nI rule) &&& 31)) else (f 18 9) &&& ((1 <<< ((nI rule) &&& 31)) ^^^ (-1)))) 10 (bif isDeep then (f 18 10) ||| (1 <<< ((nI rule) &&& 31)) else (f 18 10) &&& ((1 <<< ((nI rule) &&& 31)) ^^^ (-1)))) 11 ((nI rule) + 1)
theorem x_openRule (rule : Nat) (isDeny : Bool) (isDeep : Bool) (f : Nat → Nat → Int32) (g : Nat → Nat → Int64) (hrule : rule < 30) : am_D 0 64 5 [.ref 18, .int (nI rule), .int (am_b isDeny), .int (am_b isDeep)] (am_S f g) ((none : Option Value), am_S (am_row f 18 (fn_openRule rule isDeny isDeep f)) g) := by
  refine am_D.of (code := am_k_64) rfl (L0 := [.ref 18, .int (nI rule), .int (am_b isDeny), .int (am_b isDeep), am_un]) rfl ?_
  generalize hres : ((none : Option Value), am_S (am_row f 18 (fn_openRule rule isDeny isDeep f)) g) = res
  obtain ⟨K, hKd⟩ : ∃ K : (Nat → Int32) → Prop, K = fun z => ((none : Option Value), am_S (am_row f 18 z) g) = res := ⟨_, rfl⟩
  have hK : K (fn_openRule rule isDeny isDeep f) := by rw [hKd]; exact hres
  clear hres
  unfold fn_openRule at hK
  refine am_F.ops (pc' := 13) (L' := [.ref 18, .int (nI rule), .int (am_b isDeny), .int (am_b isDeep), .int (1 <<< ((nI rule) &&& 31))]) (S' := [.int ((f 18 8) ||| (1 <<< ((nI rule) &&& 31))), .ref 18]) (μ' := (am_S f g)) 9 rfl ?_
  refine am_F.pfi (F' := (am_row f 18 (upd (f 18) 8 ((f 18 8) ||| (1 <<< ((nI rule) &&& 31)))))) rfl rfl (by first | rfl | (funext a; by_cases z0 : a = 18; (subst z0; rfl); simp only [am_ui, am_ul, am_row_ne z0])) ?_
  refine am_F.ops (pc' := 18) (L' := [.ref 18, .int (nI rule), .int (am_b isDeny), .int (am_b isDeep), .int (1 <<< ((nI rule) &&& 31))]) (S' := [.int (am_b isDeny), .ref 18]) (μ' := (am_S (am_row f 18 (upd (f 18) 8 ((f 18 8) ||| (1 <<< ((nI rule) &&& 31))))) g)) 2 rfl ?_
  refine am_F.to (am_To.bif (pc' := 40) (L2 := [.ref 18, .int (nI rule), .int (am_b isDeny), .int (am_b isDeep), .int (1 <<< ((nI rule) &&& 31))]) (S2 := [.ref 18]) (μ2 := (am_S (am_row f 18 (upd (f 18) 8 ((f 18 8) ||| (1 <<< ((nI rule) &&& 31))))) g)) (a := (f 18 9) ||| (1 <<< ((nI rule) &&& 31))) (b := (f 18 9) &&& ((1 <<< ((nI rule) &&& 31)) ^^^ (-1))) 1 rfl (fun c1 => ?_) (fun c1 => ?_)) ?_
  · intro res9 g9
    show am_F _ _ 21 [.ref 18, .int (nI rule), .int (am_b isDeny), .int (am_b isDeep), .int (1 <<< ((nI rule) &&& 31))] [.ref 18] (am_S (am_row f 18 (upd (f 18) 8 ((f 18 8) ||| (1 <<< ((nI rule) &&& 31))))) g) _
    refine am_F.ops (pc' := 40) (L' := [.ref 18, .int (nI rule), .int (am_b isDeny), .int (am_b isDeep), .int (1 <<< ((nI rule) &&& 31))]) (S' := [.int ((f 18 9) ||| (1 <<< ((nI rule) &&& 31))), .ref 18]) (μ' := (am_S (am_row f 18 (upd (f 18) 8 ((f 18 8) ||| (1 <<< ((nI rule) &&& 31))))) g)) 5 rfl ?_
    exact g9
  · intro res9 g9
    show am_F _ _ 31 [.ref 18, .int (nI rule), .int (am_b isDeny), .int (am_b isDeep), .int (1 <<< ((nI rule) &&& 31))] [.ref 18] (am_S (am_row f 18 (upd (f 18) 8 ((f 18 8) ||| (1 <<< ((nI rule) &&& 31))))) g) _
    refine am_F.ops (pc' := 40) (L' := [.ref 18, .int (nI rule), .int (am_b isDeny), .int (am_b isDeep), .int (1 <<< ((nI rule) &&& 31))]) (S' := [.int ((f 18 9) &&& ((1 <<< ((nI rule) &&& 31)) ^^^ (-1))), .ref 18]) (μ' := (am_S (am_row f 18 (upd (f 18) 8 ((f 18 8) ||| (1 <<< ((nI rule) &&& 31))))) g)) 6 rfl ?_
    exact g9
  show am_F _ _ 40 [.ref 18, .int (nI rule), .int (am_b isDeny), .int (am_b isDeep), .int (1 <<< ((nI rule) &&& 31))] [.int (bif isDeny then (f 18 9) ||| (1 <<< ((nI rule) &&& 31)) else (f 18 9) &&& ((1 <<< ((nI rule) &&& 31)) ^^^ (-1))), .ref 18] (am_S (am_row f 18 (upd (f 18) 8 ((f 18 8) ||| (1 <<< ((nI rule) &&& 31))))) g) _
  refine am_F.pfi (F' := (am_row f 18 (upd (upd (f 18) 8 ((f 18 8) ||| (1 <<< ((nI rule) &&& 31)))) 9 (bif isDeny then (f 18 9) ||| (1 <<< ((nI rule) &&& 31)) else (f 18 9) &&& ((1 <<< ((nI rule) &&& 31)) ^^^ (-1)))))) rfl rfl (by first | rfl | (funext a; by_cases z0 : a = 18; (subst z0; rfl); simp only [am_ui, am_ul, am_row_ne z0])) ?_
  refine am_F.ops (pc' := 45) (L' := [.ref 18, .int (nI rule), .int (am_b isDeny), .int (am_b isDeep), .int (1 <<< ((nI rule) &&& 31))]) (S' := [.int (am_b isDeep), .ref 18]) (μ' := (am_S (am_row f 18 (upd (upd (f 18) 8 ((f 18 8) ||| (1 <<< ((nI rule) &&& 31)))) 9 (bif isDeny then (f 18 9) ||| (1 <<< ((nI rule) &&& 31)) else (f 18 9) &&& ((1 <<< ((nI rule) &&& 31)) ^^^ (-1))))) g)) 2 rfl ?_
  refine am_F.to (am_To.bif (pc' := 67) (L2 := [.ref 18, .int (nI rule), .int (am_b isDeny), .int (am_b isDeep), .int (1 <<< ((nI rule) &&& 31))]) (S2 := [.ref 18]) (μ2 := (am_S (am_row f 18 (upd (upd (f 18) 8 ((f 18 8) ||| (1 <<< ((nI rule) &&& 31)))) 9 (bif isDeny then (f 18 9) ||| (1 <<< ((nI rule) &&& 31)) else (f 18 9) &&& ((1 <<< ((nI rule) &&& 31)) ^^^ (-1))))) g)) (a := (f 18 10) ||| (1 <<< ((nI rule) &&& 31))) (b := (f 18 10) &&& ((1 <<< ((nI rule) &&& 31)) ^^^ (-1))) 1 rfl (fun c2 => ?_) (fun c2 => ?_)) ?_
  · intro res9 g9
    show am_F _ _ 48 [.ref 18, .int (nI rule), .int (am_b isDeny), .int (am_b isDeep), .int (1 <<< ((nI rule) &&& 31))] [.ref 18] (am_S (am_row f 18 (upd (upd (f 18) 8 ((f 18 8) ||| (1 <<< ((nI rule) &&& 31)))) 9 (bif isDeny then (f 18 9) ||| (1 <<< ((nI rule) &&& 31)) else (f 18 9) &&& ((1 <<< ((nI rule) &&& 31)) ^^^ (-1))))) g) _
    refine am_F.ops (pc' := 67) (L' := [.ref 18, .int (nI rule), .int (am_b isDeny), .int (am_b isDeep), .int (1 <<< ((nI rule) &&& 31))]) (S' := [.int ((f 18 10) ||| (1 <<< ((nI rule) &&& 31))), .ref 18]) (μ' := (am_S (am_row f 18 (upd (upd (f 18) 8 ((f 18 8) ||| (1 <<< ((nI rule) &&& 31)))) 9 (bif isDeny then (f 18 9) ||| (1 <<< ((nI rule) &&& 31)) else (f 18 9) &&& ((1 <<< ((nI rule) &&& 31)) ^^^ (-1))))) g)) 5 rfl ?_
    exact g9
  · intro res9 g9
    show am_F _ _ 58 [.ref 18, .int (nI rule), .int (am_b isDeny), .int (am_b isDeep), .int (1 <<< ((nI rule) &&& 31))] [.ref 18] (am_S (am_row f 18 (upd (upd (f 18) 8 ((f 18 8) ||| (1 <<< ((nI rule) &&& 31)))) 9 (bif isDeny then (f 18 9) ||| (1 <<< ((nI rule) &&& 31)) else (f 18 9) &&& ((1 <<< ((nI rule) &&& 31)) ^^^ (-1))))) g) _
    refine am_F.ops (pc' := 67) (L' := [.ref 18, .int (nI rule), .int (am_b isDeny), .int (am_b isDeep), .int (1 <<< ((nI rule) &&& 31))]) (S' := [.int ((f 18 10) &&& ((1 <<< ((nI rule) &&& 31)) ^^^ (-1))), .ref 18]) (μ' := (am_S (am_row f 18 (upd (upd (f 18) 8 ((f 18 8) ||| (1 <<< ((nI rule) &&& 31)))) 9 (bif isDeny then (f 18 9) ||| (1 <<< ((nI rule) &&& 31)) else (f 18 9) &&& ((1 <<< ((nI rule) &&& 31)) ^^^ (-1))))) g)) 6 rfl ?_
    exact g9
  show am_F _ _ 67 [.ref 18, .int (nI rule), .int (am_b isDeny), .int (am_b isDeep), .int (1 <<< ((nI rule) &&& 31))] [.int (bif isDeep then (f 18 10) ||| (1 <<< ((nI rule) &&& 31)) else (f 18 10) &&& ((1 <<< ((nI rule) &&& 31)) ^^^ (-1))), .ref 18] (am_S (am_row f 18 (upd (upd (f 18) 8 ((f 18 8) ||| (1 <<< ((nI rule) &&& 31)))) 9 (bif isDeny then (f 18 9) ||| (1 <<< ((nI rule) &&& 31)) else (f 18 9) &&& ((1 <<< ((nI rule) &&& 31)) ^^^ (-1))))) g) _
  refine am_F.pfi (F' := (am_row f 18 (upd (upd (upd (f 18) 8 ((f 18 8) ||| (1 <<< ((nI rule) &&& 31)))) 9 (bif isDeny then (f 18 9) ||| (1 <<< ((nI rule) &&& 31)) else (f 18 9) &&& ((1 <<< ((nI rule) &&& 31)) ^^^ (-1)))) 10 (bif isDeep then (f 18 10) ||| (1 <<< ((nI rule) &&& 31)) else (f 18 10) &&& ((1 <<< ((nI rule) &&& 31)) ^^^ (-1)))))) rfl rfl (by first | rfl | (funext a; by_cases z0 : a = 18; (subst z0; rfl); simp only [am_ui, am_ul, am_row_ne z0])) ?_
  refine am_F.ops (pc' := 74) (L' := [.ref 18, .int (nI rule), .int (am_b isDeny), .int (am_b isDeep), .int (1 <<< ((nI rule) &&& 31))]) (S' := [.int ((nI rule) + 1), .ref 18]) (μ' := (am_S (am_row f 18 (upd (upd (upd (f 18) 8 ((f 18 8) ||| (1 <<< ((nI rule) &&& 31)))) 9 (bif isDeny then (f 18 9) ||| (1 <<< ((nI rule) &&& 31)) else (f 18 9) &&& ((1 <<< ((nI rule) &&& 31)) ^^^ (-1)))) 10 (bif isDeep then (f 18 10) ||| (1 <<< ((nI rule) &&& 31)) else (f 18 10) &&& ((1 <<< ((nI rule) &&& 31)) ^^^ (-1))))) g)) 4 rfl ?_
  refine am_F.pfi (F' := (am_row f 18 (upd (upd (upd (upd (f 18) 8 ((f 18 8) ||| (1 <<< ((nI rule) &&& 31)))) 9 (bif isDeny then (f 18 9) ||| (1 <<< ((nI rule) &&& 31)) else (f 18 9) &&& ((1 <<< ((nI rule) &&& 31)) ^^^ (-1)))) 10 (bif isDeep then (f 18 10) ||| (1 <<< ((nI rule) &&& 31)) else (f 18 10) &&& ((1 <<< ((nI rule) &&& 31)) ^^^ (-1)))) 11 ((nI rule) + 1)))) rfl rfl (by first | rfl | (funext a; by_cases z0 : a = 18; (subst z0; rfl); simp only [am_ui, am_ul, am_row_ne z0])) ?_
  subst hKd
  exact am_F.eq (am_F.ret rfl rfl) hK
/-- AccessLattice$Rules.useUp -/
def fn_useUp (rule : Int32) (f : Nat → Nat → Int32) : (Nat → Int32) := (bif (fn_between rule 0 ((f 18 11) - 1)) then (if (f 24 (rule.toNatClampNeg)) ≤ 0 then f 24 else upd (f 24) (rule.toNatClampNeg) ((f 24 (rule.toNatClampNeg)) - 1)) else f 24)
theorem x_useUp (rule : Int32) (f : Nat → Nat → Int32) (g : Nat → Nat → Int64) (hRc : f 18 11 = nI (f 18 11).toNatClampNeg) (hRn : (f 18 11).toNatClampNeg ≤ 30) : am_D 1 94 2 [.ref 18, .int rule] (am_S f g) ((none : Option Value), am_S (am_row f 24 (fn_useUp rule f)) g) := by
  refine am_D.of (code := am_k_94) rfl (L0 := [.ref 18, .int rule]) rfl ?_
  generalize hres : ((none : Option Value), am_S (am_row f 24 (fn_useUp rule f)) g) = res
  obtain ⟨K, hKd⟩ : ∃ K : (Nat → Int32) → Prop, K = fun z => ((none : Option Value), am_S (am_row f 24 z) g) = res := ⟨_, rfl⟩
  have hK : K (fn_useUp rule f) := by rw [hKd]; exact hres
  clear hres
  unfold fn_useUp at hK
  refine am_F.ops (pc' := 8) (L' := [.ref 18, .int rule]) (S' := [.int ((f 18 11) - 1), .int 0, .int rule]) (μ' := (am_S f g)) 6 rfl ?_
  refine am_F.call rfl rfl (x_between rule 0 ((f 18 11) - 1) f g ) (by decide) ?_
  show am_F _ _ 11 [.ref 18, .int rule] [.int (am_b (fn_between rule 0 ((f 18 11) - 1)))] (am_S f g) _
  refine am_F.bifK 1 rfl K hK (fun c3 hK => ?_) (fun c3 hK => ?_)
  · obtain ⟨rule_n, hrule_n, erule_n⟩ := am_btwM c3 hRc (by omega)
    subst erule_n
    try simp only [nI_clamp (show rule_n < 2147483648 by omega)] at hK
    show am_F _ _ 14 [.ref 18, .int (nI rule_n)] [] (am_S f g) _
    refine am_F.ops (pc' := 19) (L' := [.ref 18, .int (nI rule_n)]) (S' := [.int (nI rule_n), .ref 24]) (μ' := (am_S f g)) 3 rfl ?_
    refine am_F.ialE (m := rule_n) (N := 30) rfl rfl rfl rfl (by omega) (by decide) ?_
    show am_F _ _ 20 [.ref 18, .int (nI rule_n)] [.int (f 24 rule_n)] (am_S f g) _
    refine am_F.iteK 1 rfl K hK (fun c5 hK => ?_) (fun c5 hK => ?_)
    · show am_F _ _ 33 [.ref 18, .int (nI rule_n)] [] (am_S f g) _
      refine am_F.mem (F' := (am_row f 24 (f 24))) (G' := g) ?_ (by first | rfl | (funext a; by_cases z0 : a = 24; (subst z0; rfl); simp only [am_ui, am_ul, am_row_ne z0])) (by first | rfl | (funext a; by_cases z0 : a = 24; (subst z0; rfl); simp only [am_ui, am_ul, am_row_ne z0]))
      subst hKd
      exact am_F.eq (am_F.ret rfl rfl) hK
    · show am_F _ _ 23 [.ref 18, .int (nI rule_n)] [] (am_S f g) _
      refine am_F.ops (pc' := 29) (L' := [.ref 18, .int (nI rule_n)]) (S' := [.int (nI rule_n), .ref 24, .int (nI rule_n), .ref 24]) (μ' := (am_S f g)) 4 rfl ?_
      refine am_F.ialE (m := rule_n) (N := 30) rfl rfl rfl rfl (by omega) (by decide) ?_
      show am_F _ _ 30 [.ref 18, .int (nI rule_n)] [.int (f 24 rule_n), .int (nI rule_n), .ref 24] (am_S f g) _
      refine am_F.ops (pc' := 32) (L' := [.ref 18, .int (nI rule_n)]) (S' := [.int ((f 24 rule_n) - 1), .int (nI rule_n), .ref 24]) (μ' := (am_S f g)) 2 rfl ?_
      refine am_F.iasE (F' := (am_row f 24 (upd (f 24) rule_n ((f 24 rule_n) - 1)))) (m := rule_n) (N := 30) rfl rfl rfl rfl (by omega) (by decide) (by first | rfl | (funext a; by_cases z0 : a = 24; (subst z0; rfl); simp only [am_ui, am_ul, am_row_ne z0])) ?_
      subst hKd
      exact am_F.eq (am_F.ret rfl rfl) hK
  · show am_F _ _ 33 [.ref 18, .int rule] [] (am_S f g) _
    refine am_F.mem (F' := (am_row f 24 (f 24))) (G' := g) ?_ (by first | rfl | (funext a; by_cases z0 : a = 24; (subst z0; rfl); simp only [am_ui, am_ul, am_row_ne z0])) (by first | rfl | (funext a; by_cases z0 : a = 24; (subst z0; rfl); simp only [am_ui, am_ul, am_row_ne z0]))
    subst hKd
    exact am_F.eq (am_F.ret rfl rfl) hK
