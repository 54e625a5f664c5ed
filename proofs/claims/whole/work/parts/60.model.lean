/-! the reference (wip/whole/m7.py) -/
set_option linter.constructorNameAsVariable false
/-- AccessLatticeModel.isIn -/
def fn_m_isIn (x : Int32) (lo : Int32) (hi : Int32) : Bool := (if x < lo then false else (if hi < x then false else true))
theorem x_m_isIn (x : Int32) (lo : Int32) (hi : Int32) (f : Nat → Nat → Int32) (g : Nat → Nat → Int64)  : am_D 0 147 3 [.int x, .int lo, .int hi] (am_S f g) (some (Value.int (am_b (fn_m_isIn x lo hi))), am_S f g) := by
  refine am_D.of (code := am_k_147) rfl (L0 := [.int x, .int lo, .int hi]) rfl ?_
  generalize hres : (some (Value.int (am_b (fn_m_isIn x lo hi))), am_S f g) = res
  obtain ⟨K, hKd⟩ : ∃ K : Bool → Prop, K = fun z => (some (Value.int (am_b z)), am_S f g) = res := ⟨_, rfl⟩
  have hK : K (fn_m_isIn x lo hi) := by rw [hKd]; exact hres
  clear hres
  unfold fn_m_isIn at hK
  refine am_F.ops (pc' := 2) (L' := [.int x, .int lo, .int hi]) (S' := [.int lo, .int x]) (μ' := (am_S f g)) 2 rfl ?_
  refine am_F.to (am_To.iteB (pc' := 15) (L2 := [.int x, .int lo, .int hi]) (S2 := []) (μ2 := (am_S f g)) (a := false) (b := (if hi < x then false else true)) 1 rfl (fun c1 => ?_) (fun c1 => ?_)) ?_
  · intro res9 g9
    show am_F _ _ 14 [.int x, .int lo, .int hi] [] (am_S f g) _
    refine am_F.ops (pc' := 15) (L' := [.int x, .int lo, .int hi]) (S' := [.int 0]) (μ' := (am_S f g)) 1 rfl ?_
    exact g9
  · intro res9 g9
    show am_F _ _ 5 [.int x, .int lo, .int hi] [] (am_S f g) _
    refine am_F.ops (pc' := 7) (L' := [.int x, .int lo, .int hi]) (S' := [.int hi, .int x]) (μ' := (am_S f g)) 2 rfl ?_
    refine am_F.to (am_To.iteB (pc' := 15) (L2 := [.int x, .int lo, .int hi]) (S2 := []) (μ2 := (am_S f g)) (a := false) (b := true) 1 rfl (fun c2 => ?_) (fun c2 => ?_)) g9
    · intro res9 g9
      show am_F _ _ 14 [.int x, .int lo, .int hi] [] (am_S f g) _
      refine am_F.ops (pc' := 15) (L' := [.int x, .int lo, .int hi]) (S' := [.int 0]) (μ' := (am_S f g)) 1 rfl ?_
      exact g9
    · intro res9 g9
      show am_F _ _ 10 [.int x, .int lo, .int hi] [] (am_S f g) _
      refine am_F.ops (pc' := 15) (L' := [.int x, .int lo, .int hi]) (S' := [.int 1]) (μ' := (am_S f g)) 2 rfl ?_
      exact g9
  show am_F _ _ 15 [.int x, .int lo, .int hi] [.int (am_b (if x < lo then false else (if hi < x then false else true)))] (am_S f g) _
  subst hKd
  exact am_F.eq (am_F.ret rfl (am_retB _ _)) hK
/-- AccessLatticeModel.isOne -/
def fn_m_isOne (x : Int32) : Bool := (fn_m_isIn x 0 15)
theorem x_m_isOne (x : Int32) (f : Nat → Nat → Int32) (g : Nat → Nat → Int64)  : am_D 1 148 1 [.int x] (am_S f g) (some (Value.int (am_b (fn_m_isOne x))), am_S f g) := by
  refine am_D.of (code := am_k_148) rfl (L0 := [.int x]) rfl ?_
  generalize hres : (some (Value.int (am_b (fn_m_isOne x))), am_S f g) = res
  obtain ⟨K, hKd⟩ : ∃ K : Bool → Prop, K = fun z => (some (Value.int (am_b z)), am_S f g) = res := ⟨_, rfl⟩
  have hK : K (fn_m_isOne x) := by rw [hKd]; exact hres
  clear hres
  unfold fn_m_isOne at hK
  refine am_F.ops (pc' := 4) (L' := [.int x]) (S' := [.int 15, .int 0, .int x]) (μ' := (am_S f g)) 3 rfl ?_
  refine am_F.call rfl rfl (x_m_isIn x 0 15 f g ) (by decide) ?_
  show am_F _ _ 7 [.int x] [.int (am_b (fn_m_isIn x 0 15))] (am_S f g) _
  subst hKd
  exact am_F.eq (am_F.ret rfl (am_retB _ _)) hK
/-- AccessLatticeModel.isRole -/
def fn_m_isRole (r : Int32) : Bool := (fn_m_isIn r 0 19)
theorem x_m_isRole (r : Int32) (f : Nat → Nat → Int32) (g : Nat → Nat → Int64)  : am_D 1 152 1 [.int r] (am_S f g) (some (Value.int (am_b (fn_m_isRole r))), am_S f g) := by
  refine am_D.of (code := am_k_152) rfl (L0 := [.int r]) rfl ?_
  generalize hres : (some (Value.int (am_b (fn_m_isRole r))), am_S f g) = res
  obtain ⟨K, hKd⟩ : ∃ K : Bool → Prop, K = fun z => (some (Value.int (am_b z)), am_S f g) = res := ⟨_, rfl⟩
  have hK : K (fn_m_isRole r) := by rw [hKd]; exact hres
  clear hres
  unfold fn_m_isRole at hK
  refine am_F.ops (pc' := 4) (L' := [.int r]) (S' := [.int 19, .int 0, .int r]) (μ' := (am_S f g)) 3 rfl ?_
  refine am_F.call rfl rfl (x_m_isIn r 0 19 f g ) (by decide) ?_
  show am_F _ _ 7 [.int r] [.int (am_b (fn_m_isIn r 0 19))] (am_S f g) _
  subst hKd
  exact am_F.eq (am_F.ret rfl (am_retB _ _)) hK
/-- AccessLatticeModel.isAct -/
def fn_m_isAct (a : Int32) : Bool := (fn_m_isIn a 0 7)
theorem x_m_isAct (a : Int32) (f : Nat → Nat → Int32) (g : Nat → Nat → Int64)  : am_D 1 198 1 [.int a] (am_S f g) (some (Value.int (am_b (fn_m_isAct a))), am_S f g) := by
  refine am_D.of (code := am_k_198) rfl (L0 := [.int a]) rfl ?_
  generalize hres : (some (Value.int (am_b (fn_m_isAct a))), am_S f g) = res
  obtain ⟨K, hKd⟩ : ∃ K : Bool → Prop, K = fun z => (some (Value.int (am_b z)), am_S f g) = res := ⟨_, rfl⟩
  have hK : K (fn_m_isAct a) := by rw [hKd]; exact hres
  clear hres
  unfold fn_m_isAct at hK
  refine am_F.ops (pc' := 4) (L' := [.int a]) (S' := [.int 7, .int 0, .int a]) (μ' := (am_S f g)) 3 rfl ?_
  refine am_F.call rfl rfl (x_m_isIn a 0 7 f g ) (by decide) ?_
  show am_F _ _ 7 [.int a] [.int (am_b (fn_m_isIn a 0 7))] (am_S f g) _
  subst hKd
  exact am_F.eq (am_F.ret rfl (am_retB _ _)) hK
/-- AccessLatticeModel.has -/
def fn_m_has (bits : Int32) (i : Int32) : Bool := (if ((bits >>> (i &&& 31)) &&& 1) = 1 then true else false)
theorem x_m_has (bits : Int32) (i : Int32) (f : Nat → Nat → Int32) (g : Nat → Nat → Int64)  : am_D 0 145 2 [.int bits, .int i] (am_S f g) (some (Value.int (am_b (fn_m_has bits i))), am_S f g) := by
  refine am_D.of (code := am_k_145) rfl (L0 := [.int bits, .int i]) rfl ?_
  generalize hres : (some (Value.int (am_b (fn_m_has bits i))), am_S f g) = res
  obtain ⟨K, hKd⟩ : ∃ K : Bool → Prop, K = fun z => (some (Value.int (am_b z)), am_S f g) = res := ⟨_, rfl⟩
  have hK : K (fn_m_has bits i) := by rw [hKd]; exact hres
  clear hres
  unfold fn_m_has at hK
  refine am_F.ops (pc' := 6) (L' := [.int bits, .int i]) (S' := [.int 1, .int ((bits >>> (i &&& 31)) &&& 1)]) (μ' := (am_S f g)) 6 rfl ?_
  refine am_F.to (am_To.iteB (pc' := 14) (L2 := [.int bits, .int i]) (S2 := []) (μ2 := (am_S f g)) (a := true) (b := false) 1 rfl (fun c1 => ?_) (fun c1 => ?_)) ?_
  · intro res9 g9
    show am_F _ _ 9 [.int bits, .int i] [] (am_S f g) _
    refine am_F.ops (pc' := 14) (L' := [.int bits, .int i]) (S' := [.int 1]) (μ' := (am_S f g)) 2 rfl ?_
    exact g9
  · intro res9 g9
    show am_F _ _ 13 [.int bits, .int i] [] (am_S f g) _
    refine am_F.ops (pc' := 14) (L' := [.int bits, .int i]) (S' := [.int 0]) (μ' := (am_S f g)) 1 rfl ?_
    exact g9
  show am_F _ _ 14 [.int bits, .int i] [.int (am_b (if ((bits >>> (i &&& 31)) &&& 1) = 1 then true else false))] (am_S f g) _
  subst hKd
  exact am_F.eq (am_F.ret rfl (am_retB _ _)) hK
/-- AccessLatticeModel.ones -/
def st_m_ones_4 (bits : Int32) : Nat → Int32 → Int32 := fun i4 a4_1 => (a4_1 + ((bits >>> ((nI i4) &&& 31)) &&& 1))
def lf_m_ones_4 (bits : Int32) : Int32 := am_for (st_m_ones_4 bits) 31 0 0
def fn_m_ones (bits : Int32) : Int32 := (lf_m_ones_4 bits)
theorem lp_m_ones_4 (bits : Int32) (f : Nat → Nat → Int32) (g : Nat → Nat → Int64)  (res : Option Value × am_M) : ∀ (n i4 : Nat) (a4_1 : Int32) , i4 + n = 31 → (fun (z : Int32) => ∀ (wc : Value), am_F 0 am_k_162 24 [.int bits, .int z, wc] [] (am_S f g) res) (am_for (st_m_ones_4 bits) n i4 a4_1) → am_F 0 am_k_162 4 [.int bits, .int a4_1, .int (nI i4)] [] (am_S f g) res := by
  intro n
  induction n with
  | zero =>
    intro i4 a4_1 hi hK
    refine am_F.pos 3 rfl (by show 31 ≤ nI i4; rw [show (31 : Int32) = nI 31 from rfl]; exact nI_le (by omega) (by omega)) ?_
    exact hK _
  | succ n ih =>
    intro i4 a4_1 hi hK
    refine am_F.neg 3 rfl (by show ¬ 31 ≤ nI i4; rw [show (31 : Int32) = nI 31 from rfl]; exact nI_ge (by omega) (by omega)) ?_
    have hb4 : i4 < 31 := by omega
    show am_F _ _ 10 [.int bits, .int a4_1, .int (nI i4)] [] (am_S f g) _
    obtain ⟨K, hKd⟩ : ∃ K : (Int32) → Prop, K = fun s => (fun (z : Int32) => ∀ (wc : Value), am_F 0 am_k_162 24 [.int bits, .int z, wc] [] (am_S f g) res) (am_for (st_m_ones_4 bits) n (i4 + 1) s) := ⟨_, rfl⟩
    have hK : K ((st_m_ones_4 bits) i4 a4_1) := by rw [hKd]; exact hK
    unfold st_m_ones_4 at hK
    refine am_F.ops (pc' := 4) (L' := [.int bits, .int (a4_1 + ((bits >>> ((nI i4) &&& 31)) &&& 1)), .int ((nI i4) + 1)]) (S' := []) (μ' := (am_S f g)) 10 rfl ?_
    rw [nI_1 i4]
    subst hKd
    exact ih (i4 + 1) (a4_1 + ((bits >>> ((nI i4) &&& 31)) &&& 1)) (by omega)  hK
theorem x_m_ones (bits : Int32) (f : Nat → Nat → Int32) (g : Nat → Nat → Int64)  : am_D 0 162 3 [.int bits] (am_S f g) (some (Value.int (fn_m_ones bits)), am_S f g) := by
  refine am_D.of (code := am_k_162) rfl (L0 := [.int bits, am_un, am_un]) rfl ?_
  generalize hres : (some (Value.int (fn_m_ones bits)), am_S f g) = res
  obtain ⟨K, hKd⟩ : ∃ K : Int32 → Prop, K = fun z => (some (Value.int z), am_S f g) = res := ⟨_, rfl⟩
  have hK : K (fn_m_ones bits) := by rw [hKd]; exact hres
  clear hres
  unfold fn_m_ones at hK
  refine am_F.ops (pc' := 4) (L' := [.int bits, .int 0, .int 0]) (S' := []) (μ' := (am_S f g)) 4 rfl ?_
  show am_F _ _ 4 [.int bits, .int 0, .int (nI 0)] [] (am_S f g) _
  refine lp_m_ones_4 bits f g  _ 31 0 0  (by omega)  ?_
  rw [show am_for (st_m_ones_4 bits) 31 0 0 = (lf_m_ones_4 bits) from rfl]
  generalize (lf_m_ones_4 bits) = z4_1 at hK ⊢
  intro wc
  show am_F _ _ 24 [.int bits, .int z4_1, wc] [] (am_S f g) _
  refine am_F.ops (pc' := 25) (L' := [.int bits, .int z4_1, wc]) (S' := [.int z4_1]) (μ' := (am_S f g)) 1 rfl ?_
  subst hKd
  exact am_F.eq (am_F.ret rfl rfl) hK
/-- AccessLatticeModel.isAsk -/
def fn_m_isAsk (u : Int32) (a : Int32) (t : Int32) : Bool := (bif (fn_m_isOne u) then (bif (fn_m_isAct a) then (bif (fn_m_isOne t) then true else false) else false) else false)
theorem x_m_isAsk (u : Int32) (a : Int32) (t : Int32) (f : Nat → Nat → Int32) (g : Nat → Nat → Int64)  : am_D 2 197 3 [.int u, .int a, .int t] (am_S f g) (some (Value.int (am_b (fn_m_isAsk u a t))), am_S f g) := by
  refine am_D.of (code := am_k_197) rfl (L0 := [.int u, .int a, .int t]) rfl ?_
  generalize hres : (some (Value.int (am_b (fn_m_isAsk u a t))), am_S f g) = res
  obtain ⟨K, hKd⟩ : ∃ K : Bool → Prop, K = fun z => (some (Value.int (am_b z)), am_S f g) = res := ⟨_, rfl⟩
  have hK : K (fn_m_isAsk u a t) := by rw [hKd]; exact hres
  clear hres
  unfold fn_m_isAsk at hK
  refine am_F.ops (pc' := 1) (L' := [.int u, .int a, .int t]) (S' := [.int u]) (μ' := (am_S f g)) 1 rfl ?_
  refine am_F.call rfl rfl (x_m_isOne u f g ) (by decide) ?_
  show am_F _ _ 4 [.int u, .int a, .int t] [.int (am_b (fn_m_isOne u))] (am_S f g) _
  refine am_F.to (am_To.bifB (pc' := 26) (L2 := [.int u, .int a, .int t]) (S2 := []) (μ2 := (am_S f g)) (a := (bif (fn_m_isAct a) then (bif (fn_m_isOne t) then true else false) else false)) (b := false) 1 rfl (fun c1 => ?_) (fun c1 => ?_)) ?_
  · intro res9 g9
    show am_F _ _ 7 [.int u, .int a, .int t] [] (am_S f g) _
    refine am_F.ops (pc' := 8) (L' := [.int u, .int a, .int t]) (S' := [.int a]) (μ' := (am_S f g)) 1 rfl ?_
    refine am_F.call rfl rfl (x_m_isAct a f g ) (by decide) ?_
    show am_F _ _ 11 [.int u, .int a, .int t] [.int (am_b (fn_m_isAct a))] (am_S f g) _
    refine am_F.to (am_To.bifB (pc' := 26) (L2 := [.int u, .int a, .int t]) (S2 := []) (μ2 := (am_S f g)) (a := (bif (fn_m_isOne t) then true else false)) (b := false) 1 rfl (fun c2 => ?_) (fun c2 => ?_)) g9
    · intro res9 g9
      show am_F _ _ 14 [.int u, .int a, .int t] [] (am_S f g) _
      refine am_F.ops (pc' := 15) (L' := [.int u, .int a, .int t]) (S' := [.int t]) (μ' := (am_S f g)) 1 rfl ?_
      refine am_F.call rfl rfl (x_m_isOne t f g ) (by decide) ?_
      show am_F _ _ 18 [.int u, .int a, .int t] [.int (am_b (fn_m_isOne t))] (am_S f g) _
      refine am_F.to (am_To.bifB (pc' := 26) (L2 := [.int u, .int a, .int t]) (S2 := []) (μ2 := (am_S f g)) (a := true) (b := false) 1 rfl (fun c3 => ?_) (fun c3 => ?_)) g9
      · intro res9 g9
        show am_F _ _ 21 [.int u, .int a, .int t] [] (am_S f g) _
        refine am_F.ops (pc' := 26) (L' := [.int u, .int a, .int t]) (S' := [.int 1]) (μ' := (am_S f g)) 2 rfl ?_
        exact g9
      · intro res9 g9
        show am_F _ _ 25 [.int u, .int a, .int t] [] (am_S f g) _
        refine am_F.ops (pc' := 26) (L' := [.int u, .int a, .int t]) (S' := [.int 0]) (μ' := (am_S f g)) 1 rfl ?_
        exact g9
    · intro res9 g9
      show am_F _ _ 25 [.int u, .int a, .int t] [] (am_S f g) _
      refine am_F.ops (pc' := 26) (L' := [.int u, .int a, .int t]) (S' := [.int 0]) (μ' := (am_S f g)) 1 rfl ?_
      exact g9
  · intro res9 g9
    show am_F _ _ 25 [.int u, .int a, .int t] [] (am_S f g) _
    refine am_F.ops (pc' := 26) (L' := [.int u, .int a, .int t]) (S' := [.int 0]) (μ' := (am_S f g)) 1 rfl ?_
    exact g9
  show am_F _ _ 26 [.int u, .int a, .int t] [.int (am_b (bif (fn_m_isOne u) then (bif (fn_m_isAct a) then (bif (fn_m_isOne t) then true else false) else false) else false))] (am_S f g) _
  subst hKd
  exact am_F.eq (am_F.ret rfl (am_retB _ _)) hK
/-- AccessLatticeModel.copies -/
def st_m_copiesSI_2 (f : Nat → Nat → Int32) : Nat → (Nat → Int32) → (Nat → Int32) := fun i2 r2_90 => (upd r2_90 i2 (f 89 i2))
def lf_m_copiesSI_2 (f : Nat → Nat → Int32) : (Nat → Int32) := am_for (st_m_copiesSI_2 f) 3340 0 (f 90)
def fn_m_copiesSI (f : Nat → Nat → Int32) : (Nat → Int32) := (lf_m_copiesSI_2 f)
theorem lp_m_copiesSI_2 (f : Nat → Nat → Int32) (g : Nat → Nat → Int64)  (res : Option Value × am_M) : ∀ (n i2 : Nat) (r2_90 : Nat → Int32) , i2 + n = 3340 → (fun (z : (Nat → Int32)) => ∀ (wc : Value), am_F 0 am_k_244 21 [.ref 89, .ref 90, wc] [] (am_S (am_row f 90 z) g) res) (am_for (st_m_copiesSI_2 f) n i2 r2_90) → am_F 0 am_k_244 2 [.ref 89, .ref 90, .int (nI i2)] [] (am_S (am_row f 90 r2_90) g) res := by
  intro n
  induction n with
  | zero =>
    intro i2 r2_90 hi hK
    refine am_F.pos 3 rfl (by show 3340 ≤ nI i2; rw [show (3340 : Int32) = nI 3340 from rfl]; exact nI_le (by omega) (by omega)) ?_
    exact hK _
  | succ n ih =>
    intro i2 r2_90 hi hK
    refine am_F.neg 3 rfl (by show ¬ 3340 ≤ nI i2; rw [show (3340 : Int32) = nI 3340 from rfl]; exact nI_ge (by omega) (by omega)) ?_
    have hb2 : i2 < 3340 := by omega
    show am_F _ _ 9 [.ref 89, .ref 90, .int (nI i2)] [] (am_S (am_row f 90 r2_90) g) _
    obtain ⟨K, hKd⟩ : ∃ K : ((Nat → Int32)) → Prop, K = fun s => (fun (z : (Nat → Int32)) => ∀ (wc : Value), am_F 0 am_k_244 21 [.ref 89, .ref 90, wc] [] (am_S (am_row f 90 z) g) res) (am_for (st_m_copiesSI_2 f) n (i2 + 1) s) := ⟨_, rfl⟩
    have hK : K ((st_m_copiesSI_2 f) i2 r2_90) := by rw [hKd]; exact hK
    unfold st_m_copiesSI_2 at hK
    refine am_F.ops (pc' := 13) (L' := [.ref 89, .ref 90, .int (nI i2)]) (S' := [.int (nI i2), .ref 89, .int (nI i2), .ref 90]) (μ' := (am_S (am_row f 90 r2_90) g)) 4 rfl ?_
    refine am_F.ialE (m := i2) (N := 3340) rfl rfl rfl rfl (by omega) (by decide) ?_
    show am_F _ _ 14 [.ref 89, .ref 90, .int (nI i2)] [.int (f 89 i2), .int (nI i2), .ref 90] (am_S (am_row f 90 r2_90) g) _
    refine am_F.iasE (F' := (am_row f 90 (upd r2_90 i2 (f 89 i2)))) (m := i2) (N := 3340) rfl rfl rfl rfl (by omega) (by decide) (by first | rfl | (funext a; by_cases z0 : a = 90; (subst z0; rfl); simp only [am_ui, am_ul, am_row_ne z0])) ?_
    refine am_F.ops (pc' := 2) (L' := [.ref 89, .ref 90, .int ((nI i2) + 1)]) (S' := []) (μ' := (am_S (am_row f 90 (upd r2_90 i2 (f 89 i2))) g)) 2 rfl ?_
    rw [nI_1 i2]
    subst hKd
    exact ih (i2 + 1) (upd r2_90 i2 (f 89 i2)) (by omega)  hK
theorem x_m_copiesSI (f : Nat → Nat → Int32) (g : Nat → Nat → Int64)  : am_D 0 244 3 [.ref 89, .ref 90] (am_S f g) ((none : Option Value), am_S (am_row f 90 (fn_m_copiesSI f)) g) := by
  refine am_D.of (code := am_k_244) rfl (L0 := [.ref 89, .ref 90, am_un]) rfl ?_
  generalize hres : ((none : Option Value), am_S (am_row f 90 (fn_m_copiesSI f)) g) = res
  obtain ⟨K, hKd⟩ : ∃ K : (Nat → Int32) → Prop, K = fun z => ((none : Option Value), am_S (am_row f 90 z) g) = res := ⟨_, rfl⟩
  have hK : K (fn_m_copiesSI f) := by rw [hKd]; exact hres
  clear hres
  unfold fn_m_copiesSI at hK
  refine am_F.ops (pc' := 2) (L' := [.ref 89, .ref 90, .int 0]) (S' := []) (μ' := (am_S f g)) 2 rfl ?_
  refine am_F.mem (F' := (am_row f 90 (f 90))) (G' := g) ?_ (by first | rfl | (funext a; by_cases z0 : a = 90; (subst z0; rfl); simp only [am_ui, am_ul, am_row_ne z0])) (by first | rfl | (funext a; by_cases z0 : a = 90; (subst z0; rfl); simp only [am_ui, am_ul, am_row_ne z0]))
  show am_F _ _ 2 [.ref 89, .ref 90, .int (nI 0)] [] (am_S (am_row f 90 (f 90)) g) _
  refine lp_m_copiesSI_2 f g  _ 3340 0 (f 90)  (by omega)  ?_
  rw [show am_for (st_m_copiesSI_2 f) 3340 0 (f 90) = (lf_m_copiesSI_2 f) from rfl]
  generalize (lf_m_copiesSI_2 f) = z2_1 at hK ⊢
  intro wc
  show am_F _ _ 21 [.ref 89, .ref 90, wc] [] (am_S (am_row f 90 z2_1) g) _
  subst hKd
  exact am_F.eq (am_F.ret rfl rfl) hK
/-- AccessLatticeModel.copies -/
def st_m_copiesIS_2 (f : Nat → Nat → Int32) : Nat → (Nat → Int32) → (Nat → Int32) := fun i2 r2_89 => (upd r2_89 i2 (f 90 i2))
def lf_m_copiesIS_2 (f : Nat → Nat → Int32) : (Nat → Int32) := am_for (st_m_copiesIS_2 f) 3340 0 (f 89)
def fn_m_copiesIS (f : Nat → Nat → Int32) : (Nat → Int32) := (lf_m_copiesIS_2 f)
theorem lp_m_copiesIS_2 (f : Nat → Nat → Int32) (g : Nat → Nat → Int64)  (res : Option Value × am_M) : ∀ (n i2 : Nat) (r2_89 : Nat → Int32) , i2 + n = 3340 → (fun (z : (Nat → Int32)) => ∀ (wc : Value), am_F 0 am_k_244 21 [.ref 90, .ref 89, wc] [] (am_S (am_row f 89 z) g) res) (am_for (st_m_copiesIS_2 f) n i2 r2_89) → am_F 0 am_k_244 2 [.ref 90, .ref 89, .int (nI i2)] [] (am_S (am_row f 89 r2_89) g) res := by
  intro n
  induction n with
  | zero =>
    intro i2 r2_89 hi hK
    refine am_F.pos 3 rfl (by show 3340 ≤ nI i2; rw [show (3340 : Int32) = nI 3340 from rfl]; exact nI_le (by omega) (by omega)) ?_
    exact hK _
  | succ n ih =>
    intro i2 r2_89 hi hK
    refine am_F.neg 3 rfl (by show ¬ 3340 ≤ nI i2; rw [show (3340 : Int32) = nI 3340 from rfl]; exact nI_ge (by omega) (by omega)) ?_
    have hb2 : i2 < 3340 := by omega
    show am_F _ _ 9 [.ref 90, .ref 89, .int (nI i2)] [] (am_S (am_row f 89 r2_89) g) _
    obtain ⟨K, hKd⟩ : ∃ K : ((Nat → Int32)) → Prop, K = fun s => (fun (z : (Nat → Int32)) => ∀ (wc : Value), am_F 0 am_k_244 21 [.ref 90, .ref 89, wc] [] (am_S (am_row f 89 z) g) res) (am_for (st_m_copiesIS_2 f) n (i2 + 1) s) := ⟨_, rfl⟩
    have hK : K ((st_m_copiesIS_2 f) i2 r2_89) := by rw [hKd]; exact hK
    unfold st_m_copiesIS_2 at hK
    refine am_F.ops (pc' := 13) (L' := [.ref 90, .ref 89, .int (nI i2)]) (S' := [.int (nI i2), .ref 90, .int (nI i2), .ref 89]) (μ' := (am_S (am_row f 89 r2_89) g)) 4 rfl ?_
    refine am_F.ialE (m := i2) (N := 3340) rfl rfl rfl rfl (by omega) (by decide) ?_
    show am_F _ _ 14 [.ref 90, .ref 89, .int (nI i2)] [.int (f 90 i2), .int (nI i2), .ref 89] (am_S (am_row f 89 r2_89) g) _
    refine am_F.iasE (F' := (am_row f 89 (upd r2_89 i2 (f 90 i2)))) (m := i2) (N := 3340) rfl rfl rfl rfl (by omega) (by decide) (by first | rfl | (funext a; by_cases z0 : a = 89; (subst z0; rfl); simp only [am_ui, am_ul, am_row_ne z0])) ?_
    refine am_F.ops (pc' := 2) (L' := [.ref 90, .ref 89, .int ((nI i2) + 1)]) (S' := []) (μ' := (am_S (am_row f 89 (upd r2_89 i2 (f 90 i2))) g)) 2 rfl ?_
    rw [nI_1 i2]
    subst hKd
    exact ih (i2 + 1) (upd r2_89 i2 (f 90 i2)) (by omega)  hK
theorem x_m_copiesIS (f : Nat → Nat → Int32) (g : Nat → Nat → Int64)  : am_D 0 244 3 [.ref 90, .ref 89] (am_S f g) ((none : Option Value), am_S (am_row f 89 (fn_m_copiesIS f)) g) := by
  refine am_D.of (code := am_k_244) rfl (L0 := [.ref 90, .ref 89, am_un]) rfl ?_
  generalize hres : ((none : Option Value), am_S (am_row f 89 (fn_m_copiesIS f)) g) = res
  obtain ⟨K, hKd⟩ : ∃ K : (Nat → Int32) → Prop, K = fun z => ((none : Option Value), am_S (am_row f 89 z) g) = res := ⟨_, rfl⟩
  have hK : K (fn_m_copiesIS f) := by rw [hKd]; exact hres
  clear hres
  unfold fn_m_copiesIS at hK
  refine am_F.ops (pc' := 2) (L' := [.ref 90, .ref 89, .int 0]) (S' := []) (μ' := (am_S f g)) 2 rfl ?_
  refine am_F.mem (F' := (am_row f 89 (f 89))) (G' := g) ?_ (by first | rfl | (funext a; by_cases z0 : a = 89; (subst z0; rfl); simp only [am_ui, am_ul, am_row_ne z0])) (by first | rfl | (funext a; by_cases z0 : a = 89; (subst z0; rfl); simp only [am_ui, am_ul, am_row_ne z0]))
  show am_F _ _ 2 [.ref 90, .ref 89, .int (nI 0)] [] (am_S (am_row f 89 (f 89)) g) _
  refine lp_m_copiesIS_2 f g  _ 3340 0 (f 89)  (by omega)  ?_
  rw [show am_for (st_m_copiesIS_2 f) 3340 0 (f 89) = (lf_m_copiesIS_2 f) from rfl]
  generalize (lf_m_copiesIS_2 f) = z2_1 at hK ⊢
  intro wc
  show am_F _ _ 21 [.ref 90, .ref 89, wc] [] (am_S (am_row f 89 z2_1) g) _
  subst hKd
  exact am_F.eq (am_F.ret rfl rfl) hK
/-- AccessLatticeModel.copies -/
def st_m_copiesSM_2 (f : Nat → Nat → Int32) : Nat → (Nat → Int32) → (Nat → Int32) := fun i2 r2_91 => (upd r2_91 i2 (f 89 i2))
def lf_m_copiesSM_2 (f : Nat → Nat → Int32) : (Nat → Int32) := am_for (st_m_copiesSM_2 f) 3340 0 (f 91)
def fn_m_copiesSM (f : Nat → Nat → Int32) : (Nat → Int32) := (lf_m_copiesSM_2 f)
theorem lp_m_copiesSM_2 (f : Nat → Nat → Int32) (g : Nat → Nat → Int64)  (res : Option Value × am_M) : ∀ (n i2 : Nat) (r2_91 : Nat → Int32) , i2 + n = 3340 → (fun (z : (Nat → Int32)) => ∀ (wc : Value), am_F 0 am_k_244 21 [.ref 89, .ref 91, wc] [] (am_S (am_row f 91 z) g) res) (am_for (st_m_copiesSM_2 f) n i2 r2_91) → am_F 0 am_k_244 2 [.ref 89, .ref 91, .int (nI i2)] [] (am_S (am_row f 91 r2_91) g) res := by
  intro n
  induction n with
  | zero =>
    intro i2 r2_91 hi hK
    refine am_F.pos 3 rfl (by show 3340 ≤ nI i2; rw [show (3340 : Int32) = nI 3340 from rfl]; exact nI_le (by omega) (by omega)) ?_
    exact hK _
  | succ n ih =>
    intro i2 r2_91 hi hK
    refine am_F.neg 3 rfl (by show ¬ 3340 ≤ nI i2; rw [show (3340 : Int32) = nI 3340 from rfl]; exact nI_ge (by omega) (by omega)) ?_
    have hb2 : i2 < 3340 := by omega
    show am_F _ _ 9 [.ref 89, .ref 91, .int (nI i2)] [] (am_S (am_row f 91 r2_91) g) _
    obtain ⟨K, hKd⟩ : ∃ K : ((Nat → Int32)) → Prop, K = fun s => (fun (z : (Nat → Int32)) => ∀ (wc : Value), am_F 0 am_k_244 21 [.ref 89, .ref 91, wc] [] (am_S (am_row f 91 z) g) res) (am_for (st_m_copiesSM_2 f) n (i2 + 1) s) := ⟨_, rfl⟩
    have hK : K ((st_m_copiesSM_2 f) i2 r2_91) := by rw [hKd]; exact hK
    unfold st_m_copiesSM_2 at hK
    refine am_F.ops (pc' := 13) (L' := [.ref 89, .ref 91, .int (nI i2)]) (S' := [.int (nI i2), .ref 89, .int (nI i2), .ref 91]) (μ' := (am_S (am_row f 91 r2_91) g)) 4 rfl ?_
    refine am_F.ialE (m := i2) (N := 3340) rfl rfl rfl rfl (by omega) (by decide) ?_
    show am_F _ _ 14 [.ref 89, .ref 91, .int (nI i2)] [.int (f 89 i2), .int (nI i2), .ref 91] (am_S (am_row f 91 r2_91) g) _
    refine am_F.iasE (F' := (am_row f 91 (upd r2_91 i2 (f 89 i2)))) (m := i2) (N := 3340) rfl rfl rfl rfl (by omega) (by decide) (by first | rfl | (funext a; by_cases z0 : a = 91; (subst z0; rfl); simp only [am_ui, am_ul, am_row_ne z0])) ?_
    refine am_F.ops (pc' := 2) (L' := [.ref 89, .ref 91, .int ((nI i2) + 1)]) (S' := []) (μ' := (am_S (am_row f 91 (upd r2_91 i2 (f 89 i2))) g)) 2 rfl ?_
    rw [nI_1 i2]
    subst hKd
    exact ih (i2 + 1) (upd r2_91 i2 (f 89 i2)) (by omega)  hK
theorem x_m_copiesSM (f : Nat → Nat → Int32) (g : Nat → Nat → Int64)  : am_D 0 244 3 [.ref 89, .ref 91] (am_S f g) ((none : Option Value), am_S (am_row f 91 (fn_m_copiesSM f)) g) := by
  refine am_D.of (code := am_k_244) rfl (L0 := [.ref 89, .ref 91, am_un]) rfl ?_
  generalize hres : ((none : Option Value), am_S (am_row f 91 (fn_m_copiesSM f)) g) = res
  obtain ⟨K, hKd⟩ : ∃ K : (Nat → Int32) → Prop, K = fun z => ((none : Option Value), am_S (am_row f 91 z) g) = res := ⟨_, rfl⟩
  have hK : K (fn_m_copiesSM f) := by rw [hKd]; exact hres
  clear hres
  unfold fn_m_copiesSM at hK
  refine am_F.ops (pc' := 2) (L' := [.ref 89, .ref 91, .int 0]) (S' := []) (μ' := (am_S f g)) 2 rfl ?_
  refine am_F.mem (F' := (am_row f 91 (f 91))) (G' := g) ?_ (by first | rfl | (funext a; by_cases z0 : a = 91; (subst z0; rfl); simp only [am_ui, am_ul, am_row_ne z0])) (by first | rfl | (funext a; by_cases z0 : a = 91; (subst z0; rfl); simp only [am_ui, am_ul, am_row_ne z0]))
  show am_F _ _ 2 [.ref 89, .ref 91, .int (nI 0)] [] (am_S (am_row f 91 (f 91)) g) _
  refine lp_m_copiesSM_2 f g  _ 3340 0 (f 91)  (by omega)  ?_
  rw [show am_for (st_m_copiesSM_2 f) 3340 0 (f 91) = (lf_m_copiesSM_2 f) from rfl]
  generalize (lf_m_copiesSM_2 f) = z2_1 at hK ⊢
  intro wc
  show am_F _ _ 21 [.ref 89, .ref 91, wc] [] (am_S (am_row f 91 z2_1) g) _
  subst hKd
  exact am_F.eq (am_F.ret rfl rfl) hK
/-- AccessLatticeModel.copies -/
def st_m_copiesMS_2 (f : Nat → Nat → Int32) : Nat → (Nat → Int32) → (Nat → Int32) := fun i2 r2_89 => (upd r2_89 i2 (f 91 i2))
def lf_m_copiesMS_2 (f : Nat → Nat → Int32) : (Nat → Int32) := am_for (st_m_copiesMS_2 f) 3340 0 (f 89)
def fn_m_copiesMS (f : Nat → Nat → Int32) : (Nat → Int32) := (lf_m_copiesMS_2 f)
theorem lp_m_copiesMS_2 (f : Nat → Nat → Int32) (g : Nat → Nat → Int64)  (res : Option Value × am_M) : ∀ (n i2 : Nat) (r2_89 : Nat → Int32) , i2 + n = 3340 → (fun (z : (Nat → Int32)) => ∀ (wc : Value), am_F 0 am_k_244 21 [.ref 91, .ref 89, wc] [] (am_S (am_row f 89 z) g) res) (am_for (st_m_copiesMS_2 f) n i2 r2_89) → am_F 0 am_k_244 2 [.ref 91, .ref 89, .int (nI i2)] [] (am_S (am_row f 89 r2_89) g) res := by
  intro n
  induction n with
  | zero =>
    intro i2 r2_89 hi hK
    refine am_F.pos 3 rfl (by show 3340 ≤ nI i2; rw [show (3340 : Int32) = nI 3340 from rfl]; exact nI_le (by omega) (by omega)) ?_
    exact hK _
  | succ n ih =>
    intro i2 r2_89 hi hK
    refine am_F.neg 3 rfl (by show ¬ 3340 ≤ nI i2; rw [show (3340 : Int32) = nI 3340 from rfl]; exact nI_ge (by omega) (by omega)) ?_
    have hb2 : i2 < 3340 := by omega
    show am_F _ _ 9 [.ref 91, .ref 89, .int (nI i2)] [] (am_S (am_row f 89 r2_89) g) _
    obtain ⟨K, hKd⟩ : ∃ K : ((Nat → Int32)) → Prop, K = fun s => (fun (z : (Nat → Int32)) => ∀ (wc : Value), am_F 0 am_k_244 21 [.ref 91, .ref 89, wc] [] (am_S (am_row f 89 z) g) res) (am_for (st_m_copiesMS_2 f) n (i2 + 1) s) := ⟨_, rfl⟩
    have hK : K ((st_m_copiesMS_2 f) i2 r2_89) := by rw [hKd]; exact hK
    unfold st_m_copiesMS_2 at hK
    refine am_F.ops (pc' := 13) (L' := [.ref 91, .ref 89, .int (nI i2)]) (S' := [.int (nI i2), .ref 91, .int (nI i2), .ref 89]) (μ' := (am_S (am_row f 89 r2_89) g)) 4 rfl ?_
    refine am_F.ialE (m := i2) (N := 3340) rfl rfl rfl rfl (by omega) (by decide) ?_
    show am_F _ _ 14 [.ref 91, .ref 89, .int (nI i2)] [.int (f 91 i2), .int (nI i2), .ref 89] (am_S (am_row f 89 r2_89) g) _
    refine am_F.iasE (F' := (am_row f 89 (upd r2_89 i2 (f 91 i2)))) (m := i2) (N := 3340) rfl rfl rfl rfl (by omega) (by decide) (by first | rfl | (funext a; by_cases z0 : a = 89; (subst z0; rfl); simp only [am_ui, am_ul, am_row_ne z0])) ?_
    refine am_F.ops (pc' := 2) (L' := [.ref 91, .ref 89, .int ((nI i2) + 1)]) (S' := []) (μ' := (am_S (am_row f 89 (upd r2_89 i2 (f 91 i2))) g)) 2 rfl ?_
    rw [nI_1 i2]
    subst hKd
    exact ih (i2 + 1) (upd r2_89 i2 (f 91 i2)) (by omega)  hK
theorem x_m_copiesMS (f : Nat → Nat → Int32) (g : Nat → Nat → Int64)  : am_D 0 244 3 [.ref 91, .ref 89] (am_S f g) ((none : Option Value), am_S (am_row f 89 (fn_m_copiesMS f)) g) := by
  refine am_D.of (code := am_k_244) rfl (L0 := [.ref 91, .ref 89, am_un]) rfl ?_
  generalize hres : ((none : Option Value), am_S (am_row f 89 (fn_m_copiesMS f)) g) = res
  obtain ⟨K, hKd⟩ : ∃ K : (Nat → Int32) → Prop, K = fun z => ((none : Option Value), am_S (am_row f 89 z) g) = res := ⟨_, rfl⟩
  have hK : K (fn_m_copiesMS f) := by rw [hKd]; exact hres
  clear hres
  unfold fn_m_copiesMS at hK
  refine am_F.ops (pc' := 2) (L' := [.ref 91, .ref 89, .int 0]) (S' := []) (μ' := (am_S f g)) 2 rfl ?_
  refine am_F.mem (F' := (am_row f 89 (f 89))) (G' := g) ?_ (by first | rfl | (funext a; by_cases z0 : a = 89; (subst z0; rfl); simp only [am_ui, am_ul, am_row_ne z0])) (by first | rfl | (funext a; by_cases z0 : a = 89; (subst z0; rfl); simp only [am_ui, am_ul, am_row_ne z0]))
  show am_F _ _ 2 [.ref 91, .ref 89, .int (nI 0)] [] (am_S (am_row f 89 (f 89)) g) _
  refine lp_m_copiesMS_2 f g  _ 3340 0 (f 89)  (by omega)  ?_
  rw [show am_for (st_m_copiesMS_2 f) 3340 0 (f 89) = (lf_m_copiesMS_2 f) from rfl]
  generalize (lf_m_copiesMS_2 f) = z2_1 at hK ⊢
  intro wc
  show am_F _ _ 21 [.ref 91, .ref 89, wc] [] (am_S (am_row f 89 z2_1) g) _
  subst hKd
  exact am_F.eq (am_F.ret rfl rfl) hK
/-- AccessLatticeModel.loanAt -/
def fn_m_loanAt (l : Nat) (w : Nat) (f : Nat → Nat → Int32) : Int32 := f 89 ((210 + (7 * l)) + w)
theorem x_m_loanAt (l : Nat) (w : Nat) (f : Nat → Nat → Int32) (g : Nat → Nat → Int64) (hl : l < 40) (hw : w < 7) : am_D 0 158 3 [.ref 88, .int (nI l), .int (nI w)] (am_S f g) (some (Value.int (fn_m_loanAt l w f)), am_S f g) := by
  refine am_D.of (code := am_k_158) rfl (L0 := [.ref 88, .int (nI l), .int (nI w)]) rfl ?_
  generalize hres : (some (Value.int (fn_m_loanAt l w f)), am_S f g) = res
  obtain ⟨K, hKd⟩ : ∃ K : Int32 → Prop, K = fun z => (some (Value.int z), am_S f g) = res := ⟨_, rfl⟩
  have hK : K (fn_m_loanAt l w f) := by rw [hKd]; exact hres
  clear hres
  unfold fn_m_loanAt at hK
  refine am_F.ops (pc' := 14) (L' := [.ref 88, .int (nI l), .int (nI w)]) (S' := [.int ((210 + (7 * (nI l))) + (nI w)), .ref 89]) (μ' := (am_S f g)) 9 rfl ?_
  refine am_F.ialE (m := ((210 + (7 * l)) + w)) (N := 3340) rfl rfl rfl (am_addE (am_addE rfl (am_mulE rfl rfl)) rfl) (by omega) (by decide) ?_
  show am_F _ _ 15 [.ref 88, .int (nI l), .int (nI w)] [.int (f 89 ((210 + (7 * l)) + w))] (am_S f g) _
  subst hKd
  exact am_F.eq (am_F.ret rfl rfl) hK
/-- AccessLatticeModel.ruleAt -/
def fn_m_ruleAt (r : Nat) (w : Nat) (f : Nat → Nat → Int32) : Int32 := f 89 ((490 + (9 * r)) + w)
theorem x_m_ruleAt (r : Nat) (w : Nat) (f : Nat → Nat → Int32) (g : Nat → Nat → Int64) (hr : r < 30) (hw : w < 9) : am_D 0 190 3 [.ref 88, .int (nI r), .int (nI w)] (am_S f g) (some (Value.int (fn_m_ruleAt r w f)), am_S f g) := by
  refine am_D.of (code := am_k_190) rfl (L0 := [.ref 88, .int (nI r), .int (nI w)]) rfl ?_
  generalize hres : (some (Value.int (fn_m_ruleAt r w f)), am_S f g) = res
  obtain ⟨K, hKd⟩ : ∃ K : Int32 → Prop, K = fun z => (some (Value.int z), am_S f g) = res := ⟨_, rfl⟩
  have hK : K (fn_m_ruleAt r w f) := by rw [hKd]; exact hres
  clear hres
  unfold fn_m_ruleAt at hK
  refine am_F.ops (pc' := 14) (L' := [.ref 88, .int (nI r), .int (nI w)]) (S' := [.int ((490 + (9 * (nI r))) + (nI w)), .ref 89]) (μ' := (am_S f g)) 9 rfl ?_
  refine am_F.ialE (m := ((490 + (9 * r)) + w)) (N := 3340) rfl rfl rfl (am_addE (am_addE rfl (am_mulE rfl rfl)) rfl) (by omega) (by decide) ?_
  show am_F _ _ 15 [.ref 88, .int (nI r), .int (nI w)] [.int (f 89 ((490 + (9 * r)) + w))] (am_S f g) _
  subst hKd
  exact am_F.eq (am_F.ret rfl rfl) hK
theorem am_mIn {v lo hi : Int32} (h : fn_m_isIn v lo hi = true) : lo ≤ v ∧ v ≤ hi := by
  unfold fn_m_isIn at h
  by_cases h1 : lo ≤ v
  · by_cases h2 : v ≤ hi
    · exact ⟨h1, h2⟩
    · rw [if_neg (by first | exact Int32.not_lt.mpr h1 | exact fun z => z h1), if_pos (Int32.not_le.mp h2)] at h; cases h
  · rw [if_pos (Int32.not_le.mp h1)] at h; cases h
theorem am_mInN {v hi : Int32} {N : Nat} (h : fn_m_isIn v 0 hi = true) (hN : hi.toInt = (N : Int) - 1) : ∃ n : Nat, n < N ∧ v = nI n := by
  obtain ⟨h1, h2⟩ := am_mIn h
  rw [Int32.le_iff_toInt_le] at h1 h2
  have h0 : (0 : Int32).toInt = 0 := rfl
  obtain ⟨j, h3, h4⟩ := nI_of (x := v) (by rw [Int32.lt_iff_toInt_lt]; omega)
  refine ⟨j, ?_, h4⟩
  rw [h4, nI_toInt h3] at h2
  omega
theorem am_mOne {v : Int32} (h : fn_m_isOne v = true) : ∃ n : Nat, n < 16 ∧ v = nI n := am_mInN h (by decide)
theorem am_mRole {v : Int32} (h : fn_m_isRole v = true) : ∃ n : Nat, n < 20 ∧ v = nI n := am_mInN h (by decide)
theorem am_mAct {v : Int32} (h : fn_m_isAct v = true) : ∃ n : Nat, n < 8 ∧ v = nI n := am_mInN h (by decide)
theorem am_mInM {v r : Int32} {n : Nat} (h : fn_m_isIn v 0 (r - 1) = true) (hr : r = nI n) (hn : n ≤ 65536) : ∃ j : Nat, j < n ∧ v = nI j := by
  obtain ⟨h1, h2⟩ := am_mIn h
  rw [Int32.le_iff_toInt_le] at h1 h2
  have h0 : (0 : Int32).toInt = 0 := rfl
  obtain ⟨j, h3, h4⟩ := nI_of (x := v) (by rw [Int32.lt_iff_toInt_lt]; omega)
  refine ⟨j, ?_, h4⟩
  have e1 : (r - 1).toInt = (n : Int) - 1 := by
    rw [hr, Int32.toInt_sub, nI_toInt (by omega), show (1 : Int32).toInt = 1 from rfl]
    refine Int.bmod_eq_of_le ?_ ?_ <;> first | omega | (simp only [Int32.size]; omega)
  rw [h4, nI_toInt h3, e1] at h2
  omega
theorem am_mAsk {u a t : Int32} (h : fn_m_isAsk u a t = true) : (∃ n : Nat, n < 16 ∧ u = nI n) ∧ (∃ n : Nat, n < 8 ∧ a = nI n) ∧ ∃ n : Nat, n < 16 ∧ t = nI n := by
  unfold fn_m_isAsk at h
  cases h1 : fn_m_isOne u <;> cases h2 : fn_m_isAct a <;> cases h3 : fn_m_isOne t <;> rw [h1, h2, h3] at h <;> first | (cases h; done) | exact ⟨am_mOne h1, am_mAct h2, am_mOne h3⟩
/-- AccessLatticeModel.isRule -/
def fn_m_isRule (r : Int32) (f : Nat → Nat → Int32) : Bool := (bif (fn_m_isIn r 0 ((f 89 202) - 1)) then (if (fn_m_ruleAt (r.toNatClampNeg) 0 f) = 2 then false else true) else false)
theorem x_m_isRule (r : Int32) (f : Nat → Nat → Int32) (g : Nat → Nat → Int64) (hrC : f 89 202 = nI (f 89 202).toNatClampNeg) (hrN : (f 89 202).toNatClampNeg ≤ 30) : am_D 1 189 2 [.ref 88, .int r] (am_S f g) (some (Value.int (am_b (fn_m_isRule r f))), am_S f g) := by
  refine am_D.of (code := am_k_189) rfl (L0 := [.ref 88, .int r]) rfl ?_
  generalize hres : (some (Value.int (am_b (fn_m_isRule r f))), am_S f g) = res
  obtain ⟨K, hKd⟩ : ∃ K : Bool → Prop, K = fun z => (some (Value.int (am_b z)), am_S f g) = res := ⟨_, rfl⟩
  have hK : K (fn_m_isRule r f) := by rw [hKd]; exact hres
  clear hres
  unfold fn_m_isRule at hK
  refine am_F.ops (pc' := 12) (L' := [.ref 88, .int r]) (S' := [.int ((f 89 202) - 1), .int 0, .int r]) (μ' := (am_S f g)) 8 rfl ?_
  refine am_F.call rfl rfl (x_m_isIn r 0 ((f 89 202) - 1) f g ) (by decide) ?_
  show am_F _ _ 15 [.ref 88, .int r] [.int (am_b (fn_m_isIn r 0 ((f 89 202) - 1)))] (am_S f g) _
  refine am_F.bifK 1 rfl K hK (fun c2 hK => ?_) (fun c2 hK => ?_)
  · obtain ⟨r_n, hr_n, er_n⟩ := am_mInM c2 hrC (by omega)
    subst er_n
    try simp only [nI_clamp (show r_n < 2147483648 by omega)] at hK
    show am_F _ _ 18 [.ref 88, .int (nI r_n)] [] (am_S f g) _
    refine am_F.ops (pc' := 21) (L' := [.ref 88, .int (nI r_n)]) (S' := [.int 0, .int (nI r_n), .ref 88]) (μ' := (am_S f g)) 3 rfl ?_
    refine am_F.call rfl rfl (by rw [show (0 : Int32) = nI 0 from rfl]; exact (x_m_ruleAt r_n 0 f g (by omega) (by omega))) (by decide) ?_
    show am_F _ _ 24 [.ref 88, .int (nI r_n)] [.int (fn_m_ruleAt r_n 0 f)] (am_S f g) _
    refine am_F.ops (pc' := 25) (L' := [.ref 88, .int (nI r_n)]) (S' := [.int 2, .int (fn_m_ruleAt r_n 0 f)]) (μ' := (am_S f g)) 1 rfl ?_
    refine am_F.to (am_To.iteB (pc' := 33) (L2 := [.ref 88, .int (nI r_n)]) (S2 := []) (μ2 := (am_S f g)) (a := false) (b := true) 1 rfl (fun c3 => ?_) (fun c3 => ?_)) ?_
    · intro res9 g9
      show am_F _ _ 32 [.ref 88, .int (nI r_n)] [] (am_S f g) _
      refine am_F.ops (pc' := 33) (L' := [.ref 88, .int (nI r_n)]) (S' := [.int 0]) (μ' := (am_S f g)) 1 rfl ?_
      exact g9
    · intro res9 g9
      show am_F _ _ 28 [.ref 88, .int (nI r_n)] [] (am_S f g) _
      refine am_F.ops (pc' := 33) (L' := [.ref 88, .int (nI r_n)]) (S' := [.int 1]) (μ' := (am_S f g)) 2 rfl ?_
      exact g9
    show am_F _ _ 33 [.ref 88, .int (nI r_n)] [.int (am_b (if (fn_m_ruleAt r_n 0 f) = 2 then false else true))] (am_S f g) _
    subst hKd
    exact am_F.eq (am_F.ret rfl (am_retB _ _)) hK
  · show am_F _ _ 32 [.ref 88, .int r] [] (am_S f g) _
    refine am_F.ops (pc' := 33) (L' := [.ref 88, .int r]) (S' := [.int 0]) (μ' := (am_S f g)) 1 rfl ?_
    subst hKd
    exact am_F.eq (am_F.ret rfl rfl) hK
theorem am_mRuleN {v : Int32} {f : Nat → Nat → Int32} {n : Nat} (hr : f 89 202 = nI n) (hn : n ≤ 65536) (h : fn_m_isRule v f = true) : ∃ j : Nat, j < n ∧ v = nI j := by
  unfold fn_m_isRule at h
  cases h1 : fn_m_isIn v 0 (f 89 202 - 1) with
  | true => exact am_mInM h1 hr hn
  | false => rw [h1] at h; cases h
/-- AccessLatticeModel.allUnder -/
def st_m_allUnder_4 (roles : Int32) (f : Nat → Nat → Int32) : Nat → Int32 → Int32 := fun i4 a4_2 => (a4_2 ||| (bif (fn_m_has roles (nI i4)) then f 92 i4 else 0))
def lf_m_allUnder_4 (roles : Int32) (f : Nat → Nat → Int32) : Int32 := am_for (st_m_allUnder_4 roles f) 20 0 0
def fn_m_allUnder (roles : Int32) (f : Nat → Nat → Int32) : Int32 := (lf_m_allUnder_4 roles f)
theorem lp_m_allUnder_4 (roles : Int32) (f : Nat → Nat → Int32) (g : Nat → Nat → Int64)  (res : Option Value × am_M) : ∀ (n i4 : Nat) (a4_2 : Int32) , i4 + n = 20 → (fun (z : Int32) => ∀ (wc : Value), am_F 1 am_k_156 37 [.ref 88, .int roles, .int z, wc] [] (am_S f g) res) (am_for (st_m_allUnder_4 roles f) n i4 a4_2) → am_F 1 am_k_156 4 [.ref 88, .int roles, .int a4_2, .int (nI i4)] [] (am_S f g) res := by
  intro n
  induction n with
  | zero =>
    intro i4 a4_2 hi hK
    refine am_F.pos 3 rfl (by show 20 ≤ nI i4; rw [show (20 : Int32) = nI 20 from rfl]; exact nI_le (by omega) (by omega)) ?_
    exact hK _
  | succ n ih =>
    intro i4 a4_2 hi hK
    refine am_F.neg 3 rfl (by show ¬ 20 ≤ nI i4; rw [show (20 : Int32) = nI 20 from rfl]; exact nI_ge (by omega) (by omega)) ?_
    have hb4 : i4 < 20 := by omega
    show am_F _ _ 10 [.ref 88, .int roles, .int a4_2, .int (nI i4)] [] (am_S f g) _
    obtain ⟨K, hKd⟩ : ∃ K : (Int32) → Prop, K = fun s => (fun (z : Int32) => ∀ (wc : Value), am_F 1 am_k_156 37 [.ref 88, .int roles, .int z, wc] [] (am_S f g) res) (am_for (st_m_allUnder_4 roles f) n (i4 + 1) s) := ⟨_, rfl⟩
    have hK : K ((st_m_allUnder_4 roles f) i4 a4_2) := by rw [hKd]; exact hK
    unfold st_m_allUnder_4 at hK
    refine am_F.ops (pc' := 13) (L' := [.ref 88, .int roles, .int a4_2, .int (nI i4)]) (S' := [.int (nI i4), .int roles, .int a4_2]) (μ' := (am_S f g)) 3 rfl ?_
    refine am_F.call rfl rfl (x_m_has roles (nI i4) f g ) (by decide) ?_
    show am_F _ _ 16 [.ref 88, .int roles, .int a4_2, .int (nI i4)] [.int (am_b (fn_m_has roles (nI i4))), .int a4_2] (am_S f g) _
    refine am_F.to (am_To.bif (pc' := 29) (L2 := [.ref 88, .int roles, .int a4_2, .int (nI i4)]) (S2 := [.int a4_2]) (μ2 := (am_S f g)) (a := f 92 i4) (b := 0) 1 rfl (fun c1 => ?_) (fun c1 => ?_)) ?_
    · intro res9 g9
      show am_F _ _ 19 [.ref 88, .int roles, .int a4_2, .int (nI i4)] [.int a4_2] (am_S f g) _
      refine am_F.ops (pc' := 24) (L' := [.ref 88, .int roles, .int a4_2, .int (nI i4)]) (S' := [.int (nI i4), .ref 92, .int a4_2]) (μ' := (am_S f g)) 3 rfl ?_
      refine am_F.ialE (m := i4) (N := 20) rfl rfl rfl rfl (by omega) (by decide) ?_
      show am_F _ _ 25 [.ref 88, .int roles, .int a4_2, .int (nI i4)] [.int (f 92 i4), .int a4_2] (am_S f g) _
      refine am_F.ops (pc' := 29) (L' := [.ref 88, .int roles, .int a4_2, .int (nI i4)]) (S' := [.int (f 92 i4), .int a4_2]) (μ' := (am_S f g)) 1 rfl ?_
      exact g9
    · intro res9 g9
      show am_F _ _ 28 [.ref 88, .int roles, .int a4_2, .int (nI i4)] [.int a4_2] (am_S f g) _
      refine am_F.ops (pc' := 29) (L' := [.ref 88, .int roles, .int a4_2, .int (nI i4)]) (S' := [.int 0, .int a4_2]) (μ' := (am_S f g)) 1 rfl ?_
      exact g9
    show am_F _ _ 29 [.ref 88, .int roles, .int a4_2, .int (nI i4)] [.int (bif (fn_m_has roles (nI i4)) then f 92 i4 else 0), .int a4_2] (am_S f g) _
    refine am_F.ops (pc' := 4) (L' := [.ref 88, .int roles, .int (a4_2 ||| (bif (fn_m_has roles (nI i4)) then f 92 i4 else 0)), .int ((nI i4) + 1)]) (S' := []) (μ' := (am_S f g)) 4 rfl ?_
    rw [nI_1 i4]
    subst hKd
    exact ih (i4 + 1) (a4_2 ||| (bif (fn_m_has roles (nI i4)) then f 92 i4 else 0)) (by omega)  hK
theorem x_m_allUnder (roles : Int32) (f : Nat → Nat → Int32) (g : Nat → Nat → Int64)  : am_D 1 156 4 [.ref 88, .int roles] (am_S f g) (some (Value.int (fn_m_allUnder roles f)), am_S f g) := by
  refine am_D.of (code := am_k_156) rfl (L0 := [.ref 88, .int roles, am_un, am_un]) rfl ?_
  generalize hres : (some (Value.int (fn_m_allUnder roles f)), am_S f g) = res
  obtain ⟨K, hKd⟩ : ∃ K : Int32 → Prop, K = fun z => (some (Value.int z), am_S f g) = res := ⟨_, rfl⟩
  have hK : K (fn_m_allUnder roles f) := by rw [hKd]; exact hres
  clear hres
  unfold fn_m_allUnder at hK
  refine am_F.ops (pc' := 4) (L' := [.ref 88, .int roles, .int 0, .int 0]) (S' := []) (μ' := (am_S f g)) 4 rfl ?_
  show am_F _ _ 4 [.ref 88, .int roles, .int 0, .int (nI 0)] [] (am_S f g) _
  refine lp_m_allUnder_4 roles f g  _ 20 0 0  (by omega)  ?_
  rw [show am_for (st_m_allUnder_4 roles f) 20 0 0 = (lf_m_allUnder_4 roles f) from rfl]
  generalize (lf_m_allUnder_4 roles f) = z4_2 at hK ⊢
  intro wc
  show am_F _ _ 37 [.ref 88, .int roles, .int z4_2, wc] [] (am_S f g) _
  refine am_F.ops (pc' := 38) (L' := [.ref 88, .int roles, .int z4_2, wc]) (S' := [.int z4_2]) (μ' := (am_S f g)) 1 rfl ?_
  subst hKd
  exact am_F.eq (am_F.ret rfl rfl) hK
/-- AccessLatticeModel.allAbove -/
def st_m_allAbove_4 (role : Int32) (f : Nat → Nat → Int32) : Nat → Int32 → Int32 := fun i4 a4_2 => (a4_2 ||| (bif (fn_m_has (f 92 i4) role) then 1 <<< ((nI i4) &&& 31) else 0))
def lf_m_allAbove_4 (role : Int32) (f : Nat → Nat → Int32) : Int32 := am_for (st_m_allAbove_4 role f) 20 0 0
def fn_m_allAbove (role : Int32) (f : Nat → Nat → Int32) : Int32 := (lf_m_allAbove_4 role f)
theorem lp_m_allAbove_4 (role : Int32) (f : Nat → Nat → Int32) (g : Nat → Nat → Int64)  (res : Option Value × am_M) : ∀ (n i4 : Nat) (a4_2 : Int32) , i4 + n = 20 → (fun (z : Int32) => ∀ (wc : Value), am_F 1 am_k_206 39 [.ref 88, .int role, .int z, wc] [] (am_S f g) res) (am_for (st_m_allAbove_4 role f) n i4 a4_2) → am_F 1 am_k_206 4 [.ref 88, .int role, .int a4_2, .int (nI i4)] [] (am_S f g) res := by
  intro n
  induction n with
  | zero =>
    intro i4 a4_2 hi hK
    refine am_F.pos 3 rfl (by show 20 ≤ nI i4; rw [show (20 : Int32) = nI 20 from rfl]; exact nI_le (by omega) (by omega)) ?_
    exact hK _
  | succ n ih =>
    intro i4 a4_2 hi hK
    refine am_F.neg 3 rfl (by show ¬ 20 ≤ nI i4; rw [show (20 : Int32) = nI 20 from rfl]; exact nI_ge (by omega) (by omega)) ?_
    have hb4 : i4 < 20 := by omega
    show am_F _ _ 10 [.ref 88, .int role, .int a4_2, .int (nI i4)] [] (am_S f g) _
    obtain ⟨K, hKd⟩ : ∃ K : (Int32) → Prop, K = fun s => (fun (z : Int32) => ∀ (wc : Value), am_F 1 am_k_206 39 [.ref 88, .int role, .int z, wc] [] (am_S f g) res) (am_for (st_m_allAbove_4 role f) n (i4 + 1) s) := ⟨_, rfl⟩
    have hK : K ((st_m_allAbove_4 role f) i4 a4_2) := by rw [hKd]; exact hK
    unfold st_m_allAbove_4 at hK
    refine am_F.ops (pc' := 16) (L' := [.ref 88, .int role, .int a4_2, .int (nI i4)]) (S' := [.int (nI i4), .ref 92, .int a4_2]) (μ' := (am_S f g)) 4 rfl ?_
    refine am_F.ialE (m := i4) (N := 20) rfl rfl rfl rfl (by omega) (by decide) ?_
    show am_F _ _ 17 [.ref 88, .int role, .int a4_2, .int (nI i4)] [.int (f 92 i4), .int a4_2] (am_S f g) _
    refine am_F.ops (pc' := 18) (L' := [.ref 88, .int role, .int a4_2, .int (nI i4)]) (S' := [.int role, .int (f 92 i4), .int a4_2]) (μ' := (am_S f g)) 1 rfl ?_
    refine am_F.call rfl rfl (x_m_has (f 92 i4) role f g ) (by decide) ?_
    show am_F _ _ 21 [.ref 88, .int role, .int a4_2, .int (nI i4)] [.int (am_b (fn_m_has (f 92 i4) role)), .int a4_2] (am_S f g) _
    refine am_F.to (am_To.bif (pc' := 31) (L2 := [.ref 88, .int role, .int a4_2, .int (nI i4)]) (S2 := [.int a4_2]) (μ2 := (am_S f g)) (a := 1 <<< ((nI i4) &&& 31)) (b := 0) 1 rfl (fun c1 => ?_) (fun c1 => ?_)) ?_
    · intro res9 g9
      show am_F _ _ 24 [.ref 88, .int role, .int a4_2, .int (nI i4)] [.int a4_2] (am_S f g) _
      refine am_F.ops (pc' := 31) (L' := [.ref 88, .int role, .int a4_2, .int (nI i4)]) (S' := [.int (1 <<< ((nI i4) &&& 31)), .int a4_2]) (μ' := (am_S f g)) 4 rfl ?_
      exact g9
    · intro res9 g9
      show am_F _ _ 30 [.ref 88, .int role, .int a4_2, .int (nI i4)] [.int a4_2] (am_S f g) _
      refine am_F.ops (pc' := 31) (L' := [.ref 88, .int role, .int a4_2, .int (nI i4)]) (S' := [.int 0, .int a4_2]) (μ' := (am_S f g)) 1 rfl ?_
      exact g9
    show am_F _ _ 31 [.ref 88, .int role, .int a4_2, .int (nI i4)] [.int (bif (fn_m_has (f 92 i4) role) then 1 <<< ((nI i4) &&& 31) else 0), .int a4_2] (am_S f g) _
    refine am_F.ops (pc' := 4) (L' := [.ref 88, .int role, .int (a4_2 ||| (bif (fn_m_has (f 92 i4) role) then 1 <<< ((nI i4) &&& 31) else 0)), .int ((nI i4) + 1)]) (S' := []) (μ' := (am_S f g)) 4 rfl ?_
    rw [nI_1 i4]
    subst hKd
    exact ih (i4 + 1) (a4_2 ||| (bif (fn_m_has (f 92 i4) role) then 1 <<< ((nI i4) &&& 31) else 0)) (by omega)  hK
theorem x_m_allAbove (role : Int32) (f : Nat → Nat → Int32) (g : Nat → Nat → Int64)  : am_D 1 206 4 [.ref 88, .int role] (am_S f g) (some (Value.int (fn_m_allAbove role f)), am_S f g) := by
  refine am_D.of (code := am_k_206) rfl (L0 := [.ref 88, .int role, am_un, am_un]) rfl ?_
  generalize hres : (some (Value.int (fn_m_allAbove role f)), am_S f g) = res
  obtain ⟨K, hKd⟩ : ∃ K : Int32 → Prop, K = fun z => (some (Value.int z), am_S f g) = res := ⟨_, rfl⟩
  have hK : K (fn_m_allAbove role f) := by rw [hKd]; exact hres
  clear hres
  unfold fn_m_allAbove at hK
  refine am_F.ops (pc' := 4) (L' := [.ref 88, .int role, .int 0, .int 0]) (S' := []) (μ' := (am_S f g)) 4 rfl ?_
  show am_F _ _ 4 [.ref 88, .int role, .int 0, .int (nI 0)] [] (am_S f g) _
  refine lp_m_allAbove_4 role f g  _ 20 0 0  (by omega)  ?_
  rw [show am_for (st_m_allAbove_4 role f) 20 0 0 = (lf_m_allAbove_4 role f) from rfl]
  generalize (lf_m_allAbove_4 role f) = z4_2 at hK ⊢
  intro wc
  show am_F _ _ 39 [.ref 88, .int role, .int z4_2, wc] [] (am_S f g) _
  refine am_F.ops (pc' := 40) (L' := [.ref 88, .int role, .int z4_2, wc]) (S' := [.int z4_2]) (μ' := (am_S f g)) 1 rfl ?_
  subst hKd
  exact am_F.eq (am_F.ret rfl rfl) hK
/-- AccessLatticeModel.attribute -/
def fn_m_attribute (side : Int32) (of : Int32) (k : Int32) (v : Int32) (f : Nat → Nat → Int32) : Int32 × (Nat → Int32) := (bif (fn_m_isIn side 0 1) then (bif (fn_m_isOne of) then (bif (fn_m_isIn k 0 3) then (bif (fn_m_isIn v 0 99) then (f 89 (((64 * (side.toNatClampNeg)) + (4 * (of.toNatClampNeg))) + (k.toNatClampNeg)), upd (f 89) (((64 * (side.toNatClampNeg)) + (4 * (of.toNatClampNeg))) + (k.toNatClampNeg)) v) else ((-1), f 89)) else ((-1), f 89)) else ((-1), f 89)) else ((-1), f 89))
theorem x_m_attribute (side : Int32) (of : Int32) (k : Int32) (v : Int32) (f : Nat → Nat → Int32) (g : Nat → Nat → Int64)  : am_D 2 146 7 [.ref 88, .int side, .int of, .int k, .int v] (am_S f g) (some (Value.int ((fn_m_attribute side of k v f).1)), am_S (am_row f 89 ((fn_m_attribute side of k v f).2)) g) := by
  refine am_D.of (code := am_k_146) rfl (L0 := [.ref 88, .int side, .int of, .int k, .int v, am_un, am_un]) rfl ?_
  generalize hres : (some (Value.int ((fn_m_attribute side of k v f).1)), am_S (am_row f 89 ((fn_m_attribute side of k v f).2)) g) = res
  obtain ⟨K, hKd⟩ : ∃ K : (Int32 × (Nat → Int32)) → Prop, K = fun z => (some (Value.int z.1), am_S (am_row f 89 z.2) g) = res := ⟨_, rfl⟩
  have hK : K (fn_m_attribute side of k v f) := by rw [hKd]; exact hres
  clear hres
  unfold fn_m_attribute at hK
  refine am_F.ops (pc' := 3) (L' := [.ref 88, .int side, .int of, .int k, .int v, am_un, am_un]) (S' := [.int 1, .int 0, .int side]) (μ' := (am_S f g)) 3 rfl ?_
  refine am_F.call rfl rfl (x_m_isIn side 0 1 f g ) (by decide) ?_
  show am_F _ _ 6 [.ref 88, .int side, .int of, .int k, .int v, am_un, am_un] [.int (am_b (fn_m_isIn side 0 1))] (am_S f g) _
  refine am_F.bifK 1 rfl K hK (fun c1 hK => ?_) (fun c1 hK => ?_)
  · obtain ⟨side_n, hside_n, eside_n⟩ := am_mInN (N := 2) c1 (by decide)
    subst eside_n
    try simp only [nI_clamp (show side_n < 2147483648 by omega)] at hK
    show am_F _ _ 9 [.ref 88, .int (nI side_n), .int of, .int k, .int v, am_un, am_un] [] (am_S f g) _
    refine am_F.ops (pc' := 10) (L' := [.ref 88, .int (nI side_n), .int of, .int k, .int v, am_un, am_un]) (S' := [.int of]) (μ' := (am_S f g)) 1 rfl ?_
    refine am_F.call rfl rfl (x_m_isOne of f g ) (by decide) ?_
    show am_F _ _ 13 [.ref 88, .int (nI side_n), .int of, .int k, .int v, am_un, am_un] [.int (am_b (fn_m_isOne of))] (am_S f g) _
    refine am_F.bifK 1 rfl K hK (fun c2 hK => ?_) (fun c2 hK => ?_)
    · obtain ⟨of_n, hof_n, eof_n⟩ := am_mOne c2
      subst eof_n
      try simp only [nI_clamp (show of_n < 2147483648 by omega)] at hK
      show am_F _ _ 16 [.ref 88, .int (nI side_n), .int (nI of_n), .int k, .int v, am_un, am_un] [] (am_S f g) _
      refine am_F.ops (pc' := 19) (L' := [.ref 88, .int (nI side_n), .int (nI of_n), .int k, .int v, am_un, am_un]) (S' := [.int 3, .int 0, .int k]) (μ' := (am_S f g)) 3 rfl ?_
      refine am_F.call rfl rfl (x_m_isIn k 0 3 f g ) (by decide) ?_
      show am_F _ _ 22 [.ref 88, .int (nI side_n), .int (nI of_n), .int k, .int v, am_un, am_un] [.int (am_b (fn_m_isIn k 0 3))] (am_S f g) _
      refine am_F.bifK 1 rfl K hK (fun c3 hK => ?_) (fun c3 hK => ?_)
      · obtain ⟨k_n, hk_n, ek_n⟩ := am_mInN (N := 4) c3 (by decide)
        subst ek_n
        try simp only [nI_clamp (show k_n < 2147483648 by omega)] at hK
        show am_F _ _ 25 [.ref 88, .int (nI side_n), .int (nI of_n), .int (nI k_n), .int v, am_un, am_un] [] (am_S f g) _
        refine am_F.ops (pc' := 30) (L' := [.ref 88, .int (nI side_n), .int (nI of_n), .int (nI k_n), .int v, am_un, am_un]) (S' := [.int 99, .int 0, .int v]) (μ' := (am_S f g)) 3 rfl ?_
        refine am_F.call rfl rfl (x_m_isIn v 0 99 f g ) (by decide) ?_
        show am_F _ _ 33 [.ref 88, .int (nI side_n), .int (nI of_n), .int (nI k_n), .int v, am_un, am_un] [.int (am_b (fn_m_isIn v 0 99))] (am_S f g) _
        refine am_F.bifK 1 rfl K hK (fun c4 hK => ?_) (fun c4 hK => ?_)
        · obtain ⟨v_n, hv_n, ev_n⟩ := am_mInN (N := 100) c4 (by decide)
          subst ev_n
          try simp only [nI_clamp (show v_n < 2147483648 by omega)] at hK
          show am_F _ _ 38 [.ref 88, .int (nI side_n), .int (nI of_n), .int (nI k_n), .int (nI v_n), am_un, am_un] [] (am_S f g) _
          refine am_F.ops (pc' := 56) (L' := [.ref 88, .int (nI side_n), .int (nI of_n), .int (nI k_n), .int (nI v_n), .int (((64 * (nI side_n)) + (4 * (nI of_n))) + (nI k_n)), am_un]) (S' := [.int (((64 * (nI side_n)) + (4 * (nI of_n))) + (nI k_n)), .ref 89]) (μ' := (am_S f g)) 13 rfl ?_
          refine am_F.ialE (m := (((64 * side_n) + (4 * of_n)) + k_n)) (N := 3340) rfl rfl rfl (am_addE (am_addE (am_mulE rfl rfl) (am_mulE rfl rfl)) rfl) (by omega) (by decide) ?_
          show am_F _ _ 57 [.ref 88, .int (nI side_n), .int (nI of_n), .int (nI k_n), .int (nI v_n), .int (((64 * (nI side_n)) + (4 * (nI of_n))) + (nI k_n)), am_un] [.int (f 89 (((64 * side_n) + (4 * of_n)) + k_n))] (am_S f g) _
          refine am_F.ops (pc' := 67) (L' := [.ref 88, .int (nI side_n), .int (nI of_n), .int (nI k_n), .int (nI v_n), .int (((64 * (nI side_n)) + (4 * (nI of_n))) + (nI k_n)), .int (f 89 (((64 * side_n) + (4 * of_n)) + k_n))]) (S' := [.int (nI v_n), .int (((64 * (nI side_n)) + (4 * (nI of_n))) + (nI k_n)), .ref 89]) (μ' := (am_S f g)) 5 rfl ?_
          refine am_F.iasE (F' := (am_row f 89 (upd (f 89) (((64 * side_n) + (4 * of_n)) + k_n) (nI v_n)))) (m := (((64 * side_n) + (4 * of_n)) + k_n)) (N := 3340) rfl rfl rfl (am_addE (am_addE (am_mulE rfl rfl) (am_mulE rfl rfl)) rfl) (by omega) (by decide) (by first | rfl | (funext a; by_cases z0 : a = 89; (subst z0; rfl); simp only [am_ui, am_ul, am_row_ne z0])) ?_
          refine am_F.ops (pc' := 70) (L' := [.ref 88, .int (nI side_n), .int (nI of_n), .int (nI k_n), .int (nI v_n), .int (((64 * (nI side_n)) + (4 * (nI of_n))) + (nI k_n)), .int (f 89 (((64 * side_n) + (4 * of_n)) + k_n))]) (S' := [.int (f 89 (((64 * side_n) + (4 * of_n)) + k_n))]) (μ' := (am_S (am_row f 89 (upd (f 89) (((64 * side_n) + (4 * of_n)) + k_n) (nI v_n))) g)) 1 rfl ?_
          subst hKd
          exact am_F.eq (am_F.ret rfl rfl) hK
        · show am_F _ _ 36 [.ref 88, .int (nI side_n), .int (nI of_n), .int (nI k_n), .int v, am_un, am_un] [] (am_S f g) _
          refine am_F.ops (pc' := 37) (L' := [.ref 88, .int (nI side_n), .int (nI of_n), .int (nI k_n), .int v, am_un, am_un]) (S' := [.int (-1)]) (μ' := (am_S f g)) 1 rfl ?_
          refine am_F.mem (F' := (am_row f 89 (f 89))) (G' := g) ?_ (by first | rfl | (funext a; by_cases z0 : a = 89; (subst z0; rfl); simp only [am_ui, am_ul, am_row_ne z0])) (by first | rfl | (funext a; by_cases z0 : a = 89; (subst z0; rfl); simp only [am_ui, am_ul, am_row_ne z0]))
          subst hKd
          exact am_F.eq (am_F.ret rfl rfl) hK
      · show am_F _ _ 36 [.ref 88, .int (nI side_n), .int (nI of_n), .int k, .int v, am_un, am_un] [] (am_S f g) _
        refine am_F.ops (pc' := 37) (L' := [.ref 88, .int (nI side_n), .int (nI of_n), .int k, .int v, am_un, am_un]) (S' := [.int (-1)]) (μ' := (am_S f g)) 1 rfl ?_
        refine am_F.mem (F' := (am_row f 89 (f 89))) (G' := g) ?_ (by first | rfl | (funext a; by_cases z0 : a = 89; (subst z0; rfl); simp only [am_ui, am_ul, am_row_ne z0])) (by first | rfl | (funext a; by_cases z0 : a = 89; (subst z0; rfl); simp only [am_ui, am_ul, am_row_ne z0]))
        subst hKd
        exact am_F.eq (am_F.ret rfl rfl) hK
    · show am_F _ _ 36 [.ref 88, .int (nI side_n), .int of, .int k, .int v, am_un, am_un] [] (am_S f g) _
      refine am_F.ops (pc' := 37) (L' := [.ref 88, .int (nI side_n), .int of, .int k, .int v, am_un, am_un]) (S' := [.int (-1)]) (μ' := (am_S f g)) 1 rfl ?_
      refine am_F.mem (F' := (am_row f 89 (f 89))) (G' := g) ?_ (by first | rfl | (funext a; by_cases z0 : a = 89; (subst z0; rfl); simp only [am_ui, am_ul, am_row_ne z0])) (by first | rfl | (funext a; by_cases z0 : a = 89; (subst z0; rfl); simp only [am_ui, am_ul, am_row_ne z0]))
      subst hKd
      exact am_F.eq (am_F.ret rfl rfl) hK
  · show am_F _ _ 36 [.ref 88, .int side, .int of, .int k, .int v, am_un, am_un] [] (am_S f g) _
    refine am_F.ops (pc' := 37) (L' := [.ref 88, .int side, .int of, .int k, .int v, am_un, am_un]) (S' := [.int (-1)]) (μ' := (am_S f g)) 1 rfl ?_
    refine am_F.mem (F' := (am_row f 89 (f 89))) (G' := g) ?_ (by first | rfl | (funext a; by_cases z0 : a = 89; (subst z0; rfl); simp only [am_ui, am_ul, am_row_ne z0])) (by first | rfl | (funext a; by_cases z0 : a = 89; (subst z0; rfl); simp only [am_ui, am_ul, am_row_ne z0]))
    subst hKd
    exact am_F.eq (am_F.ret rfl rfl) hK
/-- AccessLatticeModel.step -/
def fn_m_step (n : Int32) (f : Nat → Nat → Int32) : Int32 × (Nat → Int32) := (bif (fn_m_isIn n 1 500) then (if ((f 89 200) + n) ≤ 9999 then ((f 89 200) + n, upd (f 89) 200 ((f 89 200) + n)) else ((-3), f 89)) else ((-1), f 89))
theorem x_m_step (n : Int32) (f : Nat → Nat → Int32) (g : Nat → Nat → Int64)  : am_D 1 164 2 [.ref 88, .int n] (am_S f g) (some (Value.int ((fn_m_step n f).1)), am_S (am_row f 89 ((fn_m_step n f).2)) g) := by
  refine am_D.of (code := am_k_164) rfl (L0 := [.ref 88, .int n]) rfl ?_
  generalize hres : (some (Value.int ((fn_m_step n f).1)), am_S (am_row f 89 ((fn_m_step n f).2)) g) = res
  obtain ⟨K, hKd⟩ : ∃ K : (Int32 × (Nat → Int32)) → Prop, K = fun z => (some (Value.int z.1), am_S (am_row f 89 z.2) g) = res := ⟨_, rfl⟩
  have hK : K (fn_m_step n f) := by rw [hKd]; exact hres
  clear hres
  unfold fn_m_step at hK
  refine am_F.ops (pc' := 5) (L' := [.ref 88, .int n]) (S' := [.int 500, .int 1, .int n]) (μ' := (am_S f g)) 3 rfl ?_
  refine am_F.call rfl rfl (x_m_isIn n 1 500 f g ) (by decide) ?_
  show am_F _ _ 8 [.ref 88, .int n] [.int (am_b (fn_m_isIn n 1 500))] (am_S f g) _
  refine am_F.bifK 1 rfl K hK (fun c1 hK => ?_) (fun c1 hK => ?_)
  · show am_F _ _ 13 [.ref 88, .int n] [] (am_S f g) _
    refine am_F.ops (pc' := 26) (L' := [.ref 88, .int n]) (S' := [.int 9999, .int ((f 89 200) + n)]) (μ' := (am_S f g)) 7 rfl ?_
    refine am_F.iteK 1 rfl K hK (fun c2 hK => ?_) (fun c2 hK => ?_)
    · show am_F _ _ 32 [.ref 88, .int n] [] (am_S f g) _
      refine am_F.ops (pc' := 43) (L' := [.ref 88, .int n]) (S' := [.int ((f 89 200) + n), .int 200, .ref 89]) (μ' := (am_S f g)) 7 rfl ?_
      refine am_F.iasE (F' := (am_row f 89 (upd (f 89) 200 ((f 89 200) + n)))) (m := 200) (N := 3340) rfl rfl rfl rfl (by omega) (by decide) (by first | rfl | (funext a; by_cases z0 : a = 89; (subst z0; rfl); simp only [am_ui, am_ul, am_row_ne z0])) ?_
      refine am_F.ops (pc' := 52) (L' := [.ref 88, .int n]) (S' := [.int ((f 89 200) + n)]) (μ' := (am_S (am_row f 89 (upd (f 89) 200 ((f 89 200) + n))) g)) 4 rfl ?_
      subst hKd
      exact am_F.eq (am_F.ret rfl rfl) hK
    · show am_F _ _ 29 [.ref 88, .int n] [] (am_S f g) _
      refine am_F.ops (pc' := 31) (L' := [.ref 88, .int n]) (S' := [.int (-3)]) (μ' := (am_S f g)) 1 rfl ?_
      refine am_F.mem (F' := (am_row f 89 (f 89))) (G' := g) ?_ (by first | rfl | (funext a; by_cases z0 : a = 89; (subst z0; rfl); simp only [am_ui, am_ul, am_row_ne z0])) (by first | rfl | (funext a; by_cases z0 : a = 89; (subst z0; rfl); simp only [am_ui, am_ul, am_row_ne z0]))
      subst hKd
      exact am_F.eq (am_F.ret rfl rfl) hK
  · show am_F _ _ 11 [.ref 88, .int n] [] (am_S f g) _
    refine am_F.ops (pc' := 12) (L' := [.ref 88, .int n]) (S' := [.int (-1)]) (μ' := (am_S f g)) 1 rfl ?_
    refine am_F.mem (F' := (am_row f 89 (f 89))) (G' := g) ?_ (by first | rfl | (funext a; by_cases z0 : a = 89; (subst z0; rfl); simp only [am_ui, am_ul, am_row_ne z0])) (by first | rfl | (funext a; by_cases z0 : a = 89; (subst z0; rfl); simp only [am_ui, am_ul, am_row_ne z0]))
    subst hKd
    exact am_F.eq (am_F.ret rfl rfl) hK
/-- AccessLatticeModel.feed -/
def fn_m_feed (letter : Int32) (f : Nat → Nat → Int32) : Int32 × (Nat → Int32) × (Nat → Int32) := (bif (fn_m_isIn letter 1 255) then (if (f 88 11) = 80 then ((-3), f 88, f 97) else ((f 88 11) + 1, upd (f 88) 11 ((f 88 11) + 1), upd (f 97) ((f 88 11).toNatClampNeg) letter)) else ((-1), f 88, f 97))
theorem x_m_feed (letter : Int32) (f : Nat → Nat → Int32) (g : Nat → Nat → Int64) (hfI : ¬ f 88 11 = 80 → am_inb (f 88 11) 80 = true) : am_D 1 171 2 [.ref 88, .int letter] (am_S f g) (some (Value.int ((fn_m_feed letter f).1)), am_S (am_row (am_row f 88 ((fn_m_feed letter f).2.1)) 97 ((fn_m_feed letter f).2.2)) g) := by
  refine am_D.of (code := am_k_171) rfl (L0 := [.ref 88, .int letter]) rfl ?_
  generalize hres : (some (Value.int ((fn_m_feed letter f).1)), am_S (am_row (am_row f 88 ((fn_m_feed letter f).2.1)) 97 ((fn_m_feed letter f).2.2)) g) = res
  obtain ⟨K, hKd⟩ : ∃ K : (Int32 × (Nat → Int32) × (Nat → Int32)) → Prop, K = fun z => (some (Value.int z.1), am_S (am_row (am_row f 88 z.2.1) 97 z.2.2) g) = res := ⟨_, rfl⟩
  have hK : K (fn_m_feed letter f) := by rw [hKd]; exact hres
  clear hres
  unfold fn_m_feed at hK
  refine am_F.ops (pc' := 5) (L' := [.ref 88, .int letter]) (S' := [.int 255, .int 1, .int letter]) (μ' := (am_S f g)) 3 rfl ?_
  refine am_F.call rfl rfl (x_m_isIn letter 1 255 f g ) (by decide) ?_
  show am_F _ _ 8 [.ref 88, .int letter] [.int (am_b (fn_m_isIn letter 1 255))] (am_S f g) _
  refine am_F.bifK 1 rfl K hK (fun c1 hK => ?_) (fun c1 hK => ?_)
  · show am_F _ _ 13 [.ref 88, .int letter] [] (am_S f g) _
    refine am_F.ops (pc' := 19) (L' := [.ref 88, .int letter]) (S' := [.int 80, .int (f 88 11)]) (μ' := (am_S f g)) 3 rfl ?_
    refine am_F.iteK 1 rfl K hK (fun c2 hK => ?_) (fun c2 hK => ?_)
    · show am_F _ _ 22 [.ref 88, .int letter] [] (am_S f g) _
      refine am_F.ops (pc' := 24) (L' := [.ref 88, .int letter]) (S' := [.int (-3)]) (μ' := (am_S f g)) 1 rfl ?_
      refine am_F.mem (F' := (am_row (am_row f 88 (f 88)) 97 (f 97))) (G' := g) ?_ (by first | rfl | (funext a; by_cases z0 : a = 88; (subst z0; rfl); by_cases z1 : a = 97; (subst z1; rfl); simp only [am_ui, am_ul, am_row_ne z0, am_row_ne z1])) (by first | rfl | (funext a; by_cases z0 : a = 88; (subst z0; rfl); by_cases z1 : a = 97; (subst z1; rfl); simp only [am_ui, am_ul, am_row_ne z0, am_row_ne z1]))
      subst hKd
      exact am_F.eq (am_F.ret rfl rfl) hK
    · show am_F _ _ 25 [.ref 88, .int letter] [] (am_S f g) _
      refine am_F.ops (pc' := 34) (L' := [.ref 88, .int letter]) (S' := [.int letter, .int (f 88 11), .ref 97]) (μ' := (am_S f g)) 5 rfl ?_
      refine am_F.ias (F' := (am_row f 97 (upd (f 97) ((f 88 11).toNatClampNeg) letter))) (N := 80) rfl rfl rfl (hfI (by assumption)) (by first | rfl | (funext a; by_cases z0 : a = 97; (subst z0; rfl); simp only [am_ui, am_ul, am_row_ne z0])) ?_
      refine am_F.ops (pc' := 42) (L' := [.ref 88, .int letter]) (S' := [.int ((f 88 11) + 1), .ref 88]) (μ' := (am_S (am_row f 97 (upd (f 97) ((f 88 11).toNatClampNeg) letter)) g)) 5 rfl ?_
      refine am_F.pfi (F' := (am_row (am_row f 88 (upd (f 88) 11 ((f 88 11) + 1))) 97 (upd (f 97) ((f 88 11).toNatClampNeg) letter))) rfl rfl (by first | rfl | (funext a; by_cases z0 : a = 88; (subst z0; rfl); by_cases z1 : a = 97; (subst z1; rfl); simp only [am_ui, am_ul, am_row_ne z0, am_row_ne z1])) ?_
      refine am_F.ops (pc' := 49) (L' := [.ref 88, .int letter]) (S' := [.int ((f 88 11) + 1)]) (μ' := (am_S (am_row (am_row f 88 (upd (f 88) 11 ((f 88 11) + 1))) 97 (upd (f 97) ((f 88 11).toNatClampNeg) letter)) g)) 2 rfl ?_
      subst hKd
      exact am_F.eq (am_F.ret rfl rfl) hK
  · show am_F _ _ 11 [.ref 88, .int letter] [] (am_S f g) _
    refine am_F.ops (pc' := 12) (L' := [.ref 88, .int letter]) (S' := [.int (-1)]) (μ' := (am_S f g)) 1 rfl ?_
    refine am_F.mem (F' := (am_row (am_row f 88 (f 88)) 97 (f 97))) (G' := g) ?_ (by first | rfl | (funext a; by_cases z0 : a = 88; (subst z0; rfl); by_cases z1 : a = 97; (subst z1; rfl); simp only [am_ui, am_ul, am_row_ne z0, am_row_ne z1])) (by first | rfl | (funext a; by_cases z0 : a = 88; (subst z0; rfl); by_cases z1 : a = 97; (subst z1; rfl); simp only [am_ui, am_ul, am_row_ne z0, am_row_ne z1]))
    subst hKd
    exact am_F.eq (am_F.ret rfl rfl) hK
/-- AccessLatticeModel.rulesThere -/
def st_m_rulesThere_4 (f : Nat → Nat → Int32) : Nat → Int32 → Int32 := fun i4 a4_1 => (a4_1 + (am_b (bif (fn_m_isRule (nI i4) f) then true else false)))
def lf_m_rulesThere_4 (f : Nat → Nat → Int32) : Int32 := am_for (st_m_rulesThere_4 f) ((f 89 202).toNatClampNeg) 0 0
def fn_m_rulesThere (f : Nat → Nat → Int32) : Int32 := (lf_m_rulesThere_4 f)
theorem lp_m_rulesThere_4 (f : Nat → Nat → Int32) (g : Nat → Nat → Int64) (hrC : f 89 202 = nI (f 89 202).toNatClampNeg) (hrN : (f 89 202).toNatClampNeg ≤ 30) (res : Option Value × am_M) : ∀ (n i4 : Nat) (a4_1 : Int32) , i4 + n = (f 89 202).toNatClampNeg → (fun (z : Int32) => ∀ (wc : Value), am_F 2 am_k_191 38 [.ref 88, .int z, wc] [] (am_S f g) res) (am_for (st_m_rulesThere_4 f) n i4 a4_1) → am_F 2 am_k_191 4 [.ref 88, .int a4_1, .int (nI i4)] [] (am_S f g) res := by
  intro n
  induction n with
  | zero =>
    intro i4 a4_1 hi hK
    refine am_F.pos 6 rfl (by show (f 89 202) ≤ nI i4; rw [show (f 89 202 : Int32) = nI ((f 89 202).toNatClampNeg) from hrC]; exact nI_le (by omega) (by omega)) ?_
    exact hK _
  | succ n ih =>
    intro i4 a4_1 hi hK
    refine am_F.neg 6 rfl (by show ¬ (f 89 202) ≤ nI i4; rw [show (f 89 202 : Int32) = nI ((f 89 202).toNatClampNeg) from hrC]; exact nI_ge (by omega) (by omega)) ?_
    have hb4 : i4 < (f 89 202).toNatClampNeg := by omega
    show am_F _ _ 16 [.ref 88, .int a4_1, .int (nI i4)] [] (am_S f g) _
    obtain ⟨K, hKd⟩ : ∃ K : (Int32) → Prop, K = fun s => (fun (z : Int32) => ∀ (wc : Value), am_F 2 am_k_191 38 [.ref 88, .int z, wc] [] (am_S f g) res) (am_for (st_m_rulesThere_4 f) n (i4 + 1) s) := ⟨_, rfl⟩
    have hK : K ((st_m_rulesThere_4 f) i4 a4_1) := by rw [hKd]; exact hK
    unfold st_m_rulesThere_4 at hK
    refine am_F.ops (pc' := 19) (L' := [.ref 88, .int a4_1, .int (nI i4)]) (S' := [.int (nI i4), .ref 88, .int a4_1]) (μ' := (am_S f g)) 3 rfl ?_
    refine am_F.call rfl rfl (x_m_isRule (nI i4) f g hrC hrN) (by decide) ?_
    show am_F _ _ 22 [.ref 88, .int a4_1, .int (nI i4)] [.int (am_b (fn_m_isRule (nI i4) f)), .int a4_1] (am_S f g) _
    refine am_F.to (am_To.bifB (pc' := 30) (L2 := [.ref 88, .int a4_1, .int (nI i4)]) (S2 := [.int a4_1]) (μ2 := (am_S f g)) (a := true) (b := false) 1 rfl (fun c1 => ?_) (fun c1 => ?_)) ?_
    · intro res9 g9
      show am_F _ _ 25 [.ref 88, .int a4_1, .int (nI i4)] [.int a4_1] (am_S f g) _
      refine am_F.ops (pc' := 30) (L' := [.ref 88, .int a4_1, .int (nI i4)]) (S' := [.int 1, .int a4_1]) (μ' := (am_S f g)) 2 rfl ?_
      exact g9
    · intro res9 g9
      show am_F _ _ 29 [.ref 88, .int a4_1, .int (nI i4)] [.int a4_1] (am_S f g) _
      refine am_F.ops (pc' := 30) (L' := [.ref 88, .int a4_1, .int (nI i4)]) (S' := [.int 0, .int a4_1]) (μ' := (am_S f g)) 1 rfl ?_
      exact g9
    show am_F _ _ 30 [.ref 88, .int a4_1, .int (nI i4)] [.int (am_b (bif (fn_m_isRule (nI i4) f) then true else false)), .int a4_1] (am_S f g) _
    refine am_F.ops (pc' := 4) (L' := [.ref 88, .int (a4_1 + (am_b (bif (fn_m_isRule (nI i4) f) then true else false))), .int ((nI i4) + 1)]) (S' := []) (μ' := (am_S f g)) 4 rfl ?_
    rw [nI_1 i4]
    subst hKd
    exact ih (i4 + 1) (a4_1 + (am_b (bif (fn_m_isRule (nI i4) f) then true else false))) (by omega)  hK
theorem x_m_rulesThere (f : Nat → Nat → Int32) (g : Nat → Nat → Int64) (hrC : f 89 202 = nI (f 89 202).toNatClampNeg) (hrN : (f 89 202).toNatClampNeg ≤ 30) : am_D 2 191 3 [.ref 88] (am_S f g) (some (Value.int (fn_m_rulesThere f)), am_S f g) := by
  refine am_D.of (code := am_k_191) rfl (L0 := [.ref 88, am_un, am_un]) rfl ?_
  generalize hres : (some (Value.int (fn_m_rulesThere f)), am_S f g) = res
  obtain ⟨K, hKd⟩ : ∃ K : Int32 → Prop, K = fun z => (some (Value.int z), am_S f g) = res := ⟨_, rfl⟩
  have hK : K (fn_m_rulesThere f) := by rw [hKd]; exact hres
  clear hres
  unfold fn_m_rulesThere at hK
  refine am_F.ops (pc' := 4) (L' := [.ref 88, .int 0, .int 0]) (S' := []) (μ' := (am_S f g)) 4 rfl ?_
  show am_F _ _ 4 [.ref 88, .int 0, .int (nI 0)] [] (am_S f g) _
  refine lp_m_rulesThere_4 f g hrC hrN _ ((f 89 202).toNatClampNeg) 0 0  (by omega)  ?_
  rw [show am_for (st_m_rulesThere_4 f) ((f 89 202).toNatClampNeg) 0 0 = (lf_m_rulesThere_4 f) from rfl]
  generalize (lf_m_rulesThere_4 f) = z4_2 at hK ⊢
  intro wc
  show am_F _ _ 38 [.ref 88, .int z4_2, wc] [] (am_S f g) _
  refine am_F.ops (pc' := 39) (L' := [.ref 88, .int z4_2, wc]) (S' := [.int z4_2]) (μ' := (am_S f g)) 1 rfl ?_
  subst hKd
  exact am_F.eq (am_F.ret rfl rfl) hK
/-- AccessLatticeModel.joined -/
def fn_m_joined (op : Int32) (a : Int32) (b : Int32) : Int32 := (if op = 38 then am_b (if a = 0 then false else (if b = 0 then false else true)) else (if op = 43 then a + b else (if op = 45 then a - b else (if op = 60 then am_b (if b ≤ a then false else true) else (if op = 61 then am_b (if a = b then true else false) else (if op = 62 then am_b (if a ≤ b then false else true) else (if op = 124 then am_b (if a = 0 then (if b = 0 then false else true) else true) else a * b)))))))
theorem x_m_joined (op : Int32) (a : Int32) (b : Int32) (f : Nat → Nat → Int32) (g : Nat → Nat → Int64)  : am_D 0 202 3 [.int op, .int a, .int b] (am_S f g) (some (Value.int (fn_m_joined op a b)), am_S f g) := by
  refine am_D.of (code := am_k_202) rfl (L0 := [.int op, .int a, .int b]) rfl ?_
  generalize hres : (some (Value.int (fn_m_joined op a b)), am_S f g) = res
  obtain ⟨K, hKd⟩ : ∃ K : Int32 → Prop, K = fun z => (some (Value.int z), am_S f g) = res := ⟨_, rfl⟩
  have hK : K (fn_m_joined op a b) := by rw [hKd]; exact hres
  clear hres
  unfold fn_m_joined at hK
  refine am_F.ops (pc' := 1) (L' := [.int op, .int a, .int b]) (S' := [.int op]) (μ' := (am_S f g)) 1 rfl ?_
  refine am_F.ops (pc' := am_ltg [(38, 82), (43, 129), (45, 133), (60, 96), (61, 107), (62, 118), (124, 68)] 137 op) (L' := [.int op, .int a, .int b]) (S' := []) (μ' := (am_S f g)) 1 rfl ?_
  refine am_F.ltg K hK (fun c1 hK => ?_) (fun c1 hK => ?_)
  · show am_F _ _ 82 [.int op, .int a, .int b] [] (am_S f g) _
    refine am_F.ops (pc' := 83) (L' := [.int op, .int a, .int b]) (S' := [.int a]) (μ' := (am_S f g)) 1 rfl ?_
    refine am_F.to (am_To.iteB (pc' := 95) (L2 := [.int op, .int a, .int b]) (S2 := []) (μ2 := (am_S f g)) (a := false) (b := (if b = 0 then false else true)) 1 rfl (fun c2 => ?_) (fun c2 => ?_)) ?_
    · intro res9 g9
      show am_F _ _ 94 [.int op, .int a, .int b] [] (am_S f g) _
      refine am_F.ops (pc' := 95) (L' := [.int op, .int a, .int b]) (S' := [.int 0]) (μ' := (am_S f g)) 1 rfl ?_
      exact g9
    · intro res9 g9
      show am_F _ _ 86 [.int op, .int a, .int b] [] (am_S f g) _
      refine am_F.ops (pc' := 87) (L' := [.int op, .int a, .int b]) (S' := [.int b]) (μ' := (am_S f g)) 1 rfl ?_
      refine am_F.to (am_To.iteB (pc' := 95) (L2 := [.int op, .int a, .int b]) (S2 := []) (μ2 := (am_S f g)) (a := false) (b := true) 1 rfl (fun c3 => ?_) (fun c3 => ?_)) g9
      · intro res9 g9
        show am_F _ _ 94 [.int op, .int a, .int b] [] (am_S f g) _
        refine am_F.ops (pc' := 95) (L' := [.int op, .int a, .int b]) (S' := [.int 0]) (μ' := (am_S f g)) 1 rfl ?_
        exact g9
      · intro res9 g9
        show am_F _ _ 90 [.int op, .int a, .int b] [] (am_S f g) _
        refine am_F.ops (pc' := 95) (L' := [.int op, .int a, .int b]) (S' := [.int 1]) (μ' := (am_S f g)) 2 rfl ?_
        exact g9
    show am_F _ _ 95 [.int op, .int a, .int b] [.int (am_b (if a = 0 then false else (if b = 0 then false else true)))] (am_S f g) _
    subst hKd
    exact am_F.eq (am_F.ret rfl rfl) hK
  · skip
    refine am_F.ltg K hK (fun c4 hK => ?_) (fun c4 hK => ?_)
    · show am_F _ _ 129 [.int op, .int a, .int b] [] (am_S f g) _
      refine am_F.ops (pc' := 132) (L' := [.int op, .int a, .int b]) (S' := [.int (a + b)]) (μ' := (am_S f g)) 3 rfl ?_
      subst hKd
      exact am_F.eq (am_F.ret rfl rfl) hK
    · skip
      refine am_F.ltg K hK (fun c5 hK => ?_) (fun c5 hK => ?_)
      · show am_F _ _ 133 [.int op, .int a, .int b] [] (am_S f g) _
        refine am_F.ops (pc' := 136) (L' := [.int op, .int a, .int b]) (S' := [.int (a - b)]) (μ' := (am_S f g)) 3 rfl ?_
        subst hKd
        exact am_F.eq (am_F.ret rfl rfl) hK
      · skip
        refine am_F.ltg K hK (fun c6 hK => ?_) (fun c6 hK => ?_)
        · show am_F _ _ 96 [.int op, .int a, .int b] [] (am_S f g) _
          refine am_F.ops (pc' := 98) (L' := [.int op, .int a, .int b]) (S' := [.int b, .int a]) (μ' := (am_S f g)) 2 rfl ?_
          refine am_F.to (am_To.iteB (pc' := 106) (L2 := [.int op, .int a, .int b]) (S2 := []) (μ2 := (am_S f g)) (a := false) (b := true) 1 rfl (fun c7 => ?_) (fun c7 => ?_)) ?_
          · intro res9 g9
            show am_F _ _ 105 [.int op, .int a, .int b] [] (am_S f g) _
            refine am_F.ops (pc' := 106) (L' := [.int op, .int a, .int b]) (S' := [.int 0]) (μ' := (am_S f g)) 1 rfl ?_
            exact g9
          · intro res9 g9
            show am_F _ _ 101 [.int op, .int a, .int b] [] (am_S f g) _
            refine am_F.ops (pc' := 106) (L' := [.int op, .int a, .int b]) (S' := [.int 1]) (μ' := (am_S f g)) 2 rfl ?_
            exact g9
          show am_F _ _ 106 [.int op, .int a, .int b] [.int (am_b (if b ≤ a then false else true))] (am_S f g) _
          subst hKd
          exact am_F.eq (am_F.ret rfl rfl) hK
        · skip
          refine am_F.ltg K hK (fun c8 hK => ?_) (fun c8 hK => ?_)
          · show am_F _ _ 107 [.int op, .int a, .int b] [] (am_S f g) _
            refine am_F.ops (pc' := 109) (L' := [.int op, .int a, .int b]) (S' := [.int b, .int a]) (μ' := (am_S f g)) 2 rfl ?_
            refine am_F.to (am_To.iteB (pc' := 117) (L2 := [.int op, .int a, .int b]) (S2 := []) (μ2 := (am_S f g)) (a := true) (b := false) 1 rfl (fun c9 => ?_) (fun c9 => ?_)) ?_
            · intro res9 g9
              show am_F _ _ 112 [.int op, .int a, .int b] [] (am_S f g) _
              refine am_F.ops (pc' := 117) (L' := [.int op, .int a, .int b]) (S' := [.int 1]) (μ' := (am_S f g)) 2 rfl ?_
              exact g9
            · intro res9 g9
              show am_F _ _ 116 [.int op, .int a, .int b] [] (am_S f g) _
              refine am_F.ops (pc' := 117) (L' := [.int op, .int a, .int b]) (S' := [.int 0]) (μ' := (am_S f g)) 1 rfl ?_
              exact g9
            show am_F _ _ 117 [.int op, .int a, .int b] [.int (am_b (if a = b then true else false))] (am_S f g) _
            subst hKd
            exact am_F.eq (am_F.ret rfl rfl) hK
          · skip
            refine am_F.ltg K hK (fun c10 hK => ?_) (fun c10 hK => ?_)
            · show am_F _ _ 118 [.int op, .int a, .int b] [] (am_S f g) _
              refine am_F.ops (pc' := 120) (L' := [.int op, .int a, .int b]) (S' := [.int b, .int a]) (μ' := (am_S f g)) 2 rfl ?_
              refine am_F.to (am_To.iteB (pc' := 128) (L2 := [.int op, .int a, .int b]) (S2 := []) (μ2 := (am_S f g)) (a := false) (b := true) 1 rfl (fun c11 => ?_) (fun c11 => ?_)) ?_
              · intro res9 g9
                show am_F _ _ 127 [.int op, .int a, .int b] [] (am_S f g) _
                refine am_F.ops (pc' := 128) (L' := [.int op, .int a, .int b]) (S' := [.int 0]) (μ' := (am_S f g)) 1 rfl ?_
                exact g9
              · intro res9 g9
                show am_F _ _ 123 [.int op, .int a, .int b] [] (am_S f g) _
                refine am_F.ops (pc' := 128) (L' := [.int op, .int a, .int b]) (S' := [.int 1]) (μ' := (am_S f g)) 2 rfl ?_
                exact g9
              show am_F _ _ 128 [.int op, .int a, .int b] [.int (am_b (if a ≤ b then false else true))] (am_S f g) _
              subst hKd
              exact am_F.eq (am_F.ret rfl rfl) hK
            · skip
              refine am_F.ltg K hK (fun c12 hK => ?_) (fun c12 hK => ?_)
              · show am_F _ _ 68 [.int op, .int a, .int b] [] (am_S f g) _
                refine am_F.ops (pc' := 69) (L' := [.int op, .int a, .int b]) (S' := [.int a]) (μ' := (am_S f g)) 1 rfl ?_
                refine am_F.to (am_To.iteB (pc' := 81) (L2 := [.int op, .int a, .int b]) (S2 := []) (μ2 := (am_S f g)) (a := (if b = 0 then false else true)) (b := true) 1 rfl (fun c13 => ?_) (fun c13 => ?_)) ?_
                · intro res9 g9
                  show am_F _ _ 72 [.int op, .int a, .int b] [] (am_S f g) _
                  refine am_F.ops (pc' := 73) (L' := [.int op, .int a, .int b]) (S' := [.int b]) (μ' := (am_S f g)) 1 rfl ?_
                  refine am_F.to (am_To.iteB (pc' := 81) (L2 := [.int op, .int a, .int b]) (S2 := []) (μ2 := (am_S f g)) (a := false) (b := true) 1 rfl (fun c14 => ?_) (fun c14 => ?_)) g9
                  · intro res9 g9
                    show am_F _ _ 80 [.int op, .int a, .int b] [] (am_S f g) _
                    refine am_F.ops (pc' := 81) (L' := [.int op, .int a, .int b]) (S' := [.int 0]) (μ' := (am_S f g)) 1 rfl ?_
                    exact g9
                  · intro res9 g9
                    show am_F _ _ 76 [.int op, .int a, .int b] [] (am_S f g) _
                    refine am_F.ops (pc' := 81) (L' := [.int op, .int a, .int b]) (S' := [.int 1]) (μ' := (am_S f g)) 2 rfl ?_
                    exact g9
                · intro res9 g9
                  show am_F _ _ 76 [.int op, .int a, .int b] [] (am_S f g) _
                  refine am_F.ops (pc' := 81) (L' := [.int op, .int a, .int b]) (S' := [.int 1]) (μ' := (am_S f g)) 2 rfl ?_
                  exact g9
                show am_F _ _ 81 [.int op, .int a, .int b] [.int (am_b (if a = 0 then (if b = 0 then false else true) else true))] (am_S f g) _
                subst hKd
                exact am_F.eq (am_F.ret rfl rfl) hK
              · skip
                show am_F _ _ 137 [.int op, .int a, .int b] [] (am_S f g) _
                refine am_F.ops (pc' := 140) (L' := [.int op, .int a, .int b]) (S' := [.int (a * b)]) (μ' := (am_S f g)) 3 rfl ?_
                subst hKd
                exact am_F.eq (am_F.ret rfl rfl) hK
/-- AccessLatticeModel.isUnlike -/
def st_m_isUnlike_2 (roles : Int32) (f : Nat → Nat → Int32) : Nat → Unit → Unit ⊕ (Unit ⊕ Bool) := fun i2 _ => (bif (fn_m_has roles (nI i2)) then (if ((f 89 (164 + i2)) &&& roles) = 0 then .inl () else .inr (.inr true)) else .inl ())
def lf_m_isUnlike_2 (roles : Int32) (f : Nat → Nat → Int32) : Unit ⊕ Bool := am_forX (st_m_isUnlike_2 roles f) 20 0 ()
def fn_m_isUnlike (roles : Int32) (f : Nat → Nat → Int32) : Bool := (Sum.elim (fun (z2 : Unit) => false) (fun (z : Bool) => z) (lf_m_isUnlike_2 roles f))
theorem lp_m_isUnlike_2 (roles : Int32) (f : Nat → Nat → Int32) (g : Nat → Nat → Int64)  (res : Option Value × am_M) : ∀ (n i2 : Nat)  , i2 + n = 20 → am_KX (fun (z : Unit) => ∀ (wc : Value), am_F 1 am_k_160 39 [.ref 88, .int roles, wc] [] (am_S f g) res) (fun (z : Bool) => (some (Value.int (am_b z)), am_S f g) = res) (am_forX (st_m_isUnlike_2 roles f) n i2 ()) → am_F 1 am_k_160 2 [.ref 88, .int roles, .int (nI i2)] [] (am_S f g) res := by
  intro n
  induction n with
  | zero =>
    intro i2 hi hK
    refine am_F.pos 3 rfl (by show 20 ≤ nI i2; rw [show (20 : Int32) = nI 20 from rfl]; exact nI_le (by omega) (by omega)) ?_
    exact hK _
  | succ n ih =>
    intro i2 hi hK
    refine am_F.neg 3 rfl (by show ¬ 20 ≤ nI i2; rw [show (20 : Int32) = nI 20 from rfl]; exact nI_ge (by omega) (by omega)) ?_
    have hb2 : i2 < 20 := by omega
    show am_F _ _ 8 [.ref 88, .int roles, .int (nI i2)] [] (am_S f g) _
    obtain ⟨K, hKd⟩ : ∃ K : (Unit ⊕ (Unit ⊕ Bool)) → Prop, K = fun s => am_KX (fun (z : Unit) => ∀ (wc : Value), am_F 1 am_k_160 39 [.ref 88, .int roles, wc] [] (am_S f g) res) (fun (z : Bool) => (some (Value.int (am_b z)), am_S f g) = res) (am_nxt (fun z => am_forX (st_m_isUnlike_2 roles f) n (i2 + 1) z) s) := ⟨_, rfl⟩
    have hK : K ((st_m_isUnlike_2 roles f) i2 ()) := by rw [am_forX_s] at hK; rw [hKd]; with_reducible exact hK
    unfold st_m_isUnlike_2 at hK
    refine am_F.ops (pc' := 10) (L' := [.ref 88, .int roles, .int (nI i2)]) (S' := [.int (nI i2), .int roles]) (μ' := (am_S f g)) 2 rfl ?_
    refine am_F.call rfl rfl (x_m_has roles (nI i2) f g ) (by decide) ?_
    show am_F _ _ 13 [.ref 88, .int roles, .int (nI i2)] [.int (am_b (fn_m_has roles (nI i2)))] (am_S f g) _
    refine am_F.bifK 1 rfl K hK (fun c1 hK => ?_) (fun c1 hK => ?_)
    · show am_F _ _ 16 [.ref 88, .int roles, .int (nI i2)] [] (am_S f g) _
      refine am_F.ops (pc' := 25) (L' := [.ref 88, .int roles, .int (nI i2)]) (S' := [.int (164 + (nI i2)), .ref 89]) (μ' := (am_S f g)) 5 rfl ?_
      refine am_F.ialE (m := (164 + i2)) (N := 3340) rfl rfl rfl (am_addE rfl rfl) (by omega) (by decide) ?_
      show am_F _ _ 26 [.ref 88, .int roles, .int (nI i2)] [.int (f 89 (164 + i2))] (am_S f g) _
      refine am_F.ops (pc' := 28) (L' := [.ref 88, .int roles, .int (nI i2)]) (S' := [.int ((f 89 (164 + i2)) &&& roles)]) (μ' := (am_S f g)) 2 rfl ?_
      refine am_F.iteK 1 rfl K hK (fun c2 hK => ?_) (fun c2 hK => ?_)
      · show am_F _ _ 33 [.ref 88, .int roles, .int (nI i2)] [] (am_S f g) _
        refine am_F.ops (pc' := 2) (L' := [.ref 88, .int roles, .int ((nI i2) + 1)]) (S' := []) (μ' := (am_S f g)) 2 rfl ?_
        rw [nI_1 i2]
        subst hKd
        exact ih (i2 + 1)  (by omega)  hK
      · show am_F _ _ 31 [.ref 88, .int roles, .int (nI i2)] [] (am_S f g) _
        refine am_F.ops (pc' := 32) (L' := [.ref 88, .int roles, .int (nI i2)]) (S' := [.int 1]) (μ' := (am_S f g)) 1 rfl ?_
        subst hKd
        exact am_F.eq (am_F.ret rfl rfl) hK
    · show am_F _ _ 33 [.ref 88, .int roles, .int (nI i2)] [] (am_S f g) _
      refine am_F.ops (pc' := 2) (L' := [.ref 88, .int roles, .int ((nI i2) + 1)]) (S' := []) (μ' := (am_S f g)) 2 rfl ?_
      rw [nI_1 i2]
      subst hKd
      exact ih (i2 + 1)  (by omega)  hK
theorem x_m_isUnlike (roles : Int32) (f : Nat → Nat → Int32) (g : Nat → Nat → Int64)  : am_D 1 160 3 [.ref 88, .int roles] (am_S f g) (some (Value.int (am_b (fn_m_isUnlike roles f))), am_S f g) := by
  refine am_D.of (code := am_k_160) rfl (L0 := [.ref 88, .int roles, am_un]) rfl ?_
  generalize hres : (some (Value.int (am_b (fn_m_isUnlike roles f))), am_S f g) = res
  obtain ⟨K, hKd⟩ : ∃ K : Bool → Prop, K = fun z => (some (Value.int (am_b z)), am_S f g) = res := ⟨_, rfl⟩
  have hK : K (fn_m_isUnlike roles f) := by rw [hKd]; exact hres
  clear hres
  unfold fn_m_isUnlike at hK
  refine am_F.ops (pc' := 2) (L' := [.ref 88, .int roles, .int 0]) (S' := []) (μ' := (am_S f g)) 2 rfl ?_
  show am_F _ _ 2 [.ref 88, .int roles, .int (nI 0)] [] (am_S f g) _
  refine lp_m_isUnlike_2 roles f g  _ 20 0   (by omega)  ?_
  rw [show am_forX (st_m_isUnlike_2 roles f) 20 0 () = (lf_m_isUnlike_2 roles f) from rfl]
  revert hK
  cases (lf_m_isUnlike_2 roles f) with
  | inr z =>
    intro hK
    subst hKd
    exact hK
  | inl z2 =>
    intro hK wc
    refine am_F.ops (pc' := 40) (L' := [.ref 88, .int roles, wc]) (S' := [.int 0]) (μ' := (am_S f g)) 1 rfl ?_
    subst hKd
    exact am_F.eq (am_F.ret rfl rfl) hK
/-- AccessLatticeModel.why -/
def fn_m_why (i : Int32) (what : Int32) (f : Nat → Nat → Int32) : Int32 := (if i < 0 then (-1) else (bif (fn_m_isIn what 0 1) then (if i < (f 88 23) then (if what = 0 then f 99 i.toNatClampNeg else f 100 i.toNatClampNeg) else (-2)) else (-1)))
theorem x_m_why (i : Int32) (what : Int32) (f : Nat → Nat → Int32) (g : Nat → Nat → Int64) (hgI : ∀ i : Int32, ¬ i < 0 → i < f 88 23 → am_inb i 64 = true) : am_D 1 209 3 [.ref 88, .int i, .int what] (am_S f g) (some (Value.int (fn_m_why i what f)), am_S f g) := by
  refine am_D.of (code := am_k_209) rfl (L0 := [.ref 88, .int i, .int what]) rfl ?_
  generalize hres : (some (Value.int (fn_m_why i what f)), am_S f g) = res
  obtain ⟨K, hKd⟩ : ∃ K : Int32 → Prop, K = fun z => (some (Value.int z), am_S f g) = res := ⟨_, rfl⟩
  have hK : K (fn_m_why i what f) := by rw [hKd]; exact hres
  clear hres
  unfold fn_m_why at hK
  refine am_F.ops (pc' := 1) (L' := [.ref 88, .int i, .int what]) (S' := [.int i]) (μ' := (am_S f g)) 1 rfl ?_
  refine am_F.iteK 1 rfl K hK (fun c1 hK => ?_) (fun c1 hK => ?_)
  · show am_F _ _ 13 [.ref 88, .int i, .int what] [] (am_S f g) _
    refine am_F.ops (pc' := 14) (L' := [.ref 88, .int i, .int what]) (S' := [.int (-1)]) (μ' := (am_S f g)) 1 rfl ?_
    subst hKd
    exact am_F.eq (am_F.ret rfl rfl) hK
  · show am_F _ _ 4 [.ref 88, .int i, .int what] [] (am_S f g) _
    refine am_F.ops (pc' := 7) (L' := [.ref 88, .int i, .int what]) (S' := [.int 1, .int 0, .int what]) (μ' := (am_S f g)) 3 rfl ?_
    refine am_F.call rfl rfl (x_m_isIn what 0 1 f g ) (by decide) ?_
    show am_F _ _ 10 [.ref 88, .int i, .int what] [.int (am_b (fn_m_isIn what 0 1))] (am_S f g) _
    refine am_F.bifK 1 rfl K hK (fun c2 hK => ?_) (fun c2 hK => ?_)
    · obtain ⟨what_n, hwhat_n, ewhat_n⟩ := am_mInN (N := 2) c2 (by decide)
      subst ewhat_n
      try simp only [nI_clamp (show what_n < 2147483648 by omega)] at hK
      show am_F _ _ 15 [.ref 88, .int i, .int (nI what_n)] [] (am_S f g) _
      refine am_F.ops (pc' := 20) (L' := [.ref 88, .int i, .int (nI what_n)]) (S' := [.int (f 88 23), .int i]) (μ' := (am_S f g)) 3 rfl ?_
      refine am_F.to (am_To.ite (pc' := 47) (L2 := [.ref 88, .int i, .int (nI what_n)]) (S2 := []) (μ2 := (am_S f g)) (a := (if (nI what_n) = 0 then f 99 i.toNatClampNeg else f 100 i.toNatClampNeg)) (b := (-2)) 1 rfl (fun c3 => ?_) (fun c3 => ?_)) ?_
      · intro res9 g9
        show am_F _ _ 28 [.ref 88, .int i, .int (nI what_n)] [] (am_S f g) _
        refine am_F.ops (pc' := 29) (L' := [.ref 88, .int i, .int (nI what_n)]) (S' := [.int (nI what_n)]) (μ' := (am_S f g)) 1 rfl ?_
        refine am_F.to (am_To.ite (pc' := 47) (L2 := [.ref 88, .int i, .int (nI what_n)]) (S2 := []) (μ2 := (am_S f g)) (a := f 99 i.toNatClampNeg) (b := f 100 i.toNatClampNeg) 1 rfl (fun c4 => ?_) (fun c4 => ?_)) g9
        · intro res9 g9
          show am_F _ _ 32 [.ref 88, .int i, .int (nI what_n)] [] (am_S f g) _
          refine am_F.ops (pc' := 37) (L' := [.ref 88, .int i, .int (nI what_n)]) (S' := [.int i, .ref 99]) (μ' := (am_S f g)) 3 rfl ?_
          refine am_F.ial (N := 64) rfl rfl rfl (hgI i (by assumption) (by assumption)) ?_
          show am_F _ _ 38 [.ref 88, .int i, .int (nI what_n)] [.int (f 99 i.toNatClampNeg)] (am_S f g) _
          refine am_F.ops (pc' := 47) (L' := [.ref 88, .int i, .int (nI what_n)]) (S' := [.int (f 99 i.toNatClampNeg)]) (μ' := (am_S f g)) 1 rfl ?_
          exact g9
        · intro res9 g9
          show am_F _ _ 41 [.ref 88, .int i, .int (nI what_n)] [] (am_S f g) _
          refine am_F.ops (pc' := 46) (L' := [.ref 88, .int i, .int (nI what_n)]) (S' := [.int i, .ref 100]) (μ' := (am_S f g)) 3 rfl ?_
          refine am_F.ial (N := 64) rfl rfl rfl (hgI i (by assumption) (by assumption)) ?_
          show am_F _ _ 47 [.ref 88, .int i, .int (nI what_n)] [.int (f 100 i.toNatClampNeg)] (am_S f g) _
          exact g9
      · intro res9 g9
        show am_F _ _ 23 [.ref 88, .int i, .int (nI what_n)] [] (am_S f g) _
        refine am_F.ops (pc' := 47) (L' := [.ref 88, .int i, .int (nI what_n)]) (S' := [.int (-2)]) (μ' := (am_S f g)) 2 rfl ?_
        exact g9
      show am_F _ _ 47 [.ref 88, .int i, .int (nI what_n)] [.int (if i < (f 88 23) then (if (nI what_n) = 0 then f 99 i.toNatClampNeg else f 100 i.toNatClampNeg) else (-2))] (am_S f g) _
      subst hKd
      exact am_F.eq (am_F.ret rfl rfl) hK
    · show am_F _ _ 13 [.ref 88, .int i, .int what] [] (am_S f g) _
      refine am_F.ops (pc' := 14) (L' := [.ref 88, .int i, .int what]) (S' := [.int (-1)]) (μ' := (am_S f g)) 1 rfl ?_
      subst hKd
      exact am_F.eq (am_F.ret rfl rfl) hK
/-- AccessLatticeModel.fails -/
def fn_m_fails (place : Int32) (f : Nat → Nat → Int32) : (Nat → Int32) := (if 0 ≤ (f 88 13) then f 88 else upd (f 88) 13 place)
theorem x_m_fails (place : Int32) (f : Nat → Nat → Int32) (g : Nat → Nat → Int64)  : am_D 0 183 2 [.ref 88, .int place] (am_S f g) ((none : Option Value), am_S (am_row f 88 (fn_m_fails place f)) g) := by
  refine am_D.of (code := am_k_183) rfl (L0 := [.ref 88, .int place]) rfl ?_
  generalize hres : ((none : Option Value), am_S (am_row f 88 (fn_m_fails place f)) g) = res
  obtain ⟨K, hKd⟩ : ∃ K : (Nat → Int32) → Prop, K = fun z => ((none : Option Value), am_S (am_row f 88 z) g) = res := ⟨_, rfl⟩
  have hK : K (fn_m_fails place f) := by rw [hKd]; exact hres
  clear hres
  unfold fn_m_fails at hK
  refine am_F.ops (pc' := 4) (L' := [.ref 88, .int place]) (S' := [.int (f 88 13)]) (μ' := (am_S f g)) 2 rfl ?_
  refine am_F.iteK 1 rfl K hK (fun c2 hK => ?_) (fun c2 hK => ?_)
  · show am_F _ _ 12 [.ref 88, .int place] [] (am_S f g) _
    refine am_F.mem (F' := (am_row f 88 (f 88))) (G' := g) ?_ (by first | rfl | (funext a; by_cases z0 : a = 88; (subst z0; rfl); simp only [am_ui, am_ul, am_row_ne z0])) (by first | rfl | (funext a; by_cases z0 : a = 88; (subst z0; rfl); simp only [am_ui, am_ul, am_row_ne z0]))
    subst hKd
    exact am_F.eq (am_F.ret rfl rfl) hK
  · show am_F _ _ 7 [.ref 88, .int place] [] (am_S f g) _
    refine am_F.ops (pc' := 9) (L' := [.ref 88, .int place]) (S' := [.int place, .ref 88]) (μ' := (am_S f g)) 2 rfl ?_
    refine am_F.pfi (F' := (am_row f 88 (upd (f 88) 13 place))) rfl rfl (by first | rfl | (funext a; by_cases z0 : a = 88; (subst z0; rfl); simp only [am_ui, am_ul, am_row_ne z0])) ?_
    subst hKd
    exact am_F.eq (am_F.ret rfl rfl) hK
/-- AccessLatticeModel.begins -/
def fn_m_begins (f : Nat → Nat → Int32) : (Nat → Int32) := upd (upd (upd (upd (f 88) 12 0) 13 (-1)) 14 0) 15 0
theorem x_m_begins (f : Nat → Nat → Int32) (g : Nat → Nat → Int64)  : am_D 0 174 1 [.ref 88] (am_S f g) ((none : Option Value), am_S (am_row f 88 (fn_m_begins f)) g) := by
  refine am_D.of (code := am_k_174) rfl (L0 := [.ref 88]) rfl ?_
  generalize hres : ((none : Option Value), am_S (am_row f 88 (fn_m_begins f)) g) = res
  obtain ⟨K, hKd⟩ : ∃ K : (Nat → Int32) → Prop, K = fun z => ((none : Option Value), am_S (am_row f 88 z) g) = res := ⟨_, rfl⟩
  have hK : K (fn_m_begins f) := by rw [hKd]; exact hres
  clear hres
  unfold fn_m_begins at hK
  refine am_F.ops (pc' := 2) (L' := [.ref 88]) (S' := [.int 0, .ref 88]) (μ' := (am_S f g)) 2 rfl ?_
  refine am_F.pfi (F' := (am_row f 88 (upd (f 88) 12 0))) rfl rfl (by first | rfl | (funext a; by_cases z0 : a = 88; (subst z0; rfl); simp only [am_ui, am_ul, am_row_ne z0])) ?_
  refine am_F.ops (pc' := 7) (L' := [.ref 88]) (S' := [.int (-1), .ref 88]) (μ' := (am_S (am_row f 88 (upd (f 88) 12 0)) g)) 2 rfl ?_
  refine am_F.pfi (F' := (am_row f 88 (upd (upd (f 88) 12 0) 13 (-1)))) rfl rfl (by first | rfl | (funext a; by_cases z0 : a = 88; (subst z0; rfl); simp only [am_ui, am_ul, am_row_ne z0])) ?_
  refine am_F.ops (pc' := 12) (L' := [.ref 88]) (S' := [.int 0, .ref 88]) (μ' := (am_S (am_row f 88 (upd (upd (f 88) 12 0) 13 (-1))) g)) 2 rfl ?_
  refine am_F.pfi (F' := (am_row f 88 (upd (upd (upd (f 88) 12 0) 13 (-1)) 14 0))) rfl rfl (by first | rfl | (funext a; by_cases z0 : a = 88; (subst z0; rfl); simp only [am_ui, am_ul, am_row_ne z0])) ?_
  refine am_F.ops (pc' := 17) (L' := [.ref 88]) (S' := [.int 0, .ref 88]) (μ' := (am_S (am_row f 88 (upd (upd (upd (f 88) 12 0) 13 (-1)) 14 0)) g)) 2 rfl ?_
  refine am_F.pfi (F' := (am_row f 88 (upd (upd (upd (upd (f 88) 12 0) 13 (-1)) 14 0) 15 0))) rfl rfl (by first | rfl | (funext a; by_cases z0 : a = 88; (subst z0; rfl); simp only [am_ui, am_ul, am_row_ne z0])) ?_
  subst hKd
  exact am_F.eq (am_F.ret rfl rfl) hK
/-- AccessLatticeModel.levels -/
def st_m_levels_2  : Nat → (Nat → Int32) → (Nat → Int32) := fun i2 r2_95 => (upd r2_95 i2 0)
def lf_m_levels_2 (f : Nat → Nat → Int32) : (Nat → Int32) := am_for st_m_levels_2 20 0 (f 95)
def st_m_levels_39 (f : Nat → Nat → Int32) (i31 : Nat) : Nat → (Nat → Int32) → (Nat → Int32) := fun i39 r39_95 => (upd r39_95 i31 (bif (fn_m_has (f 89 (144 + i31)) (nI i39)) then (if (r39_95 i31) < ((r39_95 i39) + 1) then ((r39_95 i39) + 1) else (r39_95 i31)) else r39_95 i31))
def lf_m_levels_39 (f : Nat → Nat → Int32) (i31 : Nat) (r31_95 : Nat → Int32) : (Nat → Int32) := am_for (st_m_levels_39 f i31) 20 0 r31_95
def st_m_levels_31 (f : Nat → Nat → Int32) : Nat → (Nat → Int32) → (Nat → Int32) := fun i31 r31_95 => (lf_m_levels_39 f i31 r31_95)
def lf_m_levels_31 (f : Nat → Nat → Int32) (r23_95 : Nat → Int32) : (Nat → Int32) := am_for (st_m_levels_31 f) 20 0 r23_95
def st_m_levels_23 (f : Nat → Nat → Int32) : Nat → (Nat → Int32) → (Nat → Int32) := fun i23 r23_95 => (lf_m_levels_31 f r23_95)
def lf_m_levels_23 (f : Nat → Nat → Int32) (z2_1 : (Nat → Int32)) : (Nat → Int32) := am_for (st_m_levels_23 f) 20 0 z2_1
def fn_m_levels (f : Nat → Nat → Int32) : (Nat → Int32) := (lf_m_levels_23 f (lf_m_levels_2 f))
theorem lp_m_levels_2 (f : Nat → Nat → Int32) (g : Nat → Nat → Int64)  (res : Option Value × am_M) : ∀ (n i2 : Nat) (r2_95 : Nat → Int32) , i2 + n = 20 → (fun (z : (Nat → Int32)) => ∀ (wc : Value), am_F 1 am_k_239 21 [.ref 88, wc, am_un, am_un] [] (am_S (am_row f 95 z) g) res) (am_for st_m_levels_2 n i2 r2_95) → am_F 1 am_k_239 2 [.ref 88, .int (nI i2), am_un, am_un] [] (am_S (am_row f 95 r2_95) g) res := by
  intro n
  induction n with
  | zero =>
    intro i2 r2_95 hi hK
    refine am_F.pos 3 rfl (by show 20 ≤ nI i2; rw [show (20 : Int32) = nI 20 from rfl]; exact nI_le (by omega) (by omega)) ?_
    exact hK _
  | succ n ih =>
    intro i2 r2_95 hi hK
    refine am_F.neg 3 rfl (by show ¬ 20 ≤ nI i2; rw [show (20 : Int32) = nI 20 from rfl]; exact nI_ge (by omega) (by omega)) ?_
    have hb2 : i2 < 20 := by omega
    show am_F _ _ 8 [.ref 88, .int (nI i2), am_un, am_un] [] (am_S (am_row f 95 r2_95) g) _
    obtain ⟨K, hKd⟩ : ∃ K : ((Nat → Int32)) → Prop, K = fun s => (fun (z : (Nat → Int32)) => ∀ (wc : Value), am_F 1 am_k_239 21 [.ref 88, wc, am_un, am_un] [] (am_S (am_row f 95 z) g) res) (am_for st_m_levels_2 n (i2 + 1) s) := ⟨_, rfl⟩
    have hK : K (st_m_levels_2 i2 r2_95) := by rw [hKd]; exact hK
    unfold st_m_levels_2 at hK
    refine am_F.ops (pc' := 14) (L' := [.ref 88, .int (nI i2), am_un, am_un]) (S' := [.int 0, .int (nI i2), .ref 95]) (μ' := (am_S (am_row f 95 r2_95) g)) 4 rfl ?_
    refine am_F.iasE (F' := (am_row f 95 (upd r2_95 i2 0))) (m := i2) (N := 20) rfl rfl rfl rfl (by omega) (by decide) (by first | rfl | (funext a; by_cases z0 : a = 95; (subst z0; rfl); simp only [am_ui, am_ul, am_row_ne z0])) ?_
    refine am_F.ops (pc' := 2) (L' := [.ref 88, .int ((nI i2) + 1), am_un, am_un]) (S' := []) (μ' := (am_S (am_row f 95 (upd r2_95 i2 0)) g)) 2 rfl ?_
    rw [nI_1 i2]
    subst hKd
    exact ih (i2 + 1) (upd r2_95 i2 0) (by omega)  hK
theorem lp_m_levels_39 (f : Nat → Nat → Int32) (g : Nat → Nat → Int64) (z2_1 : (Nat → Int32)) (i23 : Nat) (r23_95 : Nat → Int32) (i31 : Nat) (r31_95 : Nat → Int32) (hb23 : i23 < 20) (hb31 : i31 < 20) (res : Option Value × am_M) : ∀ (n i39 : Nat) (r39_95 : Nat → Int32) , i39 + n = 20 → (fun (z : (Nat → Int32)) => ∀ (wc : Value), am_F 1 am_k_239 100 [.ref 88, .int (nI i23), .int (nI i31), wc] [] (am_S (am_row f 95 z) g) res) (am_for (st_m_levels_39 f i31) n i39 r39_95) → am_F 1 am_k_239 39 [.ref 88, .int (nI i23), .int (nI i31), .int (nI i39)] [] (am_S (am_row f 95 r39_95) g) res := by
  intro n
  induction n with
  | zero =>
    intro i39 r39_95 hi hK
    refine am_F.pos 3 rfl (by show 20 ≤ nI i39; rw [show (20 : Int32) = nI 20 from rfl]; exact nI_le (by omega) (by omega)) ?_
    exact hK _
  | succ n ih =>
    intro i39 r39_95 hi hK
    refine am_F.neg 3 rfl (by show ¬ 20 ≤ nI i39; rw [show (20 : Int32) = nI 20 from rfl]; exact nI_ge (by omega) (by omega)) ?_
    have hb39 : i39 < 20 := by omega
    show am_F _ _ 45 [.ref 88, .int (nI i23), .int (nI i31), .int (nI i39)] [] (am_S (am_row f 95 r39_95) g) _
    obtain ⟨K, hKd⟩ : ∃ K : ((Nat → Int32)) → Prop, K = fun s => (fun (z : (Nat → Int32)) => ∀ (wc : Value), am_F 1 am_k_239 100 [.ref 88, .int (nI i23), .int (nI i31), wc] [] (am_S (am_row f 95 z) g) res) (am_for (st_m_levels_39 f i31) n (i39 + 1) s) := ⟨_, rfl⟩
    have hK : K ((st_m_levels_39 f i31) i39 r39_95) := by rw [hKd]; exact hK
    unfold st_m_levels_39 at hK
    refine am_F.ops (pc' := 59) (L' := [.ref 88, .int (nI i23), .int (nI i31), .int (nI i39)]) (S' := [.int (144 + (nI i31)), .ref 89, .int (nI i31), .ref 95]) (μ' := (am_S (am_row f 95 r39_95) g)) 8 rfl ?_
    refine am_F.ialE (m := (144 + i31)) (N := 3340) rfl rfl rfl (am_addE rfl rfl) (by omega) (by decide) ?_
    show am_F _ _ 60 [.ref 88, .int (nI i23), .int (nI i31), .int (nI i39)] [.int (f 89 (144 + i31)), .int (nI i31), .ref 95] (am_S (am_row f 95 r39_95) g) _
    refine am_F.ops (pc' := 61) (L' := [.ref 88, .int (nI i23), .int (nI i31), .int (nI i39)]) (S' := [.int (nI i39), .int (f 89 (144 + i31)), .int (nI i31), .ref 95]) (μ' := (am_S (am_row f 95 r39_95) g)) 1 rfl ?_
    refine am_F.call rfl rfl (x_m_has (f 89 (144 + i31)) (nI i39) (am_row f 95 r39_95) g ) (by decide) ?_
    show am_F _ _ 64 [.ref 88, .int (nI i23), .int (nI i31), .int (nI i39)] [.int (am_b (fn_m_has (f 89 (144 + i31)) (nI i39))), .int (nI i31), .ref 95] (am_S (am_row f 95 r39_95) g) _
    refine am_F.to (am_To.bif (pc' := 93) (L2 := [.ref 88, .int (nI i23), .int (nI i31), .int (nI i39)]) (S2 := [.int (nI i31), .ref 95]) (μ2 := (am_S (am_row f 95 r39_95) g)) (a := (if (r39_95 i31) < ((r39_95 i39) + 1) then ((r39_95 i39) + 1) else (r39_95 i31))) (b := r39_95 i31) 1 rfl (fun c13 => ?_) (fun c13 => ?_)) ?_
    · intro res9 g9
      show am_F _ _ 67 [.ref 88, .int (nI i23), .int (nI i31), .int (nI i39)] [.int (nI i31), .ref 95] (am_S (am_row f 95 r39_95) g) _
      refine am_F.ops (pc' := 72) (L' := [.ref 88, .int (nI i23), .int (nI i31), .int (nI i39)]) (S' := [.int (nI i31), .ref 95, .int (nI i31), .ref 95]) (μ' := (am_S (am_row f 95 r39_95) g)) 3 rfl ?_
      refine am_F.ialE (m := i31) (N := 20) rfl rfl rfl rfl (by omega) (by decide) ?_
      show am_F _ _ 73 [.ref 88, .int (nI i23), .int (nI i31), .int (nI i39)] [.int (r39_95 i31), .int (nI i31), .ref 95] (am_S (am_row f 95 r39_95) g) _
      refine am_F.ops (pc' := 78) (L' := [.ref 88, .int (nI i23), .int (nI i31), .int (nI i39)]) (S' := [.int (nI i39), .ref 95, .int (r39_95 i31), .int (nI i31), .ref 95]) (μ' := (am_S (am_row f 95 r39_95) g)) 3 rfl ?_
      refine am_F.ialE (m := i39) (N := 20) rfl rfl rfl rfl (by omega) (by decide) ?_
      show am_F _ _ 79 [.ref 88, .int (nI i23), .int (nI i31), .int (nI i39)] [.int (r39_95 i39), .int (r39_95 i31), .int (nI i31), .ref 95] (am_S (am_row f 95 r39_95) g) _
      refine am_F.ops (pc' := 93) (L' := [.ref 88, .int (nI i23), .int (nI i31), .int (nI i39)]) (S' := [.int (if (r39_95 i31) < ((r39_95 i39) + 1) then ((r39_95 i39) + 1) else (r39_95 i31)), .int (nI i31), .ref 95]) (μ' := (am_S (am_row f 95 r39_95) g)) 4 rfl ?_
      exact g9
    · intro res9 g9
      show am_F _ _ 87 [.ref 88, .int (nI i23), .int (nI i31), .int (nI i39)] [.int (nI i31), .ref 95] (am_S (am_row f 95 r39_95) g) _
      refine am_F.ops (pc' := 92) (L' := [.ref 88, .int (nI i23), .int (nI i31), .int (nI i39)]) (S' := [.int (nI i31), .ref 95, .int (nI i31), .ref 95]) (μ' := (am_S (am_row f 95 r39_95) g)) 3 rfl ?_
      refine am_F.ialE (m := i31) (N := 20) rfl rfl rfl rfl (by omega) (by decide) ?_
      show am_F _ _ 93 [.ref 88, .int (nI i23), .int (nI i31), .int (nI i39)] [.int (r39_95 i31), .int (nI i31), .ref 95] (am_S (am_row f 95 r39_95) g) _
      exact g9
    show am_F _ _ 93 [.ref 88, .int (nI i23), .int (nI i31), .int (nI i39)] [.int (bif (fn_m_has (f 89 (144 + i31)) (nI i39)) then (if (r39_95 i31) < ((r39_95 i39) + 1) then ((r39_95 i39) + 1) else (r39_95 i31)) else r39_95 i31), .int (nI i31), .ref 95] (am_S (am_row f 95 r39_95) g) _
    refine am_F.iasE (F' := (am_row f 95 (upd r39_95 i31 (bif (fn_m_has (f 89 (144 + i31)) (nI i39)) then (if (r39_95 i31) < ((r39_95 i39) + 1) then ((r39_95 i39) + 1) else (r39_95 i31)) else r39_95 i31)))) (m := i31) (N := 20) rfl rfl rfl rfl (by omega) (by decide) (by first | rfl | (funext a; by_cases z0 : a = 95; (subst z0; rfl); simp only [am_ui, am_ul, am_row_ne z0])) ?_
    refine am_F.ops (pc' := 39) (L' := [.ref 88, .int (nI i23), .int (nI i31), .int ((nI i39) + 1)]) (S' := []) (μ' := (am_S (am_row f 95 (upd r39_95 i31 (bif (fn_m_has (f 89 (144 + i31)) (nI i39)) then (if (r39_95 i31) < ((r39_95 i39) + 1) then ((r39_95 i39) + 1) else (r39_95 i31)) else r39_95 i31))) g)) 2 rfl ?_
    rw [nI_1 i39]
    subst hKd
    exact ih (i39 + 1) (upd r39_95 i31 (bif (fn_m_has (f 89 (144 + i31)) (nI i39)) then (if (r39_95 i31) < ((r39_95 i39) + 1) then ((r39_95 i39) + 1) else (r39_95 i31)) else r39_95 i31)) (by omega)  hK
theorem lp_m_levels_31 (f : Nat → Nat → Int32) (g : Nat → Nat → Int64) (z2_1 : (Nat → Int32)) (i23 : Nat) (r23_95 : Nat → Int32) (hb23 : i23 < 20) (res : Option Value × am_M) : ∀ (n i31 : Nat) (r31_95 : Nat → Int32) (w31_3 : Value), i31 + n = 20 → (fun (z : (Nat → Int32)) => ∀ (wc : Value) (w31_3 : Value), am_F 1 am_k_239 106 [.ref 88, .int (nI i23), wc, w31_3] [] (am_S (am_row f 95 z) g) res) (am_for (st_m_levels_31 f) n i31 r31_95) → am_F 1 am_k_239 31 [.ref 88, .int (nI i23), .int (nI i31), w31_3] [] (am_S (am_row f 95 r31_95) g) res := by
  intro n
  induction n with
  | zero =>
    intro i31 r31_95 w31_3 hi hK
    refine am_F.pos 3 rfl (by show 20 ≤ nI i31; rw [show (20 : Int32) = nI 20 from rfl]; exact nI_le (by omega) (by omega)) ?_
    exact hK _ _
  | succ n ih =>
    intro i31 r31_95 w31_3 hi hK
    refine am_F.neg 3 rfl (by show ¬ 20 ≤ nI i31; rw [show (20 : Int32) = nI 20 from rfl]; exact nI_ge (by omega) (by omega)) ?_
    have hb31 : i31 < 20 := by omega
    show am_F _ _ 37 [.ref 88, .int (nI i23), .int (nI i31), w31_3] [] (am_S (am_row f 95 r31_95) g) _
    obtain ⟨K, hKd⟩ : ∃ K : ((Nat → Int32)) → Prop, K = fun s => (fun (z : (Nat → Int32)) => ∀ (wc : Value) (w31_3 : Value), am_F 1 am_k_239 106 [.ref 88, .int (nI i23), wc, w31_3] [] (am_S (am_row f 95 z) g) res) (am_for (st_m_levels_31 f) n (i31 + 1) s) := ⟨_, rfl⟩
    have hK : K ((st_m_levels_31 f) i31 r31_95) := by rw [hKd]; exact hK
    unfold st_m_levels_31 at hK
    refine am_F.ops (pc' := 39) (L' := [.ref 88, .int (nI i23), .int (nI i31), .int 0]) (S' := []) (μ' := (am_S (am_row f 95 r31_95) g)) 2 rfl ?_
    show am_F _ _ 39 [.ref 88, .int (nI i23), .int (nI i31), .int (nI 0)] [] (am_S (am_row f 95 r31_95) g) _
    refine lp_m_levels_39 f g z2_1 i23 r23_95 i31 r31_95 hb23 hb31 _ 20 0 r31_95  (by omega)  ?_
    rw [show am_for (st_m_levels_39 f i31) 20 0 r31_95 = (lf_m_levels_39 f i31 r31_95) from rfl]
    generalize (lf_m_levels_39 f i31 r31_95) = z39_14 at hK ⊢
    intro wc
    show am_F _ _ 100 [.ref 88, .int (nI i23), .int (nI i31), wc] [] (am_S (am_row f 95 z39_14) g) _
    refine am_F.ops (pc' := 31) (L' := [.ref 88, .int (nI i23), .int ((nI i31) + 1), wc]) (S' := []) (μ' := (am_S (am_row f 95 z39_14) g)) 2 rfl ?_
    rw [nI_1 i31]
    subst hKd
    exact ih (i31 + 1) z39_14 wc (by omega)  hK
theorem lp_m_levels_23 (f : Nat → Nat → Int32) (g : Nat → Nat → Int64) (z2_1 : (Nat → Int32))  (res : Option Value × am_M) : ∀ (n i23 : Nat) (r23_95 : Nat → Int32) (w23_2 : Value) (w23_3 : Value), i23 + n = 20 → (fun (z : (Nat → Int32)) => ∀ (wc : Value) (w23_2 : Value) (w23_3 : Value), am_F 1 am_k_239 112 [.ref 88, wc, w23_2, w23_3] [] (am_S (am_row f 95 z) g) res) (am_for (st_m_levels_23 f) n i23 r23_95) → am_F 1 am_k_239 23 [.ref 88, .int (nI i23), w23_2, w23_3] [] (am_S (am_row f 95 r23_95) g) res := by
  intro n
  induction n with
  | zero =>
    intro i23 r23_95 w23_2 w23_3 hi hK
    refine am_F.pos 3 rfl (by show 20 ≤ nI i23; rw [show (20 : Int32) = nI 20 from rfl]; exact nI_le (by omega) (by omega)) ?_
    exact hK _ _ _
  | succ n ih =>
    intro i23 r23_95 w23_2 w23_3 hi hK
    refine am_F.neg 3 rfl (by show ¬ 20 ≤ nI i23; rw [show (20 : Int32) = nI 20 from rfl]; exact nI_ge (by omega) (by omega)) ?_
    have hb23 : i23 < 20 := by omega
    show am_F _ _ 29 [.ref 88, .int (nI i23), w23_2, w23_3] [] (am_S (am_row f 95 r23_95) g) _
    obtain ⟨K, hKd⟩ : ∃ K : ((Nat → Int32)) → Prop, K = fun s => (fun (z : (Nat → Int32)) => ∀ (wc : Value) (w23_2 : Value) (w23_3 : Value), am_F 1 am_k_239 112 [.ref 88, wc, w23_2, w23_3] [] (am_S (am_row f 95 z) g) res) (am_for (st_m_levels_23 f) n (i23 + 1) s) := ⟨_, rfl⟩
    have hK : K ((st_m_levels_23 f) i23 r23_95) := by rw [hKd]; exact hK
    unfold st_m_levels_23 at hK
    refine am_F.ops (pc' := 31) (L' := [.ref 88, .int (nI i23), .int 0, w23_3]) (S' := []) (μ' := (am_S (am_row f 95 r23_95) g)) 2 rfl ?_
    show am_F _ _ 31 [.ref 88, .int (nI i23), .int (nI 0), w23_3] [] (am_S (am_row f 95 r23_95) g) _
    refine lp_m_levels_31 f g z2_1 i23 r23_95 hb23 _ 20 0 r23_95 w23_3 (by omega)  ?_
    rw [show am_for (st_m_levels_31 f) 20 0 r23_95 = (lf_m_levels_31 f r23_95) from rfl]
    generalize (lf_m_levels_31 f r23_95) = z31_15 at hK ⊢
    intro wc w31_3
    show am_F _ _ 106 [.ref 88, .int (nI i23), wc, w31_3] [] (am_S (am_row f 95 z31_15) g) _
    refine am_F.ops (pc' := 23) (L' := [.ref 88, .int ((nI i23) + 1), wc, w31_3]) (S' := []) (μ' := (am_S (am_row f 95 z31_15) g)) 2 rfl ?_
    rw [nI_1 i23]
    subst hKd
    exact ih (i23 + 1) z31_15 wc w31_3 (by omega)  hK
theorem x_m_levels (f : Nat → Nat → Int32) (g : Nat → Nat → Int64)  : am_D 1 239 4 [.ref 88] (am_S f g) ((none : Option Value), am_S (am_row f 95 (fn_m_levels f)) g) := by
  refine am_D.of (code := am_k_239) rfl (L0 := [.ref 88, am_un, am_un, am_un]) rfl ?_
  generalize hres : ((none : Option Value), am_S (am_row f 95 (fn_m_levels f)) g) = res
  obtain ⟨K, hKd⟩ : ∃ K : (Nat → Int32) → Prop, K = fun z => ((none : Option Value), am_S (am_row f 95 z) g) = res := ⟨_, rfl⟩
  have hK : K (fn_m_levels f) := by rw [hKd]; exact hres
  clear hres
  unfold fn_m_levels at hK
  refine am_F.ops (pc' := 2) (L' := [.ref 88, .int 0, am_un, am_un]) (S' := []) (μ' := (am_S f g)) 2 rfl ?_
  refine am_F.mem (F' := (am_row f 95 (f 95))) (G' := g) ?_ (by first | rfl | (funext a; by_cases z0 : a = 95; (subst z0; rfl); simp only [am_ui, am_ul, am_row_ne z0])) (by first | rfl | (funext a; by_cases z0 : a = 95; (subst z0; rfl); simp only [am_ui, am_ul, am_row_ne z0]))
  show am_F _ _ 2 [.ref 88, .int (nI 0), am_un, am_un] [] (am_S (am_row f 95 (f 95)) g) _
  refine lp_m_levels_2 f g  _ 20 0 (f 95)  (by omega)  ?_
  rw [show am_for st_m_levels_2 20 0 (f 95) = (lf_m_levels_2 f) from rfl]
  generalize (lf_m_levels_2 f) = z2_1 at hK ⊢
  intro wc
  show am_F _ _ 21 [.ref 88, wc, am_un, am_un] [] (am_S (am_row f 95 z2_1) g) _
  refine am_F.ops (pc' := 23) (L' := [.ref 88, .int 0, am_un, am_un]) (S' := []) (μ' := (am_S (am_row f 95 z2_1) g)) 2 rfl ?_
  show am_F _ _ 23 [.ref 88, .int (nI 0), am_un, am_un] [] (am_S (am_row f 95 z2_1) g) _
  refine lp_m_levels_23 f g z2_1  _ 20 0 z2_1 am_un am_un (by omega)  ?_
  rw [show am_for (st_m_levels_23 f) 20 0 z2_1 = (lf_m_levels_23 f z2_1) from rfl]
  generalize (lf_m_levels_23 f z2_1) = z23_16 at hK ⊢
  intro wc w23_2 w23_3
  show am_F _ _ 112 [.ref 88, wc, w23_2, w23_3] [] (am_S (am_row f 95 z23_16) g) _
  subst hKd
  exact am_F.eq (am_F.ret rfl rfl) hK
/-- AccessLatticeModel.level -/
def fn_m_level (role : Int32) (f : Nat → Nat → Int32) : Int32 × (Nat → Int32) := (bif (fn_m_isRole role) then ((fn_m_levels f) (role.toNatClampNeg), (fn_m_levels f)) else ((-1), f 95))
theorem x_m_level (role : Int32) (f : Nat → Nat → Int32) (g : Nat → Nat → Int64)  : am_D 2 238 2 [.ref 88, .int role] (am_S f g) (some (Value.int ((fn_m_level role f).1)), am_S (am_row f 95 ((fn_m_level role f).2)) g) := by
  refine am_D.of (code := am_k_238) rfl (L0 := [.ref 88, .int role]) rfl ?_
  generalize hres : (some (Value.int ((fn_m_level role f).1)), am_S (am_row f 95 ((fn_m_level role f).2)) g) = res
  obtain ⟨K, hKd⟩ : ∃ K : (Int32 × (Nat → Int32)) → Prop, K = fun z => (some (Value.int z.1), am_S (am_row f 95 z.2) g) = res := ⟨_, rfl⟩
  have hK : K (fn_m_level role f) := by rw [hKd]; exact hres
  clear hres
  unfold fn_m_level at hK
  refine am_F.ops (pc' := 1) (L' := [.ref 88, .int role]) (S' := [.int role]) (μ' := (am_S f g)) 1 rfl ?_
  refine am_F.call rfl rfl (x_m_isRole role f g ) (by decide) ?_
  show am_F _ _ 4 [.ref 88, .int role] [.int (am_b (fn_m_isRole role))] (am_S f g) _
  refine am_F.bifK 1 rfl K hK (fun c1 hK => ?_) (fun c1 hK => ?_)
  · obtain ⟨role_n, hrole_n, erole_n⟩ := am_mRole c1
    subst erole_n
    try simp only [nI_clamp (show role_n < 2147483648 by omega)] at hK
    show am_F _ _ 9 [.ref 88, .int (nI role_n)] [] (am_S f g) _
    refine am_F.ops (pc' := 10) (L' := [.ref 88, .int (nI role_n)]) (S' := [.ref 88]) (μ' := (am_S f g)) 1 rfl ?_
    refine am_F.call rfl rfl (x_m_levels  f g ) (by decide) ?_
    obtain ⟨y2, hy2⟩ : ∃ z, (fn_m_levels f) = z := ⟨_, rfl⟩
    (try rw [hy2] at hK)
    (try rw [hy2])
    refine am_F.mem (F' := (am_row f 95 y2)) (G' := g) ?_ (by first | rfl | (funext a; by_cases z0 : a = 95; (subst z0; rfl); simp only [am_ui, am_ul, am_row_ne z0])) (by first | rfl | (funext a; by_cases z0 : a = 95; (subst z0; rfl); simp only [am_ui, am_ul, am_row_ne z0]))
    show am_F _ _ 13 [.ref 88, .int (nI role_n)] [] (am_S (am_row f 95 y2) g) _
    refine am_F.ops (pc' := 18) (L' := [.ref 88, .int (nI role_n)]) (S' := [.int (nI role_n), .ref 95]) (μ' := (am_S (am_row f 95 y2) g)) 3 rfl ?_
    refine am_F.ialE (m := role_n) (N := 20) rfl rfl rfl rfl (by omega) (by decide) ?_
    show am_F _ _ 19 [.ref 88, .int (nI role_n)] [.int (y2 role_n)] (am_S (am_row f 95 y2) g) _
    subst hKd
    exact am_F.eq (am_F.ret rfl rfl) hK
  · show am_F _ _ 7 [.ref 88, .int role] [] (am_S f g) _
    refine am_F.ops (pc' := 8) (L' := [.ref 88, .int role]) (S' := [.int (-1)]) (μ' := (am_S f g)) 1 rfl ?_
    refine am_F.mem (F' := (am_row f 95 (f 95))) (G' := g) ?_ (by first | rfl | (funext a; by_cases z0 : a = 95; (subst z0; rfl); simp only [am_ui, am_ul, am_row_ne z0])) (by first | rfl | (funext a; by_cases z0 : a = 95; (subst z0; rfl); simp only [am_ui, am_ul, am_row_ne z0]))
    subst hKd
    exact am_F.eq (am_F.ret rfl rfl) hK
/-- AccessLatticeModel.roles -/
def fn_m_roles (role : Int32) (way : Int32) (f : Nat → Nat → Int32) : Int32 := (bif (fn_m_isRole role) then (bif (fn_m_isIn way 0 1) then (if way = 0 then f 92 (role.toNatClampNeg) else (fn_m_allAbove role f)) &&& ((1 <<< (role &&& 31)) ^^^ (-1)) else (-1)) else (-1))
theorem x_m_roles (role : Int32) (way : Int32) (f : Nat → Nat → Int32) (g : Nat → Nat → Int64)  : am_D 2 237 3 [.ref 88, .int role, .int way] (am_S f g) (some (Value.int (fn_m_roles role way f)), am_S f g) := by
  refine am_D.of (code := am_k_237) rfl (L0 := [.ref 88, .int role, .int way]) rfl ?_
  generalize hres : (some (Value.int (fn_m_roles role way f)), am_S f g) = res
  obtain ⟨K, hKd⟩ : ∃ K : Int32 → Prop, K = fun z => (some (Value.int z), am_S f g) = res := ⟨_, rfl⟩
  have hK : K (fn_m_roles role way f) := by rw [hKd]; exact hres
  clear hres
  unfold fn_m_roles at hK
  refine am_F.ops (pc' := 1) (L' := [.ref 88, .int role, .int way]) (S' := [.int role]) (μ' := (am_S f g)) 1 rfl ?_
  refine am_F.call rfl rfl (x_m_isRole role f g ) (by decide) ?_
  show am_F _ _ 4 [.ref 88, .int role, .int way] [.int (am_b (fn_m_isRole role))] (am_S f g) _
  refine am_F.bifK 1 rfl K hK (fun c1 hK => ?_) (fun c1 hK => ?_)
  · obtain ⟨role_n, hrole_n, erole_n⟩ := am_mRole c1
    subst erole_n
    try simp only [nI_clamp (show role_n < 2147483648 by omega)] at hK
    show am_F _ _ 7 [.ref 88, .int (nI role_n), .int way] [] (am_S f g) _
    refine am_F.ops (pc' := 10) (L' := [.ref 88, .int (nI role_n), .int way]) (S' := [.int 1, .int 0, .int way]) (μ' := (am_S f g)) 3 rfl ?_
    refine am_F.call rfl rfl (x_m_isIn way 0 1 f g ) (by decide) ?_
    show am_F _ _ 13 [.ref 88, .int (nI role_n), .int way] [.int (am_b (fn_m_isIn way 0 1))] (am_S f g) _
    refine am_F.bifK 1 rfl K hK (fun c2 hK => ?_) (fun c2 hK => ?_)
    · obtain ⟨way_n, hway_n, eway_n⟩ := am_mInN (N := 2) c2 (by decide)
      subst eway_n
      try simp only [nI_clamp (show way_n < 2147483648 by omega)] at hK
      show am_F _ _ 18 [.ref 88, .int (nI role_n), .int (nI way_n)] [] (am_S f g) _
      refine am_F.ops (pc' := 19) (L' := [.ref 88, .int (nI role_n), .int (nI way_n)]) (S' := [.int (nI way_n)]) (μ' := (am_S f g)) 1 rfl ?_
      refine am_F.to (am_To.ite (pc' := 36) (L2 := [.ref 88, .int (nI role_n), .int (nI way_n)]) (S2 := []) (μ2 := (am_S f g)) (a := f 92 role_n) (b := (fn_m_allAbove (nI role_n) f)) 1 rfl (fun c3 => ?_) (fun c3 => ?_)) ?_
      · intro res9 g9
        show am_F _ _ 22 [.ref 88, .int (nI role_n), .int (nI way_n)] [] (am_S f g) _
        refine am_F.ops (pc' := 27) (L' := [.ref 88, .int (nI role_n), .int (nI way_n)]) (S' := [.int (nI role_n), .ref 92]) (μ' := (am_S f g)) 3 rfl ?_
        refine am_F.ialE (m := role_n) (N := 20) rfl rfl rfl rfl (by omega) (by decide) ?_
        show am_F _ _ 28 [.ref 88, .int (nI role_n), .int (nI way_n)] [.int (f 92 role_n)] (am_S f g) _
        refine am_F.ops (pc' := 36) (L' := [.ref 88, .int (nI role_n), .int (nI way_n)]) (S' := [.int (f 92 role_n)]) (μ' := (am_S f g)) 1 rfl ?_
        exact g9
      · intro res9 g9
        show am_F _ _ 31 [.ref 88, .int (nI role_n), .int (nI way_n)] [] (am_S f g) _
        refine am_F.ops (pc' := 33) (L' := [.ref 88, .int (nI role_n), .int (nI way_n)]) (S' := [.int (nI role_n), .ref 88]) (μ' := (am_S f g)) 2 rfl ?_
        refine am_F.call rfl rfl (x_m_allAbove (nI role_n) f g ) (by decide) ?_
        show am_F _ _ 36 [.ref 88, .int (nI role_n), .int (nI way_n)] [.int (fn_m_allAbove (nI role_n) f)] (am_S f g) _
        exact g9
      show am_F _ _ 36 [.ref 88, .int (nI role_n), .int (nI way_n)] [.int (if (nI way_n) = 0 then f 92 role_n else (fn_m_allAbove (nI role_n) f))] (am_S f g) _
      refine am_F.ops (pc' := 42) (L' := [.ref 88, .int (nI role_n), .int (nI way_n)]) (S' := [.int ((if (nI way_n) = 0 then f 92 role_n else (fn_m_allAbove (nI role_n) f)) &&& ((1 <<< ((nI role_n) &&& 31)) ^^^ (-1)))]) (μ' := (am_S f g)) 6 rfl ?_
      subst hKd
      exact am_F.eq (am_F.ret rfl rfl) hK
    · show am_F _ _ 16 [.ref 88, .int (nI role_n), .int way] [] (am_S f g) _
      refine am_F.ops (pc' := 17) (L' := [.ref 88, .int (nI role_n), .int way]) (S' := [.int (-1)]) (μ' := (am_S f g)) 1 rfl ?_
      subst hKd
      exact am_F.eq (am_F.ret rfl rfl) hK
  · show am_F _ _ 16 [.ref 88, .int role, .int way] [] (am_S f g) _
    refine am_F.ops (pc' := 17) (L' := [.ref 88, .int role, .int way]) (S' := [.int (-1)]) (μ' := (am_S f g)) 1 rfl ?_
    subst hKd
    exact am_F.eq (am_F.ret rfl rfl) hK
/-- AccessLatticeModel.join -/
def st_m_join_61 (a_n : Nat) (b_n : Nat) (way_n : Nat) (f : Nat → Nat → Int32) : Nat → Unit → Unit ⊕ (Unit ⊕ Int32) := fun i61 _ => (bif (fn_m_has (if (nI way_n) = 0 then (fn_m_allAbove (nI a_n) f) &&& (fn_m_allAbove (nI b_n) f) else (f 92 a_n) &&& (f 92 b_n)) (nI i61)) then (if ((if (nI way_n) = 0 then (fn_m_allAbove (nI a_n) f) &&& (fn_m_allAbove (nI b_n) f) else (f 92 a_n) &&& (f 92 b_n)) &&& ((if (nI way_n) = 0 then (fn_m_allAbove (nI i61) f) else f 92 i61) ^^^ (-1))) = 0 then .inr (.inr (nI i61)) else .inl ()) else .inl ())
def lf_m_join_61 (a_n : Nat) (b_n : Nat) (way_n : Nat) (f : Nat → Nat → Int32) : Unit ⊕ Int32 := am_forX (st_m_join_61 a_n b_n way_n f) 20 0 ()
def fn_m_join (a : Int32) (b : Int32) (way : Int32) (f : Nat → Nat → Int32) : Int32 := (bif (fn_m_isRole a) then (bif (fn_m_isRole b) then (bif (fn_m_isIn way 0 1) then (Sum.elim (fun (z61 : Unit) => (-2)) (fun (z : Int32) => z) (lf_m_join_61 (a.toNatClampNeg) (b.toNatClampNeg) (way.toNatClampNeg) f)) else (-1)) else (-1)) else (-1))
theorem lp_m_join_61 (a_n : Nat) (b_n : Nat) (way_n : Nat) (f : Nat → Nat → Int32) (g : Nat → Nat → Int64) (ha_n : a_n < 20) (hb_n : b_n < 20) (hway_n : way_n < 2) (res : Option Value × am_M) : ∀ (n i61 : Nat)  , i61 + n = 20 → am_KX (fun (z : Unit) => ∀ (wc : Value), am_F 2 am_k_236 115 [.ref 88, .int (nI a_n), .int (nI b_n), .int (nI way_n), .int (if (nI way_n) = 0 then (fn_m_allAbove (nI a_n) f) &&& (fn_m_allAbove (nI b_n) f) else (f 92 a_n) &&& (f 92 b_n)), wc] [] (am_S f g) res) (fun (z : Int32) => (some (Value.int z), am_S f g) = res) (am_forX (st_m_join_61 a_n b_n way_n f) n i61 ()) → am_F 2 am_k_236 61 [.ref 88, .int (nI a_n), .int (nI b_n), .int (nI way_n), .int (if (nI way_n) = 0 then (fn_m_allAbove (nI a_n) f) &&& (fn_m_allAbove (nI b_n) f) else (f 92 a_n) &&& (f 92 b_n)), .int (nI i61)] [] (am_S f g) res := by
  intro n
  induction n with
  | zero =>
    intro i61 hi hK
    refine am_F.pos 3 rfl (by show 20 ≤ nI i61; rw [show (20 : Int32) = nI 20 from rfl]; exact nI_le (by omega) (by omega)) ?_
    exact hK _
  | succ n ih =>
    intro i61 hi hK
    refine am_F.neg 3 rfl (by show ¬ 20 ≤ nI i61; rw [show (20 : Int32) = nI 20 from rfl]; exact nI_ge (by omega) (by omega)) ?_
    have hb61 : i61 < 20 := by omega
    show am_F _ _ 68 [.ref 88, .int (nI a_n), .int (nI b_n), .int (nI way_n), .int (if (nI way_n) = 0 then (fn_m_allAbove (nI a_n) f) &&& (fn_m_allAbove (nI b_n) f) else (f 92 a_n) &&& (f 92 b_n)), .int (nI i61)] [] (am_S f g) _
    obtain ⟨K, hKd⟩ : ∃ K : (Unit ⊕ (Unit ⊕ Int32)) → Prop, K = fun s => am_KX (fun (z : Unit) => ∀ (wc : Value), am_F 2 am_k_236 115 [.ref 88, .int (nI a_n), .int (nI b_n), .int (nI way_n), .int (if (nI way_n) = 0 then (fn_m_allAbove (nI a_n) f) &&& (fn_m_allAbove (nI b_n) f) else (f 92 a_n) &&& (f 92 b_n)), wc] [] (am_S f g) res) (fun (z : Int32) => (some (Value.int z), am_S f g) = res) (am_nxt (fun z => am_forX (st_m_join_61 a_n b_n way_n f) n (i61 + 1) z) s) := ⟨_, rfl⟩
    have hK : K ((st_m_join_61 a_n b_n way_n f) i61 ()) := by rw [am_forX_s] at hK; rw [hKd]; with_reducible exact hK
    unfold st_m_join_61 at hK
    refine am_F.ops (pc' := 72) (L' := [.ref 88, .int (nI a_n), .int (nI b_n), .int (nI way_n), .int (if (nI way_n) = 0 then (fn_m_allAbove (nI a_n) f) &&& (fn_m_allAbove (nI b_n) f) else (f 92 a_n) &&& (f 92 b_n)), .int (nI i61)]) (S' := [.int (nI i61), .int (if (nI way_n) = 0 then (fn_m_allAbove (nI a_n) f) &&& (fn_m_allAbove (nI b_n) f) else (f 92 a_n) &&& (f 92 b_n))]) (μ' := (am_S f g)) 2 rfl ?_
    refine am_F.call rfl rfl (x_m_has (if (nI way_n) = 0 then (fn_m_allAbove (nI a_n) f) &&& (fn_m_allAbove (nI b_n) f) else (f 92 a_n) &&& (f 92 b_n)) (nI i61) f g ) (by decide) ?_
    show am_F _ _ 75 [.ref 88, .int (nI a_n), .int (nI b_n), .int (nI way_n), .int (if (nI way_n) = 0 then (fn_m_allAbove (nI a_n) f) &&& (fn_m_allAbove (nI b_n) f) else (f 92 a_n) &&& (f 92 b_n)), .int (nI i61)] [.int (am_b (fn_m_has (if (nI way_n) = 0 then (fn_m_allAbove (nI a_n) f) &&& (fn_m_allAbove (nI b_n) f) else (f 92 a_n) &&& (f 92 b_n)) (nI i61)))] (am_S f g) _
    refine am_F.bifK 1 rfl K hK (fun c5 hK => ?_) (fun c5 hK => ?_)
    · show am_F _ _ 78 [.ref 88, .int (nI a_n), .int (nI b_n), .int (nI way_n), .int (if (nI way_n) = 0 then (fn_m_allAbove (nI a_n) f) &&& (fn_m_allAbove (nI b_n) f) else (f 92 a_n) &&& (f 92 b_n)), .int (nI i61)] [] (am_S f g) _
      refine am_F.ops (pc' := 81) (L' := [.ref 88, .int (nI a_n), .int (nI b_n), .int (nI way_n), .int (if (nI way_n) = 0 then (fn_m_allAbove (nI a_n) f) &&& (fn_m_allAbove (nI b_n) f) else (f 92 a_n) &&& (f 92 b_n)), .int (nI i61)]) (S' := [.int (nI way_n), .int (if (nI way_n) = 0 then (fn_m_allAbove (nI a_n) f) &&& (fn_m_allAbove (nI b_n) f) else (f 92 a_n) &&& (f 92 b_n))]) (μ' := (am_S f g)) 2 rfl ?_
      refine am_F.to (am_To.ite (pc' := 100) (L2 := [.ref 88, .int (nI a_n), .int (nI b_n), .int (nI way_n), .int (if (nI way_n) = 0 then (fn_m_allAbove (nI a_n) f) &&& (fn_m_allAbove (nI b_n) f) else (f 92 a_n) &&& (f 92 b_n)), .int (nI i61)]) (S2 := [.int (if (nI way_n) = 0 then (fn_m_allAbove (nI a_n) f) &&& (fn_m_allAbove (nI b_n) f) else (f 92 a_n) &&& (f 92 b_n))]) (μ2 := (am_S f g)) (a := (fn_m_allAbove (nI i61) f)) (b := f 92 i61) 1 rfl (fun c6 => ?_) (fun c6 => ?_)) ?_
      · intro res9 g9
        show am_F _ _ 84 [.ref 88, .int (nI a_n), .int (nI b_n), .int (nI way_n), .int (if (nI way_n) = 0 then (fn_m_allAbove (nI a_n) f) &&& (fn_m_allAbove (nI b_n) f) else (f 92 a_n) &&& (f 92 b_n)), .int (nI i61)] [.int (if (nI way_n) = 0 then (fn_m_allAbove (nI a_n) f) &&& (fn_m_allAbove (nI b_n) f) else (f 92 a_n) &&& (f 92 b_n))] (am_S f g) _
        refine am_F.ops (pc' := 87) (L' := [.ref 88, .int (nI a_n), .int (nI b_n), .int (nI way_n), .int (if (nI way_n) = 0 then (fn_m_allAbove (nI a_n) f) &&& (fn_m_allAbove (nI b_n) f) else (f 92 a_n) &&& (f 92 b_n)), .int (nI i61)]) (S' := [.int (nI i61), .ref 88, .int (if (nI way_n) = 0 then (fn_m_allAbove (nI a_n) f) &&& (fn_m_allAbove (nI b_n) f) else (f 92 a_n) &&& (f 92 b_n))]) (μ' := (am_S f g)) 2 rfl ?_
        refine am_F.call rfl rfl (x_m_allAbove (nI i61) f g ) (by decide) ?_
        show am_F _ _ 90 [.ref 88, .int (nI a_n), .int (nI b_n), .int (nI way_n), .int (if (nI way_n) = 0 then (fn_m_allAbove (nI a_n) f) &&& (fn_m_allAbove (nI b_n) f) else (f 92 a_n) &&& (f 92 b_n)), .int (nI i61)] [.int (fn_m_allAbove (nI i61) f), .int (if (nI way_n) = 0 then (fn_m_allAbove (nI a_n) f) &&& (fn_m_allAbove (nI b_n) f) else (f 92 a_n) &&& (f 92 b_n))] (am_S f g) _
        refine am_F.ops (pc' := 100) (L' := [.ref 88, .int (nI a_n), .int (nI b_n), .int (nI way_n), .int (if (nI way_n) = 0 then (fn_m_allAbove (nI a_n) f) &&& (fn_m_allAbove (nI b_n) f) else (f 92 a_n) &&& (f 92 b_n)), .int (nI i61)]) (S' := [.int (fn_m_allAbove (nI i61) f), .int (if (nI way_n) = 0 then (fn_m_allAbove (nI a_n) f) &&& (fn_m_allAbove (nI b_n) f) else (f 92 a_n) &&& (f 92 b_n))]) (μ' := (am_S f g)) 1 rfl ?_
        exact g9
      · intro res9 g9
        show am_F _ _ 93 [.ref 88, .int (nI a_n), .int (nI b_n), .int (nI way_n), .int (if (nI way_n) = 0 then (fn_m_allAbove (nI a_n) f) &&& (fn_m_allAbove (nI b_n) f) else (f 92 a_n) &&& (f 92 b_n)), .int (nI i61)] [.int (if (nI way_n) = 0 then (fn_m_allAbove (nI a_n) f) &&& (fn_m_allAbove (nI b_n) f) else (f 92 a_n) &&& (f 92 b_n))] (am_S f g) _
        refine am_F.ops (pc' := 99) (L' := [.ref 88, .int (nI a_n), .int (nI b_n), .int (nI way_n), .int (if (nI way_n) = 0 then (fn_m_allAbove (nI a_n) f) &&& (fn_m_allAbove (nI b_n) f) else (f 92 a_n) &&& (f 92 b_n)), .int (nI i61)]) (S' := [.int (nI i61), .ref 92, .int (if (nI way_n) = 0 then (fn_m_allAbove (nI a_n) f) &&& (fn_m_allAbove (nI b_n) f) else (f 92 a_n) &&& (f 92 b_n))]) (μ' := (am_S f g)) 3 rfl ?_
        refine am_F.ialE (m := i61) (N := 20) rfl rfl rfl rfl (by omega) (by decide) ?_
        show am_F _ _ 100 [.ref 88, .int (nI a_n), .int (nI b_n), .int (nI way_n), .int (if (nI way_n) = 0 then (fn_m_allAbove (nI a_n) f) &&& (fn_m_allAbove (nI b_n) f) else (f 92 a_n) &&& (f 92 b_n)), .int (nI i61)] [.int (f 92 i61), .int (if (nI way_n) = 0 then (fn_m_allAbove (nI a_n) f) &&& (fn_m_allAbove (nI b_n) f) else (f 92 a_n) &&& (f 92 b_n))] (am_S f g) _
        exact g9
      show am_F _ _ 100 [.ref 88, .int (nI a_n), .int (nI b_n), .int (nI way_n), .int (if (nI way_n) = 0 then (fn_m_allAbove (nI a_n) f) &&& (fn_m_allAbove (nI b_n) f) else (f 92 a_n) &&& (f 92 b_n)), .int (nI i61)] [.int (if (nI way_n) = 0 then (fn_m_allAbove (nI i61) f) else f 92 i61), .int (if (nI way_n) = 0 then (fn_m_allAbove (nI a_n) f) &&& (fn_m_allAbove (nI b_n) f) else (f 92 a_n) &&& (f 92 b_n))] (am_S f g) _
      refine am_F.ops (pc' := 103) (L' := [.ref 88, .int (nI a_n), .int (nI b_n), .int (nI way_n), .int (if (nI way_n) = 0 then (fn_m_allAbove (nI a_n) f) &&& (fn_m_allAbove (nI b_n) f) else (f 92 a_n) &&& (f 92 b_n)), .int (nI i61)]) (S' := [.int ((if (nI way_n) = 0 then (fn_m_allAbove (nI a_n) f) &&& (fn_m_allAbove (nI b_n) f) else (f 92 a_n) &&& (f 92 b_n)) &&& ((if (nI way_n) = 0 then (fn_m_allAbove (nI i61) f) else f 92 i61) ^^^ (-1)))]) (μ' := (am_S f g)) 3 rfl ?_
      refine am_F.iteK 1 rfl K hK (fun c7 hK => ?_) (fun c7 hK => ?_)
      · show am_F _ _ 106 [.ref 88, .int (nI a_n), .int (nI b_n), .int (nI way_n), .int (if (nI way_n) = 0 then (fn_m_allAbove (nI a_n) f) &&& (fn_m_allAbove (nI b_n) f) else (f 92 a_n) &&& (f 92 b_n)), .int (nI i61)] [] (am_S f g) _
        refine am_F.ops (pc' := 108) (L' := [.ref 88, .int (nI a_n), .int (nI b_n), .int (nI way_n), .int (if (nI way_n) = 0 then (fn_m_allAbove (nI a_n) f) &&& (fn_m_allAbove (nI b_n) f) else (f 92 a_n) &&& (f 92 b_n)), .int (nI i61)]) (S' := [.int (nI i61)]) (μ' := (am_S f g)) 1 rfl ?_
        subst hKd
        exact am_F.eq (am_F.ret rfl rfl) hK
      · show am_F _ _ 109 [.ref 88, .int (nI a_n), .int (nI b_n), .int (nI way_n), .int (if (nI way_n) = 0 then (fn_m_allAbove (nI a_n) f) &&& (fn_m_allAbove (nI b_n) f) else (f 92 a_n) &&& (f 92 b_n)), .int (nI i61)] [] (am_S f g) _
        refine am_F.ops (pc' := 61) (L' := [.ref 88, .int (nI a_n), .int (nI b_n), .int (nI way_n), .int (if (nI way_n) = 0 then (fn_m_allAbove (nI a_n) f) &&& (fn_m_allAbove (nI b_n) f) else (f 92 a_n) &&& (f 92 b_n)), .int ((nI i61) + 1)]) (S' := []) (μ' := (am_S f g)) 2 rfl ?_
        rw [nI_1 i61]
        subst hKd
        exact ih (i61 + 1)  (by omega)  hK
    · show am_F _ _ 109 [.ref 88, .int (nI a_n), .int (nI b_n), .int (nI way_n), .int (if (nI way_n) = 0 then (fn_m_allAbove (nI a_n) f) &&& (fn_m_allAbove (nI b_n) f) else (f 92 a_n) &&& (f 92 b_n)), .int (nI i61)] [] (am_S f g) _
      refine am_F.ops (pc' := 61) (L' := [.ref 88, .int (nI a_n), .int (nI b_n), .int (nI way_n), .int (if (nI way_n) = 0 then (fn_m_allAbove (nI a_n) f) &&& (fn_m_allAbove (nI b_n) f) else (f 92 a_n) &&& (f 92 b_n)), .int ((nI i61) + 1)]) (S' := []) (μ' := (am_S f g)) 2 rfl ?_
      rw [nI_1 i61]
      subst hKd
      exact ih (i61 + 1)  (by omega)  hK
theorem x_m_join (a : Int32) (b : Int32) (way : Int32) (f : Nat → Nat → Int32) (g : Nat → Nat → Int64)  : am_D 2 236 6 [.ref 88, .int a, .int b, .int way] (am_S f g) (some (Value.int (fn_m_join a b way f)), am_S f g) := by
  refine am_D.of (code := am_k_236) rfl (L0 := [.ref 88, .int a, .int b, .int way, am_un, am_un]) rfl ?_
  generalize hres : (some (Value.int (fn_m_join a b way f)), am_S f g) = res
  obtain ⟨K, hKd⟩ : ∃ K : Int32 → Prop, K = fun z => (some (Value.int z), am_S f g) = res := ⟨_, rfl⟩
  have hK : K (fn_m_join a b way f) := by rw [hKd]; exact hres
  clear hres
  unfold fn_m_join at hK
  refine am_F.ops (pc' := 1) (L' := [.ref 88, .int a, .int b, .int way, am_un, am_un]) (S' := [.int a]) (μ' := (am_S f g)) 1 rfl ?_
  refine am_F.call rfl rfl (x_m_isRole a f g ) (by decide) ?_
  show am_F _ _ 4 [.ref 88, .int a, .int b, .int way, am_un, am_un] [.int (am_b (fn_m_isRole a))] (am_S f g) _
  refine am_F.bifK 1 rfl K hK (fun c1 hK => ?_) (fun c1 hK => ?_)
  · obtain ⟨a_n, ha_n, ea_n⟩ := am_mRole c1
    subst ea_n
    try simp only [nI_clamp (show a_n < 2147483648 by omega)] at hK
    show am_F _ _ 7 [.ref 88, .int (nI a_n), .int b, .int way, am_un, am_un] [] (am_S f g) _
    refine am_F.ops (pc' := 8) (L' := [.ref 88, .int (nI a_n), .int b, .int way, am_un, am_un]) (S' := [.int b]) (μ' := (am_S f g)) 1 rfl ?_
    refine am_F.call rfl rfl (x_m_isRole b f g ) (by decide) ?_
    show am_F _ _ 11 [.ref 88, .int (nI a_n), .int b, .int way, am_un, am_un] [.int (am_b (fn_m_isRole b))] (am_S f g) _
    refine am_F.bifK 1 rfl K hK (fun c2 hK => ?_) (fun c2 hK => ?_)
    · obtain ⟨b_n, hb_n, eb_n⟩ := am_mRole c2
      subst eb_n
      try simp only [nI_clamp (show b_n < 2147483648 by omega)] at hK
      show am_F _ _ 14 [.ref 88, .int (nI a_n), .int (nI b_n), .int way, am_un, am_un] [] (am_S f g) _
      refine am_F.ops (pc' := 17) (L' := [.ref 88, .int (nI a_n), .int (nI b_n), .int way, am_un, am_un]) (S' := [.int 1, .int 0, .int way]) (μ' := (am_S f g)) 3 rfl ?_
      refine am_F.call rfl rfl (x_m_isIn way 0 1 f g ) (by decide) ?_
      show am_F _ _ 20 [.ref 88, .int (nI a_n), .int (nI b_n), .int way, am_un, am_un] [.int (am_b (fn_m_isIn way 0 1))] (am_S f g) _
      refine am_F.bifK 1 rfl K hK (fun c3 hK => ?_) (fun c3 hK => ?_)
      · obtain ⟨way_n, hway_n, eway_n⟩ := am_mInN (N := 2) c3 (by decide)
        subst eway_n
        try simp only [nI_clamp (show way_n < 2147483648 by omega)] at hK
        show am_F _ _ 25 [.ref 88, .int (nI a_n), .int (nI b_n), .int (nI way_n), am_un, am_un] [] (am_S f g) _
        refine am_F.ops (pc' := 26) (L' := [.ref 88, .int (nI a_n), .int (nI b_n), .int (nI way_n), am_un, am_un]) (S' := [.int (nI way_n)]) (μ' := (am_S f g)) 1 rfl ?_
        refine am_F.to (am_To.ite (pc' := 56) (L2 := [.ref 88, .int (nI a_n), .int (nI b_n), .int (nI way_n), am_un, am_un]) (S2 := []) (μ2 := (am_S f g)) (a := (fn_m_allAbove (nI a_n) f) &&& (fn_m_allAbove (nI b_n) f)) (b := (f 92 a_n) &&& (f 92 b_n)) 1 rfl (fun c4 => ?_) (fun c4 => ?_)) ?_
        · intro res9 g9
          show am_F _ _ 29 [.ref 88, .int (nI a_n), .int (nI b_n), .int (nI way_n), am_un, am_un] [] (am_S f g) _
          refine am_F.ops (pc' := 31) (L' := [.ref 88, .int (nI a_n), .int (nI b_n), .int (nI way_n), am_un, am_un]) (S' := [.int (nI a_n), .ref 88]) (μ' := (am_S f g)) 2 rfl ?_
          refine am_F.call rfl rfl (x_m_allAbove (nI a_n) f g ) (by decide) ?_
          show am_F _ _ 34 [.ref 88, .int (nI a_n), .int (nI b_n), .int (nI way_n), am_un, am_un] [.int (fn_m_allAbove (nI a_n) f)] (am_S f g) _
          refine am_F.ops (pc' := 36) (L' := [.ref 88, .int (nI a_n), .int (nI b_n), .int (nI way_n), am_un, am_un]) (S' := [.int (nI b_n), .ref 88, .int (fn_m_allAbove (nI a_n) f)]) (μ' := (am_S f g)) 2 rfl ?_
          refine am_F.call rfl rfl (x_m_allAbove (nI b_n) f g ) (by decide) ?_
          show am_F _ _ 39 [.ref 88, .int (nI a_n), .int (nI b_n), .int (nI way_n), am_un, am_un] [.int (fn_m_allAbove (nI b_n) f), .int (fn_m_allAbove (nI a_n) f)] (am_S f g) _
          refine am_F.ops (pc' := 56) (L' := [.ref 88, .int (nI a_n), .int (nI b_n), .int (nI way_n), am_un, am_un]) (S' := [.int ((fn_m_allAbove (nI a_n) f) &&& (fn_m_allAbove (nI b_n) f))]) (μ' := (am_S f g)) 2 rfl ?_
          exact g9
        · intro res9 g9
          show am_F _ _ 43 [.ref 88, .int (nI a_n), .int (nI b_n), .int (nI way_n), am_un, am_un] [] (am_S f g) _
          refine am_F.ops (pc' := 48) (L' := [.ref 88, .int (nI a_n), .int (nI b_n), .int (nI way_n), am_un, am_un]) (S' := [.int (nI a_n), .ref 92]) (μ' := (am_S f g)) 3 rfl ?_
          refine am_F.ialE (m := a_n) (N := 20) rfl rfl rfl rfl (by omega) (by decide) ?_
          show am_F _ _ 49 [.ref 88, .int (nI a_n), .int (nI b_n), .int (nI way_n), am_un, am_un] [.int (f 92 a_n)] (am_S f g) _
          refine am_F.ops (pc' := 54) (L' := [.ref 88, .int (nI a_n), .int (nI b_n), .int (nI way_n), am_un, am_un]) (S' := [.int (nI b_n), .ref 92, .int (f 92 a_n)]) (μ' := (am_S f g)) 3 rfl ?_
          refine am_F.ialE (m := b_n) (N := 20) rfl rfl rfl rfl (by omega) (by decide) ?_
          show am_F _ _ 55 [.ref 88, .int (nI a_n), .int (nI b_n), .int (nI way_n), am_un, am_un] [.int (f 92 b_n), .int (f 92 a_n)] (am_S f g) _
          refine am_F.ops (pc' := 56) (L' := [.ref 88, .int (nI a_n), .int (nI b_n), .int (nI way_n), am_un, am_un]) (S' := [.int ((f 92 a_n) &&& (f 92 b_n))]) (μ' := (am_S f g)) 1 rfl ?_
          exact g9
        show am_F _ _ 56 [.ref 88, .int (nI a_n), .int (nI b_n), .int (nI way_n), am_un, am_un] [.int (if (nI way_n) = 0 then (fn_m_allAbove (nI a_n) f) &&& (fn_m_allAbove (nI b_n) f) else (f 92 a_n) &&& (f 92 b_n))] (am_S f g) _
        refine am_F.ops (pc' := 61) (L' := [.ref 88, .int (nI a_n), .int (nI b_n), .int (nI way_n), .int (if (nI way_n) = 0 then (fn_m_allAbove (nI a_n) f) &&& (fn_m_allAbove (nI b_n) f) else (f 92 a_n) &&& (f 92 b_n)), .int 0]) (S' := []) (μ' := (am_S f g)) 3 rfl ?_
        show am_F _ _ 61 [.ref 88, .int (nI a_n), .int (nI b_n), .int (nI way_n), .int (if (nI way_n) = 0 then (fn_m_allAbove (nI a_n) f) &&& (fn_m_allAbove (nI b_n) f) else (f 92 a_n) &&& (f 92 b_n)), .int (nI 0)] [] (am_S f g) _
        refine lp_m_join_61 a_n b_n way_n f g ha_n hb_n hway_n _ 20 0   (by omega)  ?_
        rw [show am_forX (st_m_join_61 a_n b_n way_n f) 20 0 () = (lf_m_join_61 a_n b_n way_n f) from rfl]
        revert hK
        cases (lf_m_join_61 a_n b_n way_n f) with
        | inr z =>
          intro hK
          subst hKd
          exact hK
        | inl z61 =>
          intro hK wc
          refine am_F.ops (pc' := 117) (L' := [.ref 88, .int (nI a_n), .int (nI b_n), .int (nI way_n), .int (if (nI way_n) = 0 then (fn_m_allAbove (nI a_n) f) &&& (fn_m_allAbove (nI b_n) f) else (f 92 a_n) &&& (f 92 b_n)), wc]) (S' := [.int (-2)]) (μ' := (am_S f g)) 1 rfl ?_
          subst hKd
          exact am_F.eq (am_F.ret rfl rfl) hK
      · show am_F _ _ 23 [.ref 88, .int (nI a_n), .int (nI b_n), .int way, am_un, am_un] [] (am_S f g) _
        refine am_F.ops (pc' := 24) (L' := [.ref 88, .int (nI a_n), .int (nI b_n), .int way, am_un, am_un]) (S' := [.int (-1)]) (μ' := (am_S f g)) 1 rfl ?_
        subst hKd
        exact am_F.eq (am_F.ret rfl rfl) hK
    · show am_F _ _ 23 [.ref 88, .int (nI a_n), .int b, .int way, am_un, am_un] [] (am_S f g) _
      refine am_F.ops (pc' := 24) (L' := [.ref 88, .int (nI a_n), .int b, .int way, am_un, am_un]) (S' := [.int (-1)]) (μ' := (am_S f g)) 1 rfl ?_
      subst hKd
      exact am_F.eq (am_F.ret rfl rfl) hK
  · show am_F _ _ 23 [.ref 88, .int a, .int b, .int way, am_un, am_un] [] (am_S f g) _
    refine am_F.ops (pc' := 24) (L' := [.ref 88, .int a, .int b, .int way, am_un, am_un]) (S' := [.int (-1)]) (μ' := (am_S f g)) 1 rfl ?_
    subst hKd
    exact am_F.eq (am_F.ret rfl rfl) hK
theorem am_inbBif {u : Bool} {a b : Nat} (ha : a < 20) (hb : b < 20) : am_inb (144 + (bif u then nI a else nI b)) 3340 = true := by
  cases u
  · show am_inb (144 + nI b) 3340 = true
    rw [am_l144, nI_add]; exact am_inbN (by omega) (by decide)
  · show am_inb (144 + nI a) 3340 = true
    rw [am_l144, nI_add]; exact am_inbN (by omega) (by decide)
theorem am_inbK {x : Int32} {w : Nat} (h : ∃ j : Nat, j < 30 ∧ x = nI j) (hw : w < 6) : am_inb ((3160 + (6 * x)) + (nI w)) 3340 = true := by
  obtain ⟨j, h1, h2⟩ := h
  subst h2
  rw [show (3160 + (6 * nI j)) + nI w = nI (3160 + 6 * j + w) by simp only [am_l3160, am_l6, pk_mul, nI_add]]
  exact am_inbN (by omega) (by decide)
theorem am_updX {f : Nat → Int32} {k j : Nat} {x : Int32} (h : j ≠ k) : upd f k x j = f j := by unfold upd; rw [if_neg h]
/-- AccessLatticeModel.distances -/
def st_m_distances_2 (to : Int32) : Nat → (Nat → Int32) → (Nat → Int32) := fun i2 r2_95 => (upd r2_95 i2 (bif (fn_m_has to (nI i2)) then 0 else 99))
def lf_m_distances_2 (to : Int32) (f : Nat → Nat → Int32) : (Nat → Int32) := am_for (st_m_distances_2 to) 20 0 (f 95)
def st_m_distances_55 (up : Bool) (f : Nat → Nat → Int32) (i36 : Nat) (i45 : Nat) : Nat → (Nat → Int32) → (Nat → Int32) := fun i55 r55_95 => (bif (fn_m_has (f 89 ((144 + (bif up then nI i55 else nI i45)).toNatClampNeg)) (bif up then nI i45 else nI i55)) then (if (r55_95 i55) = ((nI i36) - 1) then (if (r55_95 i45) = 99 then (upd r55_95 i45 (nI i36)) else r55_95) else r55_95) else r55_95)
def lf_m_distances_55 (up : Bool) (f : Nat → Nat → Int32) (i36 : Nat) (i45 : Nat) (r45_95 : Nat → Int32) : (Nat → Int32) := am_for (st_m_distances_55 up f i36 i45) 20 0 r45_95
def st_m_distances_45 (up : Bool) (f : Nat → Nat → Int32) (i36 : Nat) : Nat → (Nat → Int32) → (Nat → Int32) := fun i45 r45_95 => (lf_m_distances_55 up f i36 i45 r45_95)
def lf_m_distances_45 (up : Bool) (f : Nat → Nat → Int32) (i36 : Nat) (r36_95 : Nat → Int32) : (Nat → Int32) := am_for (st_m_distances_45 up f i36) 20 0 r36_95
def st_m_distances_36 (up : Bool) (f : Nat → Nat → Int32) : Nat → (Nat → Int32) → (Nat → Int32) := fun i36 r36_95 => (lf_m_distances_45 up f i36 r36_95)
def lf_m_distances_36 (up : Bool) (f : Nat → Nat → Int32) (z2_3 : (Nat → Int32)) : (Nat → Int32) := am_for (st_m_distances_36 up f) 19 1 z2_3
def fn_m_distances (to : Int32) (up : Bool) (f : Nat → Nat → Int32) : (Nat → Int32) := (lf_m_distances_36 up f (lf_m_distances_2 to f))
theorem lp_m_distances_2 (to : Int32) (up : Bool) (f : Nat → Nat → Int32) (g : Nat → Nat → Int64)  (res : Option Value × am_M) : ∀ (n i2 : Nat) (r2_95 : Nat → Int32) , i2 + n = 20 → (fun (z : (Nat → Int32)) => ∀ (wc : Value), am_F 1 am_k_207 34 [.ref 88, .int to, .int (am_b up), wc, am_un, am_un, am_un] [] (am_S (am_row f 95 z) g) res) (am_for (st_m_distances_2 to) n i2 r2_95) → am_F 1 am_k_207 2 [.ref 88, .int to, .int (am_b up), .int (nI i2), am_un, am_un, am_un] [] (am_S (am_row f 95 r2_95) g) res := by
  intro n
  induction n with
  | zero =>
    intro i2 r2_95 hi hK
    refine am_F.pos 3 rfl (by show 20 ≤ nI i2; rw [show (20 : Int32) = nI 20 from rfl]; exact nI_le (by omega) (by omega)) ?_
    exact hK _
  | succ n ih =>
    intro i2 r2_95 hi hK
    refine am_F.neg 3 rfl (by show ¬ 20 ≤ nI i2; rw [show (20 : Int32) = nI 20 from rfl]; exact nI_ge (by omega) (by omega)) ?_
    have hb2 : i2 < 20 := by omega
    show am_F _ _ 8 [.ref 88, .int to, .int (am_b up), .int (nI i2), am_un, am_un, am_un] [] (am_S (am_row f 95 r2_95) g) _
    obtain ⟨K, hKd⟩ : ∃ K : ((Nat → Int32)) → Prop, K = fun s => (fun (z : (Nat → Int32)) => ∀ (wc : Value), am_F 1 am_k_207 34 [.ref 88, .int to, .int (am_b up), wc, am_un, am_un, am_un] [] (am_S (am_row f 95 z) g) res) (am_for (st_m_distances_2 to) n (i2 + 1) s) := ⟨_, rfl⟩
    have hK : K ((st_m_distances_2 to) i2 r2_95) := by rw [hKd]; exact hK
    unfold st_m_distances_2 at hK
    refine am_F.ops (pc' := 15) (L' := [.ref 88, .int to, .int (am_b up), .int (nI i2), am_un, am_un, am_un]) (S' := [.int (nI i2), .int to, .int (nI i2), .ref 95]) (μ' := (am_S (am_row f 95 r2_95) g)) 5 rfl ?_
    refine am_F.call rfl rfl (x_m_has to (nI i2) (am_row f 95 r2_95) g ) (by decide) ?_
    show am_F _ _ 18 [.ref 88, .int to, .int (am_b up), .int (nI i2), am_un, am_un, am_un] [.int (am_b (fn_m_has to (nI i2))), .int (nI i2), .ref 95] (am_S (am_row f 95 r2_95) g) _
    refine am_F.to (am_To.bif (pc' := 27) (L2 := [.ref 88, .int to, .int (am_b up), .int (nI i2), am_un, am_un, am_un]) (S2 := [.int (nI i2), .ref 95]) (μ2 := (am_S (am_row f 95 r2_95) g)) (a := 0) (b := 99) 1 rfl (fun c2 => ?_) (fun c2 => ?_)) ?_
    · intro res9 g9
      show am_F _ _ 21 [.ref 88, .int to, .int (am_b up), .int (nI i2), am_un, am_un, am_un] [.int (nI i2), .ref 95] (am_S (am_row f 95 r2_95) g) _
      refine am_F.ops (pc' := 27) (L' := [.ref 88, .int to, .int (am_b up), .int (nI i2), am_un, am_un, am_un]) (S' := [.int 0, .int (nI i2), .ref 95]) (μ' := (am_S (am_row f 95 r2_95) g)) 2 rfl ?_
      exact g9
    · intro res9 g9
      show am_F _ _ 25 [.ref 88, .int to, .int (am_b up), .int (nI i2), am_un, am_un, am_un] [.int (nI i2), .ref 95] (am_S (am_row f 95 r2_95) g) _
      refine am_F.ops (pc' := 27) (L' := [.ref 88, .int to, .int (am_b up), .int (nI i2), am_un, am_un, am_un]) (S' := [.int 99, .int (nI i2), .ref 95]) (μ' := (am_S (am_row f 95 r2_95) g)) 1 rfl ?_
      exact g9
    show am_F _ _ 27 [.ref 88, .int to, .int (am_b up), .int (nI i2), am_un, am_un, am_un] [.int (bif (fn_m_has to (nI i2)) then 0 else 99), .int (nI i2), .ref 95] (am_S (am_row f 95 r2_95) g) _
    refine am_F.iasE (F' := (am_row f 95 (upd r2_95 i2 (bif (fn_m_has to (nI i2)) then 0 else 99)))) (m := i2) (N := 20) rfl rfl rfl rfl (by omega) (by decide) (by first | rfl | (funext a; by_cases z0 : a = 95; (subst z0; rfl); simp only [am_ui, am_ul, am_row_ne z0])) ?_
    refine am_F.ops (pc' := 2) (L' := [.ref 88, .int to, .int (am_b up), .int ((nI i2) + 1), am_un, am_un, am_un]) (S' := []) (μ' := (am_S (am_row f 95 (upd r2_95 i2 (bif (fn_m_has to (nI i2)) then 0 else 99))) g)) 2 rfl ?_
    rw [nI_1 i2]
    subst hKd
    exact ih (i2 + 1) (upd r2_95 i2 (bif (fn_m_has to (nI i2)) then 0 else 99)) (by omega)  hK
theorem lp_m_distances_55 (to : Int32) (up : Bool) (f : Nat → Nat → Int32) (g : Nat → Nat → Int64) (z2_3 : (Nat → Int32)) (i36 : Nat) (r36_95 : Nat → Int32) (i45 : Nat) (r45_95 : Nat → Int32) (hb36 : i36 < 20) (hb45 : i45 < 20) (res : Option Value × am_M) : ∀ (n i55 : Nat) (r55_95 : Nat → Int32) (w55_6 : Value), i55 + n = 20 → (fun (z : (Nat → Int32)) => ∀ (wc : Value) (w55_6 : Value), am_F 1 am_k_207 142 [.ref 88, .int to, .int (am_b up), .int (nI i36), .int (nI i45), wc, w55_6] [] (am_S (am_row f 95 z) g) res) (am_for (st_m_distances_55 up f i36 i45) n i55 r55_95) → am_F 1 am_k_207 55 [.ref 88, .int to, .int (am_b up), .int (nI i36), .int (nI i45), .int (nI i55), w55_6] [] (am_S (am_row f 95 r55_95) g) res := by
  intro n
  induction n with
  | zero =>
    intro i55 r55_95 w55_6 hi hK
    refine am_F.pos 3 rfl (by show 20 ≤ nI i55; rw [show (20 : Int32) = nI 20 from rfl]; exact nI_le (by omega) (by omega)) ?_
    exact hK _ _
  | succ n ih =>
    intro i55 r55_95 w55_6 hi hK
    refine am_F.neg 3 rfl (by show ¬ 20 ≤ nI i55; rw [show (20 : Int32) = nI 20 from rfl]; exact nI_ge (by omega) (by omega)) ?_
    have hb55 : i55 < 20 := by omega
    show am_F _ _ 62 [.ref 88, .int to, .int (am_b up), .int (nI i36), .int (nI i45), .int (nI i55), w55_6] [] (am_S (am_row f 95 r55_95) g) _
    obtain ⟨K, hKd⟩ : ∃ K : ((Nat → Int32)) → Prop, K = fun s => (fun (z : (Nat → Int32)) => ∀ (wc : Value) (w55_6 : Value), am_F 1 am_k_207 142 [.ref 88, .int to, .int (am_b up), .int (nI i36), .int (nI i45), wc, w55_6] [] (am_S (am_row f 95 z) g) res) (am_for (st_m_distances_55 up f i36 i45) n (i55 + 1) s) := ⟨_, rfl⟩
    have hK : K ((st_m_distances_55 up f i36 i45) i55 r55_95) := by rw [hKd]; exact hK
    unfold st_m_distances_55 at hK
    refine am_F.ops (pc' := 70) (L' := [.ref 88, .int to, .int (am_b up), .int (nI i36), .int (nI i45), .int (nI i55), w55_6]) (S' := [.int (am_b up), .int 144, .ref 89]) (μ' := (am_S (am_row f 95 r55_95) g)) 4 rfl ?_
    refine am_F.to (am_To.bif (pc' := 80) (L2 := [.ref 88, .int to, .int (am_b up), .int (nI i36), .int (nI i45), .int (nI i55), w55_6]) (S2 := [.int 144, .ref 89]) (μ2 := (am_S (am_row f 95 r55_95) g)) (a := nI i55) (b := nI i45) 1 rfl (fun c85 => ?_) (fun c85 => ?_)) ?_
    · intro res9 g9
      show am_F _ _ 73 [.ref 88, .int to, .int (am_b up), .int (nI i36), .int (nI i45), .int (nI i55), w55_6] [.int 144, .ref 89] (am_S (am_row f 95 r55_95) g) _
      refine am_F.ops (pc' := 80) (L' := [.ref 88, .int to, .int (am_b up), .int (nI i36), .int (nI i45), .int (nI i55), w55_6]) (S' := [.int (nI i55), .int 144, .ref 89]) (μ' := (am_S (am_row f 95 r55_95) g)) 2 rfl ?_
      exact g9
    · intro res9 g9
      show am_F _ _ 78 [.ref 88, .int to, .int (am_b up), .int (nI i36), .int (nI i45), .int (nI i55), w55_6] [.int 144, .ref 89] (am_S (am_row f 95 r55_95) g) _
      refine am_F.ops (pc' := 80) (L' := [.ref 88, .int to, .int (am_b up), .int (nI i36), .int (nI i45), .int (nI i55), w55_6]) (S' := [.int (nI i45), .int 144, .ref 89]) (μ' := (am_S (am_row f 95 r55_95) g)) 1 rfl ?_
      exact g9
    show am_F _ _ 80 [.ref 88, .int to, .int (am_b up), .int (nI i36), .int (nI i45), .int (nI i55), w55_6] [.int (bif up then nI i55 else nI i45), .int 144, .ref 89] (am_S (am_row f 95 r55_95) g) _
    refine am_F.ops (pc' := 81) (L' := [.ref 88, .int to, .int (am_b up), .int (nI i36), .int (nI i45), .int (nI i55), w55_6]) (S' := [.int (144 + (bif up then nI i55 else nI i45)), .ref 89]) (μ' := (am_S (am_row f 95 r55_95) g)) 1 rfl ?_
    refine am_F.ial (N := 3340) rfl rfl rfl (am_inbBif hb55 hb45) ?_
    show am_F _ _ 82 [.ref 88, .int to, .int (am_b up), .int (nI i36), .int (nI i45), .int (nI i55), w55_6] [.int (f 89 ((144 + (bif up then nI i55 else nI i45)).toNatClampNeg))] (am_S (am_row f 95 r55_95) g) _
    refine am_F.ops (pc' := 83) (L' := [.ref 88, .int to, .int (am_b up), .int (nI i36), .int (nI i45), .int (nI i55), w55_6]) (S' := [.int (am_b up), .int (f 89 ((144 + (bif up then nI i55 else nI i45)).toNatClampNeg))]) (μ' := (am_S (am_row f 95 r55_95) g)) 1 rfl ?_
    refine am_F.to (am_To.bif (pc' := 93) (L2 := [.ref 88, .int to, .int (am_b up), .int (nI i36), .int (nI i45), .int (nI i55), w55_6]) (S2 := [.int (f 89 ((144 + (bif up then nI i55 else nI i45)).toNatClampNeg))]) (μ2 := (am_S (am_row f 95 r55_95) g)) (a := nI i45) (b := nI i55) 1 rfl (fun c86 => ?_) (fun c86 => ?_)) ?_
    · intro res9 g9
      show am_F _ _ 86 [.ref 88, .int to, .int (am_b up), .int (nI i36), .int (nI i45), .int (nI i55), w55_6] [.int (f 89 ((144 + (bif up then nI i55 else nI i45)).toNatClampNeg))] (am_S (am_row f 95 r55_95) g) _
      refine am_F.ops (pc' := 93) (L' := [.ref 88, .int to, .int (am_b up), .int (nI i36), .int (nI i45), .int (nI i55), w55_6]) (S' := [.int (nI i45), .int (f 89 ((144 + (bif up then nI i55 else nI i45)).toNatClampNeg))]) (μ' := (am_S (am_row f 95 r55_95) g)) 2 rfl ?_
      exact g9
    · intro res9 g9
      show am_F _ _ 91 [.ref 88, .int to, .int (am_b up), .int (nI i36), .int (nI i45), .int (nI i55), w55_6] [.int (f 89 ((144 + (bif up then nI i55 else nI i45)).toNatClampNeg))] (am_S (am_row f 95 r55_95) g) _
      refine am_F.ops (pc' := 93) (L' := [.ref 88, .int to, .int (am_b up), .int (nI i36), .int (nI i45), .int (nI i55), w55_6]) (S' := [.int (nI i55), .int (f 89 ((144 + (bif up then nI i55 else nI i45)).toNatClampNeg))]) (μ' := (am_S (am_row f 95 r55_95) g)) 1 rfl ?_
      exact g9
    show am_F _ _ 93 [.ref 88, .int to, .int (am_b up), .int (nI i36), .int (nI i45), .int (nI i55), w55_6] [.int (bif up then nI i45 else nI i55), .int (f 89 ((144 + (bif up then nI i55 else nI i45)).toNatClampNeg))] (am_S (am_row f 95 r55_95) g) _
    refine am_F.call rfl rfl (x_m_has (f 89 ((144 + (bif up then nI i55 else nI i45)).toNatClampNeg)) (bif up then nI i45 else nI i55) (am_row f 95 r55_95) g ) (by decide) ?_
    show am_F _ _ 96 [.ref 88, .int to, .int (am_b up), .int (nI i36), .int (nI i45), .int (nI i55), w55_6] [.int (am_b (fn_m_has (f 89 ((144 + (bif up then nI i55 else nI i45)).toNatClampNeg)) (bif up then nI i45 else nI i55)))] (am_S (am_row f 95 r55_95) g) _
    refine am_F.ops (pc' := 100) (L' := [.ref 88, .int to, .int (am_b up), .int (nI i36), .int (nI i45), .int (nI i55), .int (am_b (fn_m_has (f 89 ((144 + (bif up then nI i55 else nI i45)).toNatClampNeg)) (bif up then nI i45 else nI i55)))]) (S' := [.int (am_b (fn_m_has (f 89 ((144 + (bif up then nI i55 else nI i45)).toNatClampNeg)) (bif up then nI i45 else nI i55)))]) (μ' := (am_S (am_row f 95 r55_95) g)) 2 rfl ?_
    refine am_F.bifK 1 rfl K hK (fun c90 hK => ?_) (fun c90 hK => ?_)
    · show am_F _ _ 103 [.ref 88, .int to, .int (am_b up), .int (nI i36), .int (nI i45), .int (nI i55), .int (am_b (fn_m_has (f 89 ((144 + (bif up then nI i55 else nI i45)).toNatClampNeg)) (bif up then nI i45 else nI i55)))] [] (am_S (am_row f 95 r55_95) g) _
      refine am_F.ops (pc' := 109) (L' := [.ref 88, .int to, .int (am_b up), .int (nI i36), .int (nI i45), .int (nI i55), .int (am_b (fn_m_has (f 89 ((144 + (bif up then nI i55 else nI i45)).toNatClampNeg)) (bif up then nI i45 else nI i55)))]) (S' := [.int (nI i55), .ref 95]) (μ' := (am_S (am_row f 95 r55_95) g)) 3 rfl ?_
      refine am_F.ialE (m := i55) (N := 20) rfl rfl rfl rfl (by omega) (by decide) ?_
      show am_F _ _ 110 [.ref 88, .int to, .int (am_b up), .int (nI i36), .int (nI i45), .int (nI i55), .int (am_b (fn_m_has (f 89 ((144 + (bif up then nI i55 else nI i45)).toNatClampNeg)) (bif up then nI i45 else nI i55)))] [.int (r55_95 i55)] (am_S (am_row f 95 r55_95) g) _
      refine am_F.ops (pc' := 113) (L' := [.ref 88, .int to, .int (am_b up), .int (nI i36), .int (nI i45), .int (nI i55), .int (am_b (fn_m_has (f 89 ((144 + (bif up then nI i55 else nI i45)).toNatClampNeg)) (bif up then nI i45 else nI i55)))]) (S' := [.int ((nI i36) - 1), .int (r55_95 i55)]) (μ' := (am_S (am_row f 95 r55_95) g)) 3 rfl ?_
      refine am_F.iteK 1 rfl K hK (fun c93 hK => ?_) (fun c93 hK => ?_)
      · show am_F _ _ 116 [.ref 88, .int to, .int (am_b up), .int (nI i36), .int (nI i45), .int (nI i55), .int (am_b (fn_m_has (f 89 ((144 + (bif up then nI i55 else nI i45)).toNatClampNeg)) (bif up then nI i45 else nI i55)))] [] (am_S (am_row f 95 r55_95) g) _
        refine am_F.ops (pc' := 122) (L' := [.ref 88, .int to, .int (am_b up), .int (nI i36), .int (nI i45), .int (nI i55), .int (am_b (fn_m_has (f 89 ((144 + (bif up then nI i55 else nI i45)).toNatClampNeg)) (bif up then nI i45 else nI i55)))]) (S' := [.int (nI i45), .ref 95]) (μ' := (am_S (am_row f 95 r55_95) g)) 3 rfl ?_
        refine am_F.ialE (m := i45) (N := 20) rfl rfl rfl rfl (by omega) (by decide) ?_
        show am_F _ _ 123 [.ref 88, .int to, .int (am_b up), .int (nI i36), .int (nI i45), .int (nI i55), .int (am_b (fn_m_has (f 89 ((144 + (bif up then nI i55 else nI i45)).toNatClampNeg)) (bif up then nI i45 else nI i55)))] [.int (r55_95 i45)] (am_S (am_row f 95 r55_95) g) _
        refine am_F.ops (pc' := 125) (L' := [.ref 88, .int to, .int (am_b up), .int (nI i36), .int (nI i45), .int (nI i55), .int (am_b (fn_m_has (f 89 ((144 + (bif up then nI i55 else nI i45)).toNatClampNeg)) (bif up then nI i45 else nI i55)))]) (S' := [.int 99, .int (r55_95 i45)]) (μ' := (am_S (am_row f 95 r55_95) g)) 1 rfl ?_
        refine am_F.iteK 1 rfl K hK (fun c95 hK => ?_) (fun c95 hK => ?_)
        · show am_F _ _ 128 [.ref 88, .int to, .int (am_b up), .int (nI i36), .int (nI i45), .int (nI i55), .int (am_b (fn_m_has (f 89 ((144 + (bif up then nI i55 else nI i45)).toNatClampNeg)) (bif up then nI i45 else nI i55)))] [] (am_S (am_row f 95 r55_95) g) _
          refine am_F.ops (pc' := 135) (L' := [.ref 88, .int to, .int (am_b up), .int (nI i36), .int (nI i45), .int (nI i55), .int (am_b (fn_m_has (f 89 ((144 + (bif up then nI i55 else nI i45)).toNatClampNeg)) (bif up then nI i45 else nI i55)))]) (S' := [.int (nI i36), .int (nI i45), .ref 95]) (μ' := (am_S (am_row f 95 r55_95) g)) 4 rfl ?_
          refine am_F.iasE (F' := (am_row f 95 (upd r55_95 i45 (nI i36)))) (m := i45) (N := 20) rfl rfl rfl rfl (by omega) (by decide) (by first | rfl | (funext a; by_cases z0 : a = 95; (subst z0; rfl); simp only [am_ui, am_ul, am_row_ne z0])) ?_
          refine am_F.ops (pc' := 55) (L' := [.ref 88, .int to, .int (am_b up), .int (nI i36), .int (nI i45), .int ((nI i55) + 1), .int (am_b (fn_m_has (f 89 ((144 + (bif up then nI i55 else nI i45)).toNatClampNeg)) (bif up then nI i45 else nI i55)))]) (S' := []) (μ' := (am_S (am_row f 95 (upd r55_95 i45 (nI i36))) g)) 2 rfl ?_
          rw [nI_1 i55]
          subst hKd
          exact ih (i55 + 1) (upd r55_95 i45 (nI i36)) (.int (am_b (fn_m_has (f 89 ((144 + (bif up then nI i55 else nI i45)).toNatClampNeg)) (bif up then nI i45 else nI i55)))) (by omega)  hK
        · show am_F _ _ 136 [.ref 88, .int to, .int (am_b up), .int (nI i36), .int (nI i45), .int (nI i55), .int (am_b (fn_m_has (f 89 ((144 + (bif up then nI i55 else nI i45)).toNatClampNeg)) (bif up then nI i45 else nI i55)))] [] (am_S (am_row f 95 r55_95) g) _
          refine am_F.ops (pc' := 55) (L' := [.ref 88, .int to, .int (am_b up), .int (nI i36), .int (nI i45), .int ((nI i55) + 1), .int (am_b (fn_m_has (f 89 ((144 + (bif up then nI i55 else nI i45)).toNatClampNeg)) (bif up then nI i45 else nI i55)))]) (S' := []) (μ' := (am_S (am_row f 95 r55_95) g)) 2 rfl ?_
          rw [nI_1 i55]
          subst hKd
          exact ih (i55 + 1) r55_95 (.int (am_b (fn_m_has (f 89 ((144 + (bif up then nI i55 else nI i45)).toNatClampNeg)) (bif up then nI i45 else nI i55)))) (by omega)  hK
      · show am_F _ _ 136 [.ref 88, .int to, .int (am_b up), .int (nI i36), .int (nI i45), .int (nI i55), .int (am_b (fn_m_has (f 89 ((144 + (bif up then nI i55 else nI i45)).toNatClampNeg)) (bif up then nI i45 else nI i55)))] [] (am_S (am_row f 95 r55_95) g) _
        refine am_F.ops (pc' := 55) (L' := [.ref 88, .int to, .int (am_b up), .int (nI i36), .int (nI i45), .int ((nI i55) + 1), .int (am_b (fn_m_has (f 89 ((144 + (bif up then nI i55 else nI i45)).toNatClampNeg)) (bif up then nI i45 else nI i55)))]) (S' := []) (μ' := (am_S (am_row f 95 r55_95) g)) 2 rfl ?_
        rw [nI_1 i55]
        subst hKd
        exact ih (i55 + 1) r55_95 (.int (am_b (fn_m_has (f 89 ((144 + (bif up then nI i55 else nI i45)).toNatClampNeg)) (bif up then nI i45 else nI i55)))) (by omega)  hK
    · show am_F _ _ 136 [.ref 88, .int to, .int (am_b up), .int (nI i36), .int (nI i45), .int (nI i55), .int (am_b (fn_m_has (f 89 ((144 + (bif up then nI i55 else nI i45)).toNatClampNeg)) (bif up then nI i45 else nI i55)))] [] (am_S (am_row f 95 r55_95) g) _
      refine am_F.ops (pc' := 55) (L' := [.ref 88, .int to, .int (am_b up), .int (nI i36), .int (nI i45), .int ((nI i55) + 1), .int (am_b (fn_m_has (f 89 ((144 + (bif up then nI i55 else nI i45)).toNatClampNeg)) (bif up then nI i45 else nI i55)))]) (S' := []) (μ' := (am_S (am_row f 95 r55_95) g)) 2 rfl ?_
      rw [nI_1 i55]
      subst hKd
      exact ih (i55 + 1) r55_95 (.int (am_b (fn_m_has (f 89 ((144 + (bif up then nI i55 else nI i45)).toNatClampNeg)) (bif up then nI i45 else nI i55)))) (by omega)  hK
theorem lp_m_distances_45 (to : Int32) (up : Bool) (f : Nat → Nat → Int32) (g : Nat → Nat → Int64) (z2_3 : (Nat → Int32)) (i36 : Nat) (r36_95 : Nat → Int32) (hb36 : i36 < 20) (res : Option Value × am_M) : ∀ (n i45 : Nat) (r45_95 : Nat → Int32) (w45_5 : Value) (w45_6 : Value), i45 + n = 20 → (fun (z : (Nat → Int32)) => ∀ (wc : Value) (w45_5 : Value) (w45_6 : Value), am_F 1 am_k_207 148 [.ref 88, .int to, .int (am_b up), .int (nI i36), wc, w45_5, w45_6] [] (am_S (am_row f 95 z) g) res) (am_for (st_m_distances_45 up f i36) n i45 r45_95) → am_F 1 am_k_207 45 [.ref 88, .int to, .int (am_b up), .int (nI i36), .int (nI i45), w45_5, w45_6] [] (am_S (am_row f 95 r45_95) g) res := by
  intro n
  induction n with
  | zero =>
    intro i45 r45_95 w45_5 w45_6 hi hK
    refine am_F.pos 3 rfl (by show 20 ≤ nI i45; rw [show (20 : Int32) = nI 20 from rfl]; exact nI_le (by omega) (by omega)) ?_
    exact hK _ _ _
  | succ n ih =>
    intro i45 r45_95 w45_5 w45_6 hi hK
    refine am_F.neg 3 rfl (by show ¬ 20 ≤ nI i45; rw [show (20 : Int32) = nI 20 from rfl]; exact nI_ge (by omega) (by omega)) ?_
    have hb45 : i45 < 20 := by omega
    show am_F _ _ 52 [.ref 88, .int to, .int (am_b up), .int (nI i36), .int (nI i45), w45_5, w45_6] [] (am_S (am_row f 95 r45_95) g) _
    obtain ⟨K, hKd⟩ : ∃ K : ((Nat → Int32)) → Prop, K = fun s => (fun (z : (Nat → Int32)) => ∀ (wc : Value) (w45_5 : Value) (w45_6 : Value), am_F 1 am_k_207 148 [.ref 88, .int to, .int (am_b up), .int (nI i36), wc, w45_5, w45_6] [] (am_S (am_row f 95 z) g) res) (am_for (st_m_distances_45 up f i36) n (i45 + 1) s) := ⟨_, rfl⟩
    have hK : K ((st_m_distances_45 up f i36) i45 r45_95) := by rw [hKd]; exact hK
    unfold st_m_distances_45 at hK
    refine am_F.ops (pc' := 55) (L' := [.ref 88, .int to, .int (am_b up), .int (nI i36), .int (nI i45), .int 0, w45_6]) (S' := []) (μ' := (am_S (am_row f 95 r45_95) g)) 2 rfl ?_
    show am_F _ _ 55 [.ref 88, .int to, .int (am_b up), .int (nI i36), .int (nI i45), .int (nI 0), w45_6] [] (am_S (am_row f 95 r45_95) g) _
    refine lp_m_distances_55 to up f g z2_3 i36 r36_95 i45 r45_95 hb36 hb45 _ 20 0 r45_95 w45_6 (by omega)  ?_
    rw [show am_for (st_m_distances_55 up f i36 i45) 20 0 r45_95 = (lf_m_distances_55 up f i36 i45 r45_95) from rfl]
    generalize (lf_m_distances_55 up f i36 i45 r45_95) = z55_96 at hK ⊢
    intro wc w55_6
    show am_F _ _ 142 [.ref 88, .int to, .int (am_b up), .int (nI i36), .int (nI i45), wc, w55_6] [] (am_S (am_row f 95 z55_96) g) _
    refine am_F.ops (pc' := 45) (L' := [.ref 88, .int to, .int (am_b up), .int (nI i36), .int ((nI i45) + 1), wc, w55_6]) (S' := []) (μ' := (am_S (am_row f 95 z55_96) g)) 2 rfl ?_
    rw [nI_1 i45]
    subst hKd
    exact ih (i45 + 1) z55_96 wc w55_6 (by omega)  hK
theorem lp_m_distances_36 (to : Int32) (up : Bool) (f : Nat → Nat → Int32) (g : Nat → Nat → Int64) (z2_3 : (Nat → Int32))  (res : Option Value × am_M) : ∀ (n i36 : Nat) (r36_95 : Nat → Int32) (w36_4 : Value) (w36_5 : Value) (w36_6 : Value), i36 + n = 20 → (fun (z : (Nat → Int32)) => ∀ (wc : Value) (w36_4 : Value) (w36_5 : Value) (w36_6 : Value), am_F 1 am_k_207 154 [.ref 88, .int to, .int (am_b up), wc, w36_4, w36_5, w36_6] [] (am_S (am_row f 95 z) g) res) (am_for (st_m_distances_36 up f) n i36 r36_95) → am_F 1 am_k_207 36 [.ref 88, .int to, .int (am_b up), .int (nI i36), w36_4, w36_5, w36_6] [] (am_S (am_row f 95 r36_95) g) res := by
  intro n
  induction n with
  | zero =>
    intro i36 r36_95 w36_4 w36_5 w36_6 hi hK
    refine am_F.pos 3 rfl (by show 20 ≤ nI i36; rw [show (20 : Int32) = nI 20 from rfl]; exact nI_le (by omega) (by omega)) ?_
    exact hK _ _ _ _
  | succ n ih =>
    intro i36 r36_95 w36_4 w36_5 w36_6 hi hK
    refine am_F.neg 3 rfl (by show ¬ 20 ≤ nI i36; rw [show (20 : Int32) = nI 20 from rfl]; exact nI_ge (by omega) (by omega)) ?_
    have hb36 : i36 < 20 := by omega
    show am_F _ _ 42 [.ref 88, .int to, .int (am_b up), .int (nI i36), w36_4, w36_5, w36_6] [] (am_S (am_row f 95 r36_95) g) _
    obtain ⟨K, hKd⟩ : ∃ K : ((Nat → Int32)) → Prop, K = fun s => (fun (z : (Nat → Int32)) => ∀ (wc : Value) (w36_4 : Value) (w36_5 : Value) (w36_6 : Value), am_F 1 am_k_207 154 [.ref 88, .int to, .int (am_b up), wc, w36_4, w36_5, w36_6] [] (am_S (am_row f 95 z) g) res) (am_for (st_m_distances_36 up f) n (i36 + 1) s) := ⟨_, rfl⟩
    have hK : K ((st_m_distances_36 up f) i36 r36_95) := by rw [hKd]; exact hK
    unfold st_m_distances_36 at hK
    refine am_F.ops (pc' := 45) (L' := [.ref 88, .int to, .int (am_b up), .int (nI i36), .int 0, w36_5, w36_6]) (S' := []) (μ' := (am_S (am_row f 95 r36_95) g)) 2 rfl ?_
    show am_F _ _ 45 [.ref 88, .int to, .int (am_b up), .int (nI i36), .int (nI 0), w36_5, w36_6] [] (am_S (am_row f 95 r36_95) g) _
    refine lp_m_distances_45 to up f g z2_3 i36 r36_95 hb36 _ 20 0 r36_95 w36_5 w36_6 (by omega)  ?_
    rw [show am_for (st_m_distances_45 up f i36) 20 0 r36_95 = (lf_m_distances_45 up f i36 r36_95) from rfl]
    generalize (lf_m_distances_45 up f i36 r36_95) = z45_97 at hK ⊢
    intro wc w45_5 w45_6
    show am_F _ _ 148 [.ref 88, .int to, .int (am_b up), .int (nI i36), wc, w45_5, w45_6] [] (am_S (am_row f 95 z45_97) g) _
    refine am_F.ops (pc' := 36) (L' := [.ref 88, .int to, .int (am_b up), .int ((nI i36) + 1), wc, w45_5, w45_6]) (S' := []) (μ' := (am_S (am_row f 95 z45_97) g)) 2 rfl ?_
    rw [nI_1 i36]
    subst hKd
    exact ih (i36 + 1) z45_97 wc w45_5 w45_6 (by omega)  hK
theorem x_m_distances (to : Int32) (up : Bool) (f : Nat → Nat → Int32) (g : Nat → Nat → Int64)  : am_D 1 207 7 [.ref 88, .int to, .int (am_b up)] (am_S f g) ((none : Option Value), am_S (am_row f 95 (fn_m_distances to up f)) g) := by
  refine am_D.of (code := am_k_207) rfl (L0 := [.ref 88, .int to, .int (am_b up), am_un, am_un, am_un, am_un]) rfl ?_
  generalize hres : ((none : Option Value), am_S (am_row f 95 (fn_m_distances to up f)) g) = res
  obtain ⟨K, hKd⟩ : ∃ K : (Nat → Int32) → Prop, K = fun z => ((none : Option Value), am_S (am_row f 95 z) g) = res := ⟨_, rfl⟩
  have hK : K (fn_m_distances to up f) := by rw [hKd]; exact hres
  clear hres
  unfold fn_m_distances at hK
  refine am_F.ops (pc' := 2) (L' := [.ref 88, .int to, .int (am_b up), .int 0, am_un, am_un, am_un]) (S' := []) (μ' := (am_S f g)) 2 rfl ?_
  refine am_F.mem (F' := (am_row f 95 (f 95))) (G' := g) ?_ (by first | rfl | (funext a; by_cases z0 : a = 95; (subst z0; rfl); simp only [am_ui, am_ul, am_row_ne z0])) (by first | rfl | (funext a; by_cases z0 : a = 95; (subst z0; rfl); simp only [am_ui, am_ul, am_row_ne z0]))
  show am_F _ _ 2 [.ref 88, .int to, .int (am_b up), .int (nI 0), am_un, am_un, am_un] [] (am_S (am_row f 95 (f 95)) g) _
  refine lp_m_distances_2 to up f g  _ 20 0 (f 95)  (by omega)  ?_
  rw [show am_for (st_m_distances_2 to) 20 0 (f 95) = (lf_m_distances_2 to f) from rfl]
  generalize (lf_m_distances_2 to f) = z2_3 at hK ⊢
  intro wc
  show am_F _ _ 34 [.ref 88, .int to, .int (am_b up), wc, am_un, am_un, am_un] [] (am_S (am_row f 95 z2_3) g) _
  refine am_F.ops (pc' := 36) (L' := [.ref 88, .int to, .int (am_b up), .int 1, am_un, am_un, am_un]) (S' := []) (μ' := (am_S (am_row f 95 z2_3) g)) 2 rfl ?_
  show am_F _ _ 36 [.ref 88, .int to, .int (am_b up), .int (nI 1), am_un, am_un, am_un] [] (am_S (am_row f 95 z2_3) g) _
  refine lp_m_distances_36 to up f g z2_3  _ 19 1 z2_3 am_un am_un am_un (by omega)  ?_
  rw [show am_for (st_m_distances_36 up f) 19 1 z2_3 = (lf_m_distances_36 up f z2_3) from rfl]
  generalize (lf_m_distances_36 up f z2_3) = z36_98 at hK ⊢
  intro wc w36_4 w36_5 w36_6
  show am_F _ _ 154 [.ref 88, .int to, .int (am_b up), wc, w36_4, w36_5, w36_6] [] (am_S (am_row f 95 z36_98) g) _
  subst hKd
  exact am_F.eq (am_F.ret rfl rfl) hK
/-- AccessLatticeModel.image -/
def fn_m_image (f : Nat → Nat → Int32) : Int32 × (Nat → Int32) × (Nat → Int32) := (f 89 200, upd (f 88) 3 1, (fn_m_copiesSI f))
theorem x_m_image (f : Nat → Nat → Int32) (g : Nat → Nat → Int64)  : am_D 1 245 1 [.ref 88] (am_S f g) (some (Value.int ((fn_m_image f).1)), am_S (am_row (am_row f 88 ((fn_m_image f).2.1)) 90 ((fn_m_image f).2.2)) g) := by
  refine am_D.of (code := am_k_245) rfl (L0 := [.ref 88]) rfl ?_
  generalize hres : (some (Value.int ((fn_m_image f).1)), am_S (am_row (am_row f 88 ((fn_m_image f).2.1)) 90 ((fn_m_image f).2.2)) g) = res
  obtain ⟨K, hKd⟩ : ∃ K : (Int32 × (Nat → Int32) × (Nat → Int32)) → Prop, K = fun z => (some (Value.int z.1), am_S (am_row (am_row f 88 z.2.1) 90 z.2.2) g) = res := ⟨_, rfl⟩
  have hK : K (fn_m_image f) := by rw [hKd]; exact hres
  clear hres
  unfold fn_m_image at hK
  refine am_F.ops (pc' := 8) (L' := [.ref 88]) (S' := [.ref 90, .ref 89]) (μ' := (am_S f g)) 4 rfl ?_
  refine am_F.call rfl rfl (x_m_copiesSI  f g ) (by decide) ?_
  obtain ⟨y1, hy1⟩ : ∃ z, (fn_m_copiesSI f) = z := ⟨_, rfl⟩
  (try rw [hy1] at hK)
  (try rw [hy1])
  refine am_F.mem (F' := (am_row f 90 y1)) (G' := g) ?_ (by first | rfl | (funext a; by_cases z0 : a = 90; (subst z0; rfl); simp only [am_ui, am_ul, am_row_ne z0])) (by first | rfl | (funext a; by_cases z0 : a = 90; (subst z0; rfl); simp only [am_ui, am_ul, am_row_ne z0]))
  show am_F _ _ 11 [.ref 88] [] (am_S (am_row f 90 y1) g) _
  refine am_F.ops (pc' := 13) (L' := [.ref 88]) (S' := [.int 1, .ref 88]) (μ' := (am_S (am_row f 90 y1) g)) 2 rfl ?_
  refine am_F.pfz (F' := (am_row (am_row f 88 (upd (f 88) 3 1)) 90 y1)) rfl rfl rfl (by first | rfl | (funext a; by_cases z0 : a = 88; (subst z0; rfl); by_cases z1 : a = 90; (subst z1; rfl); simp only [am_ui, am_ul, am_row_ne z0, am_row_ne z1])) ?_
  refine am_F.ops (pc' := 24) (L' := [.ref 88]) (S' := [.int (f 89 200)]) (μ' := (am_S (am_row (am_row f 88 (upd (f 88) 3 1)) 90 y1) g)) 4 rfl ?_
  subst hKd
  exact am_F.eq (am_F.ret rfl rfl) hK
/-- AccessLatticeModel.off -/
def fn_m_off (r : Int32) (f : Nat → Nat → Int32) : Int32 × (Nat → Int32) := (bif (fn_m_isRule r f) then ((fn_m_rulesThere (am_row f 89 (upd (f 89) ((490 + (9 * (r.toNatClampNeg))) + 0) 2))), upd (f 89) ((490 + (9 * (r.toNatClampNeg))) + 0) 2) else ((-1), f 89))
theorem x_m_off (r : Int32) (f : Nat → Nat → Int32) (g : Nat → Nat → Int64) (hrC : f 89 202 = nI (f 89 202).toNatClampNeg) (hrN : (f 89 202).toNatClampNeg ≤ 30) : am_D 3 188 2 [.ref 88, .int r] (am_S f g) (some (Value.int ((fn_m_off r f).1)), am_S (am_row f 89 ((fn_m_off r f).2)) g) := by
  refine am_D.of (code := am_k_188) rfl (L0 := [.ref 88, .int r]) rfl ?_
  generalize hres : (some (Value.int ((fn_m_off r f).1)), am_S (am_row f 89 ((fn_m_off r f).2)) g) = res
  obtain ⟨K, hKd⟩ : ∃ K : (Int32 × (Nat → Int32)) → Prop, K = fun z => (some (Value.int z.1), am_S (am_row f 89 z.2) g) = res := ⟨_, rfl⟩
  have hK : K (fn_m_off r f) := by rw [hKd]; exact hres
  clear hres
  unfold fn_m_off at hK
  refine am_F.ops (pc' := 2) (L' := [.ref 88, .int r]) (S' := [.int r, .ref 88]) (μ' := (am_S f g)) 2 rfl ?_
  refine am_F.call rfl rfl (x_m_isRule r f g hrC hrN) (by decide) ?_
  show am_F _ _ 5 [.ref 88, .int r] [.int (am_b (fn_m_isRule r f))] (am_S f g) _
  refine am_F.bifK 1 rfl K hK (fun c1 hK => ?_) (fun c1 hK => ?_)
  · obtain ⟨r_n, hr_n, er_n⟩ := am_mRuleN hrC (by omega) c1
    subst er_n
    try simp only [nI_clamp (show r_n < 2147483648 by omega)] at hK
    show am_F _ _ 10 [.ref 88, .int (nI r_n)] [] (am_S f g) _
    refine am_F.ops (pc' := 25) (L' := [.ref 88, .int (nI r_n)]) (S' := [.int 2, .int ((490 + (9 * (nI r_n))) + 0), .ref 89]) (μ' := (am_S f g)) 10 rfl ?_
    refine am_F.iasE (F' := (am_row f 89 (upd (f 89) ((490 + (9 * r_n)) + 0) 2))) (m := ((490 + (9 * r_n)) + 0)) (N := 3340) rfl rfl rfl (am_addE (am_addE rfl (am_mulE rfl rfl)) rfl) (by omega) (by decide) (by first | rfl | (funext a; by_cases z0 : a = 89; (subst z0; rfl); simp only [am_ui, am_ul, am_row_ne z0])) ?_
    refine am_F.ops (pc' := 27) (L' := [.ref 88, .int (nI r_n)]) (S' := [.ref 88]) (μ' := (am_S (am_row f 89 (upd (f 89) ((490 + (9 * r_n)) + 0) 2)) g)) 1 rfl ?_
    refine am_F.call rfl rfl (x_m_rulesThere  (am_row f 89 (upd (f 89) ((490 + (9 * r_n)) + 0) 2)) g (by show upd _ _ _ _ = nI (upd _ _ _ _).toNatClampNeg; rw [am_updX (by omega)]; exact hrC) (by show (upd _ _ _ _).toNatClampNeg ≤ 30; rw [am_updX (by omega)]; exact hrN)) (by decide) ?_
    show am_F _ _ 30 [.ref 88, .int (nI r_n)] [.int (fn_m_rulesThere (am_row f 89 (upd (f 89) ((490 + (9 * r_n)) + 0) 2)))] (am_S (am_row f 89 (upd (f 89) ((490 + (9 * r_n)) + 0) 2)) g) _
    subst hKd
    exact am_F.eq (am_F.ret rfl rfl) hK
  · show am_F _ _ 8 [.ref 88, .int r] [] (am_S f g) _
    refine am_F.ops (pc' := 9) (L' := [.ref 88, .int r]) (S' := [.int (-1)]) (μ' := (am_S f g)) 1 rfl ?_
    refine am_F.mem (F' := (am_row f 89 (f 89))) (G' := g) ?_ (by first | rfl | (funext a; by_cases z0 : a = 89; (subst z0; rfl); simp only [am_ui, am_ul, am_row_ne z0])) (by first | rfl | (funext a; by_cases z0 : a = 89; (subst z0; rfl); simp only [am_ui, am_ul, am_row_ne z0]))
    subst hKd
    exact am_F.eq (am_F.ret rfl rfl) hK
/-- AccessLatticeModel.of -/
def fn_m_of (r : Int32) (what : Int32) (f : Nat → Nat → Int32) : Int32 := (bif (fn_m_isRule r f) then (bif (fn_m_isIn what 0 7) then (if 7 ≤ what then am_b (if (fn_m_ruleAt (r.toNatClampNeg) 8 f) ≤ 0 then false else true) else (fn_m_ruleAt (r.toNatClampNeg) (what.toNatClampNeg) f)) else (-1)) else (-1))
theorem x_m_of (r : Int32) (what : Int32) (f : Nat → Nat → Int32) (g : Nat → Nat → Int64) (hrC : f 89 202 = nI (f 89 202).toNatClampNeg) (hrN : (f 89 202).toNatClampNeg ≤ 30) : am_D 2 192 3 [.ref 88, .int r, .int what] (am_S f g) (some (Value.int (fn_m_of r what f)), am_S f g) := by
  refine am_D.of (code := am_k_192) rfl (L0 := [.ref 88, .int r, .int what]) rfl ?_
  generalize hres : (some (Value.int (fn_m_of r what f)), am_S f g) = res
  obtain ⟨K, hKd⟩ : ∃ K : Int32 → Prop, K = fun z => (some (Value.int z), am_S f g) = res := ⟨_, rfl⟩
  have hK : K (fn_m_of r what f) := by rw [hKd]; exact hres
  clear hres
  unfold fn_m_of at hK
  refine am_F.ops (pc' := 2) (L' := [.ref 88, .int r, .int what]) (S' := [.int r, .ref 88]) (μ' := (am_S f g)) 2 rfl ?_
  refine am_F.call rfl rfl (x_m_isRule r f g hrC hrN) (by decide) ?_
  show am_F _ _ 5 [.ref 88, .int r, .int what] [.int (am_b (fn_m_isRule r f))] (am_S f g) _
  refine am_F.bifK 1 rfl K hK (fun c1 hK => ?_) (fun c1 hK => ?_)
  · obtain ⟨r_n, hr_n, er_n⟩ := am_mRuleN hrC (by omega) c1
    subst er_n
    try simp only [nI_clamp (show r_n < 2147483648 by omega)] at hK
    show am_F _ _ 8 [.ref 88, .int (nI r_n), .int what] [] (am_S f g) _
    refine am_F.ops (pc' := 12) (L' := [.ref 88, .int (nI r_n), .int what]) (S' := [.int 7, .int 0, .int what]) (μ' := (am_S f g)) 3 rfl ?_
    refine am_F.call rfl rfl (x_m_isIn what 0 7 f g ) (by decide) ?_
    show am_F _ _ 15 [.ref 88, .int (nI r_n), .int what] [.int (am_b (fn_m_isIn what 0 7))] (am_S f g) _
    refine am_F.bifK 1 rfl K hK (fun c2 hK => ?_) (fun c2 hK => ?_)
    · obtain ⟨what_n, hwhat_n, ewhat_n⟩ := am_mInN (N := 8) c2 (by decide)
      subst ewhat_n
      try simp only [nI_clamp (show what_n < 2147483648 by omega)] at hK
      show am_F _ _ 20 [.ref 88, .int (nI r_n), .int (nI what_n)] [] (am_S f g) _
      refine am_F.ops (pc' := 23) (L' := [.ref 88, .int (nI r_n), .int (nI what_n)]) (S' := [.int 7, .int (nI what_n)]) (μ' := (am_S f g)) 2 rfl ?_
      refine am_F.to (am_To.ite (pc' := 50) (L2 := [.ref 88, .int (nI r_n), .int (nI what_n)]) (S2 := []) (μ2 := (am_S f g)) (a := am_b (if (fn_m_ruleAt r_n 8 f) ≤ 0 then false else true)) (b := (fn_m_ruleAt r_n what_n f)) 1 rfl (fun c3 => ?_) (fun c3 => ?_)) ?_
      · intro res9 g9
        show am_F _ _ 35 [.ref 88, .int (nI r_n), .int (nI what_n)] [] (am_S f g) _
        refine am_F.ops (pc' := 39) (L' := [.ref 88, .int (nI r_n), .int (nI what_n)]) (S' := [.int 8, .int (nI r_n), .ref 88]) (μ' := (am_S f g)) 3 rfl ?_
        refine am_F.call rfl rfl (by rw [show (8 : Int32) = nI 8 from rfl]; exact (x_m_ruleAt r_n 8 f g (by omega) (by omega))) (by decide) ?_
        show am_F _ _ 42 [.ref 88, .int (nI r_n), .int (nI what_n)] [.int (fn_m_ruleAt r_n 8 f)] (am_S f g) _
        refine am_F.to (am_To.iteB (pc' := 50) (L2 := [.ref 88, .int (nI r_n), .int (nI what_n)]) (S2 := []) (μ2 := (am_S f g)) (a := false) (b := true) 1 rfl (fun c4 => ?_) (fun c4 => ?_)) g9
        · intro res9 g9
          show am_F _ _ 49 [.ref 88, .int (nI r_n), .int (nI what_n)] [] (am_S f g) _
          refine am_F.ops (pc' := 50) (L' := [.ref 88, .int (nI r_n), .int (nI what_n)]) (S' := [.int 0]) (μ' := (am_S f g)) 1 rfl ?_
          exact g9
        · intro res9 g9
          show am_F _ _ 45 [.ref 88, .int (nI r_n), .int (nI what_n)] [] (am_S f g) _
          refine am_F.ops (pc' := 50) (L' := [.ref 88, .int (nI r_n), .int (nI what_n)]) (S' := [.int 1]) (μ' := (am_S f g)) 2 rfl ?_
          exact g9
      · intro res9 g9
        show am_F _ _ 26 [.ref 88, .int (nI r_n), .int (nI what_n)] [] (am_S f g) _
        refine am_F.ops (pc' := 29) (L' := [.ref 88, .int (nI r_n), .int (nI what_n)]) (S' := [.int (nI what_n), .int (nI r_n), .ref 88]) (μ' := (am_S f g)) 3 rfl ?_
        refine am_F.call rfl rfl (x_m_ruleAt r_n what_n f g (by omega) (by omega)) (by decide) ?_
        show am_F _ _ 32 [.ref 88, .int (nI r_n), .int (nI what_n)] [.int (fn_m_ruleAt r_n what_n f)] (am_S f g) _
        refine am_F.ops (pc' := 50) (L' := [.ref 88, .int (nI r_n), .int (nI what_n)]) (S' := [.int (fn_m_ruleAt r_n what_n f)]) (μ' := (am_S f g)) 1 rfl ?_
        exact g9
      show am_F _ _ 50 [.ref 88, .int (nI r_n), .int (nI what_n)] [.int (if 7 ≤ (nI what_n) then am_b (if (fn_m_ruleAt r_n 8 f) ≤ 0 then false else true) else (fn_m_ruleAt r_n what_n f))] (am_S f g) _
      subst hKd
      exact am_F.eq (am_F.ret rfl rfl) hK
    · show am_F _ _ 18 [.ref 88, .int (nI r_n), .int what] [] (am_S f g) _
      refine am_F.ops (pc' := 19) (L' := [.ref 88, .int (nI r_n), .int what]) (S' := [.int (-1)]) (μ' := (am_S f g)) 1 rfl ?_
      subst hKd
      exact am_F.eq (am_F.ret rfl rfl) hK
  · show am_F _ _ 18 [.ref 88, .int r, .int what] [] (am_S f g) _
    refine am_F.ops (pc' := 19) (L' := [.ref 88, .int r, .int what]) (S' := [.int (-1)]) (μ' := (am_S f g)) 1 rfl ?_
    subst hKd
    exact am_F.eq (am_F.ret rfl rfl) hK
/-- AccessLatticeModel.uses -/
def fn_m_uses (r : Int32) (n : Int32) (f : Nat → Nat → Int32) : Int32 × (Nat → Int32) := (bif (fn_m_isRule r f) then (if n = (-1) then (1, upd (f 89) ((490 + (9 * (r.toNatClampNeg))) + 7) n) else (bif (fn_m_isIn n 1 99) then (1, upd (f 89) ((490 + (9 * (r.toNatClampNeg))) + 7) n) else ((-1), f 89))) else ((-1), f 89))
theorem x_m_uses (r : Int32) (n : Int32) (f : Nat → Nat → Int32) (g : Nat → Nat → Int64) (hrC : f 89 202 = nI (f 89 202).toNatClampNeg) (hrN : (f 89 202).toNatClampNeg ≤ 30) : am_D 2 193 3 [.ref 88, .int r, .int n] (am_S f g) (some (Value.int ((fn_m_uses r n f).1)), am_S (am_row f 89 ((fn_m_uses r n f).2)) g) := by
  refine am_D.of (code := am_k_193) rfl (L0 := [.ref 88, .int r, .int n]) rfl ?_
  generalize hres : (some (Value.int ((fn_m_uses r n f).1)), am_S (am_row f 89 ((fn_m_uses r n f).2)) g) = res
  obtain ⟨K, hKd⟩ : ∃ K : (Int32 × (Nat → Int32)) → Prop, K = fun z => (some (Value.int z.1), am_S (am_row f 89 z.2) g) = res := ⟨_, rfl⟩
  have hK : K (fn_m_uses r n f) := by rw [hKd]; exact hres
  clear hres
  unfold fn_m_uses at hK
  refine am_F.ops (pc' := 2) (L' := [.ref 88, .int r, .int n]) (S' := [.int r, .ref 88]) (μ' := (am_S f g)) 2 rfl ?_
  refine am_F.call rfl rfl (x_m_isRule r f g hrC hrN) (by decide) ?_
  show am_F _ _ 5 [.ref 88, .int r, .int n] [.int (am_b (fn_m_isRule r f))] (am_S f g) _
  refine am_F.bifK 1 rfl K hK (fun c1 hK => ?_) (fun c1 hK => ?_)
  · obtain ⟨r_n, hr_n, er_n⟩ := am_mRuleN hrC (by omega) c1
    subst er_n
    try simp only [nI_clamp (show r_n < 2147483648 by omega)] at hK
    show am_F _ _ 8 [.ref 88, .int (nI r_n), .int n] [] (am_S f g) _
    refine am_F.ops (pc' := 10) (L' := [.ref 88, .int (nI r_n), .int n]) (S' := [.int (-1), .int n]) (μ' := (am_S f g)) 2 rfl ?_
    refine am_F.iteK 1 rfl K hK (fun c2 hK => ?_) (fun c2 hK => ?_)
    · show am_F _ _ 25 [.ref 88, .int (nI r_n), .int n] [] (am_S f g) _
      refine am_F.ops (pc' := 41) (L' := [.ref 88, .int (nI r_n), .int n]) (S' := [.int n, .int ((490 + (9 * (nI r_n))) + 7), .ref 89]) (μ' := (am_S f g)) 10 rfl ?_
      refine am_F.iasE (F' := (am_row f 89 (upd (f 89) ((490 + (9 * r_n)) + 7) n))) (m := ((490 + (9 * r_n)) + 7)) (N := 3340) rfl rfl rfl (am_addE (am_addE rfl (am_mulE rfl rfl)) rfl) (by omega) (by decide) (by first | rfl | (funext a; by_cases z0 : a = 89; (subst z0; rfl); simp only [am_ui, am_ul, am_row_ne z0])) ?_
      refine am_F.ops (pc' := 43) (L' := [.ref 88, .int (nI r_n), .int n]) (S' := [.int 1]) (μ' := (am_S (am_row f 89 (upd (f 89) ((490 + (9 * r_n)) + 7) n)) g)) 1 rfl ?_
      subst hKd
      exact am_F.eq (am_F.ret rfl rfl) hK
    · show am_F _ _ 13 [.ref 88, .int (nI r_n), .int n] [] (am_S f g) _
      refine am_F.ops (pc' := 17) (L' := [.ref 88, .int (nI r_n), .int n]) (S' := [.int 99, .int 1, .int n]) (μ' := (am_S f g)) 3 rfl ?_
      refine am_F.call rfl rfl (x_m_isIn n 1 99 f g ) (by decide) ?_
      show am_F _ _ 20 [.ref 88, .int (nI r_n), .int n] [.int (am_b (fn_m_isIn n 1 99))] (am_S f g) _
      refine am_F.bifK 1 rfl K hK (fun c3 hK => ?_) (fun c3 hK => ?_)
      · show am_F _ _ 25 [.ref 88, .int (nI r_n), .int n] [] (am_S f g) _
        refine am_F.ops (pc' := 41) (L' := [.ref 88, .int (nI r_n), .int n]) (S' := [.int n, .int ((490 + (9 * (nI r_n))) + 7), .ref 89]) (μ' := (am_S f g)) 10 rfl ?_
        refine am_F.iasE (F' := (am_row f 89 (upd (f 89) ((490 + (9 * r_n)) + 7) n))) (m := ((490 + (9 * r_n)) + 7)) (N := 3340) rfl rfl rfl (am_addE (am_addE rfl (am_mulE rfl rfl)) rfl) (by omega) (by decide) (by first | rfl | (funext a; by_cases z0 : a = 89; (subst z0; rfl); simp only [am_ui, am_ul, am_row_ne z0])) ?_
        refine am_F.ops (pc' := 43) (L' := [.ref 88, .int (nI r_n), .int n]) (S' := [.int 1]) (μ' := (am_S (am_row f 89 (upd (f 89) ((490 + (9 * r_n)) + 7) n)) g)) 1 rfl ?_
        subst hKd
        exact am_F.eq (am_F.ret rfl rfl) hK
      · show am_F _ _ 23 [.ref 88, .int (nI r_n), .int n] [] (am_S f g) _
        refine am_F.ops (pc' := 24) (L' := [.ref 88, .int (nI r_n), .int n]) (S' := [.int (-1)]) (μ' := (am_S f g)) 1 rfl ?_
        refine am_F.mem (F' := (am_row f 89 (f 89))) (G' := g) ?_ (by first | rfl | (funext a; by_cases z0 : a = 89; (subst z0; rfl); simp only [am_ui, am_ul, am_row_ne z0])) (by first | rfl | (funext a; by_cases z0 : a = 89; (subst z0; rfl); simp only [am_ui, am_ul, am_row_ne z0]))
        subst hKd
        exact am_F.eq (am_F.ret rfl rfl) hK
  · show am_F _ _ 23 [.ref 88, .int r, .int n] [] (am_S f g) _
    refine am_F.ops (pc' := 24) (L' := [.ref 88, .int r, .int n]) (S' := [.int (-1)]) (μ' := (am_S f g)) 1 rfl ?_
    refine am_F.mem (F' := (am_row f 89 (f 89))) (G' := g) ?_ (by first | rfl | (funext a; by_cases z0 : a = 89; (subst z0; rfl); simp only [am_ui, am_ul, am_row_ne z0])) (by first | rfl | (funext a; by_cases z0 : a = 89; (subst z0; rfl); simp only [am_ui, am_ul, am_row_ne z0]))
    subst hKd
    exact am_F.eq (am_F.ret rfl rfl) hK
/-- AccessLatticeModel.left -/
def fn_m_left (r : Int32) (f : Nat → Nat → Int32) : Int32 := (bif (fn_m_isRule r f) then (if 0 ≤ (fn_m_ruleAt (r.toNatClampNeg) 7 f) then (fn_m_ruleAt (r.toNatClampNeg) 7 f) else (-2)) else (-1))
theorem x_m_left (r : Int32) (f : Nat → Nat → Int32) (g : Nat → Nat → Int64) (hrC : f 89 202 = nI (f 89 202).toNatClampNeg) (hrN : (f 89 202).toNatClampNeg ≤ 30) : am_D 2 194 2 [.ref 88, .int r] (am_S f g) (some (Value.int (fn_m_left r f)), am_S f g) := by
  refine am_D.of (code := am_k_194) rfl (L0 := [.ref 88, .int r]) rfl ?_
  generalize hres : (some (Value.int (fn_m_left r f)), am_S f g) = res
  obtain ⟨K, hKd⟩ : ∃ K : Int32 → Prop, K = fun z => (some (Value.int z), am_S f g) = res := ⟨_, rfl⟩
  have hK : K (fn_m_left r f) := by rw [hKd]; exact hres
  clear hres
  unfold fn_m_left at hK
  refine am_F.ops (pc' := 2) (L' := [.ref 88, .int r]) (S' := [.int r, .ref 88]) (μ' := (am_S f g)) 2 rfl ?_
  refine am_F.call rfl rfl (x_m_isRule r f g hrC hrN) (by decide) ?_
  show am_F _ _ 5 [.ref 88, .int r] [.int (am_b (fn_m_isRule r f))] (am_S f g) _
  refine am_F.bifK 1 rfl K hK (fun c1 hK => ?_) (fun c1 hK => ?_)
  · obtain ⟨r_n, hr_n, er_n⟩ := am_mRuleN hrC (by omega) c1
    subst er_n
    try simp only [nI_clamp (show r_n < 2147483648 by omega)] at hK
    show am_F _ _ 10 [.ref 88, .int (nI r_n)] [] (am_S f g) _
    refine am_F.ops (pc' := 14) (L' := [.ref 88, .int (nI r_n)]) (S' := [.int 7, .int (nI r_n), .ref 88]) (μ' := (am_S f g)) 3 rfl ?_
    refine am_F.call rfl rfl (by rw [show (7 : Int32) = nI 7 from rfl]; exact (x_m_ruleAt r_n 7 f g (by omega) (by omega))) (by decide) ?_
    show am_F _ _ 17 [.ref 88, .int (nI r_n)] [.int (fn_m_ruleAt r_n 7 f)] (am_S f g) _
    refine am_F.to (am_To.ite (pc' := 32) (L2 := [.ref 88, .int (nI r_n)]) (S2 := []) (μ2 := (am_S f g)) (a := (fn_m_ruleAt r_n 7 f)) (b := (-2)) 1 rfl (fun c2 => ?_) (fun c2 => ?_)) ?_
    · intro res9 g9
      show am_F _ _ 25 [.ref 88, .int (nI r_n)] [] (am_S f g) _
      refine am_F.ops (pc' := 29) (L' := [.ref 88, .int (nI r_n)]) (S' := [.int 7, .int (nI r_n), .ref 88]) (μ' := (am_S f g)) 3 rfl ?_
      refine am_F.call rfl rfl (by rw [show (7 : Int32) = nI 7 from rfl]; exact (x_m_ruleAt r_n 7 f g (by omega) (by omega))) (by decide) ?_
      show am_F _ _ 32 [.ref 88, .int (nI r_n)] [.int (fn_m_ruleAt r_n 7 f)] (am_S f g) _
      exact g9
    · intro res9 g9
      show am_F _ _ 20 [.ref 88, .int (nI r_n)] [] (am_S f g) _
      refine am_F.ops (pc' := 32) (L' := [.ref 88, .int (nI r_n)]) (S' := [.int (-2)]) (μ' := (am_S f g)) 2 rfl ?_
      exact g9
    show am_F _ _ 32 [.ref 88, .int (nI r_n)] [.int (if 0 ≤ (fn_m_ruleAt r_n 7 f) then (fn_m_ruleAt r_n 7 f) else (-2))] (am_S f g) _
    subst hKd
    exact am_F.eq (am_F.ret rfl rfl) hK
  · show am_F _ _ 8 [.ref 88, .int r] [] (am_S f g) _
    refine am_F.ops (pc' := 9) (L' := [.ref 88, .int r]) (S' := [.int (-1)]) (μ' := (am_S f g)) 1 rfl ?_
    subst hKd
    exact am_F.eq (am_F.ret rfl rfl) hK
/-- AccessLatticeModel.book -/
def fn_m_book (i : Int32) (what : Int32) (f : Nat → Nat → Int32) : Int32 := (if i < 0 then (-1) else (bif (fn_m_isIn what 0 5) then (if (f 89 208) ≤ i then (-2) else f 89 (((3160 + (6 * i)) + what).toNatClampNeg)) else (-1)))
theorem x_m_book (i : Int32) (what : Int32) (f : Nat → Nat → Int32) (g : Nat → Nat → Int64) (hbI : ∀ i : Int32, ¬ i < 0 → ¬ f 89 208 ≤ i → ∃ j : Nat, j < 30 ∧ i = nI j) : am_D 1 230 3 [.ref 88, .int i, .int what] (am_S f g) (some (Value.int (fn_m_book i what f)), am_S f g) := by
  refine am_D.of (code := am_k_230) rfl (L0 := [.ref 88, .int i, .int what]) rfl ?_
  generalize hres : (some (Value.int (fn_m_book i what f)), am_S f g) = res
  obtain ⟨K, hKd⟩ : ∃ K : Int32 → Prop, K = fun z => (some (Value.int z), am_S f g) = res := ⟨_, rfl⟩
  have hK : K (fn_m_book i what f) := by rw [hKd]; exact hres
  clear hres
  unfold fn_m_book at hK
  refine am_F.ops (pc' := 1) (L' := [.ref 88, .int i, .int what]) (S' := [.int i]) (μ' := (am_S f g)) 1 rfl ?_
  refine am_F.iteK 1 rfl K hK (fun c1 hK => ?_) (fun c1 hK => ?_)
  · show am_F _ _ 13 [.ref 88, .int i, .int what] [] (am_S f g) _
    refine am_F.ops (pc' := 14) (L' := [.ref 88, .int i, .int what]) (S' := [.int (-1)]) (μ' := (am_S f g)) 1 rfl ?_
    subst hKd
    exact am_F.eq (am_F.ret rfl rfl) hK
  · show am_F _ _ 4 [.ref 88, .int i, .int what] [] (am_S f g) _
    refine am_F.ops (pc' := 7) (L' := [.ref 88, .int i, .int what]) (S' := [.int 5, .int 0, .int what]) (μ' := (am_S f g)) 3 rfl ?_
    refine am_F.call rfl rfl (x_m_isIn what 0 5 f g ) (by decide) ?_
    show am_F _ _ 10 [.ref 88, .int i, .int what] [.int (am_b (fn_m_isIn what 0 5))] (am_S f g) _
    refine am_F.bifK 1 rfl K hK (fun c2 hK => ?_) (fun c2 hK => ?_)
    · obtain ⟨what_n, hwhat_n, ewhat_n⟩ := am_mInN (N := 6) c2 (by decide)
      subst ewhat_n
      try simp only [nI_clamp (show what_n < 2147483648 by omega)] at hK
      show am_F _ _ 15 [.ref 88, .int i, .int (nI what_n)] [] (am_S f g) _
      refine am_F.ops (pc' := 24) (L' := [.ref 88, .int i, .int (nI what_n)]) (S' := [.int (f 89 208), .int i]) (μ' := (am_S f g)) 5 rfl ?_
      refine am_F.to (am_To.ite (pc' := 47) (L2 := [.ref 88, .int i, .int (nI what_n)]) (S2 := []) (μ2 := (am_S f g)) (a := (-2)) (b := f 89 (((3160 + (6 * i)) + (nI what_n)).toNatClampNeg)) 1 rfl (fun c3 => ?_) (fun c3 => ?_)) ?_
      · intro res9 g9
        show am_F _ _ 45 [.ref 88, .int i, .int (nI what_n)] [] (am_S f g) _
        refine am_F.ops (pc' := 47) (L' := [.ref 88, .int i, .int (nI what_n)]) (S' := [.int (-2)]) (μ' := (am_S f g)) 1 rfl ?_
        exact g9
      · intro res9 g9
        show am_F _ _ 27 [.ref 88, .int i, .int (nI what_n)] [] (am_S f g) _
        refine am_F.ops (pc' := 41) (L' := [.ref 88, .int i, .int (nI what_n)]) (S' := [.int ((3160 + (6 * i)) + (nI what_n)), .ref 89]) (μ' := (am_S f g)) 9 rfl ?_
        refine am_F.ial (N := 3340) rfl rfl rfl (am_inbK (hbI i (by assumption) (by assumption)) hwhat_n) ?_
        show am_F _ _ 42 [.ref 88, .int i, .int (nI what_n)] [.int (f 89 (((3160 + (6 * i)) + (nI what_n)).toNatClampNeg))] (am_S f g) _
        refine am_F.ops (pc' := 47) (L' := [.ref 88, .int i, .int (nI what_n)]) (S' := [.int (f 89 (((3160 + (6 * i)) + (nI what_n)).toNatClampNeg))]) (μ' := (am_S f g)) 1 rfl ?_
        exact g9
      show am_F _ _ 47 [.ref 88, .int i, .int (nI what_n)] [.int (if (f 89 208) ≤ i then (-2) else f 89 (((3160 + (6 * i)) + (nI what_n)).toNatClampNeg))] (am_S f g) _
      subst hKd
      exact am_F.eq (am_F.ret rfl rfl) hK
    · show am_F _ _ 13 [.ref 88, .int i, .int what] [] (am_S f g) _
      refine am_F.ops (pc' := 14) (L' := [.ref 88, .int i, .int what]) (S' := [.int (-1)]) (μ' := (am_S f g)) 1 rfl ?_
      subst hKd
      exact am_F.eq (am_F.ret rfl rfl) hK
/-- AccessLatticeModel.offers -/
def fn_m_offers (c : Int32) (f : Nat → Nat → Int32) : (Nat → Int32) × (Nat → Int32) := (upd (f 88) 27 ((f 88 27) + 1), upd (f 101) ((f 88 27).toNatClampNeg) c)
theorem x_m_offers (c : Int32) (f : Nat → Nat → Int32) (g : Nat → Nat → Int64) (hoI : am_inb (f 88 27) 90 = true) : am_D 0 218 2 [.ref 88, .int c] (am_S f g) ((none : Option Value), am_S (am_row (am_row f 88 ((fn_m_offers c f).1)) 101 ((fn_m_offers c f).2)) g) := by
  refine am_D.of (code := am_k_218) rfl (L0 := [.ref 88, .int c]) rfl ?_
  generalize hres : ((none : Option Value), am_S (am_row (am_row f 88 ((fn_m_offers c f).1)) 101 ((fn_m_offers c f).2)) g) = res
  obtain ⟨K, hKd⟩ : ∃ K : ((Nat → Int32) × (Nat → Int32)) → Prop, K = fun z => ((none : Option Value), am_S (am_row (am_row f 88 z.1) 101 z.2) g) = res := ⟨_, rfl⟩
  have hK : K (fn_m_offers c f) := by rw [hKd]; exact hres
  clear hres
  unfold fn_m_offers at hK
  refine am_F.ops (pc' := 9) (L' := [.ref 88, .int c]) (S' := [.int c, .int (f 88 27), .ref 101]) (μ' := (am_S f g)) 5 rfl ?_
  refine am_F.ias (F' := (am_row f 101 (upd (f 101) ((f 88 27).toNatClampNeg) c))) (N := 90) rfl rfl rfl (by assumption) (by first | rfl | (funext a; by_cases z0 : a = 101; (subst z0; rfl); simp only [am_ui, am_ul, am_row_ne z0])) ?_
  refine am_F.ops (pc' := 17) (L' := [.ref 88, .int c]) (S' := [.int ((f 88 27) + 1), .ref 88]) (μ' := (am_S (am_row f 101 (upd (f 101) ((f 88 27).toNatClampNeg) c)) g)) 5 rfl ?_
  refine am_F.pfi (F' := (am_row (am_row f 88 (upd (f 88) 27 ((f 88 27) + 1))) 101 (upd (f 101) ((f 88 27).toNatClampNeg) c))) rfl rfl (by first | rfl | (funext a; by_cases z0 : a = 88; (subst z0; rfl); by_cases z1 : a = 101; (subst z1; rfl); simp only [am_ui, am_ul, am_row_ne z0, am_row_ne z1])) ?_
  subst hKd
  exact am_F.eq (am_F.ret rfl rfl) hK
/-- AccessLatticeModel.grounds -/
def fn_m_groundsAdd (what : Int32) (n : Int32) (f : Nat → Nat → Int32) : (Nat → Int32) × (Nat → Int32) × (Nat → Int32) := (upd (f 88) 23 ((f 88 23) + 1), upd (f 99) ((f 88 23).toNatClampNeg) what, upd (f 100) ((f 88 23).toNatClampNeg) n)
theorem x_m_groundsAdd (what : Int32) (n : Int32) (f : Nat → Nat → Int32) (g : Nat → Nat → Int64) (hgI : am_inb (f 88 23) 64 = true) : am_D 0 205 3 [.ref 88, .int what, .int n] (am_S f g) ((none : Option Value), am_S (am_row (am_row (am_row f 88 ((fn_m_groundsAdd what n f).1)) 99 ((fn_m_groundsAdd what n f).2.1)) 100 ((fn_m_groundsAdd what n f).2.2)) g) := by
  refine am_D.of (code := am_k_205) rfl (L0 := [.ref 88, .int what, .int n]) rfl ?_
  generalize hres : ((none : Option Value), am_S (am_row (am_row (am_row f 88 ((fn_m_groundsAdd what n f).1)) 99 ((fn_m_groundsAdd what n f).2.1)) 100 ((fn_m_groundsAdd what n f).2.2)) g) = res
  obtain ⟨K, hKd⟩ : ∃ K : ((Nat → Int32) × (Nat → Int32) × (Nat → Int32)) → Prop, K = fun z => ((none : Option Value), am_S (am_row (am_row (am_row f 88 z.1) 99 z.2.1) 100 z.2.2) g) = res := ⟨_, rfl⟩
  have hK : K (fn_m_groundsAdd what n f) := by rw [hKd]; exact hres
  clear hres
  unfold fn_m_groundsAdd at hK
  refine am_F.ops (pc' := 9) (L' := [.ref 88, .int what, .int n]) (S' := [.int what, .int (f 88 23), .ref 99]) (μ' := (am_S f g)) 5 rfl ?_
  refine am_F.ias (F' := (am_row f 99 (upd (f 99) ((f 88 23).toNatClampNeg) what))) (N := 64) rfl rfl rfl (by assumption) (by first | rfl | (funext a; by_cases z0 : a = 99; (subst z0; rfl); simp only [am_ui, am_ul, am_row_ne z0])) ?_
  refine am_F.ops (pc' := 19) (L' := [.ref 88, .int what, .int n]) (S' := [.int n, .int (f 88 23), .ref 100]) (μ' := (am_S (am_row f 99 (upd (f 99) ((f 88 23).toNatClampNeg) what)) g)) 5 rfl ?_
  refine am_F.ias (F' := (am_row (am_row f 99 (upd (f 99) ((f 88 23).toNatClampNeg) what)) 100 (upd (f 100) ((f 88 23).toNatClampNeg) n))) (N := 64) rfl rfl rfl (by assumption) (by first | rfl | (funext a; by_cases z0 : a = 99; (subst z0; rfl); by_cases z1 : a = 100; (subst z1; rfl); simp only [am_ui, am_ul, am_row_ne z0, am_row_ne z1])) ?_
  refine am_F.ops (pc' := 27) (L' := [.ref 88, .int what, .int n]) (S' := [.int ((f 88 23) + 1), .ref 88]) (μ' := (am_S (am_row (am_row f 99 (upd (f 99) ((f 88 23).toNatClampNeg) what)) 100 (upd (f 100) ((f 88 23).toNatClampNeg) n)) g)) 5 rfl ?_
  refine am_F.pfi (F' := (am_row (am_row (am_row f 88 (upd (f 88) 23 ((f 88 23) + 1))) 99 (upd (f 99) ((f 88 23).toNatClampNeg) what)) 100 (upd (f 100) ((f 88 23).toNatClampNeg) n))) rfl rfl (by first | rfl | (funext a; by_cases z0 : a = 88; (subst z0; rfl); by_cases z1 : a = 99; (subst z1; rfl); by_cases z2 : a = 100; (subst z2; rfl); simp only [am_ui, am_ul, am_row_ne z0, am_row_ne z1, am_row_ne z2])) ?_
  subst hKd
  exact am_F.eq (am_F.ret rfl rfl) hK
