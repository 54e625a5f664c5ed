/-! leaves (printed by wip/whole/m1.py) -/
/-- AccessLattice.has -/
def fn_has (x : Int32) (n : Int32) : Bool := (if ((x >>> (n &&& 31)) &&& 1) = 0 then false else true)
theorem x_has (x : Int32) (n : Int32) (f : Nat → Nat → Int32) (g : Nat → Nat → Int64)  : am_D 0 5 2 [.int x, .int n] (am_S f g) (some (Value.int (am_b (fn_has x n))), am_S f g) := by
  refine am_D.of (code := am_k_5) rfl (L0 := [.int x, .int n]) rfl ?_
  generalize hres : (some (Value.int (am_b (fn_has x n))), am_S f g) = res
  obtain ⟨K, hKd⟩ : ∃ K : Bool → Prop, K = fun z => (some (Value.int (am_b z)), am_S f g) = res := ⟨_, rfl⟩
  have hK : K (fn_has x n) := by rw [hKd]; exact hres
  clear hres
  unfold fn_has at hK
  refine am_F.ops (pc' := 5) (L' := [.int x, .int n]) (S' := [.int ((x >>> (n &&& 31)) &&& 1)]) (μ' := (am_S f g)) 5 rfl ?_
  refine am_F.to (am_To.iteB (pc' := 13) (L2 := [.int x, .int n]) (S2 := []) (μ2 := (am_S f g)) (a := false) (b := true) 1 rfl (fun c1 => ?_) (fun c1 => ?_)) ?_
  · intro res9 g9
    show am_F _ _ 12 [.int x, .int n] [] (am_S f g) _
    refine am_F.ops (pc' := 13) (L' := [.int x, .int n]) (S' := [.int 0]) (μ' := (am_S f g)) 1 rfl ?_
    exact g9
  · intro res9 g9
    show am_F _ _ 8 [.int x, .int n] [] (am_S f g) _
    refine am_F.ops (pc' := 13) (L' := [.int x, .int n]) (S' := [.int 1]) (μ' := (am_S f g)) 2 rfl ?_
    exact g9
  show am_F _ _ 13 [.int x, .int n] [.int (am_b (if ((x >>> (n &&& 31)) &&& 1) = 0 then false else true))] (am_S f g) _
  subst hKd
  exact am_F.eq (am_F.ret rfl (am_retB _ _)) hK
/-- AccessLattice.hasLong -/
def fn_hasLong (x : Int64) (n : Int32) : Bool := (if (lg_cmp ((x >>> (n.toInt64 &&& 63)) &&& (1 : Int64)) (0 : Int64)) = 0 then false else true)
theorem x_hasLong (x : Int64) (n : Int32) (f : Nat → Nat → Int32) (g : Nat → Nat → Int64)  : am_D 0 29 3 [.long x, .int n] (am_S f g) (some (Value.int (am_b (fn_hasLong x n))), am_S f g) := by
  refine am_D.of (code := am_k_29) rfl (L0 := [.long x, am_un, .int n]) rfl ?_
  generalize hres : (some (Value.int (am_b (fn_hasLong x n))), am_S f g) = res
  obtain ⟨K, hKd⟩ : ∃ K : Bool → Prop, K = fun z => (some (Value.int (am_b z)), am_S f g) = res := ⟨_, rfl⟩
  have hK : K (fn_hasLong x n) := by rw [hKd]; exact hres
  clear hres
  unfold fn_hasLong at hK
  refine am_F.ops (pc' := 7) (L' := [.long x, am_un, .int n]) (S' := [.int (lg_cmp ((x >>> (n.toInt64 &&& 63)) &&& (1 : Int64)) (0 : Int64))]) (μ' := (am_S f g)) 7 rfl ?_
  refine am_F.to (am_To.iteB (pc' := 15) (L2 := [.long x, am_un, .int n]) (S2 := []) (μ2 := (am_S f g)) (a := false) (b := true) 1 rfl (fun c1 => ?_) (fun c1 => ?_)) ?_
  · intro res9 g9
    show am_F _ _ 14 [.long x, am_un, .int n] [] (am_S f g) _
    refine am_F.ops (pc' := 15) (L' := [.long x, am_un, .int n]) (S' := [.int 0]) (μ' := (am_S f g)) 1 rfl ?_
    exact g9
  · intro res9 g9
    show am_F _ _ 10 [.long x, am_un, .int n] [] (am_S f g) _
    refine am_F.ops (pc' := 15) (L' := [.long x, am_un, .int n]) (S' := [.int 1]) (μ' := (am_S f g)) 2 rfl ?_
    exact g9
  show am_F _ _ 15 [.long x, am_un, .int n] [.int (am_b (if (lg_cmp ((x >>> (n.toInt64 &&& 63)) &&& (1 : Int64)) (0 : Int64)) = 0 then false else true))] (am_S f g) _
  subst hKd
  exact am_F.eq (am_F.ret rfl (am_retB _ _)) hK
/-- AccessLattice.between -/
def fn_between (v : Int32) (lo : Int32) (hi : Int32) : Bool := (if v < lo then false else (if hi < v then false else true))
theorem x_between (v : Int32) (lo : Int32) (hi : Int32) (f : Nat → Nat → Int32) (g : Nat → Nat → Int64)  : am_D 0 15 3 [.int v, .int lo, .int hi] (am_S f g) (some (Value.int (am_b (fn_between v lo hi))), am_S f g) := by
  refine am_D.of (code := am_k_15) rfl (L0 := [.int v, .int lo, .int hi]) rfl ?_
  generalize hres : (some (Value.int (am_b (fn_between v lo hi))), am_S f g) = res
  obtain ⟨K, hKd⟩ : ∃ K : Bool → Prop, K = fun z => (some (Value.int (am_b z)), am_S f g) = res := ⟨_, rfl⟩
  have hK : K (fn_between v lo hi) := by rw [hKd]; exact hres
  clear hres
  unfold fn_between at hK
  refine am_F.ops (pc' := 2) (L' := [.int v, .int lo, .int hi]) (S' := [.int lo, .int v]) (μ' := (am_S f g)) 2 rfl ?_
  refine am_F.to (am_To.iteB (pc' := 15) (L2 := [.int v, .int lo, .int hi]) (S2 := []) (μ2 := (am_S f g)) (a := false) (b := (if hi < v then false else true)) 1 rfl (fun c1 => ?_) (fun c1 => ?_)) ?_
  · intro res9 g9
    show am_F _ _ 14 [.int v, .int lo, .int hi] [] (am_S f g) _
    refine am_F.ops (pc' := 15) (L' := [.int v, .int lo, .int hi]) (S' := [.int 0]) (μ' := (am_S f g)) 1 rfl ?_
    exact g9
  · intro res9 g9
    show am_F _ _ 5 [.int v, .int lo, .int hi] [] (am_S f g) _
    refine am_F.ops (pc' := 7) (L' := [.int v, .int lo, .int hi]) (S' := [.int hi, .int v]) (μ' := (am_S f g)) 2 rfl ?_
    refine am_F.to (am_To.iteB (pc' := 15) (L2 := [.int v, .int lo, .int hi]) (S2 := []) (μ2 := (am_S f g)) (a := false) (b := true) 1 rfl (fun c2 => ?_) (fun c2 => ?_)) g9
    · intro res9 g9
      show am_F _ _ 14 [.int v, .int lo, .int hi] [] (am_S f g) _
      refine am_F.ops (pc' := 15) (L' := [.int v, .int lo, .int hi]) (S' := [.int 0]) (μ' := (am_S f g)) 1 rfl ?_
      exact g9
    · intro res9 g9
      show am_F _ _ 10 [.int v, .int lo, .int hi] [] (am_S f g) _
      refine am_F.ops (pc' := 15) (L' := [.int v, .int lo, .int hi]) (S' := [.int 1]) (μ' := (am_S f g)) 2 rfl ?_
      exact g9
  show am_F _ _ 15 [.int v, .int lo, .int hi] [.int (am_b (if v < lo then false else (if hi < v then false else true)))] (am_S f g) _
  subst hKd
  exact am_F.eq (am_F.ret rfl (am_retB _ _)) hK
/-- AccessLattice.within01 -/
def fn_within01 (v : Int32) : Bool := (if v = 0 then true else (if v = 1 then true else false))
theorem x_within01 (v : Int32) (f : Nat → Nat → Int32) (g : Nat → Nat → Int64)  : am_D 0 13 1 [.int v] (am_S f g) (some (Value.int (am_b (fn_within01 v))), am_S f g) := by
  refine am_D.of (code := am_k_13) rfl (L0 := [.int v]) rfl ?_
  generalize hres : (some (Value.int (am_b (fn_within01 v))), am_S f g) = res
  obtain ⟨K, hKd⟩ : ∃ K : Bool → Prop, K = fun z => (some (Value.int (am_b z)), am_S f g) = res := ⟨_, rfl⟩
  have hK : K (fn_within01 v) := by rw [hKd]; exact hres
  clear hres
  unfold fn_within01 at hK
  refine am_F.ops (pc' := 1) (L' := [.int v]) (S' := [.int v]) (μ' := (am_S f g)) 1 rfl ?_
  refine am_F.to (am_To.iteB (pc' := 14) (L2 := [.int v]) (S2 := []) (μ2 := (am_S f g)) (a := true) (b := (if v = 1 then true else false)) 1 rfl (fun c1 => ?_) (fun c1 => ?_)) ?_
  · intro res9 g9
    show am_F _ _ 9 [.int v] [] (am_S f g) _
    refine am_F.ops (pc' := 14) (L' := [.int v]) (S' := [.int 1]) (μ' := (am_S f g)) 2 rfl ?_
    exact g9
  · intro res9 g9
    show am_F _ _ 4 [.int v] [] (am_S f g) _
    refine am_F.ops (pc' := 6) (L' := [.int v]) (S' := [.int 1, .int v]) (μ' := (am_S f g)) 2 rfl ?_
    refine am_F.to (am_To.iteB (pc' := 14) (L2 := [.int v]) (S2 := []) (μ2 := (am_S f g)) (a := true) (b := false) 1 rfl (fun c2 => ?_) (fun c2 => ?_)) g9
    · intro res9 g9
      show am_F _ _ 9 [.int v] [] (am_S f g) _
      refine am_F.ops (pc' := 14) (L' := [.int v]) (S' := [.int 1]) (μ' := (am_S f g)) 2 rfl ?_
      exact g9
    · intro res9 g9
      show am_F _ _ 13 [.int v] [] (am_S f g) _
      refine am_F.ops (pc' := 14) (L' := [.int v]) (S' := [.int 0]) (μ' := (am_S f g)) 1 rfl ?_
      exact g9
  show am_F _ _ 14 [.int v] [.int (am_b (if v = 0 then true else (if v = 1 then true else false)))] (am_S f g) _
  subst hKd
  exact am_F.eq (am_F.ret rfl (am_retB _ _)) hK
/-- AccessLattice.isUser -/
def fn_isUser (v : Int32) : Bool := (fn_between v 0 15)
theorem x_isUser (v : Int32) (f : Nat → Nat → Int32) (g : Nat → Nat → Int64)  : am_D 1 32 1 [.int v] (am_S f g) (some (Value.int (am_b (fn_isUser v))), am_S f g) := by
  refine am_D.of (code := am_k_32) rfl (L0 := [.int v]) rfl ?_
  generalize hres : (some (Value.int (am_b (fn_isUser v))), am_S f g) = res
  obtain ⟨K, hKd⟩ : ∃ K : Bool → Prop, K = fun z => (some (Value.int (am_b z)), am_S f g) = res := ⟨_, rfl⟩
  have hK : K (fn_isUser v) := by rw [hKd]; exact hres
  clear hres
  unfold fn_isUser at hK
  refine am_F.ops (pc' := 4) (L' := [.int v]) (S' := [.int 15, .int 0, .int v]) (μ' := (am_S f g)) 3 rfl ?_
  refine am_F.call rfl rfl (x_between v 0 15 f g ) (by decide) ?_
  show am_F _ _ 7 [.int v] [.int (am_b (fn_between v 0 15))] (am_S f g) _
  subst hKd
  exact am_F.eq (am_F.ret rfl (am_retB _ _)) hK
/-- AccessLattice.isThing -/
def fn_isThing (v : Int32) : Bool := (fn_between v 0 15)
theorem x_isThing (v : Int32) (f : Nat → Nat → Int32) (g : Nat → Nat → Int64)  : am_D 1 14 1 [.int v] (am_S f g) (some (Value.int (am_b (fn_isThing v))), am_S f g) := by
  refine am_D.of (code := am_k_14) rfl (L0 := [.int v]) rfl ?_
  generalize hres : (some (Value.int (am_b (fn_isThing v))), am_S f g) = res
  obtain ⟨K, hKd⟩ : ∃ K : Bool → Prop, K = fun z => (some (Value.int (am_b z)), am_S f g) = res := ⟨_, rfl⟩
  have hK : K (fn_isThing v) := by rw [hKd]; exact hres
  clear hres
  unfold fn_isThing at hK
  refine am_F.ops (pc' := 4) (L' := [.int v]) (S' := [.int 15, .int 0, .int v]) (μ' := (am_S f g)) 3 rfl ?_
  refine am_F.call rfl rfl (x_between v 0 15 f g ) (by decide) ?_
  show am_F _ _ 7 [.int v] [.int (am_b (fn_between v 0 15))] (am_S f g) _
  subst hKd
  exact am_F.eq (am_F.ret rfl (am_retB _ _)) hK
/-- AccessLattice.isRole -/
def fn_isRole (v : Int32) : Bool := (fn_between v 0 19)
theorem x_isRole (v : Int32) (f : Nat → Nat → Int32) (g : Nat → Nat → Int64)  : am_D 1 19 1 [.int v] (am_S f g) (some (Value.int (am_b (fn_isRole v))), am_S f g) := by
  refine am_D.of (code := am_k_19) rfl (L0 := [.int v]) rfl ?_
  generalize hres : (some (Value.int (am_b (fn_isRole v))), am_S f g) = res
  obtain ⟨K, hKd⟩ : ∃ K : Bool → Prop, K = fun z => (some (Value.int (am_b z)), am_S f g) = res := ⟨_, rfl⟩
  have hK : K (fn_isRole v) := by rw [hKd]; exact hres
  clear hres
  unfold fn_isRole at hK
  refine am_F.ops (pc' := 4) (L' := [.int v]) (S' := [.int 19, .int 0, .int v]) (μ' := (am_S f g)) 3 rfl ?_
  refine am_F.call rfl rfl (x_between v 0 19 f g ) (by decide) ?_
  show am_F _ _ 7 [.int v] [.int (am_b (fn_between v 0 19))] (am_S f g) _
  subst hKd
  exact am_F.eq (am_F.ret rfl (am_retB _ _)) hK
/-- AccessLattice.isAct -/
def fn_isAct (v : Int32) : Bool := (fn_between v 0 7)
theorem x_isAct (v : Int32) (f : Nat → Nat → Int32) (g : Nat → Nat → Int64)  : am_D 1 76 1 [.int v] (am_S f g) (some (Value.int (am_b (fn_isAct v))), am_S f g) := by
  refine am_D.of (code := am_k_76) rfl (L0 := [.int v]) rfl ?_
  generalize hres : (some (Value.int (am_b (fn_isAct v))), am_S f g) = res
  obtain ⟨K, hKd⟩ : ∃ K : Bool → Prop, K = fun z => (some (Value.int (am_b z)), am_S f g) = res := ⟨_, rfl⟩
  have hK : K (fn_isAct v) := by rw [hKd]; exact hres
  clear hres
  unfold fn_isAct at hK
  refine am_F.ops (pc' := 4) (L' := [.int v]) (S' := [.int 7, .int 0, .int v]) (μ' := (am_S f g)) 3 rfl ?_
  refine am_F.call rfl rfl (x_between v 0 7 f g ) (by decide) ?_
  show am_F _ _ 7 [.int v] [.int (am_b (fn_between v 0 7))] (am_S f g) _
  subst hKd
  exact am_F.eq (am_F.ret rfl (am_retB _ _)) hK
/-- AccessLattice.isAsked -/
def fn_isAsked (u : Int32) (a : Int32) (t : Int32) : Bool := (bif (fn_isUser u) then (bif (fn_isAct a) then (bif (fn_isThing t) then true else false) else false) else false)
theorem x_isAsked (u : Int32) (a : Int32) (t : Int32) (f : Nat → Nat → Int32) (g : Nat → Nat → Int64)  : am_D 2 75 3 [.int u, .int a, .int t] (am_S f g) (some (Value.int (am_b (fn_isAsked u a t))), am_S f g) := by
  refine am_D.of (code := am_k_75) rfl (L0 := [.int u, .int a, .int t]) rfl ?_
  generalize hres : (some (Value.int (am_b (fn_isAsked u a t))), am_S f g) = res
  obtain ⟨K, hKd⟩ : ∃ K : Bool → Prop, K = fun z => (some (Value.int (am_b z)), am_S f g) = res := ⟨_, rfl⟩
  have hK : K (fn_isAsked u a t) := by rw [hKd]; exact hres
  clear hres
  unfold fn_isAsked at hK
  refine am_F.ops (pc' := 1) (L' := [.int u, .int a, .int t]) (S' := [.int u]) (μ' := (am_S f g)) 1 rfl ?_
  refine am_F.call rfl rfl (x_isUser u f g ) (by decide) ?_
  show am_F _ _ 4 [.int u, .int a, .int t] [.int (am_b (fn_isUser u))] (am_S f g) _
  refine am_F.to (am_To.bifB (pc' := 26) (L2 := [.int u, .int a, .int t]) (S2 := []) (μ2 := (am_S f g)) (a := (bif (fn_isAct a) then (bif (fn_isThing t) then true else false) else false)) (b := false) 1 rfl (fun c1 => ?_) (fun c1 => ?_)) ?_
  · intro res9 g9
    show am_F _ _ 7 [.int u, .int a, .int t] [] (am_S f g) _
    refine am_F.ops (pc' := 8) (L' := [.int u, .int a, .int t]) (S' := [.int a]) (μ' := (am_S f g)) 1 rfl ?_
    refine am_F.call rfl rfl (x_isAct a f g ) (by decide) ?_
    show am_F _ _ 11 [.int u, .int a, .int t] [.int (am_b (fn_isAct a))] (am_S f g) _
    refine am_F.to (am_To.bifB (pc' := 26) (L2 := [.int u, .int a, .int t]) (S2 := []) (μ2 := (am_S f g)) (a := (bif (fn_isThing t) then true else false)) (b := false) 1 rfl (fun c2 => ?_) (fun c2 => ?_)) g9
    · intro res9 g9
      show am_F _ _ 14 [.int u, .int a, .int t] [] (am_S f g) _
      refine am_F.ops (pc' := 15) (L' := [.int u, .int a, .int t]) (S' := [.int t]) (μ' := (am_S f g)) 1 rfl ?_
      refine am_F.call rfl rfl (x_isThing t f g ) (by decide) ?_
      show am_F _ _ 18 [.int u, .int a, .int t] [.int (am_b (fn_isThing t))] (am_S f g) _
      refine am_F.to (am_To.bifB (pc' := 26) (L2 := [.int u, .int a, .int t]) (S2 := []) (μ2 := (am_S f g)) (a := true) (b := false) 1 rfl (fun c3 => ?_) (fun c3 => ?_)) g9
      · intro res9 g9
        show am_F _ _ 21 [.int u, .int a, .int t] [] (am_S f g) _
        refine am_F.ops (pc' := 26) (L' := [.int u, .int a, .int t]) (S' := [.int 1]) (μ' := (am_S f g)) 2 rfl ?_
        exact g9
      · intro res9 g9
        show am_F _ _ 25 [.int u, .int a, .int t] [] (am_S f g) _
        refine am_F.ops (pc' := 26) (L' := [.int u, .int a, .int t]) (S' := [.int 0]) (μ' := (am_S f g)) 1 rfl ?_
        exact g9
    · intro res9 g9
      show am_F _ _ 25 [.int u, .int a, .int t] [] (am_S f g) _
      refine am_F.ops (pc' := 26) (L' := [.int u, .int a, .int t]) (S' := [.int 0]) (μ' := (am_S f g)) 1 rfl ?_
      exact g9
  · intro res9 g9
    show am_F _ _ 25 [.int u, .int a, .int t] [] (am_S f g) _
    refine am_F.ops (pc' := 26) (L' := [.int u, .int a, .int t]) (S' := [.int 0]) (μ' := (am_S f g)) 1 rfl ?_
    exact g9
  show am_F _ _ 26 [.int u, .int a, .int t] [.int (am_b (bif (fn_isUser u) then (bif (fn_isAct a) then (bif (fn_isThing t) then true else false) else false) else false))] (am_S f g) _
  subst hKd
  exact am_F.eq (am_F.ret rfl (am_retB _ _)) hK
theorem am_btw {v lo hi : Int32} (h : fn_between v lo hi = true) : lo ≤ v ∧ v ≤ hi := by
  unfold fn_between at h
  by_cases h1 : v < lo
  · rw [if_pos h1] at h; cases h
  · rw [if_neg h1] at h
    by_cases h2 : hi < v
    · rw [if_pos h2] at h; cases h
    · exact ⟨Int32.not_lt.mp h1, Int32.not_lt.mp h2⟩
theorem am_btwN {v hi : Int32} {N : Nat} (h : fn_between v 0 hi = true) (hN : hi.toInt = (N : Int) - 1) : ∃ n : Nat, n < N ∧ v = nI n := by
  obtain ⟨h1, h2⟩ := am_btw h
  rw [Int32.le_iff_toInt_le] at h1 h2
  have h0 : (0 : Int32).toInt = 0 := rfl
  obtain ⟨j, h3, h4⟩ := nI_of (x := v) (by rw [Int32.lt_iff_toInt_lt]; omega)
  refine ⟨j, ?_, h4⟩
  rw [h4, nI_toInt h3] at h2
  omega
theorem am_btwM {v r : Int32} {n : Nat} (h : fn_between v 0 (r - 1) = true) (hr : r = nI n) (hn : n ≤ 65536) : ∃ j : Nat, j < n ∧ v = nI j := by
  obtain ⟨h1, h2⟩ := am_btw h
  rw [Int32.le_iff_toInt_le] at h1 h2
  have h0 : (0 : Int32).toInt = 0 := rfl
  obtain ⟨j, h3, h4⟩ := nI_of (x := v) (by rw [Int32.lt_iff_toInt_lt]; omega)
  refine ⟨j, ?_, h4⟩
  have e1 : (r - 1).toInt = (n : Int) - 1 := by
    rw [hr, Int32.toInt_sub, nI_toInt (by omega), show (1 : Int32).toInt = 1 from rfl]
    refine Int.bmod_eq_of_le ?_ ?_ <;> first | omega | (simp only [Int32.size]; omega)
  rw [h4, nI_toInt h3, e1] at h2
  omega
theorem am_iUser {v : Int32} (h : fn_isUser v = true) : ∃ n : Nat, n < 16 ∧ v = nI n := am_btwN h (by decide)
theorem am_iThing {v : Int32} (h : fn_isThing v = true) : ∃ n : Nat, n < 16 ∧ v = nI n := am_btwN h (by decide)
theorem am_iRole {v : Int32} (h : fn_isRole v = true) : ∃ n : Nat, n < 20 ∧ v = nI n := am_btwN h (by decide)
theorem am_iAct {v : Int32} (h : fn_isAct v = true) : ∃ n : Nat, n < 8 ∧ v = nI n := am_btwN h (by decide)
theorem am_isAsk {u a t : Int32} (h : fn_isAsked u a t = true) : (∃ n : Nat, n < 16 ∧ u = nI n) ∧ (∃ n : Nat, n < 8 ∧ a = nI n) ∧ ∃ n : Nat, n < 16 ∧ t = nI n := by
  unfold fn_isAsked at h
  cases h1 : fn_isUser u <;> cases h2 : fn_isAct a <;> cases h3 : fn_isThing t <;> rw [h1, h2, h3] at h <;> first | (cases h; done) | exact ⟨am_iUser h1, am_iAct h2, am_iThing h3⟩
