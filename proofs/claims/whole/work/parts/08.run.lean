/-! THE RUN of the abstract machine, and that it is what the machine does -/
/-- an entry of a method's code: an operation; a call (callee, arguments, 0 static or 1 + the receiver's class, next place, callee's locals); an end (0 void, 1 int, 2 boolean, 3 long) -/
abbrev am_E : Type := am_Op ⊕ ((Nat × Nat × Nat × Nat × Nat) ⊕ Nat)
abbrev am_K : Type := List (Nat × am_E)
def am_look (pc : Nat) : am_K → Option am_E
  | [] => none
  | q :: r => bif Nat.beq q.1 pc then some q.2 else am_look pc r
theorem am_look_mem {pc : Nat} {e : am_E} : ∀ {k : am_K}, am_look pc k = some e → (pc, e) ∈ k := by
  intro k
  induction k with
  | nil => intro h; cases h
  | cons q r ih =>
    intro h
    unfold am_look at h
    cases hb : Nat.beq q.1 pc with
    | true =>
      rw [hb, cond_true] at h
      have := Nat.eq_of_beq_eq_true hb
      cases h
      subst this
      exact List.mem_cons_self
    | false =>
      rw [hb, cond_false] at h
      exact List.mem_cons_of_mem _ (ih h)
def am_sp : List Value → List Value
  | [] => []
  | v :: l => bif Nat.beq v.category 2 then v :: am_un :: am_sp l else v :: am_sp l
def am_locs (vs : List Value) (nL : Nat) : Option (List Value) := bif Nat.ble (am_sp vs).length nL then some (am_sp vs ++ List.replicate (nL - (am_sp vs).length) am_un) else none
def am_call (na rc : Nat) (S : List Value) (μ : am_M) : Option (List Value × List Value) :=
  bif Nat.ble na S.length && Nat.ble ((S.drop (na + 1)).map (fun v => v.category)).sum 8 then (match rc with
    | 0 => bif Nat.ble ((S.drop na).map (fun v => v.category)).sum 8 then some ((S.take na).reverse, S.drop na) else none
    | c + 1 => match S.drop na with
      | .ref k :: rest => bif am_is μ k (c + 2) then some (.ref k :: (S.take na).reverse, rest) else none
      | _ => none) else none
def am_ret (k : Nat) (S : List Value) (μ : am_M) : Option (Option Value × am_M) := match k, S with
  | 0, [] => some (none, μ)
  | 1, [.int v] => some (some (.int v), μ)
  | 2, [.int v] => bif v == 0 || v == 1 then some (some (.int v), μ) else none
  | 3, [.long v] => some (some (.long v), μ)
  | _, _ => none
def am_run (cs : List am_K) : Nat → Nat → am_K → Nat → List Value → List Value → am_M → Option (Option Value × am_M)
  | 0, _, _, _, _, _, _ => none
  | n + 1, d, code, pc, L, S, μ => match am_look pc code with
    | none => none
    | some (.inl f) => match f L S μ with
      | none => none
      | some (pc', L', S', μ') => am_run cs n d code pc' L' S' μ'
    | some (.inr (.inl (j, na, rc, nxt, nL))) => match d with
      | 0 => none
      | d + 1 => match am_call na rc S μ with
        | none => none
        | some (vs, rest) => match cs[j]? with
          | none => none
          | some code' => match am_locs vs nL with
            | none => none
            | some L0 => match am_run cs n d code' 0 L0 [] μ with
              | none => none
              | some (r, μ') => am_run cs n (d + 1) code nxt L (r.toList ++ rest) μ'
    | some (.inr (.inr k)) => am_ret k S μ
/-! what a table must keep -/
def am_CallOK (i : am_I) (pc : Nat) (q : Nat × Nat × Nat × Nat × Nat) : Prop :=
  ∃ i' : am_I, am_infos[q.1]? = some i' ∧ i'.2.2.1 = q.2.2.2.2 ∧ q.2.2.2.1 = pc + 3 ∧ (parseMethodDescriptor i'.1.desc).map (fun d => d.parameters.length) = some q.2.1 ∧ Cond.initialized i'.1.cls ∈ am_tbl ∧
    ((∃ (c ix : Nat) (w : vw_C), q.2.2.1 = c + 1 ∧ am_cls[c]? = some w ∧ w.1 = i'.1.cls ∧ decode i.2.1 pc = .ok (.invokevirtual ix, 3) ∧ Cond.methodLink i.1.cls ix i'.1 ∈ am_tbl ∧ Cond.instanceMethod i'.1 ∈ am_tbl ∧ Cond.selects i'.1.cls i'.1 i'.1 ∈ am_tbl) ∨
     (∃ ix : Nat, q.2.2.1 = 0 ∧ decode i.2.1 pc = .ok (.invokestatic ix, 3) ∧ Cond.methodLink i.1.cls ix i'.1 ∈ am_tbl ∧ Cond.static i'.1 ∈ am_tbl) ∨
     (∃ (ix : Nat) (h : String), q.2.2.1 = 0 ∧ decode i.2.1 pc = .ok (.invokestatic ix, 3) ∧ Cond.methodLinkNest i.1.cls ix i'.1 h ∈ am_nst ∧ Cond.static i'.1 ∈ am_tbl) ∨
     (∃ c ix : Nat, q.2.2.1 = c + 1 ∧ i'.2.2.2 = none ∧ i'.1.name = "<init>" ∧ decode i.2.1 pc = .ok (.invokespecial ix, 3) ∧ Cond.methodLink i.1.cls ix i'.1 ∈ am_tbl ∧ Cond.instanceMethod i'.1 ∈ am_tbl) ∨
     (∃ (c ix : Nat) (h : String), q.2.2.1 = c + 1 ∧ i'.2.2.2 = none ∧ i'.1.name = "<init>" ∧ decode i.2.1 pc = .ok (.invokespecial ix, 3) ∧ Cond.methodLinkNest i.1.cls ix i'.1 h ∈ am_nst ∧ Cond.instanceMethod i'.1 ∈ am_tbl))
def am_RetOK (i : am_I) (pc k : Nat) : Prop :=
  (k = 0 ∧ i.2.2.2 = none ∧ decode i.2.1 pc = .ok (.return_, 1)) ∨ (k = 1 ∧ i.2.2.2 = some .int ∧ decode i.2.1 pc = .ok (.ireturn, 1)) ∨ (k = 2 ∧ i.2.2.2 = some .boolean ∧ decode i.2.1 pc = .ok (.ireturn, 1)) ∨ (k = 3 ∧ i.2.2.2 = some .long ∧ decode i.2.1 pc = .ok (.lreturn, 1))
def am_ini (i : am_I) : Bool := i.1.name == "<init>"
def am_EOK (i : am_I) (pc : Nat) (e : am_E) : Prop := match e with
  | .inl f => am_OK i.1.cls i.2.1 i.2.2.1 (am_ini i) pc f ∧ am_Mo f
  | .inr (.inl q) => am_CallOK i pc q
  | .inr (.inr k) => am_RetOK i pc k
def am_KOK (i : am_I) (k : am_K) : Prop := ∀ q ∈ k, am_EOK i q.1 q.2
/-- every method of the table keeps it -/
def am_All (cs : List am_K) : Prop := ∀ (j : Nat) (i : am_I) (k : am_K), am_infos[j]? = some i → cs[j]? = some k → am_KOK i k ∧ plainName i.1.cls = true ∧ (i.1.cls ≠ "java/lang/invoke/MethodHandle" ∧ i.1.cls ≠ "java/lang/invoke/VarHandle") ∧ i.2.2.1 ≤ 24
theorem am_run_mo {cs : List am_K} (hall : am_All cs) : ∀ (n d : Nat) (j : Nat) (i : am_I) (code : am_K) (pc : Nat) (L S : List Value) (μ : am_M) (r : Option Value) (μ1 : am_M), am_infos[j]? = some i → cs[j]? = some code → am_run cs n d code pc L S μ = some (r, μ1) → am_nx μ ≤ am_nx μ1 ∧ am_ns μ ≤ am_ns μ1 := by
  intro n
  induction n with
  | zero => intro d j i code pc L S μ r μ1 _ _ h; cases h
  | succ n ih =>
    intro d j i code pc L S μ r μ1 hi hc h
    unfold am_run at h
    split at h
    · cases h
    · next f hf =>
      have hk := ((hall j i code hi hc).1 _ (am_look_mem hf)).2
      split at h
      · cases h
      · next pc' L' S' μ' hs =>
        obtain ⟨a1, a2⟩ := hk _ _ _ _ _ _ _ hs
        obtain ⟨b1, b2⟩ := ih d j i code pc' L' S' μ' r μ1 hi hc h
        exact ⟨Nat.le_trans a1 b1, Nat.le_trans a2 b2⟩
    · next j' na rc nxt nL hf =>
      have hk := (hall j i code hi hc).1 _ (am_look_mem hf)
      obtain ⟨i', hi', -⟩ := hk
      split at h
      · cases h
      · next d' =>
        split at h
        · cases h
        · next vs rest hv =>
          split at h
          · cases h
          · next code' hc' =>
            split at h
            · cases h
            · next L0 hL0 =>
              split at h
              · cases h
              · next r' μ' hr' =>
                obtain ⟨a1, a2⟩ := ih d' j' i' code' 0 L0 [] μ r' μ' hi' hc' hr'
                obtain ⟨b1, b2⟩ := ih (d' + 1) j i code nxt L (r'.toList ++ rest) μ' r μ1 hi hc h
                exact ⟨Nat.le_trans a1 b1, Nat.le_trans a2 b2⟩
    · next k hf =>
      unfold am_ret at h
      split at h
      · cases h; exact ⟨Nat.le_refl _, Nat.le_refl _⟩
      · cases h; exact ⟨Nat.le_refl _, Nat.le_refl _⟩
      · obtain ⟨-, h⟩ := am_bif h; cases h; exact ⟨Nat.le_refl _, Nat.le_refl _⟩
      · cases h; exact ⟨Nat.le_refl _, Nat.le_refl _⟩
      · cases h
/-! contracts -/
def am_rm (d mc ms : Nat) : Room := { frames := d + 1, cells := mc, slots := ms, locals := 64 * (d + 1) }
def am_wsm (i : am_I) : List Cond := .code i.1 i.2.1 i.2.2.1 i.2.2.2 :: am_tbl
def am_In (D : va_G) (cI cZ : ClassId) (b : Nat) (μ : am_M) (U : State) : Prop := U.heap.size = b + am_nx μ ∧ va_P D am_cls (am_ws b cI cZ μ) U.heap ∧ va_K D am_cls [(cI, .int), (cZ, .boolean)] U ∧ ∀ w ∈ am_nst, va_Nw w U
def am_Q (D : va_G) (cI cZ : ClassId) (b : Nat) (r : Option Value) (μ1 : am_M) : Array Value → State → Outcome → State → Prop := fun _ st o t =>
  o = .returned (r.map (am_v b)) ∧ t.heap.size = b + am_nx μ1 ∧ va_P D am_cls (am_ws b cI cZ μ1) t.heap ∧ va_F (fun q => b ≤ q) st t
theorem am_nst_moved {s U : State} (hW : s.WarmedH U.vm) (h : ∀ w ∈ am_nst, va_Nw w s) : ∀ w ∈ am_nst, va_Nw w U := by
  intro w hw
  have hs := h w hw
  obtain ⟨q, -, rfl⟩ := List.mem_map.mp hw
  exact va_Nw.warmM hW hs
theorem am_nst_vm {s U : State} (hv : s.vm = U.vm) (h : ∀ w ∈ am_nst, va_Nw w s) : ∀ w ∈ am_nst, va_Nw w U := by
  intro w hw
  have hs := h w hw
  obtain ⟨q, -, rfl⟩ := List.mem_map.mp hw
  exact va_tabs rfl hv hs
theorem am_In_warm {D : va_G} {cI cZ : ClassId} {b : Nat} {μ : am_M} {s U : State} (hK : va_K D am_cls [(cI, .int), (cZ, .boolean)] s) (hN : ∀ w ∈ am_nst, va_Nw w s) {H : Heap} (hz : H.size = b + am_nx μ) (hP : va_P D am_cls (am_ws b cI cZ μ) H) (hU : U.heap = H) (hW : s.WarmedH U.vm) : am_In D cI cZ b μ U :=
  ⟨by rw [hU]; exact hz, by rw [hU]; exact hP, va_K.moved hW.alike hK, am_nst_moved hW hN⟩
theorem am_blind (D : va_G) (cI cZ : ClassId) (b : Nat) (μ : am_M) (vs : List Value) : FrameBlind (va_Pc vs (am_In D cI cZ b μ)) := by
  intro a U g mk h
  obtain ⟨h1, h2, h3, h4, h5⟩ := h
  exact ⟨h1, h2, h3, va_K.moved (u := U) (U := U.calling g mk a) (Vm.Alike.refl U.vm) h4, am_nst_vm (s := U) (U := U.calling g mk a) rfl h5⟩
theorem am_good (i : am_I) (hi : i ∈ am_infos) : GoodIn am_tbl (am_wsm i) := by
  intro w hw
  rcases List.mem_cons.mp hw with rfl | hw
  · exact ⟨am_infos_in i hi, good_of_word rfl⟩
  · exact ⟨hw, good_of_word (List.mem_filter.mp hw).2⟩
theorem am_sp_len (b : Nat) : ∀ vs : List Value, (lg_sl (vs.map (am_v b))).length = (am_sp vs).length := by
  intro vs
  induction vs with
  | nil => rfl
  | cons v l ih =>
    have e : lg_sl ((v :: l).map (am_v b)) = (if (am_v b v).category = 2 then [.val (am_v b v), .second] else [.val (am_v b v)]) ++ lg_sl (l.map (am_v b)) := rfl
    rw [e, List.length_append, ih, am_v_cat]
    show _ = (bif Nat.beq v.category 2 then v :: am_un :: am_sp l else v :: am_sp l).length
    by_cases h : v.category = 2
    · rw [if_pos h, h]; simp; omega
    · rw [if_neg h, am_beq_n h]; simp; omega
theorem am_sp_vl (b k : Nat) : ∀ (vs : List Value) (i : Nat), ∀ q ∈ am_vl b i (am_sp vs ++ List.replicate k am_un), q ∈ lv_args i (vs.map (am_v b)) := by
  intro vs
  induction vs with
  | nil =>
    intro i q hq
    exfalso
    obtain ⟨j, v, h1, h2, -⟩ := (am_vl_mem b _ i q).mp hq
    have := List.mem_of_getElem? h1
    simp [am_sp] at this
    rw [this.2] at h2
    cases h2
  | cons v l ih =>
    intro i q hq
    have e : lv_args i ((v :: l).map (am_v b)) = (i, am_v b v) :: lv_args (if (am_v b v).category = 2 then i + 2 else i + 1) (l.map (am_v b)) := rfl
    rw [e, am_v_cat]
    unfold am_sp at hq
    by_cases h : v.category = 2
    · rw [h] at hq
      rw [if_pos h]
      have hq2 : q ∈ am_vl b i (v :: am_un :: (am_sp l ++ List.replicate k am_un)) := hq
      cases v <;> first | (exfalso; simp [Value.category] at h; done) | skip
      all_goals
        rcases List.mem_cons.mp hq2 with h1 | h1
        · rw [h1]; exact List.mem_cons_self
        · exact List.mem_cons_of_mem _ (ih (i + 2) q h1)
    · rw [am_beq_n h] at hq
      rw [if_neg h]
      have hq2 : q ∈ am_vl b i (v :: (am_sp l ++ List.replicate k am_un)) := hq
      cases v <;> first | exact List.mem_cons_of_mem _ (ih (i + 1) q hq2) | skip
      all_goals
        rcases List.mem_cons.mp hq2 with h1 | h1
        · rw [h1]; exact List.mem_cons_self
        · exact List.mem_cons_of_mem _ (ih (i + 1) q h1)
