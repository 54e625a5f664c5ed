/-! THE ABSTRACT MACHINE: memory without addresses; one operation an instruction; each operation is what the machine does (am_OK) -/
/-- numbers, longs, references of each cell; kind (0 ints, 1 booleans, c + 2 an object of class c) and length; how many cells; how many slots -/
abbrev am_M : Type := (Nat → Nat → Int32) × (Nat → Nat → Int64) × (Nat → Nat → Option Nat) × (Nat → Nat × Nat) × Nat × Nat
abbrev am_mi (μ : am_M) : Nat → Nat → Int32 := μ.1
abbrev am_ml (μ : am_M) : Nat → Nat → Int64 := μ.2.1
abbrev am_mr (μ : am_M) : Nat → Nat → Option Nat := μ.2.2.1
abbrev am_kd (μ : am_M) : Nat → Nat × Nat := μ.2.2.2.1
abbrev am_nx (μ : am_M) : Nat := μ.2.2.2.2.1
abbrev am_ns (μ : am_M) : Nat := μ.2.2.2.2.2
/-- a value with cell numbers, as a value with addresses -/
def am_v (b : Nat) (v : Value) : Value := match v with
  | .ref k => .ref (b + k)
  | w => w
theorem am_v_cat (b : Nat) (v : Value) : (am_v b v).category = v.category := by cases v <;> rfl
def am_fts (c : Nat) : List Nat := am_ftab.getD c []
def am_val (μ : am_M) (k t j : Nat) : Value := match t with
  | 0 => .int (am_mi μ k j)
  | 1 => .int (am_mi μ k j)
  | 2 => .long (am_ml μ k j)
  | _ => va_rf (am_mr μ k j)
def am_flds (b : Nat) (μ : am_M) (k c : Nat) : List Value := (List.range (am_fts c).length).map fun j => am_v b (am_val μ k ((am_fts c).getD j 0) j)
def am_ent (b : Nat) (cI cZ : ClassId) (μ : am_M) (k : Nat) : va_E := match (am_kd μ k).1 with
  | 0 => .inl (cI, (am_kd μ k).2, .inl (am_mi μ k))
  | 1 => .inl (cZ, (am_kd μ k).2, .inl (am_mi μ k))
  | c + 2 => .inr (c, am_flds b μ k c)
def am_ws (b : Nat) (cI cZ : ClassId) (μ : am_M) : va_W := (List.range (am_nx μ)).map fun k => (b + k, am_ent b cI cZ μ k)
theorem am_ws_at {b : Nat} {cI cZ : ClassId} {μ : am_M} {k : Nat} (h : k < am_nx μ) : (am_ws b cI cZ μ)[k]? = some (b + k, am_ent b cI cZ μ k) := by
  simp [am_ws, h]
theorem am_ws_of {b : Nat} {cI cZ : ClassId} {μ : am_M} {k : Nat} {q : Nat × va_E} (h : (am_ws b cI cZ μ)[k]? = some q) : k < am_nx μ ∧ q = (b + k, am_ent b cI cZ μ k) := by
  have hk : k < am_nx μ := by
    have := (List.getElem?_eq_some_iff.mp h).1
    simpa [am_ws] using this
  rw [am_ws_at hk] at h
  exact ⟨hk, (Option.some.inj h).symm⟩
theorem am_ws_D (b : Nat) (cI cZ : ClassId) (μ : am_M) : va_D (fun q => b ≤ q) (am_ws b cI cZ μ) := by
  refine ⟨fun i j p q hi hj h => ?_, fun k q hk => ?_⟩
  · obtain ⟨_, rfl⟩ := am_ws_of hi
    obtain ⟨_, rfl⟩ := am_ws_of hj
    have h' : b + i = b + j := h
    omega
  · obtain ⟨_, rfl⟩ := am_ws_of hk
    exact Nat.le_add_right _ _
theorem am_ws_set {b : Nat} {cI cZ : ClassId} {μ μ' : am_M} {k : Nat} {e : va_E} (hn : am_nx μ' = am_nx μ) (he : am_ent b cI cZ μ' k = e) (ho : ∀ j, j ≠ k → am_ent b cI cZ μ' j = am_ent b cI cZ μ j) : (am_ws b cI cZ μ).set k (b + k, e) = am_ws b cI cZ μ' := by
  subst he
  apply List.ext_getElem?
  intro j
  by_cases hj : j < am_nx μ
  · rw [am_ws_at (μ := μ') (by rw [hn]; exact hj)]
    by_cases hjk : k = j
    · subst hjk
      rw [List.getElem?_set_self (by simpa [am_ws] using hj)]
    · rw [List.getElem?_set_ne hjk, am_ws_at hj, ho j (Ne.symm hjk)]
  · rw [List.getElem?_eq_none (by simpa [am_ws] using hj), List.getElem?_eq_none (by simpa [am_ws, hn] using hj)]
theorem am_ws_push {b : Nat} {cI cZ : ClassId} {μ μ' : am_M} {e : va_E} (hn : am_nx μ' = am_nx μ + 1) (he : am_ent b cI cZ μ' (am_nx μ) = e) (ho : ∀ j, j < am_nx μ → am_ent b cI cZ μ' j = am_ent b cI cZ μ j) : am_ws b cI cZ μ ++ [(b + am_nx μ, e)] = am_ws b cI cZ μ' := by
  subst he
  have e1 : am_ws b cI cZ μ' = (List.range (am_nx μ')).map fun k => (b + k, am_ent b cI cZ μ' k) := rfl
  rw [e1, hn, List.range_succ, List.map_append]
  have e2 : am_ws b cI cZ μ = (List.range (am_nx μ)).map fun k => (b + k, am_ent b cI cZ μ' k) := by
    apply List.map_congr_left
    intro j hj
    rw [ho j (List.mem_range.mp hj)]
  rw [e2]
  rfl
theorem am_flds_at {b : Nat} {μ : am_M} {k c j t : Nat} (h : (am_fts c)[j]? = some t) : (am_flds b μ k c)[j]? = some (am_v b (am_val μ k t j)) := by
  have hj : j < (am_fts c).length := (List.getElem?_eq_some_iff.mp h).1
  have ht : (am_fts c).getD j 0 = t := by simp [List.getD, h]
  show ((List.range (am_fts c).length).map fun j => am_v b (am_val μ k ((am_fts c).getD j 0) j))[j]? = _
  rw [List.getElem?_map, List.getElem?_range hj, Option.map_some, ht]
theorem am_ent_c {b : Nat} {cI cZ : ClassId} {μ : am_M} {k c : Nat} (h : (am_kd μ k).1 = c + 2) : am_ent b cI cZ μ k = .inr (c, am_flds b μ k c) := by
  unfold am_ent; rw [h]
theorem am_ent_i {b : Nat} {cI cZ : ClassId} {μ : am_M} {k : Nat} (h : (am_kd μ k).1 = 0) : am_ent b cI cZ μ k = .inl (cI, (am_kd μ k).2, .inl (am_mi μ k)) := by
  unfold am_ent; rw [h]
theorem am_ent_z {b : Nat} {cI cZ : ClassId} {μ : am_M} {k : Nat} (h : (am_kd μ k).1 = 1) : am_ent b cI cZ μ k = .inl (cZ, (am_kd μ k).2, .inl (am_mi μ k)) := by
  unfold am_ent; rw [h]
/-! locals: by their places; '.retAddr 0' where nothing is known -/
def am_un : Value := .retAddr 0
def am_vl (b : Nat) : Nat → List Value → List (Nat × Value)
  | _, [] => []
  | i, v :: l => match v with
    | .retAddr _ => am_vl b (i + 1) l
    | w => (i, am_v b w) :: am_vl b (i + 1) l
def am_re (v : Value) : Bool := match v with
  | .retAddr _ => false
  | _ => true
theorem am_vl_mem (b : Nat) : ∀ (L : List Value) (i : Nat) (q : Nat × Value), q ∈ am_vl b i L ↔ ∃ (j : Nat) (v : Value), L[j]? = some v ∧ am_re v = true ∧ q = (i + j, am_v b v) := by
  intro L
  induction L with
  | nil => intro i q; simp [am_vl]
  | cons v l ih =>
    intro i q
    have hs : (∃ (j : Nat) (w : Value), (v :: l)[j]? = some w ∧ am_re w = true ∧ q = (i + j, am_v b w)) ↔ ((am_re v = true ∧ q = (i, am_v b v)) ∨ ∃ (j : Nat) (w : Value), l[j]? = some w ∧ am_re w = true ∧ q = (i + 1 + j, am_v b w)) := by
      constructor
      · rintro ⟨j, w, h1, h2, h3⟩
        cases j with
        | zero =>
          simp at h1
          subst h1
          exact Or.inl ⟨h2, h3⟩
        | succ j =>
          simp at h1
          exact Or.inr ⟨j, w, h1, h2, by rw [h3]; congr 1; omega⟩
      · rintro (⟨h1, h2⟩ | ⟨j, w, h1, h2, h3⟩)
        · exact ⟨0, v, rfl, h1, h2⟩
        · exact ⟨j + 1, w, by simpa using h1, h2, by rw [h3]; congr 1; omega⟩
    rw [hs, ← ih (i + 1) q]
    cases v <;> simp [am_vl, am_re]
theorem lv_has.le {ls : Array Slot} {nL : Nat} {l l' : List (Nat × Value)} (h : lv_has ls nL l) (hs : ∀ q ∈ l', q ∈ l) : lv_has ls nL l' := ⟨h.1, h.2.1, fun q hq => h.2.2 q (hs q hq)⟩
theorem am_get {b nL i : Nat} {ls : Array Slot} {L : List Value} {v : Value} (h : lv_has ls nL (am_vl b 0 L)) (hi : L[i]? = some v) (hr : am_re v = true) : ls[i]? = some (.val (am_v b v)) :=
  h.2.2 (i, am_v b v) ((am_vl_mem b L 0 _).mpr ⟨i, v, hi, hr, by simp⟩)
def am_kl (i : Nat) (L : List Value) : List Value := match i with
  | 0 => L
  | k + 1 => match L[k]? with
    | some w => bif Nat.beq w.category 2 then L.set k am_un else L
    | none => L
def am_st1 (i : Nat) (v : Value) (L : List Value) : List Value := (am_kl i L).set i v
def am_st2 (i : Nat) (v : Value) (L : List Value) : List Value := ((am_kl i L).set i v).set (i + 1) am_un
theorem am_kl_at {i j : Nat} {L : List Value} {w : Value} (h : (am_kl i L)[j]? = some w) (hr : am_re w = true) : L[j]? = some w ∧ ¬ (j + 1 = i ∧ w.category = 2) := by
  unfold am_kl at h
  cases i with
  | zero => exact ⟨h, fun q => by omega⟩
  | succ k =>
    simp only at h
    cases hk : L[k]? with
    | none =>
      rw [hk] at h
      simp only at h
      refine ⟨h, fun q => ?_⟩
      have : j = k := by omega
      subst this
      rw [hk] at h; cases h
    | some w0 =>
      rw [hk] at h
      simp only at h
      cases hc : Nat.beq w0.category 2 with
      | true =>
        rw [hc, cond_true] at h
        by_cases hj : k = j
        · subst hj
          rw [List.getElem?_set_self (List.getElem?_eq_some_iff.mp hk).1] at h
          cases h
          cases hr
        · rw [List.getElem?_set_ne hj] at h
          exact ⟨h, fun q => by omega⟩
      | false =>
        rw [hc, cond_false] at h
        refine ⟨h, fun q => ?_⟩
        have : j = k := by omega
        subst this
        rw [hk] at h
        cases h
        rw [q.2] at hc
        cases hc
theorem am_st1_ok {b nL i : Nat} {ls : Array Slot} {L : List Value} {v : Value} (h : lv_has ls nL ((i, am_v b v) :: (am_vl b 0 L).filter (fun q => !(q.1 == i) && !(q.1 + 1 == i && q.2.category == 2)))) : lv_has ls nL (am_vl b 0 (am_st1 i v L)) := by
  refine h.le fun q hq => ?_
  obtain ⟨j, w, h1, h2, h3⟩ := (am_vl_mem b _ 0 q).mp hq
  subst h3
  simp only [Nat.zero_add]
  unfold am_st1 at h1
  by_cases hj : i = j
  · subst hj
    have hl : i < (am_kl i L).length := by
      have := (List.getElem?_eq_some_iff.mp h1).1
      simpa using this
    rw [List.getElem?_set_self hl] at h1
    cases h1
    exact List.mem_cons_self
  · rw [List.getElem?_set_ne hj] at h1
    obtain ⟨g1, g2⟩ := am_kl_at h1 h2
    refine List.mem_cons_of_mem _ (List.mem_filter.mpr ⟨(am_vl_mem b L 0 _).mpr ⟨j, w, g1, h2, by simp⟩, ?_⟩)
    simp only [Bool.and_eq_true, Bool.not_eq_true', beq_eq_false_iff_ne, ne_eq, Bool.and_eq_false_iff, am_v_cat]
    refine ⟨fun z => hj z.symm, ?_⟩
    by_cases hz : j + 1 = i
    · exact Or.inr fun z => g2 ⟨hz, z⟩
    · exact Or.inl hz
theorem am_st2_ok {b nL i : Nat} {ls : Array Slot} {L : List Value} {v : Value} (h : lv_has ls nL ((i, am_v b v) :: (am_vl b 0 L).filter (fun q => !(q.1 == i) && (!(q.1 == i + 1) && !(q.1 + 1 == i && q.2.category == 2))))) : lv_has ls nL (am_vl b 0 (am_st2 i v L)) := by
  refine h.le fun q hq => ?_
  obtain ⟨j, w, h1, h2, h3⟩ := (am_vl_mem b _ 0 q).mp hq
  subst h3
  simp only [Nat.zero_add]
  unfold am_st2 at h1
  by_cases hj1 : i + 1 = j
  · subst hj1
    have hl : i + 1 < ((am_kl i L).set i v).length := by
      have := (List.getElem?_eq_some_iff.mp h1).1
      simpa using this
    rw [List.getElem?_set_self hl] at h1
    cases h1
    cases h2
  · rw [List.getElem?_set_ne hj1] at h1
    by_cases hj : i = j
    · subst hj
      have hl : i < (am_kl i L).length := by
        have := (List.getElem?_eq_some_iff.mp h1).1
        simpa using this
      rw [List.getElem?_set_self hl] at h1
      cases h1
      exact List.mem_cons_self
    · rw [List.getElem?_set_ne hj] at h1
      obtain ⟨g1, g2⟩ := am_kl_at h1 h2
      refine List.mem_cons_of_mem _ (List.mem_filter.mpr ⟨(am_vl_mem b L 0 _).mpr ⟨j, w, g1, h2, by simp⟩, ?_⟩)
      simp only [Bool.and_eq_true, Bool.not_eq_true', beq_eq_false_iff_ne, ne_eq, Bool.and_eq_false_iff, am_v_cat]
      refine ⟨fun z => hj z.symm, fun z => hj1 z.symm, ?_⟩
      by_cases hz : j + 1 = i
      · exact Or.inr fun z => g2 ⟨hz, z⟩
      · exact Or.inl hz
