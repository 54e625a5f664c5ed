/-! STORES, ARRAYS, NEW CELLS, COPIES -/
section
variable {own : String} {cc : ByteArray} {nL pc n : Nat} {ini : Bool}
theorem am_seti_mi {μ : am_M} {k j : Nat} {x : Int32} {a : Nat} (h : a ≠ k) : am_mi (am_seti μ k j x) a = am_mi μ a := by
  show (bif Nat.beq a k then _ else _) = _
  rw [am_beq_n h]; rfl
theorem am_seti_s {μ : am_M} {k j : Nat} {x : Int32} : am_mi (am_seti μ k j x) k = upd (am_mi μ k) j x := by
  show (bif Nat.beq k k then _ else _) = _
  rw [am_beq_s]; rfl
theorem am_setl_s {μ : am_M} {k j : Nat} {x : Int64} : am_ml (am_setl μ k j x) k = vp_updL (am_ml μ k) j x := by
  show (bif Nat.beq k k then _ else _) = _
  rw [am_beq_s]; rfl
theorem am_setr_s {μ : am_M} {k j : Nat} {x : Option Nat} : am_mr (am_setr μ k j x) k = va_up (am_mr μ k) j x := by
  show (bif Nat.beq k k then _ else _) = _
  rw [am_beq_s]; rfl
theorem am_seti_o {b : Nat} {cI cZ : ClassId} {μ : am_M} {k j : Nat} {x : Int32} {a : Nat} (h : a ≠ k) : am_ent b cI cZ (am_seti μ k j x) a = am_ent b cI cZ μ a := am_ent_congr (am_seti_mi h) rfl rfl rfl
theorem am_setl_o {b : Nat} {cI cZ : ClassId} {μ : am_M} {k j : Nat} {x : Int64} {a : Nat} (h : a ≠ k) : am_ent b cI cZ (am_setl μ k j x) a = am_ent b cI cZ μ a := am_ent_congr rfl (by show (bif Nat.beq a k then _ else _) = _; rw [am_beq_n h]; rfl) rfl rfl
theorem am_setr_o {b : Nat} {cI cZ : ClassId} {μ : am_M} {k j : Nat} {x : Option Nat} {a : Nat} (h : a ≠ k) : am_ent b cI cZ (am_setr μ k j x) a = am_ent b cI cZ μ a := am_ent_congr rfl rfl (by show (bif Nat.beq a k then _ else _) = _; rw [am_beq_n h]; rfl) rfl
theorem am_pfi_mo (n c j : Nat) : am_Mo (am_pfi n c j) := by
  intro L S μ pc' L' S' μ' h
  unfold am_pfi at h
  split at h
  · obtain ⟨-, h⟩ := am_bif h; cases h; exact ⟨Nat.le_refl _, Nat.le_refl _⟩
  · cases h
theorem am_pfz_mo (n c j : Nat) : am_Mo (am_pfz n c j) := by
  intro L S μ pc' L' S' μ' h
  unfold am_pfz at h
  split at h
  · obtain ⟨-, h⟩ := am_bif h; obtain ⟨-, h⟩ := am_bif h; cases h; exact ⟨Nat.le_refl _, Nat.le_refl _⟩
  · cases h
theorem am_pfl_mo (n c j : Nat) : am_Mo (am_pfl n c j) := by
  intro L S μ pc' L' S' μ' h
  unfold am_pfl at h
  split at h
  · obtain ⟨-, h⟩ := am_bif h; cases h; exact ⟨Nat.le_refl _, Nat.le_refl _⟩
  · cases h
theorem am_pfr_mo (n c j : Nat) : am_Mo (am_pfr n c j) := by
  intro L S μ pc' L' S' μ' h
  unfold am_pfr at h
  split at h
  · obtain ⟨-, h⟩ := am_bif h; cases h; exact ⟨Nat.le_refl _, Nat.le_refl _⟩
  · cases h
theorem am_01 {x : Int32} (h : (x == 0 || x == 1) = true) : narrow .boolean (.int x) = .int x ∧ fits .boolean (.int x) = true := by
  refine ⟨?_, h⟩
  rw [Bool.or_eq_true, beq_iff_eq, beq_iff_eq] at h
  rcases h with rfl | rfl <;> rfl
theorem am_ok_pfi {c j ix N : Nat} {C : String} {T : u_T} {ty : Nat → FieldType} (hd : decode cc pc = .ok (.putfield ix, 3)) (hn : n = pc + 3) (hck : am_CK c C T N ty) (hw : Cond.fieldLink own ix C (T j).2.1 (T j).2.2.1 ∈ am_tbl) (hj : (am_fts c)[j]? = some 0) (hC9 : (T j).1 = C) (hty : ty j = .int) (hf : (T j).2.2.2 = false) : am_OK own cc nL ini pc (am_pfi n c j) := by
  intro p l e R s m args below meth cd D cI cZ b Q L S μ pc' L' S' μ' H locs ls cells slots hC h hB hr1 hr2 k
  unfold am_pfi at h
  split at h
  · next x q S0 =>
    obtain ⟨hi, h⟩ := am_bif h
    cases h
    obtain ⟨hi1, hi2⟩ := am_is_of hi
    obtain ⟨hx, hb, hml, ho, ht, -, hK, -⟩ := hC
    obtain ⟨hl, hz, hP, hS⟩ := hB
    obtain ⟨h1, h2, h3, h4, h5⟩ := hck
    have he := am_ws_at (b := b) (cI := cI) (cZ := cZ) hi2
    rw [am_ent_c hi1] at he
    have hjN : j < N := by rw [← h5]; exact (List.getElem?_eq_some_iff.mp hj).1
    have hjl : j < (am_flds b μ q c).length := (List.getElem?_eq_some_iff.mp (am_flds_at (b := b) (μ := μ) (k := q) hj)).1
    subst hn
    refine am_rput (D := D) (ci := c) (C := C) (T := T) (N := N) (v := .int x) (ty := .int) hx hb ht h2 ty h3 h4 ho hK hP (am_ws_D b cI cZ μ) hS q he h1 j hjN hC9 (ht _ hw) (Or.inl hf) (by rw [h3 j hjN, hty]) rfl rfl hjl hd (fun H1 locs1 z1 hP1 hS1 => k H1 locs1 ls cells slots ⟨hl, z1.trans hz, ?_, hS1⟩ rfl rfl)
    rw [← am_ws_set (μ := μ) (μ' := am_seti μ q j x) (k := q) rfl (am_ent_c (μ := am_seti μ q j x) hi1) (fun a ha => am_seti_o ha)]
    rw [am_flds_set (μ := μ) (v := .int x) hj (by show Value.int (am_mi (am_seti μ q j x) q j) = _; rw [am_seti_s]; simp [upd]) (fun t' i hij => by unfold am_val; rw [am_seti_s]; simp [upd, hij, am_seti])]
    exact hP1
  · cases h
theorem am_ok_pfz {c j ix N : Nat} {C : String} {T : u_T} {ty : Nat → FieldType} (hd : decode cc pc = .ok (.putfield ix, 3)) (hn : n = pc + 3) (hck : am_CK c C T N ty) (hw : Cond.fieldLink own ix C (T j).2.1 (T j).2.2.1 ∈ am_tbl) (hj : (am_fts c)[j]? = some 1) (hC9 : (T j).1 = C) (hty : ty j = .boolean) (hf : (T j).2.2.2 = false) : am_OK own cc nL ini pc (am_pfz n c j) := by
  intro p l e R s m args below meth cd D cI cZ b Q L S μ pc' L' S' μ' H locs ls cells slots hC h hB hr1 hr2 k
  unfold am_pfz at h
  split at h
  · next x q S0 =>
    obtain ⟨hi, h⟩ := am_bif h
    obtain ⟨h01, h⟩ := am_bif h
    cases h
    obtain ⟨hi1, hi2⟩ := am_is_of hi
    obtain ⟨hx, hb, hml, ho, ht, -, hK, -⟩ := hC
    obtain ⟨hl, hz, hP, hS⟩ := hB
    obtain ⟨h1, h2, h3, h4, h5⟩ := hck
    have he := am_ws_at (b := b) (cI := cI) (cZ := cZ) hi2
    rw [am_ent_c hi1] at he
    have hjN : j < N := by rw [← h5]; exact (List.getElem?_eq_some_iff.mp hj).1
    have hjl : j < (am_flds b μ q c).length := (List.getElem?_eq_some_iff.mp (am_flds_at (b := b) (μ := μ) (k := q) hj)).1
    subst hn
    refine am_rput (D := D) (ci := c) (C := C) (T := T) (N := N) (v := .int x) (ty := .boolean) hx hb ht h2 ty h3 h4 ho hK hP (am_ws_D b cI cZ μ) hS q he h1 j hjN hC9 (ht _ hw) (Or.inl hf) (by rw [h3 j hjN, hty]) (am_01 h01).1 (am_01 h01).2 hjl hd (fun H1 locs1 z1 hP1 hS1 => k H1 locs1 ls cells slots ⟨hl, z1.trans hz, ?_, hS1⟩ rfl rfl)
    rw [← am_ws_set (μ := μ) (μ' := am_seti μ q j x) (k := q) rfl (am_ent_c (μ := am_seti μ q j x) hi1) (fun a ha => am_seti_o ha)]
    rw [am_flds_set (μ := μ) (v := .int x) hj (by show Value.int (am_mi (am_seti μ q j x) q j) = _; rw [am_seti_s]; simp [upd]) (fun t' i hij => by unfold am_val; rw [am_seti_s]; simp [upd, hij, am_seti])]
    exact hP1
  · cases h
theorem am_ok_pfl {c j ix N : Nat} {C : String} {T : u_T} {ty : Nat → FieldType} (hd : decode cc pc = .ok (.putfield ix, 3)) (hn : n = pc + 3) (hck : am_CK c C T N ty) (hw : Cond.fieldLink own ix C (T j).2.1 (T j).2.2.1 ∈ am_tbl) (hj : (am_fts c)[j]? = some 2) (hC9 : (T j).1 = C) (hty : ty j = .long) (hf : (T j).2.2.2 = false) : am_OK own cc nL ini pc (am_pfl n c j) := by
  intro p l e R s m args below meth cd D cI cZ b Q L S μ pc' L' S' μ' H locs ls cells slots hC h hB hr1 hr2 k
  unfold am_pfl at h
  split at h
  · next x q S0 =>
    obtain ⟨hi, h⟩ := am_bif h
    cases h
    obtain ⟨hi1, hi2⟩ := am_is_of hi
    obtain ⟨hx, hb, hml, ho, ht, -, hK, -⟩ := hC
    obtain ⟨hl, hz, hP, hS⟩ := hB
    obtain ⟨h1, h2, h3, h4, h5⟩ := hck
    have he := am_ws_at (b := b) (cI := cI) (cZ := cZ) hi2
    rw [am_ent_c hi1] at he
    have hjN : j < N := by rw [← h5]; exact (List.getElem?_eq_some_iff.mp hj).1
    have hjl : j < (am_flds b μ q c).length := (List.getElem?_eq_some_iff.mp (am_flds_at (b := b) (μ := μ) (k := q) hj)).1
    subst hn
    refine am_rput (D := D) (ci := c) (C := C) (T := T) (N := N) (v := .long x) (ty := .long) hx hb ht h2 ty h3 h4 ho hK hP (am_ws_D b cI cZ μ) hS q he h1 j hjN hC9 (ht _ hw) (Or.inl hf) (by rw [h3 j hjN, hty]) rfl rfl hjl hd (fun H1 locs1 z1 hP1 hS1 => k H1 locs1 ls cells slots ⟨hl, z1.trans hz, ?_, hS1⟩ rfl rfl)
    rw [← am_ws_set (μ := μ) (μ' := am_setl μ q j x) (k := q) rfl (am_ent_c (μ := am_setl μ q j x) hi1) (fun a ha => am_setl_o ha)]
    rw [am_flds_set (μ := μ) (v := .long x) hj (by show Value.long (am_ml (am_setl μ q j x) q j) = _; rw [am_setl_s]; simp [vp_updL]) (fun t' i hij => by unfold am_val; rw [am_setl_s]; simp [vp_updL, hij, am_setl])]
    exact hP1
  · cases h
theorem am_ok_pfr {c j ix N : Nat} {C : String} {T : u_T} {ty : Nat → FieldType} (hd : decode cc pc = .ok (.putfield ix, 3)) (hn : n = pc + 3) (hck : am_CK c C T N ty) (hw : Cond.fieldLink own ix C (T j).2.1 (T j).2.2.1 ∈ am_tbl) (hj : (am_fts c)[j]? = some 3) (hC9 : (T j).1 = C) (hty : ∀ x : Nat, narrow (ty j) (.ref x) = .ref x ∧ fits (ty j) (.ref x) = true) (hf : (T j).2.2.2 = true ∧ ini = true ∧ (T j).1 = own) : am_OK own cc nL ini pc (am_pfr n c j) := by
  intro p l e R s m args below meth cd D cI cZ b Q L S μ pc' L' S' μ' H locs ls cells slots hC h hB hr1 hr2 k
  unfold am_pfr at h
  split at h
  · next x q S0 =>
    obtain ⟨hi, h⟩ := am_bif h
    cases h
    obtain ⟨hi1, hi2⟩ := am_is_of hi
    obtain ⟨hx, hb, hml, ho, ht, -, hK, -, hin, -⟩ := hC
    obtain ⟨hl, hz, hP, hS⟩ := hB
    obtain ⟨h1, h2, h3, h4, h5⟩ := hck
    have he := am_ws_at (b := b) (cI := cI) (cZ := cZ) hi2
    rw [am_ent_c hi1] at he
    have hjN : j < N := by rw [← h5]; exact (List.getElem?_eq_some_iff.mp hj).1
    have hjl : j < (am_flds b μ q c).length := (List.getElem?_eq_some_iff.mp (am_flds_at (b := b) (μ := μ) (k := q) hj)).1
    subst hn
    refine am_rput (D := D) (ci := c) (C := C) (T := T) (N := N) (v := .ref (b + x)) (ty := ty j) hx hb ht h2 ty h3 h4 ho hK hP (am_ws_D b cI cZ μ) hS q he h1 j hjN hC9 (ht _ hw) (Or.inr ⟨hf.1, hin hf.2.1, hf.2.2⟩) (h3 j hjN) (hty _).1 (hty _).2 hjl hd (fun H1 locs1 z1 hP1 hS1 => k H1 locs1 ls cells slots ⟨hl, z1.trans hz, ?_, hS1⟩ rfl rfl)
    rw [← am_ws_set (μ := μ) (μ' := am_setr μ q j (some x)) (k := q) rfl (am_ent_c (μ := am_setr μ q j (some x)) hi1) (fun a ha => am_setr_o ha)]
    rw [am_flds_set (μ := μ) (v := .ref (b + x)) hj (by show am_v b (va_rf (am_mr (am_setr μ q j (some x)) q j)) = _; rw [am_setr_s]; simp [va_up, va_rf, am_v]) (fun t' i hij => by unfold am_val; rw [am_setr_s]; simp [va_up, hij, am_setr])]
    exact hP1
  · cases h
/-! arrays -/
def am_inb (i : Int32) (n : Nat) : Bool := !(decide (i < 0)) && Nat.blt i.toNatClampNeg n
theorem am_inb_of {i : Int32} {n : Nat} (h : am_inb i n = true) : vp_in i n := by
  unfold am_inb at h
  rw [Bool.and_eq_true] at h
  obtain ⟨h1, h2⟩ := h
  have h1' : ¬ i < 0 := by simpa using h1
  have h2' := am_blt h2
  rintro (h | h)
  · exact h1' h
  · omega
def am_ial (n z : Nat) : am_Op := fun L S μ => match S with
  | .int i :: .ref k :: S => bif am_is μ k z && am_inb i (am_kd μ k).2 then some (n, L, .int (am_mi μ k i.toNatClampNeg) :: S, μ) else none
  | _ => none
def am_ias (n : Nat) : am_Op := fun L S μ => match S with
  | .int x :: .int i :: .ref k :: S => bif am_is μ k 0 && am_inb i (am_kd μ k).2 then some (n, L, S, am_seti μ k i.toNatClampNeg x) else none
  | _ => none
def am_zas (n : Nat) : am_Op := fun L S μ => match S with
  | .int x :: .int i :: .ref k :: S => bif am_is μ k 1 && am_inb i (am_kd μ k).2 then (bif x == 0 || x == 1 then some (n, L, S, am_seti μ k i.toNatClampNeg x) else none) else none
  | _ => none
def am_aln (n : Nat) : am_Op := fun L S μ => match S with
  | .ref k :: S => bif am_is μ k 0 then some (n, L, .int (Int32.ofNat (am_kd μ k).2) :: S, μ) else none
  | _ => none
theorem am_ial_mo (n z : Nat) : am_Mo (am_ial n z) := by
  intro L S μ pc' L' S' μ' h
  unfold am_ial at h
  split at h
  · obtain ⟨-, h⟩ := am_bif h; cases h; exact ⟨Nat.le_refl _, Nat.le_refl _⟩
  · cases h
theorem am_ias_mo (n : Nat) : am_Mo (am_ias n) := by
  intro L S μ pc' L' S' μ' h
  unfold am_ias at h
  split at h
  · obtain ⟨-, h⟩ := am_bif h; cases h; exact ⟨Nat.le_refl _, Nat.le_refl _⟩
  · cases h
theorem am_zas_mo (n : Nat) : am_Mo (am_zas n) := by
  intro L S μ pc' L' S' μ' h
  unfold am_zas at h
  split at h
  · obtain ⟨-, h⟩ := am_bif h; obtain ⟨-, h⟩ := am_bif h; cases h; exact ⟨Nat.le_refl _, Nat.le_refl _⟩
  · cases h
theorem am_aln_mo (n : Nat) : am_Mo (am_aln n) := by
  intro L S μ pc' L' S' μ' h
  unfold am_aln at h
  split at h
  · obtain ⟨-, h⟩ := am_bif h; cases h; exact ⟨Nat.le_refl _, Nat.le_refl _⟩
  · cases h
theorem am_ok_ial (hd : decode cc pc = .ok (.iaload, 1)) (hn : n = pc + 1) : am_OK own cc nL ini pc (am_ial n 0) := by
  intro p l e R s m args below meth cd D cI cZ b Q L S μ pc' L' S' μ' H locs ls cells slots hC h hB hr1 hr2 k
  unfold am_ial at h
  split at h
  · next i q S0 =>
    obtain ⟨hi, h⟩ := am_bif h
    rw [Bool.and_eq_true] at hi
    cases h
    obtain ⟨hi1, hi2⟩ := am_is_of hi.1
    obtain ⟨hx, hb, hml, ho, ht, -, hK, -⟩ := hC
    obtain ⟨hl, hz, hP, hS⟩ := hB
    have he := am_ws_at (b := b) (cI := cI) (cZ := cZ) hi2
    rw [am_ent_i hi1] at he
    subst hn
    exact va_iald hx hb hK hP q 0 he rfl (am_inb_of hi.2) hd (k H locs ls cells slots ⟨hl, hz, hP, hS⟩ rfl rfl)
  · cases h
theorem am_ok_zal (hd : decode cc pc = .ok (.baload, 1)) (hn : n = pc + 1) : am_OK own cc nL ini pc (am_ial n 1) := by
  intro p l e R s m args below meth cd D cI cZ b Q L S μ pc' L' S' μ' H locs ls cells slots hC h hB hr1 hr2 k
  unfold am_ial at h
  split at h
  · next i q S0 =>
    obtain ⟨hi, h⟩ := am_bif h
    rw [Bool.and_eq_true] at hi
    cases h
    obtain ⟨hi1, hi2⟩ := am_is_of hi.1
    obtain ⟨hx, hb, hml, ho, ht, -, hK, -⟩ := hC
    obtain ⟨hl, hz, hP, hS⟩ := hB
    have he := am_ws_at (b := b) (cI := cI) (cZ := cZ) hi2
    rw [am_ent_z hi1] at he
    subst hn
    exact va_zald hx hb hK hP q 1 he rfl (am_inb_of hi.2) hd (k H locs ls cells slots ⟨hl, hz, hP, hS⟩ rfl rfl)
  · cases h
theorem am_ok_aln (hd : decode cc pc = .ok (.arraylength, 1)) (hn : n = pc + 1) : am_OK own cc nL ini pc (am_aln n) := by
  intro p l e R s m args below meth cd D cI cZ b Q L S μ pc' L' S' μ' H locs ls cells slots hC h hB hr1 hr2 k
  unfold am_aln at h
  split at h
  · next q S0 =>
    obtain ⟨hi, h⟩ := am_bif h
    cases h
    obtain ⟨hi1, hi2⟩ := am_is_of hi
    obtain ⟨hx, hb, hml, ho, ht, -, hK, -⟩ := hC
    obtain ⟨hl, hz, hP, hS⟩ := hB
    have he := am_ws_at (b := b) (cI := cI) (cZ := cZ) hi2
    rw [am_ent_i hi1] at he
    subst hn
    exact va_alen hx hb hK hP q 0 he rfl rfl hd (k H locs ls cells slots ⟨hl, hz, hP, hS⟩ rfl rfl)
  · cases h
theorem am_ok_ias (hd : decode cc pc = .ok (.iastore, 1)) (hn : n = pc + 1) : am_OK own cc nL ini pc (am_ias n) := by
  intro p l e R s m args below meth cd D cI cZ b Q L S μ pc' L' S' μ' H locs ls cells slots hC h hB hr1 hr2 k
  unfold am_ias at h
  split at h
  · next x i q S0 =>
    obtain ⟨hi, h⟩ := am_bif h
    rw [Bool.and_eq_true] at hi
    cases h
    obtain ⟨hi1, hi2⟩ := am_is_of hi.1
    obtain ⟨hx, hb, hml, ho, ht, -, hK, -⟩ := hC
    obtain ⟨hl, hz, hP, hS⟩ := hB
    have he := am_ws_at (b := b) (cI := cI) (cZ := cZ) hi2
    rw [am_ent_i hi1] at he
    subst hn
    refine am_riast hx hb hK hP (am_ws_D b cI cZ μ) hS q 0 he rfl (am_inb_of hi.2) hd (fun H1 locs1 z1 hP1 hS1 => k H1 locs1 ls cells slots ⟨hl, z1.trans hz, ?_, hS1⟩ rfl rfl)
    rw [← am_ws_set (μ := μ) (μ' := am_seti μ q i.toNatClampNeg x) (k := q) rfl (am_ent_i (μ := am_seti μ q i.toNatClampNeg x) hi1) (fun a ha => am_seti_o ha), am_seti_s]
    exact hP1
  · cases h
theorem am_ok_zas (hd : decode cc pc = .ok (.bastore, 1)) (hn : n = pc + 1) : am_OK own cc nL ini pc (am_zas n) := by
  intro p l e R s m args below meth cd D cI cZ b Q L S μ pc' L' S' μ' H locs ls cells slots hC h hB hr1 hr2 k
  unfold am_zas at h
  split at h
  · next x i q S0 =>
    obtain ⟨hi, h⟩ := am_bif h
    obtain ⟨h01, h⟩ := am_bif h
    rw [Bool.and_eq_true] at hi
    cases h
    obtain ⟨hi1, hi2⟩ := am_is_of hi.1
    obtain ⟨hx, hb, hml, ho, ht, -, hK, -⟩ := hC
    obtain ⟨hl, hz, hP, hS⟩ := hB
    have he := am_ws_at (b := b) (cI := cI) (cZ := cZ) hi2
    rw [am_ent_z hi1] at he
    subst hn
    refine am_rzast hx hb hK hP (am_ws_D b cI cZ μ) hS q 1 he rfl (am_01 h01).1 (am_inb_of hi.2) hd (fun H1 locs1 z1 hP1 hS1 => k H1 locs1 ls cells slots ⟨hl, z1.trans hz, ?_, hS1⟩ rfl rfl)
    rw [← am_ws_set (μ := μ) (μ' := am_seti μ q i.toNatClampNeg x) (k := q) rfl (am_ent_z (μ := am_seti μ q i.toNatClampNeg x) hi1) (fun a ha => am_seti_o ha), am_seti_s]
    exact hP1
  · cases h
end
