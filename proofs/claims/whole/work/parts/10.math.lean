/-! Math.max, Math.min as operations -/
def am_mx (n : Nat) : am_Op := fun L S μ => match S with
  | .int y :: .int x :: S => bif Nat.ble (S.map (fun v => v.category)).sum 8 then some (n, L, .int (if x < y then y else x) :: S, μ) else none
  | _ => none
def am_mn (n : Nat) : am_Op := fun L S μ => match S with
  | .int y :: .int x :: S => bif Nat.ble (S.map (fun v => v.category)).sum 8 then some (n, L, .int (if y < x then y else x) :: S, μ) else none
  | _ => none
def am_mnl (n : Nat) : am_Op := fun L S μ => match S with
  | .long y :: .long x :: S => bif Nat.ble (S.map (fun v => v.category)).sum 8 then some (n, L, .long (if y < x then y else x) :: S, μ) else none
  | _ => none
section
variable {own : String} {cc : ByteArray} {nL pc n : Nat} {ini : Bool}
theorem am_mx_mo (n : Nat) : am_Mo (am_mx n) := by
  intro L S μ pc' L' S' μ' h
  unfold am_mx at h
  split at h
  · obtain ⟨-, h⟩ := am_bif h; cases h; exact ⟨Nat.le_refl _, Nat.le_refl _⟩
  · cases h
theorem am_mn_mo (n : Nat) : am_Mo (am_mn n) := by
  intro L S μ pc' L' S' μ' h
  unfold am_mn at h
  split at h
  · obtain ⟨-, h⟩ := am_bif h; cases h; exact ⟨Nat.le_refl _, Nat.le_refl _⟩
  · cases h
theorem am_mnl_mo (n : Nat) : am_Mo (am_mnl n) := by
  intro L S μ pc' L' S' μ' h
  unfold am_mnl at h
  split at h
  · obtain ⟨-, h⟩ := am_bif h; cases h; exact ⟨Nat.le_refl _, Nat.le_refl _⟩
  · cases h
theorem am_cats (b : Nat) (l : List Value) : ((l.map (am_v b)).map fun v => v.category) = l.map fun v => v.category := by
  rw [List.map_map]
  apply List.map_congr_left
  intro v _
  exact am_v_cat b v
theorem am_ok_mx {ix : Nat} (hd : decode cc pc = .ok (.invokestatic ix, 3)) (hn : n = pc + 3) (hw1 : Cond.methodLink own ix Lib.Math.max.name ∈ am_tbl) (hw2 : Cond.static Lib.Math.max.name ∈ am_tbl) (hw3 : Cond.initialized "java/lang/Math" ∈ am_tbl) (hw4 : Cond.code Lib.Math.max.name Lib.Math.max.code 2 (some .int) ∈ am_tbl) : am_OK own cc nL ini pc (am_mx n) := by
  intro p l e R s m args below meth cd D cI cZ b Q L S μ pc' L' S' μ' H locs ls cells slots hC h hB hr1 hr2 k
  unfold am_mx at h
  split at h
  · next y x S0 =>
    obtain ⟨hi, h⟩ := am_bif h
    cases h
    have hi8 := Nat.le_of_ble_eq_true hi
    obtain ⟨hx, hb, hml, ho, ht, -, hK, -, -, hf9, hl9⟩ := hC
    obtain ⟨hl, hz, hP, hS⟩ := hB
    subst hn
    exact va_mmax hx hb (by rw [hml]; exact hl.1.symm) ho (ht _ hw1) (ht _ hw2) (ht _ hw3) (ht _ hw4) hf9 (by rw [am_cats]; omega) (by omega) (by omega) hd (k H locs ls cells slots ⟨hl, hz, hP, hS⟩ rfl rfl)
  · cases h
theorem am_ok_mn {ix : Nat} (hd : decode cc pc = .ok (.invokestatic ix, 3)) (hn : n = pc + 3) (hw1 : Cond.methodLink own ix Lib.Math.min.name ∈ am_tbl) (hw2 : Cond.static Lib.Math.min.name ∈ am_tbl) (hw3 : Cond.initialized "java/lang/Math" ∈ am_tbl) (hw4 : Cond.code Lib.Math.min.name Lib.Math.min.code 2 (some .int) ∈ am_tbl) : am_OK own cc nL ini pc (am_mn n) := by
  intro p l e R s m args below meth cd D cI cZ b Q L S μ pc' L' S' μ' H locs ls cells slots hC h hB hr1 hr2 k
  unfold am_mn at h
  split at h
  · next y x S0 =>
    obtain ⟨hi, h⟩ := am_bif h
    cases h
    have hi8 := Nat.le_of_ble_eq_true hi
    obtain ⟨hx, hb, hml, ho, ht, -, hK, -, -, hf9, hl9⟩ := hC
    obtain ⟨hl, hz, hP, hS⟩ := hB
    subst hn
    exact va_mmin hx hb (by rw [hml]; exact hl.1.symm) ho (ht _ hw1) (ht _ hw2) (ht _ hw3) (ht _ hw4) hf9 (by rw [am_cats]; omega) (by omega) (by omega) hd (k H locs ls cells slots ⟨hl, hz, hP, hS⟩ rfl rfl)
  · cases h
theorem am_ok_mnl {ix : Nat} (hd : decode cc pc = .ok (.invokestatic ix, 3)) (hn : n = pc + 3) (hw1 : Cond.methodLink own ix Lib.MathLoose.min_long.x ∈ am_tbl) (hw2 : Cond.static Lib.MathLoose.min_long.x ∈ am_tbl) (hw3 : Cond.initialized "java/lang/Math" ∈ am_tbl) (hw4 : Cond.code Lib.MathLoose.min_long.x Lib.MathLoose.min_long.code 4 (some .long) ∈ am_tbl) : am_OK own cc nL ini pc (am_mnl n) := by
  intro p l e R s m args below meth cd D cI cZ b Q L S μ pc' L' S' μ' H locs ls cells slots hC h hB hr1 hr2 k
  unfold am_mnl at h
  split at h
  · next y x S0 =>
    obtain ⟨hi, h⟩ := am_bif h
    cases h
    have hi8 := Nat.le_of_ble_eq_true hi
    obtain ⟨hx, hb, hml, ho, ht, -, hK, -, -, hf9, hl9⟩ := hC
    obtain ⟨hl, hz, hP, hS⟩ := hB
    subst hn
    exact va_mmin_long hx hb (by rw [hml]; exact hl.1.symm) ho (ht _ hw1) (ht _ hw2) (ht _ hw3) (ht _ hw4) hf9 (by rw [am_cats]; omega) (by omega) (by omega) hd (k H locs ls cells slots ⟨hl, hz, hP, hS⟩ rfl rfl)
  · cases h
end
