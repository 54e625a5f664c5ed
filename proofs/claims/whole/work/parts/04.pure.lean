/-! OPERATIONS that leave the memory: (next place, locals, stack) -/
abbrev am_P : Type := List Value → List Value → Option (Nat × List Value × List Value)
def am_OKp (own : String) (cc : ByteArray) (nL pc : Nat) (g : am_P) : Prop :=
  ∀ (p : Program) (l : Launch) (e : Env) (R : Room) (s : State) (m : MethodId) (args : Array Value) (below : List Frame) (meth : Method) (c : Code) (H : Heap) (locs : List Loc) (cells slots : Nat) (Q : State → Prop) (ls : Array Slot) (b : Nat) (L S : List Value) (pc' : Nat) (L' S' : List Value),
    p.tables.exec = Jvm.exec → c.code = cc → s.vm.findClass own = some m.cls → (∀ w ∈ am_tbl, w.before args s = true) → g L S = some (pc', L', S') → lv_has ls nL (am_vl b 0 L) →
    (∀ ls' : Array Slot, lv_has ls' nL (am_vl b 0 L') → W p l e R s m args below meth c H locs cells slots Q (F0 m pc' ls' (S'.map (am_v b)))) → W p l e R s m args below meth c H locs cells slots Q (F0 m pc ls (S.map (am_v b)))
section
variable {own : String} {cc : ByteArray} {nL pc n : Nat}
def am_ci (n : Nat) (v : Int32) : am_P := fun L S => some (n, L, .int v :: S)
def am_cl (n : Nat) (v : Int64) : am_P := fun L S => some (n, L, .long v :: S)
def am_ldi (n i : Nat) : am_P := fun L S => match L[i]? with
  | some (.int x) => some (n, L, .int x :: S)
  | _ => none
def am_ldl (n i : Nat) : am_P := fun L S => match L[i]? with
  | some (.long x) => some (n, L, .long x :: S)
  | _ => none
def am_lda (n i : Nat) : am_P := fun L S => match L[i]? with
  | some (.ref x) => some (n, L, .ref x :: S)
  | _ => none
def am_sti (n i : Nat) : am_P := fun L S => match S with
  | .int x :: S => some (n, am_st1 i (.int x) L, S)
  | _ => none
def am_sta (n i : Nat) : am_P := fun L S => match S with
  | .ref x :: S => some (n, am_st1 i (.ref x) L, S)
  | _ => none
def am_stl (n i : Nat) : am_P := fun L S => match S with
  | .long x :: S => some (n, am_st2 i (.long x) L, S)
  | _ => none
def am_inc (n i : Nat) (k : Int32) : am_P := fun L S => match L[i]? with
  | some (.int x) => some (n, am_st1 i (.int (x + k)) L, S)
  | _ => none
def am_bi (n : Nat) (f : Int32 → Int32 → Int32) : am_P := fun L S => match S with
  | .int y :: .int x :: S => some (n, L, .int (f x y) :: S)
  | _ => none
def am_dv (n : Nat) (f : Int32 → Int32 → Int32) : am_P := fun L S => match S with
  | .int y :: .int x :: S => if y = 0 then none else some (n, L, .int (f x y) :: S)
  | _ => none
def am_bl (n : Nat) (f : Int64 → Int64 → Int64) : am_P := fun L S => match S with
  | .long y :: .long x :: S => some (n, L, .long (f x y) :: S)
  | _ => none
def am_sl (n : Nat) (f : Int64 → Int32 → Int64) : am_P := fun L S => match S with
  | .int y :: .long x :: S => some (n, L, .long (f x y) :: S)
  | _ => none
def am_lcmp (n : Nat) : am_P := fun L S => match S with
  | .long y :: .long x :: S => some (n, L, .int (lg_cmp x y) :: S)
  | _ => none
def am_neg (n : Nat) : am_P := fun L S => match S with
  | .int x :: S => some (n, L, .int (-x) :: S)
  | _ => none
def am_i2l (n : Nat) : am_P := fun L S => match S with
  | .int x :: S => some (n, L, .long x.toInt64 :: S)
  | _ => none
def am_l2i (n : Nat) : am_P := fun L S => match S with
  | .long x :: S => some (n, L, .int x.toInt32 :: S)
  | _ => none
def am_dup (n : Nat) : am_P := fun L S => match S with
  | v :: S => bif Nat.beq v.category 1 then some (n, L, v :: v :: S) else none
  | _ => none
def am_dup2 (n : Nat) : am_P := fun L S => match S with
  | v :: w :: S => bif Nat.beq v.category 1 && Nat.beq w.category 1 then some (n, L, v :: w :: v :: w :: S) else none
  | _ => none
def am_go (n : Nat) : am_P := fun L S => some (n, L, S)
def am_if_eq (n t : Nat) : am_P := fun L S => match S with
  | .int x :: S => some (if x = 0 then t else n, L, S)
  | _ => none
def am_ic_eq (n t : Nat) : am_P := fun L S => match S with
  | .int y :: .int x :: S => some (if x = y then t else n, L, S)
  | _ => none
def am_if_ne (n t : Nat) : am_P := fun L S => match S with
  | .int x :: S => some (if x = 0 then n else t, L, S)
  | _ => none
def am_ic_ne (n t : Nat) : am_P := fun L S => match S with
  | .int y :: .int x :: S => some (if x = y then n else t, L, S)
  | _ => none
def am_if_lt (n t : Nat) : am_P := fun L S => match S with
  | .int x :: S => some (if x < 0 then t else n, L, S)
  | _ => none
def am_ic_lt (n t : Nat) : am_P := fun L S => match S with
  | .int y :: .int x :: S => some (if x < y then t else n, L, S)
  | _ => none
def am_if_ge (n t : Nat) : am_P := fun L S => match S with
  | .int x :: S => some (if 0 ≤ x then t else n, L, S)
  | _ => none
def am_ic_ge (n t : Nat) : am_P := fun L S => match S with
  | .int y :: .int x :: S => some (if y ≤ x then t else n, L, S)
  | _ => none
def am_if_gt (n t : Nat) : am_P := fun L S => match S with
  | .int x :: S => some (if 0 < x then t else n, L, S)
  | _ => none
def am_ic_gt (n t : Nat) : am_P := fun L S => match S with
  | .int y :: .int x :: S => some (if y < x then t else n, L, S)
  | _ => none
def am_if_le (n t : Nat) : am_P := fun L S => match S with
  | .int x :: S => some (if x ≤ 0 then t else n, L, S)
  | _ => none
def am_ic_le (n t : Nat) : am_P := fun L S => match S with
  | .int y :: .int x :: S => some (if x ≤ y then t else n, L, S)
  | _ => none
def am_tgt (lo : Int) (tg : List Nat) (df : Nat) (x : Int32) : Nat := if x.toInt < lo then df else tg.getD (x.toInt - lo).toNat df
def am_tsw (lo : Int) (tg : List Nat) (df : Nat) : am_P := fun L S => match S with
  | .int x :: S => some (am_tgt lo tg df x, L, S)
  | _ => none
def am_ltg (tg : List (Int32 × Nat)) (df : Nat) (x : Int32) : Nat := match tg with
  | [] => df
  | q :: r => if x = q.1 then q.2 else am_ltg r df x
def am_lsw (tg : List (Int32 × Nat)) (df : Nat) : am_P := fun L S => match S with
  | .int x :: S => some (am_ltg tg df x, L, S)
  | _ => none
theorem am_ok_iconst {z : Int} {v : Int32} (hd : decode cc pc = .ok (.iconst z, 1)) (hv : Int32.ofInt z = v) (hn : n = pc + 1) : am_OKp own cc nL pc (am_ci n v) := by
  intro p l e R s m args below meth c H locs cells slots Q ls b L S pc' L' S' hx hb ho ht h hl k
  subst hn; cases h
  exact lv_iconst hx hb hd hv (k _ hl)
theorem am_ok_bipush {z : Int} {v : Int32} (hd : decode cc pc = .ok (.bipush z, 2)) (hv : (Int8.ofInt z).toInt32 = v) (hn : n = pc + 2) : am_OKp own cc nL pc (am_ci n v) := by
  intro p l e R s m args below meth c H locs cells slots Q ls b L S pc' L' S' hx hb ho ht h hl k
  subst hn; cases h
  exact lv_bipush hx hb hd hv (k _ hl)
theorem am_ok_sipush {z : Int} {v : Int32} (hd : decode cc pc = .ok (.sipush z, 3)) (hv : (Int16.ofInt z).toInt32 = v) (hn : n = pc + 3) : am_OKp own cc nL pc (am_ci n v) := by
  intro p l e R s m args below meth c H locs cells slots Q ls b L S pc' L' S' hx hb ho ht h hl k
  subst hn; cases h
  exact lv_sipush hx hb hd hv (k _ hl)
theorem am_ok_ldc {ix : Nat} {v : Int32} (hd : decode cc pc = .ok (.ldc ix, 2)) (hw : Cond.constant own ix v ∈ am_tbl) (hn : n = pc + 2) : am_OKp own cc nL pc (am_ci n v) := by
  intro p l e R s m args below meth c H locs cells slots Q ls b L S pc' L' S' hx hb ho ht h hl k
  subst hn; cases h
  exact lv_ldc hx hb ho (ht _ hw) hd (k _ hl)
theorem am_ok_ldcw {ix : Nat} {v : Int32} (hd : decode cc pc = .ok (.ldc_w ix, 3)) (hw : Cond.constant own ix v ∈ am_tbl) (hn : n = pc + 3) : am_OKp own cc nL pc (am_ci n v) := by
  intro p l e R s m args below meth c H locs cells slots Q ls b L S pc' L' S' hx hb ho ht h hl k
  subst hn; cases h
  exact lv_ldcw hx hb ho (ht _ hw) hd (k _ hl)
theorem am_ok_lconst {z : Fin 2} {v : Int64} (hd : decode cc pc = .ok (.lconst z, 1)) (hv : Int64.ofNat (z : Nat) = v) (hn : n = pc + 1) : am_OKp own cc nL pc (am_cl n v) := by
  intro p l e R s m args below meth c H locs cells slots Q ls b L S pc' L' S' hx hb ho ht h hl k
  subst hn; cases h
  exact lv_lconst hx hb hd hv (k _ hl)
theorem am_ok_ldc2 {ix : Nat} {v : Int64} (hd : decode cc pc = .ok (.ldc2_w ix, 3)) (hw : Cond.constantLong own ix v ∈ am_tbl) (hn : n = pc + 3) : am_OKp own cc nL pc (am_cl n v) := by
  intro p l e R s m args below meth c H locs cells slots Q ls b L S pc' L' S' hx hb ho ht h hl k
  subst hn; cases h
  exact lv_ldc2 hx hb ho (ht _ hw) hd (k _ hl)
theorem am_ok_ild {i : Nat} (hd : decode cc pc = .ok (.iload i, 2)) (hn : n = pc + 2) : am_OKp own cc nL pc (am_ldi n i) := by
  intro p l e R s m args below meth c H locs cells slots Q ls b L S pc' L' S' hx hb ho ht h hl k
  unfold am_ldi at h
  split at h
  · next x hi => subst hn; cases h; exact lv_iload hx hb hd (am_get hl hi rfl) (k _ hl)
  · cases h
theorem am_ok_ildn {i : Nat} {j : Fin 4} (hd : decode cc pc = .ok (.iload_n j, 1)) (hj : (j : Nat) = i) (hn : n = pc + 1) : am_OKp own cc nL pc (am_ldi n i) := by
  intro p l e R s m args below meth c H locs cells slots Q ls b L S pc' L' S' hx hb ho ht h hl k
  unfold am_ldi at h
  split at h
  · next x hi => subst hn; cases h; exact lv_iload_n hx hb hd hj (am_get hl hi rfl) (k _ hl)
  · cases h
theorem am_ok_lld {i : Nat} (hd : decode cc pc = .ok (.lload i, 2)) (hn : n = pc + 2) : am_OKp own cc nL pc (am_ldl n i) := by
  intro p l e R s m args below meth c H locs cells slots Q ls b L S pc' L' S' hx hb ho ht h hl k
  unfold am_ldl at h
  split at h
  · next x hi => subst hn; cases h; exact lv_lload hx hb hd (am_get hl hi rfl) (k _ hl)
  · cases h
theorem am_ok_lldn {i : Nat} {j : Fin 4} (hd : decode cc pc = .ok (.lload_n j, 1)) (hj : (j : Nat) = i) (hn : n = pc + 1) : am_OKp own cc nL pc (am_ldl n i) := by
  intro p l e R s m args below meth c H locs cells slots Q ls b L S pc' L' S' hx hb ho ht h hl k
  unfold am_ldl at h
  split at h
  · next x hi => subst hn; cases h; exact lv_lload_n hx hb hd hj (am_get hl hi rfl) (k _ hl)
  · cases h
theorem am_ok_ald {i : Nat} (hd : decode cc pc = .ok (.aload i, 2)) (hn : n = pc + 2) : am_OKp own cc nL pc (am_lda n i) := by
  intro p l e R s m args below meth c H locs cells slots Q ls b L S pc' L' S' hx hb ho ht h hl k
  unfold am_lda at h
  split at h
  · next x hi => subst hn; cases h; exact lv_aload hx hb hd (am_get hl hi rfl) (k _ hl)
  · cases h
theorem am_ok_aldn {i : Nat} {j : Fin 4} (hd : decode cc pc = .ok (.aload_n j, 1)) (hj : (j : Nat) = i) (hn : n = pc + 1) : am_OKp own cc nL pc (am_lda n i) := by
  intro p l e R s m args below meth c H locs cells slots Q ls b L S pc' L' S' hx hb ho ht h hl k
  unfold am_lda at h
  split at h
  · next x hi => subst hn; cases h; exact lv_aload_n hx hb hd hj (am_get hl hi rfl) (k _ hl)
  · cases h
theorem am_ok_ist {i : Nat} (hd : decode cc pc = .ok (.istore i, 2)) (hb9 : i < nL) (hn : n = pc + 2) : am_OKp own cc nL pc (am_sti n i) := by
  intro p l e R s m args below meth c H locs cells slots Q ls b L S pc' L' S' hx hb ho ht h hl k
  unfold am_sti at h
  split at h
  · subst hn; cases h; exact lv_istore hx hb hd hl hb9 rfl (fun ls2 h2 => k _ (am_st1_ok h2))
  · cases h
theorem am_ok_istn {i : Nat} {j : Fin 4} (hd : decode cc pc = .ok (.istore_n j, 1)) (hj : (j : Nat) = i) (hb9 : i < nL) (hn : n = pc + 1) : am_OKp own cc nL pc (am_sti n i) := by
  intro p l e R s m args below meth c H locs cells slots Q ls b L S pc' L' S' hx hb ho ht h hl k
  unfold am_sti at h
  split at h
  · subst hn; cases h; exact lv_istore_n hx hb hd hj hl hb9 rfl (fun ls2 h2 => k _ (am_st1_ok h2))
  · cases h
theorem am_ok_lst {i : Nat} (hd : decode cc pc = .ok (.lstore i, 2)) (hb9 : i + 1 < nL) (hn : n = pc + 2) : am_OKp own cc nL pc (am_stl n i) := by
  intro p l e R s m args below meth c H locs cells slots Q ls b L S pc' L' S' hx hb ho ht h hl k
  unfold am_stl at h
  split at h
  · subst hn; cases h; exact lv_lstore hx hb hd hl hb9 rfl (fun ls2 h2 => k _ (am_st2_ok h2))
  · cases h
theorem am_ok_lstn {i : Nat} {j : Fin 4} (hd : decode cc pc = .ok (.lstore_n j, 1)) (hj : (j : Nat) = i) (hb9 : i + 1 < nL) (hn : n = pc + 1) : am_OKp own cc nL pc (am_stl n i) := by
  intro p l e R s m args below meth c H locs cells slots Q ls b L S pc' L' S' hx hb ho ht h hl k
  unfold am_stl at h
  split at h
  · subst hn; cases h; exact lv_lstore_n hx hb hd hj hl hb9 rfl (fun ls2 h2 => k _ (am_st2_ok h2))
  · cases h
theorem am_ok_ast {i : Nat} (hd : decode cc pc = .ok (.astore i, 2)) (hb9 : i < nL) (hn : n = pc + 2) : am_OKp own cc nL pc (am_sta n i) := by
  intro p l e R s m args below meth c H locs cells slots Q ls b L S pc' L' S' hx hb ho ht h hl k
  unfold am_sta at h
  split at h
  · subst hn; cases h; exact lv_astore hx hb hd hl hb9 rfl (fun ls2 h2 => k _ (am_st1_ok h2))
  · cases h
theorem am_ok_astn {i : Nat} {j : Fin 4} (hd : decode cc pc = .ok (.astore_n j, 1)) (hj : (j : Nat) = i) (hb9 : i < nL) (hn : n = pc + 1) : am_OKp own cc nL pc (am_sta n i) := by
  intro p l e R s m args below meth c H locs cells slots Q ls b L S pc' L' S' hx hb ho ht h hl k
  unfold am_sta at h
  split at h
  · subst hn; cases h; exact lv_astore_n hx hb hd hj hl hb9 rfl (fun ls2 h2 => k _ (am_st1_ok h2))
  · cases h
theorem am_ok_iinc {i : Nat} {z : Int} {v : Int32} (hd : decode cc pc = .ok (.iinc i z, 3)) (hv : Int32.ofInt z = v) (hb9 : i < nL) (hn : n = pc + 3) : am_OKp own cc nL pc (am_inc n i v) := by
  intro p l e R s m args below meth c H locs cells slots Q ls b L S pc' L' S' hx hb ho ht h hl k
  unfold am_inc at h
  split at h
  · next x hi => subst hn; subst hv; cases h; obtain ⟨q, hq⟩ := List.getElem?_of_mem ((am_vl_mem b L 0 _).mpr ⟨i, .int x, hi, rfl, rfl⟩); rw [Nat.zero_add] at hq; exact lv_iinc hx hb hd hl hq rfl hb9 rfl (fun ls2 h2 => k _ (am_st1_ok h2))
  · cases h
theorem am_ok_iadd (hd : decode cc pc = .ok (.iadd, 1)) (hn : n = pc + 1) : am_OKp own cc nL pc (am_bi n (· + ·)) := by
  intro p l e R s m args below meth c H locs cells slots Q ls b L S pc' L' S' hx hb ho ht h hl k
  unfold am_bi at h
  split at h
  · subst hn; cases h; exact lv_iadd hx hb hd (k _ hl)
  · cases h
theorem am_ok_isub (hd : decode cc pc = .ok (.isub, 1)) (hn : n = pc + 1) : am_OKp own cc nL pc (am_bi n (· - ·)) := by
  intro p l e R s m args below meth c H locs cells slots Q ls b L S pc' L' S' hx hb ho ht h hl k
  unfold am_bi at h
  split at h
  · subst hn; cases h; exact lv_isub hx hb hd (k _ hl)
  · cases h
theorem am_ok_imul (hd : decode cc pc = .ok (.imul, 1)) (hn : n = pc + 1) : am_OKp own cc nL pc (am_bi n (· * ·)) := by
  intro p l e R s m args below meth c H locs cells slots Q ls b L S pc' L' S' hx hb ho ht h hl k
  unfold am_bi at h
  split at h
  · subst hn; cases h; exact lv_imul hx hb hd (k _ hl)
  · cases h
theorem am_ok_iand (hd : decode cc pc = .ok (.iand, 1)) (hn : n = pc + 1) : am_OKp own cc nL pc (am_bi n (· &&& ·)) := by
  intro p l e R s m args below meth c H locs cells slots Q ls b L S pc' L' S' hx hb ho ht h hl k
  unfold am_bi at h
  split at h
  · subst hn; cases h; exact lv_iand hx hb hd (k _ hl)
  · cases h
theorem am_ok_ior (hd : decode cc pc = .ok (.ior, 1)) (hn : n = pc + 1) : am_OKp own cc nL pc (am_bi n (· ||| ·)) := by
  intro p l e R s m args below meth c H locs cells slots Q ls b L S pc' L' S' hx hb ho ht h hl k
  unfold am_bi at h
  split at h
  · subst hn; cases h; exact lv_ior hx hb hd (k _ hl)
  · cases h
theorem am_ok_ixor (hd : decode cc pc = .ok (.ixor, 1)) (hn : n = pc + 1) : am_OKp own cc nL pc (am_bi n (· ^^^ ·)) := by
  intro p l e R s m args below meth c H locs cells slots Q ls b L S pc' L' S' hx hb ho ht h hl k
  unfold am_bi at h
  split at h
  · subst hn; cases h; exact lv_ixor hx hb hd (k _ hl)
  · cases h
theorem am_ok_ishl (hd : decode cc pc = .ok (.ishl, 1)) (hn : n = pc + 1) : am_OKp own cc nL pc (am_bi n (fun x y => x <<< (y &&& 31))) := by
  intro p l e R s m args below meth c H locs cells slots Q ls b L S pc' L' S' hx hb ho ht h hl k
  unfold am_bi at h
  split at h
  · subst hn; cases h; exact lv_ishl hx hb hd (k _ hl)
  · cases h
theorem am_ok_ishr (hd : decode cc pc = .ok (.ishr, 1)) (hn : n = pc + 1) : am_OKp own cc nL pc (am_bi n (fun x y => x >>> (y &&& 31))) := by
  intro p l e R s m args below meth c H locs cells slots Q ls b L S pc' L' S' hx hb ho ht h hl k
  unfold am_bi at h
  split at h
  · subst hn; cases h; exact lv_ishr hx hb hd (k _ hl)
  · cases h
theorem am_ok_iushr (hd : decode cc pc = .ok (.iushr, 1)) (hn : n = pc + 1) : am_OKp own cc nL pc (am_bi n (fun x y => (x.toUInt32 >>> (y.toUInt32 &&& Int32.toUInt32 31)).toInt32)) := by
  intro p l e R s m args below meth c H locs cells slots Q ls b L S pc' L' S' hx hb ho ht h hl k
  unfold am_bi at h
  split at h
  · subst hn; cases h; exact lv_iushr hx hb hd rfl (k _ hl)
  · cases h
theorem am_ok_idiv (hd : decode cc pc = .ok (.idiv, 1)) (hn : n = pc + 1) : am_OKp own cc nL pc (am_dv n (fun x y => x / y)) := by
  intro p l e R s m args below meth c H locs cells slots Q ls b L S pc' L' S' hx hb ho ht h hl k
  unfold am_dv at h
  split at h
  · split at h
    · cases h
    · next hy => subst hn; cases h; exact lv_idiv hx hb hd hy (k _ hl)
  · cases h
theorem am_ok_irem (hd : decode cc pc = .ok (.irem, 1)) (hn : n = pc + 1) : am_OKp own cc nL pc (am_dv n (fun x y => x - x / y * y)) := by
  intro p l e R s m args below meth c H locs cells slots Q ls b L S pc' L' S' hx hb ho ht h hl k
  unfold am_dv at h
  split at h
  · split at h
    · cases h
    · next hy => subst hn; cases h; exact lv_irem hx hb hd hy (k _ hl)
  · cases h
theorem am_ok_ladd (hd : decode cc pc = .ok (.ladd, 1)) (hn : n = pc + 1) : am_OKp own cc nL pc (am_bl n (· + ·)) := by
  intro p l e R s m args below meth c H locs cells slots Q ls b L S pc' L' S' hx hb ho ht h hl k
  unfold am_bl at h
  split at h
  · subst hn; cases h; exact lv_ladd hx hb hd (k _ hl)
  · cases h
theorem am_ok_lsub (hd : decode cc pc = .ok (.lsub, 1)) (hn : n = pc + 1) : am_OKp own cc nL pc (am_bl n (· - ·)) := by
  intro p l e R s m args below meth c H locs cells slots Q ls b L S pc' L' S' hx hb ho ht h hl k
  unfold am_bl at h
  split at h
  · subst hn; cases h; exact lv_lsub hx hb hd (k _ hl)
  · cases h
theorem am_ok_land (hd : decode cc pc = .ok (.land, 1)) (hn : n = pc + 1) : am_OKp own cc nL pc (am_bl n (· &&& ·)) := by
  intro p l e R s m args below meth c H locs cells slots Q ls b L S pc' L' S' hx hb ho ht h hl k
  unfold am_bl at h
  split at h
  · subst hn; cases h; exact lv_land hx hb hd (k _ hl)
  · cases h
theorem am_ok_lor (hd : decode cc pc = .ok (.lor, 1)) (hn : n = pc + 1) : am_OKp own cc nL pc (am_bl n (· ||| ·)) := by
  intro p l e R s m args below meth c H locs cells slots Q ls b L S pc' L' S' hx hb ho ht h hl k
  unfold am_bl at h
  split at h
  · subst hn; cases h; exact lv_lor hx hb hd (k _ hl)
  · cases h
theorem am_ok_lshl (hd : decode cc pc = .ok (.lshl, 1)) (hn : n = pc + 1) : am_OKp own cc nL pc (am_sl n (fun x y => x <<< (y.toInt64 &&& 63))) := by
  intro p l e R s m args below meth c H locs cells slots Q ls b L S pc' L' S' hx hb ho ht h hl k
  unfold am_sl at h
  split at h
  · subst hn; cases h; exact lv_lshl hx hb hd rfl (k _ hl)
  · cases h
theorem am_ok_lshr (hd : decode cc pc = .ok (.lshr, 1)) (hn : n = pc + 1) : am_OKp own cc nL pc (am_sl n (fun x y => x >>> (y.toInt64 &&& 63))) := by
  intro p l e R s m args below meth c H locs cells slots Q ls b L S pc' L' S' hx hb ho ht h hl k
  unfold am_sl at h
  split at h
  · subst hn; cases h; exact lv_lshr hx hb hd rfl (k _ hl)
  · cases h
theorem am_ok_lushr (hd : decode cc pc = .ok (.lushr, 1)) (hn : n = pc + 1) : am_OKp own cc nL pc (am_sl n (fun x y => (x.toUInt64 >>> (y.toInt64.toUInt64 &&& Int64.toUInt64 63)).toInt64)) := by
  intro p l e R s m args below meth c H locs cells slots Q ls b L S pc' L' S' hx hb ho ht h hl k
  unfold am_sl at h
  split at h
  · subst hn; cases h; exact lv_lushr hx hb hd rfl (k _ hl)
  · cases h
theorem am_ok_lcmp (hd : decode cc pc = .ok (.lcmp, 1)) (hn : n = pc + 1) : am_OKp own cc nL pc (am_lcmp n) := by
  intro p l e R s m args below meth c H locs cells slots Q ls b L S pc' L' S' hx hb ho ht h hl k
  unfold am_lcmp at h
  split at h
  · subst hn; cases h; exact W.lcmp hx hb hd (k _ hl)
  · cases h
theorem am_ok_ineg (hd : decode cc pc = .ok (.ineg, 1)) (hn : n = pc + 1) : am_OKp own cc nL pc (am_neg n) := by
  intro p l e R s m args below meth c H locs cells slots Q ls b L S pc' L' S' hx hb ho ht h hl k
  unfold am_neg at h
  split at h
  · subst hn; cases h; exact lv_ineg hx hb hd (k _ hl)
  · cases h
theorem am_ok_i2l (hd : decode cc pc = .ok (.i2l, 1)) (hn : n = pc + 1) : am_OKp own cc nL pc (am_i2l n) := by
  intro p l e R s m args below meth c H locs cells slots Q ls b L S pc' L' S' hx hb ho ht h hl k
  unfold am_i2l at h
  split at h
  · subst hn; cases h; exact lv_i2l hx hb hd rfl (k _ hl)
  · cases h
theorem am_ok_l2i (hd : decode cc pc = .ok (.l2i, 1)) (hn : n = pc + 1) : am_OKp own cc nL pc (am_l2i n) := by
  intro p l e R s m args below meth c H locs cells slots Q ls b L S pc' L' S' hx hb ho ht h hl k
  unfold am_l2i at h
  split at h
  · subst hn; cases h; exact lv_l2i hx hb hd rfl (k _ hl)
  · cases h
theorem am_ok_dup (hd : decode cc pc = .ok (.dup, 1)) (hn : n = pc + 1) : am_OKp own cc nL pc (am_dup n) := by
  intro p l e R s m args below meth c H locs cells slots Q ls b L S pc' L' S' hx hb ho ht h hl k
  unfold am_dup at h
  split at h
  · next v S0 => 
    cases hc : Nat.beq v.category 1 with
    | true => rw [hc, cond_true] at h; subst hn; cases h; exact lv_dup hx hb hd (by rw [am_v_cat]; exact Nat.eq_of_beq_eq_true hc) (k _ hl)
    | false => rw [hc, cond_false] at h; cases h
  · cases h
theorem am_ok_dup2 (hd : decode cc pc = .ok (.dup2, 1)) (hn : n = pc + 1) : am_OKp own cc nL pc (am_dup2 n) := by
  intro p l e R s m args below meth c H locs cells slots Q ls b L S pc' L' S' hx hb ho ht h hl k
  unfold am_dup2 at h
  split at h
  · next v w S0 => 
    cases hc : (Nat.beq v.category 1 && Nat.beq w.category 1) with
    | true => rw [hc, cond_true] at h; subst hn; cases h; simp only [Bool.and_eq_true] at hc; exact lv_dup2_11 hx hb hd (by rw [am_v_cat]; exact Nat.eq_of_beq_eq_true hc.1) (by rw [am_v_cat]; exact Nat.eq_of_beq_eq_true hc.2) (k _ hl)
    | false => rw [hc, cond_false] at h; cases h
  · cases h
theorem am_ok_goto {off : Int} (hd : decode cc pc = .ok (.goto off, 3)) (hn : (pc : Int) + off = (n : Int)) : am_OKp own cc nL pc (am_go n) := by
  intro p l e R s m args below meth c H locs cells slots Q ls b L S pc' L' S' hx hb ho ht h hl k
  cases h
  exact lv_goto hx hb hd hn (k _ hl)
theorem am_ok_if_eq {off : Int} {t : Nat} (hd : decode cc pc = .ok (.ifCond .eq off, 3)) (ht9 : (pc : Int) + off = (t : Int)) (hn : n = pc + 3) : am_OKp own cc nL pc (am_if_eq n t) := by
  intro p l e R s m args below meth c H locs cells slots Q ls b L S pc' L' S' hx hb ho ht h hl k
  unfold am_if_eq at h
  split at h
  · subst hn; cases h; exact lv_if_eq hx hb hd ht9 (fun c9 => by have k9 := k _ hl; rw [if_pos c9] at k9; exact k9) (fun c9 => by have k9 := k _ hl; rw [if_neg c9] at k9; exact k9)
  · cases h
theorem am_ok_ic_eq {off : Int} {t : Nat} (hd : decode cc pc = .ok (.if_icmp .eq off, 3)) (ht9 : (pc : Int) + off = (t : Int)) (hn : n = pc + 3) : am_OKp own cc nL pc (am_ic_eq n t) := by
  intro p l e R s m args below meth c H locs cells slots Q ls b L S pc' L' S' hx hb ho ht h hl k
  unfold am_ic_eq at h
  split at h
  · subst hn; cases h; exact lv_icmp_eq hx hb hd ht9 (fun c9 => by have k9 := k _ hl; rw [if_pos c9] at k9; exact k9) (fun c9 => by have k9 := k _ hl; rw [if_neg c9] at k9; exact k9)
  · cases h
theorem am_ok_if_ne {off : Int} {t : Nat} (hd : decode cc pc = .ok (.ifCond .ne off, 3)) (ht9 : (pc : Int) + off = (t : Int)) (hn : n = pc + 3) : am_OKp own cc nL pc (am_if_ne n t) := by
  intro p l e R s m args below meth c H locs cells slots Q ls b L S pc' L' S' hx hb ho ht h hl k
  unfold am_if_ne at h
  split at h
  · subst hn; cases h; exact lv_if_ne hx hb hd ht9 (fun c9 => by have k9 := k _ hl; rw [if_neg c9] at k9; exact k9) (fun c9 => by have k9 := k _ hl; rw [if_pos c9] at k9; exact k9)
  · cases h
theorem am_ok_ic_ne {off : Int} {t : Nat} (hd : decode cc pc = .ok (.if_icmp .ne off, 3)) (ht9 : (pc : Int) + off = (t : Int)) (hn : n = pc + 3) : am_OKp own cc nL pc (am_ic_ne n t) := by
  intro p l e R s m args below meth c H locs cells slots Q ls b L S pc' L' S' hx hb ho ht h hl k
  unfold am_ic_ne at h
  split at h
  · subst hn; cases h; exact lv_icmp_ne hx hb hd ht9 (fun c9 => by have k9 := k _ hl; rw [if_neg c9] at k9; exact k9) (fun c9 => by have k9 := k _ hl; rw [if_pos c9] at k9; exact k9)
  · cases h
theorem am_ok_if_lt {off : Int} {t : Nat} (hd : decode cc pc = .ok (.ifCond .lt off, 3)) (ht9 : (pc : Int) + off = (t : Int)) (hn : n = pc + 3) : am_OKp own cc nL pc (am_if_lt n t) := by
  intro p l e R s m args below meth c H locs cells slots Q ls b L S pc' L' S' hx hb ho ht h hl k
  unfold am_if_lt at h
  split at h
  · subst hn; cases h; exact lv_if_lt hx hb hd ht9 (fun c9 => by have k9 := k _ hl; rw [if_pos c9] at k9; exact k9) (fun c9 => by have k9 := k _ hl; rw [if_neg c9] at k9; exact k9)
  · cases h
theorem am_ok_ic_lt {off : Int} {t : Nat} (hd : decode cc pc = .ok (.if_icmp .lt off, 3)) (ht9 : (pc : Int) + off = (t : Int)) (hn : n = pc + 3) : am_OKp own cc nL pc (am_ic_lt n t) := by
  intro p l e R s m args below meth c H locs cells slots Q ls b L S pc' L' S' hx hb ho ht h hl k
  unfold am_ic_lt at h
  split at h
  · subst hn; cases h; exact lv_icmp_lt hx hb hd ht9 (fun c9 => by have k9 := k _ hl; rw [if_pos c9] at k9; exact k9) (fun c9 => by have k9 := k _ hl; rw [if_neg c9] at k9; exact k9)
  · cases h
theorem am_ok_if_ge {off : Int} {t : Nat} (hd : decode cc pc = .ok (.ifCond .ge off, 3)) (ht9 : (pc : Int) + off = (t : Int)) (hn : n = pc + 3) : am_OKp own cc nL pc (am_if_ge n t) := by
  intro p l e R s m args below meth c H locs cells slots Q ls b L S pc' L' S' hx hb ho ht h hl k
  unfold am_if_ge at h
  split at h
  · subst hn; cases h; exact lv_if_ge hx hb hd ht9 (fun c9 => by have k9 := k _ hl; rw [if_pos c9] at k9; exact k9) (fun c9 => by have k9 := k _ hl; rw [if_neg c9] at k9; exact k9)
  · cases h
theorem am_ok_ic_ge {off : Int} {t : Nat} (hd : decode cc pc = .ok (.if_icmp .ge off, 3)) (ht9 : (pc : Int) + off = (t : Int)) (hn : n = pc + 3) : am_OKp own cc nL pc (am_ic_ge n t) := by
  intro p l e R s m args below meth c H locs cells slots Q ls b L S pc' L' S' hx hb ho ht h hl k
  unfold am_ic_ge at h
  split at h
  · subst hn; cases h; exact lv_icmp_ge hx hb hd ht9 (fun c9 => by have k9 := k _ hl; rw [if_pos c9] at k9; exact k9) (fun c9 => by have k9 := k _ hl; rw [if_neg c9] at k9; exact k9)
  · cases h
theorem am_ok_if_gt {off : Int} {t : Nat} (hd : decode cc pc = .ok (.ifCond .gt off, 3)) (ht9 : (pc : Int) + off = (t : Int)) (hn : n = pc + 3) : am_OKp own cc nL pc (am_if_gt n t) := by
  intro p l e R s m args below meth c H locs cells slots Q ls b L S pc' L' S' hx hb ho ht h hl k
  unfold am_if_gt at h
  split at h
  · subst hn; cases h; exact lv_if_gt hx hb hd ht9 (fun c9 => by have k9 := k _ hl; rw [if_pos c9] at k9; exact k9) (fun c9 => by have k9 := k _ hl; rw [if_neg c9] at k9; exact k9)
  · cases h
theorem am_ok_ic_gt {off : Int} {t : Nat} (hd : decode cc pc = .ok (.if_icmp .gt off, 3)) (ht9 : (pc : Int) + off = (t : Int)) (hn : n = pc + 3) : am_OKp own cc nL pc (am_ic_gt n t) := by
  intro p l e R s m args below meth c H locs cells slots Q ls b L S pc' L' S' hx hb ho ht h hl k
  unfold am_ic_gt at h
  split at h
  · subst hn; cases h; exact lv_icmp_gt hx hb hd ht9 (fun c9 => by have k9 := k _ hl; rw [if_pos c9] at k9; exact k9) (fun c9 => by have k9 := k _ hl; rw [if_neg c9] at k9; exact k9)
  · cases h
theorem am_ok_if_le {off : Int} {t : Nat} (hd : decode cc pc = .ok (.ifCond .le off, 3)) (ht9 : (pc : Int) + off = (t : Int)) (hn : n = pc + 3) : am_OKp own cc nL pc (am_if_le n t) := by
  intro p l e R s m args below meth c H locs cells slots Q ls b L S pc' L' S' hx hb ho ht h hl k
  unfold am_if_le at h
  split at h
  · subst hn; cases h; exact lv_if_le hx hb hd ht9 (fun c9 => by have k9 := k _ hl; rw [if_pos c9] at k9; exact k9) (fun c9 => by have k9 := k _ hl; rw [if_neg c9] at k9; exact k9)
  · cases h
theorem am_ok_ic_le {off : Int} {t : Nat} (hd : decode cc pc = .ok (.if_icmp .le off, 3)) (ht9 : (pc : Int) + off = (t : Int)) (hn : n = pc + 3) : am_OKp own cc nL pc (am_ic_le n t) := by
  intro p l e R s m args below meth c H locs cells slots Q ls b L S pc' L' S' hx hb ho ht h hl k
  unfold am_ic_le at h
  split at h
  · subst hn; cases h; exact lv_icmp_le hx hb hd ht9 (fun c9 => by have k9 := k _ hl; rw [if_pos c9] at k9; exact k9) (fun c9 => by have k9 := k _ hl; rw [if_neg c9] at k9; exact k9)
  · cases h
theorem am_ok_tsw {dflt lo hi : Int} {offs : Array Int} {len : Nat} {tg : List Nat} {df : Nat} (hd : decode cc pc = .ok (.tableswitch dflt lo hi offs, len)) (h1 : (pc : Int) + dflt = (df : Int)) (h2 : offs.toList.map (fun o => (pc : Int) + o) = tg.map (fun t : Nat => (t : Int))) (h3 : hi = lo + (tg.length : Int) - 1) : am_OKp own cc nL pc (am_tsw lo tg df) := by
  intro p l e R s m args below meth c H locs cells slots Q ls b L S pc' L' S' hx hb ho ht h hl k
  unfold am_tsw at h
  split at h
  · next x S0 =>
    cases h
    have hlen : offs.toList.length = tg.length := by
      have := congrArg List.length h2
      simpa using this
    by_cases c1 : x.toInt < lo
    · have k9 := k _ hl
      unfold am_tgt at k9
      rw [if_pos c1] at k9
      exact lv_tableOut hx hb hd (Or.inl c1) h1 k9
    · by_cases c2 : hi < x.toInt
      · have k9 := k _ hl
        unfold am_tgt at k9
        rw [if_neg c1] at k9
        have hno : tg[(x.toInt - lo).toNat]? = none := List.getElem?_eq_none (by omega)
        rw [List.getD_eq_getElem?_getD, hno] at k9
        exact lv_tableOut hx hb hd (Or.inr c2) h1 k9
      · have k9 := k _ hl
        unfold am_tgt at k9
        rw [if_neg c1] at k9
        have hi9 : (x.toInt - lo).toNat < tg.length := by omega
        have e1 : tg[(x.toInt - lo).toNat]? = some tg[(x.toInt - lo).toNat] := List.getElem?_eq_getElem hi9
        have e2 : offs.toList[(x.toInt - lo).toNat]? = some (offs.toList[(x.toInt - lo).toNat]'(by omega)) := List.getElem?_eq_getElem (by omega)
        have e3 := congrArg (fun z => z[(x.toInt - lo).toNat]?) h2
        simp only [List.getElem?_map, e1, e2, Option.map_some, Option.some.injEq] at e3
        rw [List.getD_eq_getElem?_getD, e1] at k9
        exact lv_tableIn hx hb hd c1 c2 (by rw [← Array.getElem?_toList]; exact e2) e3 k9
  · cases h
theorem am_ltg_off {tg : List (Int32 × Nat)} {df : Nat} {dflt : Int} {x : Int32} (h1 : (pc : Int) + dflt = (df : Int)) : ∀ (ps : List (Int × Int)), ps.map (fun q => (q.1, (pc : Int) + q.2)) = tg.map (fun q : Int32 × Nat => (q.1.toInt, (q.2 : Int))) → (pc : Int) + Op.lookupswitch.offset ps dflt x.toInt = (am_ltg tg df x : Int) := by
  induction tg with
  | nil =>
    intro ps hp
    cases ps with
    | nil => exact h1
    | cons a r => cases hp
  | cons a r ih =>
    intro ps hp
    cases ps with
    | nil => cases hp
    | cons q ps =>
      simp only [List.map_cons, List.cons.injEq, Prod.mk.injEq] at hp
      obtain ⟨⟨g1, g2⟩, g3⟩ := hp
      obtain ⟨q1, q2⟩ := q
      obtain ⟨a1, a2⟩ := a
      simp only at g1 g2
      subst g1
      rw [Op.lookupswitch.offset_cons]
      unfold am_ltg
      by_cases hx : x = a1
      · subst hx
        rw [if_pos rfl, if_pos rfl]
        exact g2
      · rw [if_neg hx, if_neg (fun z => hx (Int32.toInt_inj.mp (by first | exact z | exact z.symm)))]
        exact ih ps g3
theorem am_ok_lsw {dflt : Int} {ps : Array (Int × Int)} {len : Nat} {tg : List (Int32 × Nat)} {df : Nat} (hd : decode cc pc = .ok (.lookupswitch dflt ps, len)) (h1 : (pc : Int) + dflt = (df : Int)) (h2 : ps.toList.map (fun q => (q.1, (pc : Int) + q.2)) = tg.map (fun q : Int32 × Nat => (q.1.toInt, (q.2 : Int)))) (h3 : (ps.toList.zip (ps.toList.drop 1)).all (fun (a, next) => a.1 < next.1) = true) : am_OKp own cc nL pc (am_lsw tg df) := by
  intro p l e R s m args below meth c H locs cells slots Q ls b L S pc' L' S' hx hb ho ht h hl k
  unfold am_lsw at h
  split at h
  · cases h
    exact lv_lookup hx hb hd h3 rfl (am_ltg_off h1 _ h2) (k _ hl)
  · cases h
end
