/-! OPERATIONS ON THE MEMORY, and what a method's place is -/
abbrev am_Op : Type := List Value → List Value → am_M → Option (Nat × List Value × List Value × am_M)
def am_C (p : Program) (s : State) (m : MethodId) (args : Array Value) (meth : Method) (c : Code) (R : Room) (own : String) (cc : ByteArray) (nL : Nat) (ini : Bool) (D : va_G) (cI cZ : ClassId) (b : Nat) : Prop :=
  p.tables.exec = Jvm.exec ∧ c.code = cc ∧ c.maxLocals = nL ∧ s.vm.findClass own = some m.cls ∧ (∀ w ∈ am_tbl, w.before args s = true) ∧ (∀ w ∈ am_nst, va_Nw w s) ∧ va_K D am_cls [(cI, .int), (cZ, .boolean)] s ∧ b ≤ s.heap.size ∧ (ini = true → meth.name = "<init>") ∧ 1 ≤ R.frames ∧ 64 ≤ R.locals
def am_B (D : va_G) (cI cZ : ClassId) (b : Nat) (s : State) (nL : Nat) (L : List Value) (μ : am_M) (H : Heap) (locs : List Loc) (ls : Array Slot) : Prop :=
  lv_has ls nL (am_vl b 0 L) ∧ H.size = b + am_nx μ ∧ va_P D am_cls (am_ws b cI cZ μ) H ∧ va_S (fun q => b ≤ q) s.heap H locs
def am_OK (own : String) (cc : ByteArray) (nL : Nat) (ini : Bool) (pc : Nat) (f : am_Op) : Prop :=
  ∀ (p : Program) (l : Launch) (e : Env) (R : Room) (s : State) (m : MethodId) (args : Array Value) (below : List Frame) (meth : Method) (c : Code) (D : va_G) (cI cZ : ClassId) (b : Nat) (Q : State → Prop) (L S : List Value) (μ : am_M) (pc' : Nat) (L' S' : List Value) (μ' : am_M) (H : Heap) (locs : List Loc) (ls : Array Slot) (cells slots : Nat),
    am_C p s m args meth c R own cc nL ini D cI cZ b → f L S μ = some (pc', L', S', μ') → am_B D cI cZ b s nL L μ H locs ls → cells + am_nx μ' ≤ R.cells + am_nx μ → slots + am_ns μ' ≤ R.slots + am_ns μ →
    (∀ (H' : Heap) (locs' : List Loc) (ls' : Array Slot) (cells' slots' : Nat), am_B D cI cZ b s nL L' μ' H' locs' ls' → cells' + am_nx μ = cells + am_nx μ' → slots' + am_ns μ = slots + am_ns μ' → W p l e R s m args below meth c H' locs' cells' slots' Q (F0 m pc' ls' (S'.map (am_v b)))) →
    W p l e R s m args below meth c H locs cells slots Q (F0 m pc ls (S.map (am_v b)))
/-- the memory never shrinks -/
def am_Mo (f : am_Op) : Prop := ∀ (L S : List Value) (μ : am_M) (pc' : Nat) (L' S' : List Value) (μ' : am_M), f L S μ = some (pc', L', S', μ') → am_nx μ ≤ am_nx μ' ∧ am_ns μ ≤ am_ns μ'
def am_lift (g : am_P) : am_Op := fun L S μ => match g L S with
  | some (n, L', S') => some (n, L', S', μ)
  | none => none
theorem am_lift_mo (g : am_P) : am_Mo (am_lift g) := by
  intro L S μ pc' L' S' μ' h
  unfold am_lift at h
  split at h
  · cases h; exact ⟨Nat.le_refl _, Nat.le_refl _⟩
  · cases h
theorem am_lift_ok {own : String} {cc : ByteArray} {nL pc : Nat} {ini : Bool} {g : am_P} (hg : am_OKp own cc nL pc g) : am_OK own cc nL ini pc (am_lift g) := by
  intro p l e R s m args below meth c D cI cZ b Q L S μ pc' L' S' μ' H locs ls cells slots hC h hB hr1 hr2 k
  unfold am_lift at h
  split at h
  · next n L2 S2 hg2 =>
    cases h
    obtain ⟨hx, hb, hml, ho, ht, -⟩ := hC
    obtain ⟨hl, hz, hP, hS⟩ := hB
    exact hg p l e R s m args below meth c H locs cells slots Q ls b L S pc' L' S' hx hb ho ht hg2 hl (fun ls' h2 => k H locs ls' cells slots ⟨h2, hz, hP, hS⟩ rfl rfl)
  · cases h
theorem am_ent_congr {b : Nat} {cI cZ : ClassId} {μ μ' : am_M} {k : Nat} (h1 : am_mi μ' k = am_mi μ k) (h2 : am_ml μ' k = am_ml μ k) (h3 : am_mr μ' k = am_mr μ k) (h4 : am_kd μ' k = am_kd μ k) : am_ent b cI cZ μ' k = am_ent b cI cZ μ k := by
  have hv : ∀ t j, am_val μ' k t j = am_val μ k t j := fun t j => by
    unfold am_val
    split
    · rw [h1]
    · rw [h1]
    · rw [h2]
    · rw [h3]
  unfold am_ent am_flds
  rw [h1, h4]
  simp only [hv]
def am_seti (μ : am_M) (k j : Nat) (x : Int32) : am_M := (fun a => bif Nat.beq a k then upd (μ.1 k) j x else μ.1 a, μ.2)
def am_setl (μ : am_M) (k j : Nat) (x : Int64) : am_M := (μ.1, (fun a => bif Nat.beq a k then vp_updL (μ.2.1 k) j x else μ.2.1 a), μ.2.2)
def am_setr (μ : am_M) (k j : Nat) (x : Option Nat) : am_M := (μ.1, μ.2.1, (fun a => bif Nat.beq a k then va_up (μ.2.2.1 k) j x else μ.2.2.1 a), μ.2.2.2)
theorem am_beq_n {a k : Nat} (h : a ≠ k) : Nat.beq a k = false := by
  cases hb : Nat.beq a k with
  | false => rfl
  | true => exact absurd (Nat.eq_of_beq_eq_true hb) h
theorem am_beq_s (a : Nat) : Nat.beq a a = true := Nat.beq_refl a
theorem am_flds_set {b : Nat} {μ μ' : am_M} {k c j t : Nat} {v : Value} (ht : (am_fts c)[j]? = some t) (hv : am_v b (am_val μ' k t j) = v) (ho : ∀ t' i, i ≠ j → am_val μ' k t' i = am_val μ k t' i) : am_flds b μ' k c = (am_flds b μ k c).set j v := by
  have hj : j < (am_fts c).length := (List.getElem?_eq_some_iff.mp ht).1
  apply List.ext_getElem?
  intro i
  by_cases hi : i < (am_fts c).length
  · have e1 : (am_fts c)[i]? = some (am_fts c)[i] := List.getElem?_eq_getElem hi
    rw [am_flds_at e1]
    by_cases hij : j = i
    · subst hij
      rw [List.getElem?_set_self (by simpa [am_flds] using hj)]
      rw [e1] at ht
      rw [Option.some.inj ht, hv]
    · rw [List.getElem?_set_ne hij, am_flds_at e1, ho _ _ (Ne.symm hij)]
  · rw [List.getElem?_eq_none (by simpa [am_flds] using hi), List.getElem?_eq_none (by simpa [am_flds] using hi)]
theorem am_blt {a k : Nat} (h : Nat.blt a k = true) : a < k := by
  have := Nat.le_of_ble_eq_true h
  omega
def am_is (μ : am_M) (k c : Nat) : Bool := Nat.beq (am_kd μ k).1 c && Nat.blt k (am_nx μ)
theorem am_is_of {μ : am_M} {k c : Nat} (h : am_is μ k c = true) : (am_kd μ k).1 = c ∧ k < am_nx μ := by
  unfold am_is at h
  rw [Bool.and_eq_true] at h
  exact ⟨Nat.eq_of_beq_eq_true h.1, am_blt h.2⟩
def am_gf (n c j t : Nat) : am_Op := fun L S μ => match S with
  | .ref k :: S => bif am_is μ k (c + 2) then some (n, L, am_val μ k t j :: S, μ) else none
  | _ => none
def am_pfi (n c j : Nat) : am_Op := fun L S μ => match S with
  | .int x :: .ref k :: S => bif am_is μ k (c + 2) then some (n, L, S, am_seti μ k j x) else none
  | _ => none
def am_pfz (n c j : Nat) : am_Op := fun L S μ => match S with
  | .int x :: .ref k :: S => bif am_is μ k (c + 2) then (bif x == 0 || x == 1 then some (n, L, S, am_seti μ k j x) else none) else none
  | _ => none
def am_pfl (n c j : Nat) : am_Op := fun L S μ => match S with
  | .long x :: .ref k :: S => bif am_is μ k (c + 2) then some (n, L, S, am_setl μ k j x) else none
  | _ => none
def am_pfr (n c j : Nat) : am_Op := fun L S μ => match S with
  | .ref x :: .ref k :: S => bif am_is μ k (c + 2) then some (n, L, S, am_setr μ k j (some x)) else none
  | _ => none
theorem am_bif {b : Bool} {α : Type} {x : Option α} {y : α} (h : (bif b then x else none) = some y) : b = true ∧ x = some y := by
  cases b with
  | true => exact ⟨rfl, h⟩
  | false => cases h
section
variable {own : String} {cc : ByteArray} {nL pc n : Nat} {ini : Bool}
theorem am_gf_mo (n c j t : Nat) : am_Mo (am_gf n c j t) := by
  intro L S μ pc' L' S' μ' h
  unfold am_gf at h
  split at h
  · obtain ⟨-, h⟩ := am_bif h; cases h; exact ⟨Nat.le_refl _, Nat.le_refl _⟩
  · cases h
theorem am_ok_gf {c j t ix N : Nat} {C : String} {T : u_T} {ty : Nat → FieldType} (hd : decode cc pc = .ok (.getfield ix, 3)) (hn : n = pc + 3) (hck : am_CK c C T N ty) (hw : Cond.fieldLink own ix C (T j).2.1 (T j).2.2.1 ∈ am_tbl) (hj : (am_fts c)[j]? = some t) (hC9 : (T j).1 = C) : am_OK own cc nL ini pc (am_gf n c j t) := by
  intro p l e R s m args below meth cd D cI cZ b Q L S μ pc' L' S' μ' H locs ls cells slots hC h hB hr1 hr2 k
  unfold am_gf at h
  split at h
  · next q S0 =>
    obtain ⟨hi, h⟩ := am_bif h
    cases h
    obtain ⟨hi1, hi2⟩ := am_is_of hi
    obtain ⟨hx, hb, hml, ho, ht, -, hK, -⟩ := hC
    obtain ⟨hl, hz, hP, hS⟩ := hB
    obtain ⟨h1, h2, h3, h4, h5⟩ := hck
    have he := am_ws_at (b := b) (cI := cI) (cZ := cZ) hi2
    rw [am_ent_c hi1] at he
    have hjN : j < N := by rw [← h5]; exact (List.getElem?_eq_some_iff.mp hj).1
    subst hn
    exact va_get (D := D) (ci := c) (C := C) (T := T) (N := N) hx hb ht h2 ho hK hP q he h1 j hjN (ht _ hw) (by rw [hC9]; exact fun _ h => h) (am_flds_at hj) hd (k H locs ls cells slots ⟨hl, hz, hP, hS⟩ rfl rfl)
  · cases h
end
section
variable {p : Program} {l : Launch} {e : Env} {R : Room} {s : State} {m : MethodId} {args : Array Value} {below : List Frame} {meth : Method} {c : Code} {H : Heap} {locs : List Loc} {cells slots : Nat} {Q : State → Prop}
variable {cc : ByteArray} {pc : Nat} {ls : Array Slot} {rest : List Value} {D : va_G} {cl : List vw_C} {A : Nat → Prop} {a : Nat} {tys : List (ClassId × FieldType)} {ws : va_W} {H0 : Heap}
/-- a field's store, the heap as large as before -/
theorem am_rput (hexec : p.tables.exec = Jvm.exec) (hb : c.code = cc) {own C : String} {T : u_T} {N ci index : Nat} {Ts : List Cond} (hts : ∀ w ∈ Ts, w.before args s = true) (hin : ∀ w ∈ u_ws C T N, w ∈ Ts) (ty0 : Nat → FieldType) (hty : ∀ k, k < N → parseFieldDescriptor (T k).2.2.1 = some (ty0 k)) (hnm : ∀ a, a < N → ∀ b, b < N → a ≠ b → (T a).2.1 ≠ (T b).2.1) (hown : s.vm.findClass own = some m.cls) (hK : va_K D cl tys s) (hP : va_P D cl ws H) (hD : va_D A ws) (hS0 : va_S A H0 H locs) (q0 : Nat) {fs : List Value} (he : ws[q0]? = some (a, .inr (ci, fs))) (hc : cl[ci]? = some (C, T, N)) (k : Nat) (hk : k < N) (hC9 : (T k).1 = C) (hlink : (Cond.fieldLink own index C (T k).2.1 (T k).2.2.1).before args s = true) (hfin : (T k).2.2.2 = false ∨ ((T k).2.2.2 = true ∧ meth.name = "<init>" ∧ (T k).1 = own)) {ty : FieldType} {v : Value} (hd : parseFieldDescriptor (T k).2.2.1 = some ty) (hn : narrow ty v = v) (hfit : fits ty v = true) (hl : k < fs.length)
    (hdg : decode cc pc = .ok (.putfield index, 3)) (kk : ∀ (H1 : Heap) (locs1 : List Loc), H1.size = H.size → va_P D cl (ws.set q0 (a, .inr (ci, fs.set k v))) H1 → va_S A H0 H1 locs1 → W p l e R s m args below meth c H1 locs1 cells slots Q (F0 m (pc + 3) ls rest)) : W p l e R s m args below meth c H locs cells slots Q (F0 m pc ls (v :: .ref a :: rest)) := by
  have hap := va_apart (own := own) hts hin ty0 hty hnm hK hc
  obtain ⟨r, h1, cell, q1, q2, q3, q4⟩ := hP q0 _ he
  have hr : r = (C, T, N) := Option.some.inj (h1.symm.trans hc)
  subst hr
  obtain ⟨hS, hfc, kC, hkC, hkind⟩ := hK.1 ci _ hc
  obtain ⟨cf, kf, fi, f, hi, hsl⟩ := hS k hk
  have hlay := hts _ (hin _ (u_in_lay hk))
  unfold u_lay at hlay
  have hst := (u_facts hfc hkC (u_lays hts hin hk) hi).1
  have hi' : s.fieldFound? C (T k).2.1 (T k).2.2.1 = some (cf, kf, fi, f) := by rw [hC9] at hi; exact hi
  rcases hfin with hfin | ⟨hfin, hin2, hdecl⟩
  · rw [if_neg (by rw [hfin]; decide)] at hlay
    have h6 := u_store hfc hkC hkind hlay hi hd hn hfit
    refine W.putK hexec hb (f := f) ⟨hown, hlink, ⟨_, _, _, hi'⟩, hst⟩ (by rw [q2]; exact h6) q1 q3 (by rw [hsl]; exact k2_hasslot (q4 k hk)) rfl rfl hdg fun H' e1 e2 e3 => ?_
    rw [hsl] at e1 ⊢
    exact kk H' _ e2 (hP.set hD he ⟨_, hc, t_OB.to (V := updV (vp_V fs) k v) ⟨_, e1, q2, q3, t_set q4 hap hk v⟩ (fun j _ => vp_updV_set hl v j)⟩ e3) (hS0.put e2 e3 (hD.2 q0 _ he))
  · rw [if_pos hfin] at hlay
    have hcf : m.cls = cf := by
      obtain ⟨_, _, c', _, _, _, -, -, hf', -, -, -, hown2, -⟩ := Cond.laysFinal_spec hlay
      have e1 : c' = cf := by have := hi.symm.trans hf'; simp at this; exact this.1.symm
      rw [hdecl] at hown2
      rw [← e1]; exact Option.some.inj (hown.symm.trans hown2)
    have h6 := u_fits hfc hkC hkind (Or.inr hlay) hi hd hn hfit
    refine W.putFinK hexec hb hown hlink hi' hst hcf hin2 (by rw [q2]; exact h6) q1 q3 (by rw [hsl]; exact k2_hasslot (q4 k hk)) rfl rfl hdg fun H' e1 e2 e3 => ?_
    rw [hsl] at e1 ⊢
    exact kk H' _ e2 (hP.set hD he ⟨_, hc, t_OB.to (V := updV (vp_V fs) k v) ⟨_, e1, q2, q3, t_set q4 hap hk v⟩ (fun j _ => vp_updV_set hl v j)⟩ e3) (hS0.put e2 e3 (hD.2 q0 _ he))
theorem am_riast (hexec : p.tables.exec = Jvm.exec) (hb : c.code = cc) (hK : va_K D cl tys s) (hP : va_P D cl ws H) (hD : va_D A ws) (hS : va_S A H0 H locs) (q0 t0 : Nat) {cA : ClassId} {n : Nat} {f : Nat → Int32} (ha : ws[q0]? = some (a, .inl (cA, n, .inl f))) (ht : tys[t0]? = some (cA, .int)) {i : Int32} {x : Int32} (hin : vp_in i n) (hdg : decode cc pc = .ok (.iastore, 1))
    (kk : ∀ (H1 : Heap) (locs1 : List Loc), H1.size = H.size → va_P D cl (ws.set q0 (a, .inl (cA, n, .inl (upd f i.toNatClampNeg x)))) H1 → va_S A H0 H1 locs1 → W p l e R s m args below meth c H1 locs1 cells slots Q (F0 m (pc + 1) ls rest)) : W p l e R s m args below meth c H locs cells slots Q (F0 m pc ls (.int x :: .int i :: .ref a :: rest)) := by
  refine W.iast hexec hb (hP q0 _ ha) ((hK.2 t0 _ ht).1 n (fun j => .int (f j))) (fun q => by cases q) (by show ¬ (i < 0 ∨ (arrV _ _ _).slots.size ≤ _); rw [arrV_size]; exact hin) rfl rfl hdg fun H1 e z oq => ?_
  refine kk H1 _ z (hP.set hD ha ?_ oq) (hS.put z oq (hD.2 q0 _ ha))
  show H1[a]? = some (vp_cell _ _)
  rw [e, vp_cell_i, vp_cell_i, arrV_store]
  congr 2
  funext q
  by_cases hq : q = i.toNatClampNeg
  · subst hq; simp [updV, upd]
  · simp [updV, upd, hq]
theorem am_rzast (hexec : p.tables.exec = Jvm.exec) (hb : c.code = cc) (hK : va_K D cl tys s) (hP : va_P D cl ws H) (hD : va_D A ws) (hS : va_S A H0 H locs) (q0 t0 : Nat) {cA : ClassId} {n : Nat} {f : Nat → Int32} (ha : ws[q0]? = some (a, .inl (cA, n, .inl f))) (ht : tys[t0]? = some (cA, .boolean)) {i : Int32} {x : Int32} (hx9 : narrow .boolean (.int x) = .int x) (hin : vp_in i n) (hdg : decode cc pc = .ok (.bastore, 1))
    (kk : ∀ (H1 : Heap) (locs1 : List Loc), H1.size = H.size → va_P D cl (ws.set q0 (a, .inl (cA, n, .inl (upd f i.toNatClampNeg x)))) H1 → va_S A H0 H1 locs1 → W p l e R s m args below meth c H1 locs1 cells slots Q (F0 m (pc + 1) ls rest)) : W p l e R s m args below meth c H locs cells slots Q (F0 m pc ls (.int x :: .int i :: .ref a :: rest)) := by
  refine W.zast hexec hb (hP q0 _ ha) ((hK.2 t0 _ ht).1 n (fun j => .int (f j))) (fun q => by cases q) (by show ¬ (i < 0 ∨ (arrV _ _ _).slots.size ≤ _); rw [arrV_size]; exact hin) rfl rfl hdg fun H1 e z oq => ?_
  refine kk H1 _ z (hP.set hD ha ?_ oq) (hS.put z oq (hD.2 q0 _ ha))
  show H1[a]? = some (vp_cell _ _)
  rw [e, vp_cell_i, vp_cell_i, arrV_store, hx9]
  congr 2
  funext q
  by_cases hq : q = i.toNatClampNeg
  · subst hq; simp [updV, upd]
  · simp [updV, upd, hq]
end
