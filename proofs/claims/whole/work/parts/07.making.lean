/-! NEW CELLS; Object.<init>; arraycopy -/
/-- a new cell: all zero -/
def am_mk (μ : am_M) (z N ns : Nat) : am_M :=
  (fun a => bif Nat.beq a (am_nx μ) then (fun _ => 0) else am_mi μ a, fun a => bif Nat.beq a (am_nx μ) then (fun _ => 0) else am_ml μ a, fun a => bif Nat.beq a (am_nx μ) then (fun _ => none) else am_mr μ a, fun a => bif Nat.beq a (am_nx μ) then (z, N) else am_kd μ a, am_nx μ + 1, am_ns μ + ns)
def am_df (t : Nat) : Value := match t with
  | 0 => .int 0
  | 1 => .int 0
  | 2 => .long 0
  | _ => .null
def am_new (n c N : Nat) : am_Op := fun L S μ => some (n, L, .ref (am_nx μ) :: S, am_mk μ (c + 2) 0 N)
def am_newa (n z : Nat) : am_Op := fun L S μ => match S with
  | .int k :: S => bif am_inb k 65536 then some (n, L, .ref (am_nx μ) :: S, am_mk μ z k.toNatClampNeg k.toNatClampNeg) else none
  | _ => none
def am_obj (n : Nat) : am_Op := fun L S μ => match S with
  | .ref k :: [] => some (n, L, [], μ)
  | _ => none
def am_cpy (n : Nat) : am_Op := fun L S μ => match S with
  | .int z :: .int dp :: .ref a :: .int sp :: .ref a0 :: [] =>
    bif am_is μ a 0 && am_is μ a0 0 && (!(decide (sp < 0)) && !(decide (dp < 0)) && !(decide (z < 0))) && (Nat.ble (sp.toNatClampNeg + z.toNatClampNeg) (am_kd μ a0).2 && Nat.ble (dp.toNatClampNeg + z.toNatClampNeg) (am_kd μ a).2) then
      some (n, L, [], (fun q => bif Nat.beq q a then va_cpy (am_mi μ a0) (am_mi μ a) sp.toNatClampNeg dp.toNatClampNeg z.toNatClampNeg else am_mi μ q, μ.2)) else none
  | _ => none
section
variable {own : String} {cc : ByteArray} {nL pc n : Nat} {ini : Bool}
theorem am_new_mo (n c N : Nat) : am_Mo (am_new n c N) := by
  intro L S μ pc' L' S' μ' h
  unfold am_new at h
  cases h
  exact ⟨Nat.le_succ _, Nat.le_add_right _ _⟩
theorem am_newa_mo (n z : Nat) : am_Mo (am_newa n z) := by
  intro L S μ pc' L' S' μ' h
  unfold am_newa at h
  split at h
  · obtain ⟨-, h⟩ := am_bif h; cases h; exact ⟨Nat.le_succ _, Nat.le_add_right _ _⟩
  · cases h
theorem am_obj_mo (n : Nat) : am_Mo (am_obj n) := by
  intro L S μ pc' L' S' μ' h
  unfold am_obj at h
  split at h
  · cases h; exact ⟨Nat.le_refl _, Nat.le_refl _⟩
  · cases h
theorem am_cpy_mo (n : Nat) : am_Mo (am_cpy n) := by
  intro L S μ pc' L' S' μ' h
  unfold am_cpy at h
  split at h
  · obtain ⟨-, h⟩ := am_bif h; cases h; exact ⟨Nat.le_refl _, Nat.le_refl _⟩
  · cases h
theorem am_mk_o {b : Nat} {cI cZ : ClassId} {μ : am_M} {z N ns a : Nat} (h : a < am_nx μ) : am_ent b cI cZ (am_mk μ z N ns) a = am_ent b cI cZ μ a := by
  have hb := am_beq_n (Nat.ne_of_lt h)
  refine am_ent_congr ?_ ?_ ?_ ?_
  · show (bif Nat.beq a (am_nx μ) then _ else _) = _; rw [hb]; rfl
  · show (bif Nat.beq a (am_nx μ) then _ else _) = _; rw [hb]; rfl
  · show (bif Nat.beq a (am_nx μ) then _ else _) = _; rw [hb]; rfl
  · show (bif Nat.beq a (am_nx μ) then _ else _) = _; rw [hb]; rfl
theorem am_mk_kd {μ : am_M} {z N ns : Nat} : am_kd (am_mk μ z N ns) (am_nx μ) = (z, N) := by
  show (bif Nat.beq (am_nx μ) (am_nx μ) then _ else _) = _; rw [am_beq_s]; rfl
theorem am_mk_mi {μ : am_M} {z N ns : Nat} : am_mi (am_mk μ z N ns) (am_nx μ) = fun _ => 0 := by
  show (bif Nat.beq (am_nx μ) (am_nx μ) then _ else _) = _; rw [am_beq_s]; rfl
theorem am_mk_ml {μ : am_M} {z N ns : Nat} : am_ml (am_mk μ z N ns) (am_nx μ) = fun _ => 0 := by
  show (bif Nat.beq (am_nx μ) (am_nx μ) then _ else _) = _; rw [am_beq_s]; rfl
theorem am_mk_mr {μ : am_M} {z N ns : Nat} : am_mr (am_mk μ z N ns) (am_nx μ) = fun _ => none := by
  show (bif Nat.beq (am_nx μ) (am_nx μ) then _ else _) = _; rw [am_beq_s]; rfl
/-- the world behind a new cell -/
theorem am_born {D : va_G} {cI cZ : ClassId} {b : Nat} {μ : am_M} {z N ns : Nat} {s : State} {H H1 : Heap} {locs : List Loc} (hz : H.size = b + am_nx μ) (hP : va_P D am_cls (am_ws b cI cZ μ) H) (hS : va_S (fun q => b ≤ q) s.heap H locs) (z1 : H1.size = H.size + 1) (o1 : ∀ q, q < H.size → H1[q]? = H[q]?) (hat : va_at D am_cls (b + am_nx μ, am_ent b cI cZ (am_mk μ z N ns) (am_nx μ)) H1) :
    H1.size = b + am_nx (am_mk μ z N ns) ∧ va_P D am_cls (am_ws b cI cZ (am_mk μ z N ns)) H1 ∧ va_S (fun q => b ≤ q) s.heap H1 locs := by
  refine ⟨by rw [z1, hz]; rfl, ?_, ⟨Nat.le_trans hS.1 (by omega), fun x h1 h2 => (o1 x (Nat.lt_of_lt_of_le h1 hS.1)).trans (hS.2.1 x h1 h2), hS.2.2⟩⟩
  rw [← am_ws_push (μ := μ) (μ' := am_mk μ z N ns) rfl rfl (fun j hj => am_mk_o hj)]
  refine (hP.kept fun k x hx => o1 x.1 ((hP k x hx).lt)).app fun k x hx => ?_
  have hk : k < 1 := (List.getElem?_eq_some_iff.mp hx).1
  rw [show k = 0 by omega] at hx
  cases hx
  exact hat
theorem am_ok_newa {at9 : ArrayType} {z t0 : Nat} {ty : FieldType} (hd : decode cc pc = .ok (.newarray at9, 2)) (hn : n = pc + 2) (hty : newarray.typeOf at9 = ty) (hz9 : (z = 0 ∧ ty = .int) ∨ (z = 1 ∧ ty = .boolean)) (hw : Cond.arrayClass ty ∈ am_tbl) : am_OK own cc nL ini pc (am_newa n z) := by
  intro p l e R s m args below meth cd D cI cZ b Q L S μ pc' L' S' μ' H locs ls cells slots hC h hB hr1 hr2 k
  unfold am_newa at h
  split at h
  · next x S0 =>
    obtain ⟨hi, h⟩ := am_bif h
    cases h
    have hin := am_inb_of hi
    obtain ⟨hx, hb, hml, ho, ht, -, hK, -⟩ := hC
    obtain ⟨hl, hz, hP, hS⟩ := hB
    subst hn
    subst hty
    have hx0 : ¬ x < 0 := fun q => hin (Or.inl q)
    have hx1 : x.toNatClampNeg < 65536 := Nat.not_le.mp fun q => hin (Or.inr q)
    have e1 : am_nx (am_mk μ z x.toNatClampNeg x.toNatClampNeg) = am_nx μ + 1 := rfl
    have e2 : am_ns (am_mk μ z x.toNatClampNeg x.toNatClampNeg) = am_ns μ + x.toNatClampNeg := rfl
    refine va_newaK hx hb (ht _ hw) rfl hd rfl hx0 rfl ?_ (by omega) (by omega) hz fun H1 cA q1 q2 q3 q4 q5 => ?_
    · rcases hz9 with ⟨-, g⟩ | ⟨-, g⟩ <;> rw [g] <;> simp only [componentBytes] <;> omega
    · have hat : va_at D am_cls (b + am_nx μ, am_ent b cI cZ (am_mk μ z x.toNatClampNeg x.toNatClampNeg) (am_nx μ)) H1 := by
        rcases hz9 with ⟨g1, g2⟩ | ⟨g1, g2⟩
        · have hc : cA = cI := by
            have h1 := (hK.2 0 (cI, .int) rfl).2
            rw [g2] at q5
            exact Option.some.inj (q5.symm.trans h1)
          rw [am_ent_i (by rw [am_mk_kd]; exact g1), am_mk_kd, am_mk_mi]
          show H1[b + am_nx μ]? = some (vp_cell _ _)
          rw [vp_cell_i, q1, g2, hc]
          rfl
        · have hc : cA = cZ := by
            have h1 := (hK.2 1 (cZ, .boolean) rfl).2
            rw [g2] at q5
            exact Option.some.inj (q5.symm.trans h1)
          rw [am_ent_z (by rw [am_mk_kd]; exact g1), am_mk_kd, am_mk_mi]
          show H1[b + am_nx μ]? = some (vp_cell _ _)
          rw [vp_cell_i, q1, g2, hc]
          rfl
      obtain ⟨g1, g2, g3⟩ := am_born hz hP hS (by rw [q2, hz]) (fun q hq => q3 q (by rw [← hz]; exact hq)) hat
      exact k H1 locs ls (cells + 1) (slots + x.toNatClampNeg) ⟨hl, g1, g2, g3⟩ (by omega) (by omega)
  · cases h
theorem am_ok_new {c ix N : Nat} {C : String} {T : u_T} {ty : Nat → FieldType} (hd : decode cc pc = .ok (.new ix, 3)) (hn : n = pc + 3) (hck : am_CK c C T N ty) (hw1 : Cond.classLink own ix C ∈ am_tbl) (hw2 : Cond.instantiable C N ∈ am_tbl) (hw3 : Cond.initialized C ∈ am_tbl) (hdf : ∀ j, j < N → defaultValue (ty j) = am_df ((am_fts c).getD j 0)) : am_OK own cc nL ini pc (am_new n c N) := by
  intro p l e R s m args below meth cd D cI cZ b Q L S μ pc' L' S' μ' H locs ls cells slots hC h hB hr1 hr2 k
  unfold am_new at h
  cases h
  obtain ⟨hx, hb, hml, ho, ht, -, hK, -⟩ := hC
  obtain ⟨hl, hz, hP, hS⟩ := hB
  obtain ⟨h1, h2, h3, h4, h5⟩ := hck
  subst hn
  have e1 : am_nx (am_mk μ (c + 2) 0 N) = am_nx μ + 1 := rfl
  have e2 : am_ns (am_mk μ (c + 2) 0 N) = am_ns μ + N := rfl
  have hKn := hK.1 c _ h1
  refine W.newcK hx hb ho (ht _ hw1) (ht _ hw2) (ht _ hw3) rfl hd (by omega) (by omega) hKn.2.1 hz fun H1 kC hkC q1 q2 q3 => ?_
  have hat : va_at D am_cls (b + am_nx μ, am_ent b cI cZ (am_mk μ (c + 2) 0 N) (am_nx μ)) H1 := by
    rw [am_ent_c (c := c) (by rw [am_mk_kd])]
    refine ⟨_, h1, (u_born ty ht h2 hKn hkC q1 h3).to fun j hj => ?_⟩
    have hj5 : j < (am_fts c).length := by rw [show (am_fts c).length = N from h5]; exact hj
    have e5 : (am_fts c)[j]? = some ((am_fts c).getD j 0) := by
      rw [List.getD_eq_getElem?_getD, List.getElem?_eq_getElem hj5]; rfl
    show _ = (am_flds b (am_mk μ (c + 2) 0 N) (am_nx μ) c).getD j .null
    rw [List.getD_eq_getElem?_getD, am_flds_at e5, hdf j hj]
    generalize (am_fts c).getD j 0 = t
    rcases t with _ | _ | _ | t <;> simp [am_df, am_val, am_mk_mi, am_mk_ml, am_mk_mr, am_v, va_rf]
  obtain ⟨g1, g2, g3⟩ := am_born hz hP hS (by rw [q2, hz]) (fun q hq => q3 q (by rw [← hz]; exact hq)) hat
  exact k H1 locs ls (cells + 1) (slots + N) ⟨hl, g1, g2, g3⟩ (by omega) (by omega)
theorem am_ok_obj {ix : Nat} (hd : decode cc pc = .ok (.invokespecial ix, 3)) (hn : n = pc + 3) (hw1 : Cond.methodLink own ix objectInit ∈ am_tbl) (hw2 : Cond.instanceMethod objectInit ∈ am_tbl) (hw3 : Cond.code objectInit ⟨#[0xb1]⟩ 1 none ∈ am_tbl) : am_OK own cc nL ini pc (am_obj n) := by
  intro p l e R s m args below meth cd D cI cZ b Q L S μ pc' L' S' μ' H locs ls cells slots hC h hB hr1 hr2 k
  unfold am_obj at h
  split at h
  · next q =>
    cases h
    obtain ⟨hx, hb, hml, ho, ht, -, hK, -, -, hf9, hl9⟩ := hC
    obtain ⟨hl, hz, hP, hS⟩ := hB
    subst hn
    refine W.objInit hx hb ho (ht _ hw1) (ht _ hw2) (ht _ hw3) rfl (by rw [hml]; exact hl.1) (rest := []) rfl hd hf9 (by show 2 * 0 + _ + 12 ≤ _; simp; omega) (k H locs ls cells slots ⟨hl, hz, hP, hS⟩ rfl rfl)
  · cases h
end
section
variable {p : Program} {l : Launch} {e : Env} {R : Room} {s : State} {m : MethodId} {args : Array Value} {below : List Frame} {meth : Method} {c : Code} {H : Heap} {locs : List Loc} {cells slots : Nat} {Q : State → Prop}
variable {cc : ByteArray} {pc : Nat} {ls : Array Slot} {rest : List Value} {D : va_G} {cl : List vw_C} {A : Nat → Prop} {a : Nat} {tys : List (ClassId × FieldType)} {ws : va_W} {H0 : Heap}
/-- arraycopy of ints, the heap as large as before -/
theorem am_rcpy (hexec : p.tables.exec = Jvm.exec) (hb : c.code = cc) (hml : c.maxLocals = ls.size) {own : String} {index : Nat} (hown : s.vm.findClass own = some m.cls) (hlink : (Cond.methodLink own index arraycopyName).before args s = true) (hnat : (Cond.native arraycopyName).before args s = true) (hstat : (Cond.static arraycopyName).before args s = true) (hini : (Cond.initialized "java/lang/System").before args s = true)
    (hK : va_K D cl tys s) (hP : va_P D cl ws H) (hD : va_D A ws) (hS : va_S A H0 H locs) (q0 q1 t0 : Nat) {a0 : Nat} {c0 : ClassId} {n0 n1 : Nat} {f g : Nat → Int32} (ha0 : ws[q0]? = some (a0, .inl (c0, n0, .inl f))) (ha1 : ws[q1]? = some (a, .inl (c0, n1, .inl g))) (ht0 : tys[t0]? = some (c0, .int))
    {sp dp n : Int32} (h1 : ¬ sp < 0) (h2 : ¬ dp < 0) (h3 : ¬ n < 0) (h4 : sp.toNatClampNeg + n.toNatClampNeg ≤ n0) (h5 : dp.toNatClampNeg + n.toNatClampNeg ≤ n1)
    (hframes : 1 ≤ R.frames) (hlocals : 64 ≤ R.locals) (hdg : decode cc pc = .ok (.invokestatic index, 3))
    (kk : ∀ (H1 : Heap) (locs1 : List Loc), H1.size = H.size → va_P D cl (ws.set q1 (a, .inl (c0, n1, .inl (va_cpy f g sp.toNatClampNeg dp.toNatClampNeg n.toNatClampNeg)))) H1 → va_S A H0 H1 locs1 → W p l e R s m args below meth c H1 locs1 cells slots Q (F0 m (pc + 3) ls [])) : W p l e R s m args below meth c H locs cells slots Q (F0 m pc ls (.int n :: .int dp :: .ref a :: .int sp :: .ref a0 :: [])) := by
  have nn : ∀ z : Int32, ¬ z < 0 → z.toInt = (z.toNatClampNeg : Int) := by
    intro z hz
    have hz0 : (0 : Int) ≤ z.toInt := by
      have := Int32.not_lt.mp hz
      simpa using Int32.le_iff_toInt_le.mp this
    show z.toInt = ((z.toInt.toNat : Nat) : Int)
    omega
  intro T hT X
  have hc0 : H[a0]? = some (vp_cell c0 (n0, .inl f)) := hP q0 _ ha0
  have hc1 : H[a]? = some (vp_cell c0 (n1, .inl g)) := hP q1 _ ha1
  obtain ⟨-, k0, hk0, cm0, hkk0⟩ := (hK.2 t0 _ ht0).1 n0 (fun j => .int (f j))
  obtain ⟨-, k1, hk1, cm1, hkk1⟩ := (hK.2 t0 _ ht0).1 n1 (fun j => .int (g j))
  obtain ⟨vm', X', step⟩ := X.arraycopy hexec hown hlink hnat hstat hini (src := a0) (dst := a) (cs := vp_cell c0 (n0, .inl f)) (cd := vp_cell c0 (n1, .inl g)) (srcPos := sp) (destPos := dp) (n := n) (by rw [hT]; exact hc0) (by rw [hT]; exact hc1)
    (fun _ h => by cases h) (fun _ h => by cases h) (fun h => by cases h) (fun h => by cases h) hk0 hk1 hkk0 hkk1 (by simp [refKind]) h1 h2 h3
    (by rw [nn sp h1, nn n h3]; show ¬ _ > ((arrV c0 n0 (fun j => .int (f j))).slots.size : Int); rw [arrV_size]; omega)
    (by rw [nn dp h2, nn n h3]; show ¬ _ > ((arrV c0 n1 (fun j => .int (g j))).slots.size : Int); rw [arrV_size]; omega)
    (fun vm₁ _ i hi => by
      have e : (vp_cell c0 (n0, .inl f)).slots.getD (sp.toNatClampNeg + i) .null = .int (f (sp.toNatClampNeg + i)) := by
        show (arrV c0 n0 (fun j => .int (f j))).slots.getD _ _ = _
        rw [Array.getD_eq_getD_getElem?, arrV_read _ _ (by omega)]
        rfl
      refine ⟨?_, ?_⟩
      · rw [e]
        rfl
      · rw [e]
        exact trivial)
    (g := F0 m pc ls (.int n :: .int dp :: .ref a :: .int sp :: .ref a0 :: [])) rfl (by rw [hml]) (rest := []) rfl (by rw [hb]; exact hdg) hframes (by show 2 * 0 + 0 + (nativeFrameWords "java/lang/System" "arraycopy" 5 + 11) ≤ _; rw [show nativeFrameWords "java/lang/System" "arraycopy" 5 = 7 by decide +kernel]; omega)
  have e1 : copied (vp_cell c0 (n0, .inl f)) (vp_cell c0 (n1, .inl g)) sp dp n = vp_cell c0 (n1, .inl (va_cpy f g sp.toNatClampNeg dp.toNatClampNeg n.toNatClampNeg)) := va_copied (fun z => .int z) c0 c0 f g h4
  rw [e1] at X' step
  have hl : a < H.size := (Array.getElem?_eq_some_iff.mp hc1).1
  have hheap : ((T.setVm vm').setCell a (vp_cell c0 (n1, .inl (va_cpy f g sp.toNatClampNeg dp.toNatClampNeg n.toNatClampNeg)))).heap = H.setIfInBounds a (vp_cell c0 (n1, .inl (va_cpy f g sp.toNatClampNeg dp.toNatClampNeg n.toNatClampNeg))) := by rw [← hT]; rfl
  have oq : ∀ q : Nat, q ≠ a → (H.setIfInBounds a (vp_cell c0 (n1, .inl (va_cpy f g sp.toNatClampNeg dp.toNatClampNeg n.toNatClampNeg))))[q]? = H[q]? := fun q hq => by simp [Array.getElem?_setIfInBounds, Ne.symm hq]
  obtain ⟨t, a1, b1⟩ := kk _ _ (by simp) (hP.set hD ha1 (show (H.setIfInBounds a _)[a]? = some _ by simp [Array.getElem?_setIfInBounds, hl]) oq) ⟨by simp; exact hS.1, fun q g1 g2 => by
      rw [oq q (fun e => g2 (by rw [e]; exact hD.2 q1 _ ha1))]
      exact hS.2.1 q g1 g2, fun q hq => by
      rcases List.mem_append.mp hq with h | h
      · exact hS.2.2 q h
      · obtain ⟨z, -, hz⟩ := List.mem_map.mp h
        rw [← hz]
        exact hD.2 q1 _ ha1⟩ _ hheap X'
  exact ⟨t, step t a1, b1⟩
end
section
variable {own : String} {cc : ByteArray} {nL pc n : Nat} {ini : Bool}
theorem am_ok_cpy {ix : Nat} (hd : decode cc pc = .ok (.invokestatic ix, 3)) (hn : n = pc + 3) (hw1 : Cond.methodLink own ix arraycopyName ∈ am_tbl) (hw2 : Cond.native arraycopyName ∈ am_tbl) (hw3 : Cond.static arraycopyName ∈ am_tbl) (hw4 : Cond.initialized "java/lang/System" ∈ am_tbl) : am_OK own cc nL ini pc (am_cpy n) := by
  intro p l e R s m args below meth cd D cI cZ b Q L S μ pc' L' S' μ' H locs ls cells slots hC h hB hr1 hr2 k
  unfold am_cpy at h
  split at h
  · next z dp a sp a0 =>
    obtain ⟨hi, h⟩ := am_bif h
    cases h
    simp only [Bool.and_eq_true, Bool.not_eq_true', decide_eq_false_iff_not] at hi
    obtain ⟨⟨⟨i1, i2⟩, ⟨i3, i4⟩, i5⟩, i6, i7⟩ := hi
    obtain ⟨g1, g2⟩ := am_is_of i1
    obtain ⟨g3, g4⟩ := am_is_of i2
    obtain ⟨hx, hb, hml, ho, ht, -, hK, -, -, hf9, hl9⟩ := hC
    obtain ⟨hl, hz, hP, hS⟩ := hB
    have he := am_ws_at (b := b) (cI := cI) (cZ := cZ) g2
    rw [am_ent_i g1] at he
    have he0 := am_ws_at (b := b) (cI := cI) (cZ := cZ) g4
    rw [am_ent_i g3] at he0
    subst hn
    refine am_rcpy hx hb (by rw [hml]; exact hl.1.symm) ho (ht _ hw1) (ht _ hw2) (ht _ hw3) (ht _ hw4) hK hP (am_ws_D b cI cZ μ) hS a0 a 0 he0 he rfl i3 i4 i5 (Nat.le_of_ble_eq_true i6) (Nat.le_of_ble_eq_true i7) hf9 hl9 hd (fun H1 locs1 z1 hP1 hS1 => k H1 locs1 ls cells slots ⟨hl, z1.trans hz, ?_, hS1⟩ rfl rfl)
    generalize hμ : ((fun q => bif Nat.beq q a then va_cpy (am_mi μ a0) (am_mi μ a) sp.toNatClampNeg dp.toNatClampNeg z.toNatClampNeg else am_mi μ q, μ.2) : am_M) = μ2
    have m1 : am_mi μ2 a = va_cpy (am_mi μ a0) (am_mi μ a) sp.toNatClampNeg dp.toNatClampNeg z.toNatClampNeg := by
      rw [← hμ]; show (bif Nat.beq a a then _ else _) = _; rw [am_beq_s]; rfl
    have m2 : ∀ q, q ≠ a → am_mi μ2 q = am_mi μ q := fun q hq => by
      rw [← hμ]; show (bif Nat.beq q a then _ else _) = _; rw [am_beq_n hq]; rfl
    have m3 : am_kd μ2 = am_kd μ := by rw [← hμ]
    rw [← am_ws_set (μ := μ) (μ' := μ2) (k := a) (by rw [← hμ]) (am_ent_i (by rw [m3]; exact g1)) (fun q hq => am_ent_congr (m2 q hq) (by rw [← hμ]) (by rw [← hμ]) (by rw [m3])), m1, m3]
    exact hP1
  · cases h
end
