/-! THE CLAIM, given the constructors and the pairs of calls -/
def am_e : am_M := (fun _ _ => 0, fun _ _ => 0, fun _ _ => none, fun _ => (0, 0), 0, 0)
/-- both constructors come to a memory with the invariant -/
def am_Born (I : am_M → Prop) : Prop := ∃ μA μB : am_M, am_D 900 0 1 [.ref 0] (am_mk am_e 11 0 10) (none, μA) ∧ am_nx μA = 88 ∧ am_ns μA ≤ 20000 ∧ am_D 900 143 2 [.ref 88] (am_mk μA 12 0 32) (none, μB) ∧ I μB ∧ am_nx μB ≤ 600 ∧ am_ns μB ≤ 60000
theorem am_know {s : State} {args : Array Value} {c : Nat} {C : String} {T : u_T} {N : Nat} {ty : Nat → FieldType} (hts : ∀ w ∈ am_tbl, w.before args s = true) (hck : am_CK c C T N ty) (hi : Cond.instantiable C N ∈ am_tbl) : ∃ (q : ClassId × (Nat → Nat)), u_Kn s C T N q.1 q.2 := by
  obtain ⟨cC, iS, h⟩ := u_known (C := C) (T := T) (N := N) hts hck.2.1 (hts _ hi)
  exact ⟨(cC, iS), h⟩
theorem am_arrK {s : State} {args : Array Value} {ty : FieldType} (h : (Cond.arrayClass ty).before args s = true) (hp : ∀ C, ty ≠ .object C) : ∃ cA : ClassId, ArrOfT s cA ty ∧ va_RA s cA ty := by
  obtain ⟨c, k, comp, h1, h2, h3⟩ := Cond.arrayClass_spec h
  refine ⟨c, fun n z => ⟨fun k h => (by cases h), k, h2, comp, h3⟩, ?_⟩
  cases ty <;> first | exact h1 | (exfalso; exact hp _ rfl)

section
variable {p : Program} {l : Launch} {e : Env} {s : State} {m : MethodId} {below : List Frame} {meth : Method} {c : Code} {b L : Nat} {xs : Nat → Int32} {D : va_G} {cI cZ : ClassId} {Q : State → Prop} {cells slots : Nat} {ls : Array Slot} {H : Heap} {locs : List Loc} {μ μ1 : am_M}
theorem lw_new {c0 ix N pc : Nat} {C0 : String} {T : u_T} {ty : Nat → FieldType} {st : List Value} (C : lw_Fx p s m c D cI cZ b L xs) (G : lw_G D cI cZ s μ H locs) (hd : decode code pc = .ok (.new ix, 3)) (hck : am_CK c0 C0 T N ty) (hw1 : Cond.classLink R_law ix C0 ∈ am_tbl) (hw2 : Cond.instantiable C0 N ∈ am_tbl) (hw3 : Cond.initialized C0 ∈ am_tbl) (hdf : ∀ j, j < N → defaultValue (ty j) = am_df ((am_fts c0).getD j 0)) (hcells : cells + 1 ≤ 600000) (hslots : slots + N ≤ 7302250)
    (kk : ∀ H1 : Heap, lw_G D cI cZ s (am_mk μ (c0 + 2) 0 N) H1 locs → W p l e room_1 s m #[Value.ref b] below meth c H1 locs (cells + 1) (slots + N) Q (F0 m (pc + 3) ls (.ref (s.heap.size + am_nx μ) :: st))) : W p l e room_1 s m #[Value.ref b] below meth c H locs cells slots Q (F0 m pc ls st) := by
  obtain ⟨hx, hb, hml, ho, ht, hN, hK, hX, hbl, hL⟩ := C
  obtain ⟨hz, hP, hS⟩ := G
  obtain ⟨h1, h2, h3, h4, h5⟩ := hck
  have hKn := hK.1 c0 _ h1
  refine W.newcK hx hb ho (ht _ hw1) (ht _ hw2) (ht _ hw3) rfl hd hcells hslots hKn.2.1 hz fun H1 kC hkC q1 q2 q3 => ?_
  have hat : va_at D am_cls (s.heap.size + am_nx μ, am_ent s.heap.size cI cZ (am_mk μ (c0 + 2) 0 N) (am_nx μ)) H1 := by
    rw [am_ent_c (c := c0) (by rw [am_mk_kd])]
    refine ⟨_, h1, (u_born ty ht h2 hKn hkC q1 h3).to fun j hj => ?_⟩
    have hj5 : j < (am_fts c0).length := by rw [show (am_fts c0).length = N from h5]; exact hj
    have e5 : (am_fts c0)[j]? = some ((am_fts c0).getD j 0) := by
      rw [List.getD_eq_getElem?_getD, List.getElem?_eq_getElem hj5]; rfl
    show _ = (am_flds s.heap.size (am_mk μ (c0 + 2) 0 N) (am_nx μ) c0).getD j .null
    rw [List.getD_eq_getElem?_getD, am_flds_at e5, hdf j hj]
    generalize (am_fts c0).getD j 0 = t
    rcases t with _ | _ | _ | t <;> simp [am_df, am_val, am_mk_mi, am_mk_ml, am_mk_mr, am_v, va_rf]
  exact kk H1 (am_born hz hP hS (by rw [q2, hz]) (fun q hq => q3 q (by rw [← hz]; exact hq)) hat)
theorem lw_init {j rid ix pc mc ms : Nat} {q : am_I} {rest : List Value} (C : lw_Fx p s m c D cI cZ b L xs) (G : lw_G D cI cZ s μ H locs) (hls : ls.size = 4) (hi : am_infos[j]? = some q) (hw1 : Cond.methodLink R_law ix q.1 ∈ am_tbl) (hw2 : Cond.instanceMethod q.1 ∈ am_tbl) (hini : Cond.initialized q.1.cls ∈ am_tbl) (hpar : (parseMethodDescriptor q.1.desc).map (fun d => d.parameters.length) = some 0) (hret : q.2.2.2 = none) (hnm : q.1.name = "<init>")
    (hD : am_D 900 j q.2.2.1 [.ref rid] μ (none, μ1)) (hmc : am_nx μ1 = mc + am_nx μ) (hms : am_ns μ1 = ms + am_ns μ) (hcat : (rest.map fun v => v.category).sum ≤ 8) (hcells : cells + mc ≤ 600000) (hslots : slots + ms ≤ 7302250) (hd : decode code pc = .ok (.invokespecial ix, 3))
    (kk : ∀ (H1 : Heap) (locs1 : List Loc), lw_G D cI cZ s μ1 H1 locs1 → W p l e room_1 s m #[Value.ref b] below meth c H1 locs1 (cells + mc) (slots + ms) Q (F0 m (pc + 3) ls rest)) : W p l e room_1 s m #[Value.ref b] below meth c H locs cells slots Q (F0 m pc ls (.ref (s.heap.size + rid) :: rest)) := by
  obtain ⟨hx, hb, hml, ho, ht, hN, hK, hX, hbl, hL⟩ := C
  obtain ⟨hz, hP, hS⟩ := G
  obtain ⟨k, L0, h1, h2, n, hrun⟩ := hD
  have hM := am_met am_all l D cI cZ s.heap.size (d := 900) (mc := mc) (ms := ms) hi h1 h2 hrun hmc hms
  obtain ⟨-, -, hcls, h24⟩ := am_all j q k hi h1
  have hG := am_good q (List.mem_of_getElem? hi)
  rw [show am_wsm q = .code q.1 q.2.1 q.2.2.1 none :: am_tbl by unfold am_wsm; rw [hret]] at hM hG
  have hroom : (am_rm 900 mc ms).frames + 1 ≤ room_1.frames ∧ 8 + (q.2.2.1 + 11) + (am_rm 900 mc ms).locals ≤ room_1.locals := ⟨Nat.le_of_ble_eq_true rfl, by show 8 + (q.2.2.1 + 11) + 57664 ≤ 84000; omega⟩
  refine am_goon (va_runI (As := []) (rest := rest) ⟨hx, hb, hml, ho, ht⟩ hM ⟨callB_of 0 ht hG rfl rfl rfl (ht _ hini) (ht _ hw1) ⟨hcls.1, hcls.2, hpar⟩ hroom, hnm, ht _ hw2⟩ ⟨am_blind D cI cZ s.heap.size μ _, fun U hU hW => ⟨rfl, am_In_warm hK hN hz hP hU hW⟩⟩ rfl rfl hls rfl (lv_room hcat) hd ⟨hcells, hslots⟩) hS fun H1 locs1 z1 P1 S1 => ?_
  exact kk H1 locs1 ⟨z1, P1, S1⟩
end
theorem am_start {I : am_M → Prop} (hA : am_Laws I) (hB : am_Born I) {p : Program} {e : Env} {s : State} {m : MethodId} {below : List Frame} {meth : Method} {c : Code} (l : Launch) {b L : Nat} {xs : Nat → Int32} (hL : L ≤ 3072) (C0 : lw_At p s m meth c b L xs) : W p l e room_1 s m #[Value.ref b] below meth c s.heap [] 0 0 (lw_Z below #[Value.ref b] s) (entryFrame m ([Value.ref b] : List Value).toArray 4) := by
  obtain ⟨hx, hb, hr, hml, hown, hts, hX, hbl, hlocks, hgv⟩ := id C0
  have ht : ∀ w ∈ am_tbl, w.before #[Value.ref b] s = true := fun w hw => hts w (List.mem_filter.mp hw).1
  have hN : ∀ w ∈ am_nst, va_Nw w s := by
    intro w hw
    have h1 := hts w (am_nst_in w hw)
    obtain ⟨q, -, rfl⟩ := List.mem_map.mp hw
    exact va_tabs rfl rfl h1
  obtain ⟨q0, k0⟩ := am_know ht ckX0 (am_in2 (k := 117) rfl rfl)
  obtain ⟨q1, k1⟩ := am_know ht ckX1 (am_in1 (k := 82) rfl rfl)
  obtain ⟨q2, k2⟩ := am_know ht ckX2 (am_in2 (k := 59) rfl rfl)
  obtain ⟨q3, k3⟩ := am_know ht ckX3 (am_in1 (k := 37) rfl rfl)
  obtain ⟨q4, k4⟩ := am_know ht ckX4 (am_in1 (k := 129) rfl rfl)
  obtain ⟨q5, k5⟩ := am_know ht ckX5 (am_in2 (k := 92) rfl rfl)
  obtain ⟨q6, k6⟩ := am_know ht ckX6 (am_in1 (k := 31) rfl rfl)
  obtain ⟨q7, k7⟩ := am_know ht ckX7 (am_in2 (k := 43) rfl rfl)
  obtain ⟨q8, k8⟩ := am_know ht ckX8 (am_in1 (k := 25) rfl rfl)
  obtain ⟨q9, k9⟩ := am_know ht ckX9 (am_in1 (k := 17) rfl rfl)
  obtain ⟨q10, k10⟩ := am_know ht ckX10 (am_in5 (k := 13) rfl rfl)
  obtain ⟨D, hD⟩ : ∃ D : va_G, ∀ (c : Nat) (q : vw_C), am_cls[c]? = some q → u_Kn s q.1 q.2.1 q.2.2 (D.1 c) (D.2 c) := by
    refine ⟨(fun k => match k with | 0 => q0.1 | 1 => q1.1 | 2 => q2.1 | 3 => q3.1 | 4 => q4.1 | 5 => q5.1 | 6 => q6.1 | 7 => q7.1 | 8 => q8.1 | 9 => q9.1 | _ => q10.1, fun k => match k with | 0 => q0.2 | 1 => q1.2 | 2 => q2.2 | 3 => q3.2 | 4 => q4.2 | 5 => q5.2 | 6 => q6.2 | 7 => q7.2 | 8 => q8.2 | 9 => q9.2 | _ => q10.2), ?_⟩
    intro k q hq
    match k, hq with
    | 0, hq => cases hq; exact k0
    | 1, hq => cases hq; exact k1
    | 2, hq => cases hq; exact k2
    | 3, hq => cases hq; exact k3
    | 4, hq => cases hq; exact k4
    | 5, hq => cases hq; exact k5
    | 6, hq => cases hq; exact k6
    | 7, hq => cases hq; exact k7
    | 8, hq => cases hq; exact k8
    | 9, hq => cases hq; exact k9
    | 10, hq => cases hq; exact k10
    | k + 11, hq => simp [am_cls] at hq
  obtain ⟨cI, hcI⟩ := am_arrK (ht _ (am_in1 (k := 80) rfl rfl)) (fun C h => by cases h)
  obtain ⟨cZ, hcZ⟩ := am_arrK (ht _ (am_in5 (k := 122) rfl rfl)) (fun C h => by cases h)
  have hK : va_K D am_cls [(cI, .int), (cZ, .boolean)] s := by
    refine ⟨hD, fun k q hk => ?_⟩
    match k, hk with
    | 0, hk => cases hk; exact hcI
    | 1, hk => cases hk; exact hcZ
    | k + 2, hk => simp at hk
  have C : lw_Fx p s m c D cI cZ b L xs := ⟨hx, hb, hml, hown, ht, hN, hK, hX, hbl, hL⟩
  obtain ⟨μA, μB, b1, b2, b3, b4, b5, b6, b7⟩ := hB
  have hl := lv_entry ([.ref b]) (n := 4) (Nat.le_of_ble_eq_true rfl)
  rw [lg_entry_eq]
  generalize (lg_sl ([.ref b]) ++ List.replicate (4 - (lg_sl ([.ref b])).length) Slot.unset).toArray = ls at hl ⊢
  have hl : lv_has ls 4 [(0, .ref b)] := hl
  have G0 : lw_G D cI cZ s am_e s.heap [] := ⟨rfl, (fun k q h => by (have h9 : am_ws s.heap.size cI cZ am_e = [] := rfl); (rw [h9] at h); (cases h)), va_S.rf⟩
  refine lw_new (c0 := 9) C G0 (show decode code 0 = .ok (.new 7, 3) by decide +kernel) ckX9 (am_in1 (k := 16) rfl rfl) (am_in1 (k := 17) rfl rfl) (am_in1 (k := 1) rfl rfl) (by decide +kernel) (by omega) (by omega) (fun H1 G1 => ?_)
  refine lv_dup hx hb (show decode code 3 = .ok (.dup, 1) by decide +kernel) rfl ?_
  have hnA : am_nx (am_mk am_e (9 + 2) 0 10) = 1 := rfl
  have hsA : am_ns (am_mk am_e (9 + 2) 0 10) = 10 := rfl
  have mA : 10 ≤ am_ns μA := by
    obtain ⟨k, L0, g1, g2, n, g3⟩ := b1
    exact (am_run_mo am_all n 900 0 _ k 0 L0 [] _ _ _ at_0 g1 g3).2
  refine lw_init (j := 0) (rid := 0) (mc := 87) (ms := am_ns μA - 10) (rest := [.ref (s.heap.size + 0)]) C G1 hl.1 at_0 (am_in1 (k := 18) rfl rfl) (am_in1 (k := 19) rfl rfl) (am_in1 (k := 1) rfl rfl) par_0 rfl rfl b1 (by rw [b2, hnA]) (by rw [hsA]; omega) (Nat.le_of_ble_eq_true rfl) (by omega) (by omega) (show decode code 4 = .ok (.invokespecial 9, 3) by decide +kernel) (fun H2 locs2 G2 => ?_)
  refine lv_astore_n (lv' := [(1, .ref (s.heap.size + 0)), (0, .ref b)]) hx hb (show decode code 7 = .ok (.astore_n 1, 1) by decide +kernel) rfl hl (by decide) rfl (fun ls hl => ?_)
  refine lw_new (c0 := 10) C G2 (show decode code 8 = .ok (.new 10, 3) by decide +kernel) ckX10 (am_in5 (k := 12) rfl rfl) (am_in5 (k := 13) rfl rfl) (am_in1 (k := 11) rfl rfl) (by decide +kernel) (by omega) (by omega) (fun H3 G3 => ?_)
  refine lv_dup hx hb (show decode code 11 = .ok (.dup, 1) by decide +kernel) rfl ?_
  rw [b2]
  have hnB : am_nx (am_mk μA (10 + 2) 0 32) = 89 := by show am_nx μA + 1 = 89; rw [b2]
  have hsB : am_ns (am_mk μA (10 + 2) 0 32) = am_ns μA + 32 := rfl
  have mB : 89 ≤ am_nx μB ∧ am_ns μA + 32 ≤ am_ns μB := by
    obtain ⟨k, L0, g1, g2, n, g3⟩ := b4
    have h9 := am_run_mo am_all n 900 143 _ k 0 L0 [] _ _ _ at_143 g1 g3
    exact ⟨by rw [← hnB]; exact h9.1, by rw [← hsB]; exact h9.2⟩
  refine lw_init (j := 143) (rid := 88) (mc := am_nx μB - 89) (ms := am_ns μB - (am_ns μA + 32)) (rest := [.ref (s.heap.size + 88)]) C G3 hl.1 at_143 (am_in5 (k := 14) rfl rfl) (am_in5 (k := 15) rfl rfl) (am_in1 (k := 11) rfl rfl) par_143 rfl rfl b4 (by rw [hnB]; omega) (by rw [hsB]; omega) (Nat.le_of_ble_eq_true rfl) (by omega) (by omega) (show decode code 12 = .ok (.invokespecial 12, 3) by decide +kernel) (fun H4 locs4 G4 => ?_)
  refine lv_astore_n (lv' := [(2, .ref (s.heap.size + 88)), (1, .ref (s.heap.size + 0)), (0, .ref b)]) hx hb (show decode code 15 = .ok (.astore_n 2, 1) by decide +kernel) rfl hl (by decide) rfl (fun ls hl => ?_)
  refine lv_iconst (v := 0) hx hb (show decode code 16 = .ok (.iconst 0, 1) by decide +kernel) (by decide) ?_
  refine lv_istore_n (lv' := [(3, .int 0), (2, .ref (s.heap.size + 88)), (1, .ref (s.heap.size + 0)), (0, .ref b)]) hx hb (show decode code 17 = .ok (.istore_n 3, 1) by decide +kernel) rfl hl (by decide) rfl (fun ls hl => ?_)
  exact lw_loop hA hr hlocks C (by omega) (by omega) (L + 7) 0 μB H4 locs4 ls (by omega) (by omega) b5 G4 (lv_sub hl [3, 2, 1, 0] rfl)
