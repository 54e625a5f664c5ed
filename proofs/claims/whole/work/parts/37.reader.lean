/-! reader, tape, grounds (wip/whole/m5.py) -/
theorem am_inbH {x y : Int32} {n : Nat} (h0 : ¬ x < 0) (h1 : ¬ y ≤ x) (hy : y.toInt = (n : Int)) : am_inb x n = true := by
  rw [Int32.lt_iff_toInt_lt] at h0
  rw [Int32.le_iff_toInt_le, hy] at h1
  have : (0 : Int32).toInt = 0 := rfl
  exact am_inbI (by omega) (by omega)
theorem am_inbP {x : Int32} (h0 : ¬ x ≤ 0) (h1 : ¬ (80 : Int32) < x) (h2 : (1 : Int32).toInt = 1) : am_inb (x - 1) 80 = true := by
  rw [Int32.le_iff_toInt_le] at h0
  rw [Int32.lt_iff_toInt_lt] at h1
  have g0 : (0 : Int32).toInt = 0 := rfl
  have g8 : (80 : Int32).toInt = 80 := rfl
  have e := am_subT (v := x) (k := 1) (by omega) (by omega)
  exact am_inbI (by omega) (by omega)
/-- AccessLattice$Tape.at -/
def fn_tapeAt (place : Int32) (f : Nat → Nat → Int32) : Int32 := (if place < 0 then 0 else (if (f 75 1) ≤ place then 0 else (if 80 ≤ place then 0 else f 76 place.toNatClampNeg)))
theorem x_tapeAt (place : Int32) (f : Nat → Nat → Int32) (g : Nat → Nat → Int64)  : am_D 0 50 2 [.ref 75, .int place] (am_S f g) (some (Value.int (fn_tapeAt place f)), am_S f g) := by
  refine am_D.of (code := am_k_50) rfl (L0 := [.ref 75, .int place]) rfl ?_
  generalize hres : (some (Value.int (fn_tapeAt place f)), am_S f g) = res
  obtain ⟨K, hKd⟩ : ∃ K : Int32 → Prop, K = fun z => (some (Value.int z), am_S f g) = res := ⟨_, rfl⟩
  have hK : K (fn_tapeAt place f) := by rw [hKd]; exact hres
  clear hres
  unfold fn_tapeAt at hK
  refine am_F.ops (pc' := 1) (L' := [.ref 75, .int place]) (S' := [.int place]) (μ' := (am_S f g)) 1 rfl ?_
  refine am_F.to (am_To.ite (pc' := 31) (L2 := [.ref 75, .int place]) (S2 := []) (μ2 := (am_S f g)) (a := 0) (b := (if (f 75 1) ≤ place then 0 else (if 80 ≤ place then 0 else f 76 place.toNatClampNeg))) 1 rfl (fun c1 => ?_) (fun c1 => ?_)) ?_
  · intro res9 g9
    show am_F _ _ 30 [.ref 75, .int place] [] (am_S f g) _
    refine am_F.ops (pc' := 31) (L' := [.ref 75, .int place]) (S' := [.int 0]) (μ' := (am_S f g)) 1 rfl ?_
    exact g9
  · intro res9 g9
    show am_F _ _ 4 [.ref 75, .int place] [] (am_S f g) _
    refine am_F.ops (pc' := 9) (L' := [.ref 75, .int place]) (S' := [.int (f 75 1), .int place]) (μ' := (am_S f g)) 3 rfl ?_
    refine am_F.to (am_To.ite (pc' := 31) (L2 := [.ref 75, .int place]) (S2 := []) (μ2 := (am_S f g)) (a := 0) (b := (if 80 ≤ place then 0 else f 76 place.toNatClampNeg)) 1 rfl (fun c2 => ?_) (fun c2 => ?_)) g9
    · intro res9 g9
      show am_F _ _ 30 [.ref 75, .int place] [] (am_S f g) _
      refine am_F.ops (pc' := 31) (L' := [.ref 75, .int place]) (S' := [.int 0]) (μ' := (am_S f g)) 1 rfl ?_
      exact g9
    · intro res9 g9
      show am_F _ _ 12 [.ref 75, .int place] [] (am_S f g) _
      refine am_F.ops (pc' := 18) (L' := [.ref 75, .int place]) (S' := [.int 80, .int place]) (μ' := (am_S f g)) 4 rfl ?_
      refine am_F.to (am_To.ite (pc' := 31) (L2 := [.ref 75, .int place]) (S2 := []) (μ2 := (am_S f g)) (a := 0) (b := f 76 place.toNatClampNeg) 1 rfl (fun c3 => ?_) (fun c3 => ?_)) g9
      · intro res9 g9
        show am_F _ _ 30 [.ref 75, .int place] [] (am_S f g) _
        refine am_F.ops (pc' := 31) (L' := [.ref 75, .int place]) (S' := [.int 0]) (μ' := (am_S f g)) 1 rfl ?_
        exact g9
      · intro res9 g9
        show am_F _ _ 21 [.ref 75, .int place] [] (am_S f g) _
        refine am_F.ops (pc' := 26) (L' := [.ref 75, .int place]) (S' := [.int place, .ref 76]) (μ' := (am_S f g)) 3 rfl ?_
        refine am_F.ial (N := 80) rfl rfl rfl (am_inbH (y := 80) (by assumption) (by assumption) rfl) ?_
        show am_F _ _ 27 [.ref 75, .int place] [.int (f 76 place.toNatClampNeg)] (am_S f g) _
        refine am_F.ops (pc' := 31) (L' := [.ref 75, .int place]) (S' := [.int (f 76 place.toNatClampNeg)]) (μ' := (am_S f g)) 1 rfl ?_
        exact g9
  show am_F _ _ 31 [.ref 75, .int place] [.int (if place < 0 then 0 else (if (f 75 1) ≤ place then 0 else (if 80 ≤ place then 0 else f 76 place.toNatClampNeg)))] (am_S f g) _
  subst hKd
  exact am_F.eq (am_F.ret rfl rfl) hK
/-- AccessLattice$Tape.isFigure -/
def fn_isFigure (place : Int32) (f : Nat → Nat → Int32) : Bool := (fn_between (fn_tapeAt place f) 48 57)
theorem x_isFigure (place : Int32) (f : Nat → Nat → Int32) (g : Nat → Nat → Int64)  : am_D 1 59 2 [.ref 75, .int place] (am_S f g) (some (Value.int (am_b (fn_isFigure place f))), am_S f g) := by
  refine am_D.of (code := am_k_59) rfl (L0 := [.ref 75, .int place]) rfl ?_
  generalize hres : (some (Value.int (am_b (fn_isFigure place f))), am_S f g) = res
  obtain ⟨K, hKd⟩ : ∃ K : Bool → Prop, K = fun z => (some (Value.int (am_b z)), am_S f g) = res := ⟨_, rfl⟩
  have hK : K (fn_isFigure place f) := by rw [hKd]; exact hres
  clear hres
  unfold fn_isFigure at hK
  refine am_F.ops (pc' := 2) (L' := [.ref 75, .int place]) (S' := [.int place, .ref 75]) (μ' := (am_S f g)) 2 rfl ?_
  refine am_F.call rfl rfl (x_tapeAt place f g ) (by decide) ?_
  show am_F _ _ 5 [.ref 75, .int place] [.int (fn_tapeAt place f)] (am_S f g) _
  refine am_F.ops (pc' := 9) (L' := [.ref 75, .int place]) (S' := [.int 57, .int 48, .int (fn_tapeAt place f)]) (μ' := (am_S f g)) 2 rfl ?_
  refine am_F.call rfl rfl (x_between (fn_tapeAt place f) 48 57 f g ) (by decide) ?_
  show am_F _ _ 12 [.ref 75, .int place] [.int (am_b (fn_between (fn_tapeAt place f) 48 57))] (am_S f g) _
  subst hKd
  exact am_F.eq (am_F.ret rfl (am_retB _ _)) hK
/-- AccessLattice$Reader.rankOf -/
def fn_rankOf (mark : Int32) : Int32 := (if mark = 38 then 2 else (if mark = 42 then 5 else (if mark = 43 then 4 else (if mark = 45 then 4 else (if mark = 60 then 3 else (if mark = 61 then 3 else (if mark = 62 then 3 else (if mark = 124 then 1 else 0))))))))
theorem x_rankOf (mark : Int32) (f : Nat → Nat → Int32) (g : Nat → Nat → Int64)  : am_D 0 61 1 [.int mark] (am_S f g) (some (Value.int (fn_rankOf mark)), am_S f g) := by
  refine am_D.of (code := am_k_61) rfl (L0 := [.int mark]) rfl ?_
  generalize hres : (some (Value.int (fn_rankOf mark)), am_S f g) = res
  obtain ⟨K, hKd⟩ : ∃ K : Int32 → Prop, K = fun z => (some (Value.int z), am_S f g) = res := ⟨_, rfl⟩
  have hK : K (fn_rankOf mark) := by rw [hKd]; exact hres
  clear hres
  unfold fn_rankOf at hK
  refine am_F.ops (pc' := 1) (L' := [.int mark]) (S' := [.int mark]) (μ' := (am_S f g)) 1 rfl ?_
  refine am_F.ops (pc' := am_ltg [(38, 78), (42, 84), (43, 82), (45, 82), (60, 80), (61, 80), (62, 80), (124, 76)] 86 mark) (L' := [.int mark]) (S' := []) (μ' := (am_S f g)) 1 rfl ?_
  refine am_F.ltg K hK (fun c1 hK => ?_) (fun c1 hK => ?_)
  · show am_F _ _ 78 [.int mark] [] (am_S f g) _
    refine am_F.ops (pc' := 79) (L' := [.int mark]) (S' := [.int 2]) (μ' := (am_S f g)) 1 rfl ?_
    subst hKd
    exact am_F.eq (am_F.ret rfl rfl) hK
  · skip
    refine am_F.ltg K hK (fun c2 hK => ?_) (fun c2 hK => ?_)
    · show am_F _ _ 84 [.int mark] [] (am_S f g) _
      refine am_F.ops (pc' := 85) (L' := [.int mark]) (S' := [.int 5]) (μ' := (am_S f g)) 1 rfl ?_
      subst hKd
      exact am_F.eq (am_F.ret rfl rfl) hK
    · skip
      refine am_F.ltg K hK (fun c3 hK => ?_) (fun c3 hK => ?_)
      · show am_F _ _ 82 [.int mark] [] (am_S f g) _
        refine am_F.ops (pc' := 83) (L' := [.int mark]) (S' := [.int 4]) (μ' := (am_S f g)) 1 rfl ?_
        subst hKd
        exact am_F.eq (am_F.ret rfl rfl) hK
      · skip
        refine am_F.ltg K hK (fun c4 hK => ?_) (fun c4 hK => ?_)
        · show am_F _ _ 82 [.int mark] [] (am_S f g) _
          refine am_F.ops (pc' := 83) (L' := [.int mark]) (S' := [.int 4]) (μ' := (am_S f g)) 1 rfl ?_
          subst hKd
          exact am_F.eq (am_F.ret rfl rfl) hK
        · skip
          refine am_F.ltg K hK (fun c5 hK => ?_) (fun c5 hK => ?_)
          · show am_F _ _ 80 [.int mark] [] (am_S f g) _
            refine am_F.ops (pc' := 81) (L' := [.int mark]) (S' := [.int 3]) (μ' := (am_S f g)) 1 rfl ?_
            subst hKd
            exact am_F.eq (am_F.ret rfl rfl) hK
          · skip
            refine am_F.ltg K hK (fun c6 hK => ?_) (fun c6 hK => ?_)
            · show am_F _ _ 80 [.int mark] [] (am_S f g) _
              refine am_F.ops (pc' := 81) (L' := [.int mark]) (S' := [.int 3]) (μ' := (am_S f g)) 1 rfl ?_
              subst hKd
              exact am_F.eq (am_F.ret rfl rfl) hK
            · skip
              refine am_F.ltg K hK (fun c7 hK => ?_) (fun c7 hK => ?_)
              · show am_F _ _ 80 [.int mark] [] (am_S f g) _
                refine am_F.ops (pc' := 81) (L' := [.int mark]) (S' := [.int 3]) (μ' := (am_S f g)) 1 rfl ?_
                subst hKd
                exact am_F.eq (am_F.ret rfl rfl) hK
              · skip
                refine am_F.ltg K hK (fun c8 hK => ?_) (fun c8 hK => ?_)
                · show am_F _ _ 76 [.int mark] [] (am_S f g) _
                  refine am_F.ops (pc' := 77) (L' := [.int mark]) (S' := [.int 1]) (μ' := (am_S f g)) 1 rfl ?_
                  subst hKd
                  exact am_F.eq (am_F.ret rfl rfl) hK
                · skip
                  show am_F _ _ 86 [.int mark] [] (am_S f g) _
                  refine am_F.ops (pc' := 87) (L' := [.int mark]) (S' := [.int 0]) (μ' := (am_S f g)) 1 rfl ?_
                  subst hKd
                  exact am_F.eq (am_F.ret rfl rfl) hK
/-- AccessLattice$Reader.start -/
def fn_rdStart (f : Nat → Nat → Int32) : (Nat → Int32) := upd (upd (upd (upd (upd (upd (f 77) 2 0) 3 0) 4 0) 5 0) 6 (-1)) 7 1
theorem x_rdStart (f : Nat → Nat → Int32) (g : Nat → Nat → Int64)  : am_D 0 48 1 [.ref 77] (am_S f g) ((none : Option Value), am_S (am_row f 77 (fn_rdStart f)) g) := by
  refine am_D.of (code := am_k_48) rfl (L0 := [.ref 77]) rfl ?_
  generalize hres : ((none : Option Value), am_S (am_row f 77 (fn_rdStart f)) g) = res
  obtain ⟨K, hKd⟩ : ∃ K : (Nat → Int32) → Prop, K = fun z => ((none : Option Value), am_S (am_row f 77 z) g) = res := ⟨_, rfl⟩
  have hK : K (fn_rdStart f) := by rw [hKd]; exact hres
  clear hres
  unfold fn_rdStart at hK
  refine am_F.ops (pc' := 2) (L' := [.ref 77]) (S' := [.int 0, .ref 77]) (μ' := (am_S f g)) 2 rfl ?_
  refine am_F.pfi (F' := (am_row f 77 (upd (f 77) 2 0))) rfl rfl (by first | rfl | (funext a; by_cases z0 : a = 77; (subst z0; rfl); simp only [am_ui, am_ul, am_row_ne z0])) ?_
  refine am_F.ops (pc' := 7) (L' := [.ref 77]) (S' := [.int 0, .ref 77]) (μ' := (am_S (am_row f 77 (upd (f 77) 2 0)) g)) 2 rfl ?_
  refine am_F.pfi (F' := (am_row f 77 (upd (upd (f 77) 2 0) 3 0))) rfl rfl (by first | rfl | (funext a; by_cases z0 : a = 77; (subst z0; rfl); simp only [am_ui, am_ul, am_row_ne z0])) ?_
  refine am_F.ops (pc' := 12) (L' := [.ref 77]) (S' := [.int 0, .ref 77]) (μ' := (am_S (am_row f 77 (upd (upd (f 77) 2 0) 3 0)) g)) 2 rfl ?_
  refine am_F.pfi (F' := (am_row f 77 (upd (upd (upd (f 77) 2 0) 3 0) 4 0))) rfl rfl (by first | rfl | (funext a; by_cases z0 : a = 77; (subst z0; rfl); simp only [am_ui, am_ul, am_row_ne z0])) ?_
  refine am_F.ops (pc' := 17) (L' := [.ref 77]) (S' := [.int 0, .ref 77]) (μ' := (am_S (am_row f 77 (upd (upd (upd (f 77) 2 0) 3 0) 4 0)) g)) 2 rfl ?_
  refine am_F.pfi (F' := (am_row f 77 (upd (upd (upd (upd (f 77) 2 0) 3 0) 4 0) 5 0))) rfl rfl (by first | rfl | (funext a; by_cases z0 : a = 77; (subst z0; rfl); simp only [am_ui, am_ul, am_row_ne z0])) ?_
  refine am_F.ops (pc' := 22) (L' := [.ref 77]) (S' := [.int (-1), .ref 77]) (μ' := (am_S (am_row f 77 (upd (upd (upd (upd (f 77) 2 0) 3 0) 4 0) 5 0)) g)) 2 rfl ?_
  refine am_F.pfi (F' := (am_row f 77 (upd (upd (upd (upd (upd (f 77) 2 0) 3 0) 4 0) 5 0) 6 (-1)))) rfl rfl (by first | rfl | (funext a; by_cases z0 : a = 77; (subst z0; rfl); simp only [am_ui, am_ul, am_row_ne z0])) ?_
  refine am_F.ops (pc' := 27) (L' := [.ref 77]) (S' := [.int 1, .ref 77]) (μ' := (am_S (am_row f 77 (upd (upd (upd (upd (upd (f 77) 2 0) 3 0) 4 0) 5 0) 6 (-1))) g)) 2 rfl ?_
  refine am_F.pfz (F' := (am_row f 77 (upd (upd (upd (upd (upd (upd (f 77) 2 0) 3 0) 4 0) 5 0) 6 (-1)) 7 1))) rfl rfl rfl (by first | rfl | (funext a; by_cases z0 : a = 77; (subst z0; rfl); simp only [am_ui, am_ul, am_row_ne z0])) ?_
  subst hKd
  exact am_F.eq (am_F.ret rfl rfl) hK
/-- AccessLattice$Reader.push -/
def fn_push (mark : Int32) (f : Nat → Nat → Int32) : (Nat → Int32) × (Nat → Int32) := (if (f 77 3) < 0 then (f 77, f 79) else (if 80 ≤ (f 77 3) then (f 77, f 79) else (upd (f 77) 3 ((f 77 3) + 1), upd (f 79) ((f 77 3).toNatClampNeg) mark)))
theorem x_push (mark : Int32) (f : Nat → Nat → Int32) (g : Nat → Nat → Int64)  : am_D 0 52 2 [.ref 77, .int mark] (am_S f g) ((none : Option Value), am_S (am_row (am_row f 77 ((fn_push mark f).1)) 79 ((fn_push mark f).2)) g) := by
  refine am_D.of (code := am_k_52) rfl (L0 := [.ref 77, .int mark]) rfl ?_
  generalize hres : ((none : Option Value), am_S (am_row (am_row f 77 ((fn_push mark f).1)) 79 ((fn_push mark f).2)) g) = res
  obtain ⟨K, hKd⟩ : ∃ K : ((Nat → Int32) × (Nat → Int32)) → Prop, K = fun z => ((none : Option Value), am_S (am_row (am_row f 77 z.1) 79 z.2) g) = res := ⟨_, rfl⟩
  have hK : K (fn_push mark f) := by rw [hKd]; exact hres
  clear hres
  unfold fn_push at hK
  refine am_F.ops (pc' := 4) (L' := [.ref 77, .int mark]) (S' := [.int (f 77 3)]) (μ' := (am_S f g)) 2 rfl ?_
  refine am_F.iteK 1 rfl K hK (fun c2 hK => ?_) (fun c2 hK => ?_)
  · show am_F _ _ 39 [.ref 77, .int mark] [] (am_S f g) _
    refine am_F.mem (F' := (am_row (am_row f 77 (f 77)) 79 (f 79))) (G' := g) ?_ (by first | rfl | (funext a; by_cases z0 : a = 77; (subst z0; rfl); by_cases z1 : a = 79; (subst z1; rfl); simp only [am_ui, am_ul, am_row_ne z0, am_row_ne z1])) (by first | rfl | (funext a; by_cases z0 : a = 77; (subst z0; rfl); by_cases z1 : a = 79; (subst z1; rfl); simp only [am_ui, am_ul, am_row_ne z0, am_row_ne z1]))
    subst hKd
    exact am_F.eq (am_F.ret rfl rfl) hK
  · show am_F _ _ 7 [.ref 77, .int mark] [] (am_S f g) _
    refine am_F.ops (pc' := 16) (L' := [.ref 77, .int mark]) (S' := [.int 80, .int (f 77 3)]) (μ' := (am_S f g)) 5 rfl ?_
    refine am_F.iteK 1 rfl K hK (fun c4 hK => ?_) (fun c4 hK => ?_)
    · show am_F _ _ 39 [.ref 77, .int mark] [] (am_S f g) _
      refine am_F.mem (F' := (am_row (am_row f 77 (f 77)) 79 (f 79))) (G' := g) ?_ (by first | rfl | (funext a; by_cases z0 : a = 77; (subst z0; rfl); by_cases z1 : a = 79; (subst z1; rfl); simp only [am_ui, am_ul, am_row_ne z0, am_row_ne z1])) (by first | rfl | (funext a; by_cases z0 : a = 77; (subst z0; rfl); by_cases z1 : a = 79; (subst z1; rfl); simp only [am_ui, am_ul, am_row_ne z0, am_row_ne z1]))
      subst hKd
      exact am_F.eq (am_F.ret rfl rfl) hK
    · show am_F _ _ 19 [.ref 77, .int mark] [] (am_S f g) _
      refine am_F.ops (pc' := 28) (L' := [.ref 77, .int mark]) (S' := [.int mark, .int (f 77 3), .ref 79]) (μ' := (am_S f g)) 5 rfl ?_
      refine am_F.ias (F' := (am_row f 79 (upd (f 79) ((f 77 3).toNatClampNeg) mark))) (N := 80) rfl rfl rfl (am_inbH (y := 80) (by assumption) (by assumption) rfl) (by first | rfl | (funext a; by_cases z0 : a = 79; (subst z0; rfl); simp only [am_ui, am_ul, am_row_ne z0])) ?_
      refine am_F.ops (pc' := 36) (L' := [.ref 77, .int mark]) (S' := [.int ((f 77 3) + 1), .ref 77]) (μ' := (am_S (am_row f 79 (upd (f 79) ((f 77 3).toNatClampNeg) mark)) g)) 5 rfl ?_
      refine am_F.pfi (F' := (am_row (am_row f 77 (upd (f 77) 3 ((f 77 3) + 1))) 79 (upd (f 79) ((f 77 3).toNatClampNeg) mark))) rfl rfl (by first | rfl | (funext a; by_cases z0 : a = 77; (subst z0; rfl); by_cases z1 : a = 79; (subst z1; rfl); simp only [am_ui, am_ul, am_row_ne z0, am_row_ne z1])) ?_
      subst hKd
      exact am_F.eq (am_F.ret rfl rfl) hK
/-- AccessLattice$Reader.emit -/
def fn_emit (value : Int32) (f : Nat → Nat → Int32) : (Nat → Int32) × (Nat → Int32) := (if (f 77 2) < 0 then (f 77, f 78) else (if 80 ≤ (f 77 2) then (f 77, f 78) else (upd (f 77) 2 ((f 77 2) + 1), upd (f 78) ((f 77 2).toNatClampNeg) value)))
theorem x_emit (value : Int32) (f : Nat → Nat → Int32) (g : Nat → Nat → Int64)  : am_D 0 55 2 [.ref 77, .int value] (am_S f g) ((none : Option Value), am_S (am_row (am_row f 77 ((fn_emit value f).1)) 78 ((fn_emit value f).2)) g) := by
  refine am_D.of (code := am_k_55) rfl (L0 := [.ref 77, .int value]) rfl ?_
  generalize hres : ((none : Option Value), am_S (am_row (am_row f 77 ((fn_emit value f).1)) 78 ((fn_emit value f).2)) g) = res
  obtain ⟨K, hKd⟩ : ∃ K : ((Nat → Int32) × (Nat → Int32)) → Prop, K = fun z => ((none : Option Value), am_S (am_row (am_row f 77 z.1) 78 z.2) g) = res := ⟨_, rfl⟩
  have hK : K (fn_emit value f) := by rw [hKd]; exact hres
  clear hres
  unfold fn_emit at hK
  refine am_F.ops (pc' := 4) (L' := [.ref 77, .int value]) (S' := [.int (f 77 2)]) (μ' := (am_S f g)) 2 rfl ?_
  refine am_F.iteK 1 rfl K hK (fun c2 hK => ?_) (fun c2 hK => ?_)
  · show am_F _ _ 39 [.ref 77, .int value] [] (am_S f g) _
    refine am_F.mem (F' := (am_row (am_row f 77 (f 77)) 78 (f 78))) (G' := g) ?_ (by first | rfl | (funext a; by_cases z0 : a = 77; (subst z0; rfl); by_cases z1 : a = 78; (subst z1; rfl); simp only [am_ui, am_ul, am_row_ne z0, am_row_ne z1])) (by first | rfl | (funext a; by_cases z0 : a = 77; (subst z0; rfl); by_cases z1 : a = 78; (subst z1; rfl); simp only [am_ui, am_ul, am_row_ne z0, am_row_ne z1]))
    subst hKd
    exact am_F.eq (am_F.ret rfl rfl) hK
  · show am_F _ _ 7 [.ref 77, .int value] [] (am_S f g) _
    refine am_F.ops (pc' := 16) (L' := [.ref 77, .int value]) (S' := [.int 80, .int (f 77 2)]) (μ' := (am_S f g)) 5 rfl ?_
    refine am_F.iteK 1 rfl K hK (fun c4 hK => ?_) (fun c4 hK => ?_)
    · show am_F _ _ 39 [.ref 77, .int value] [] (am_S f g) _
      refine am_F.mem (F' := (am_row (am_row f 77 (f 77)) 78 (f 78))) (G' := g) ?_ (by first | rfl | (funext a; by_cases z0 : a = 77; (subst z0; rfl); by_cases z1 : a = 78; (subst z1; rfl); simp only [am_ui, am_ul, am_row_ne z0, am_row_ne z1])) (by first | rfl | (funext a; by_cases z0 : a = 77; (subst z0; rfl); by_cases z1 : a = 78; (subst z1; rfl); simp only [am_ui, am_ul, am_row_ne z0, am_row_ne z1]))
      subst hKd
      exact am_F.eq (am_F.ret rfl rfl) hK
    · show am_F _ _ 19 [.ref 77, .int value] [] (am_S f g) _
      refine am_F.ops (pc' := 28) (L' := [.ref 77, .int value]) (S' := [.int value, .int (f 77 2), .ref 78]) (μ' := (am_S f g)) 5 rfl ?_
      refine am_F.ias (F' := (am_row f 78 (upd (f 78) ((f 77 2).toNatClampNeg) value))) (N := 80) rfl rfl rfl (am_inbH (y := 80) (by assumption) (by assumption) rfl) (by first | rfl | (funext a; by_cases z0 : a = 78; (subst z0; rfl); simp only [am_ui, am_ul, am_row_ne z0])) ?_
      refine am_F.ops (pc' := 36) (L' := [.ref 77, .int value]) (S' := [.int ((f 77 2) + 1), .ref 77]) (μ' := (am_S (am_row f 78 (upd (f 78) ((f 77 2).toNatClampNeg) value)) g)) 5 rfl ?_
      refine am_F.pfi (F' := (am_row (am_row f 77 (upd (f 77) 2 ((f 77 2) + 1))) 78 (upd (f 78) ((f 77 2).toNatClampNeg) value))) rfl rfl (by first | rfl | (funext a; by_cases z0 : a = 77; (subst z0; rfl); by_cases z1 : a = 78; (subst z1; rfl); simp only [am_ui, am_ul, am_row_ne z0, am_row_ne z1])) ?_
      subst hKd
      exact am_F.eq (am_F.ret rfl rfl) hK
/-- AccessLattice$Reader.topMark -/
def fn_topMark (f : Nat → Nat → Int32) : Int32 := (if (f 77 3) ≤ 0 then 0 else (if 80 < (f 77 3) then 0 else f 79 (((f 77 3) - 1).toNatClampNeg)))
theorem x_topMark (f : Nat → Nat → Int32) (g : Nat → Nat → Int64)  : am_D 0 57 1 [.ref 77] (am_S f g) (some (Value.int (fn_topMark f)), am_S f g) := by
  refine am_D.of (code := am_k_57) rfl (L0 := [.ref 77]) rfl ?_
  generalize hres : (some (Value.int (fn_topMark f)), am_S f g) = res
  obtain ⟨K, hKd⟩ : ∃ K : Int32 → Prop, K = fun z => (some (Value.int z), am_S f g) = res := ⟨_, rfl⟩
  have hK : K (fn_topMark f) := by rw [hKd]; exact hres
  clear hres
  unfold fn_topMark at hK
  refine am_F.ops (pc' := 4) (L' := [.ref 77]) (S' := [.int (f 77 3)]) (μ' := (am_S f g)) 2 rfl ?_
  refine am_F.to (am_To.ite (pc' := 34) (L2 := [.ref 77]) (S2 := []) (μ2 := (am_S f g)) (a := 0) (b := (if 80 < (f 77 3) then 0 else f 79 (((f 77 3) - 1).toNatClampNeg))) 1 rfl (fun c1 => ?_) (fun c1 => ?_)) ?_
  · intro res9 g9
    show am_F _ _ 33 [.ref 77] [] (am_S f g) _
    refine am_F.ops (pc' := 34) (L' := [.ref 77]) (S' := [.int 0]) (μ' := (am_S f g)) 1 rfl ?_
    exact g9
  · intro res9 g9
    show am_F _ _ 7 [.ref 77] [] (am_S f g) _
    refine am_F.ops (pc' := 16) (L' := [.ref 77]) (S' := [.int 80, .int (f 77 3)]) (μ' := (am_S f g)) 5 rfl ?_
    refine am_F.to (am_To.ite (pc' := 34) (L2 := [.ref 77]) (S2 := []) (μ2 := (am_S f g)) (a := 0) (b := f 79 (((f 77 3) - 1).toNatClampNeg)) 1 rfl (fun c2 => ?_) (fun c2 => ?_)) g9
    · intro res9 g9
      show am_F _ _ 33 [.ref 77] [] (am_S f g) _
      refine am_F.ops (pc' := 34) (L' := [.ref 77]) (S' := [.int 0]) (μ' := (am_S f g)) 1 rfl ?_
      exact g9
    · intro res9 g9
      show am_F _ _ 19 [.ref 77] [] (am_S f g) _
      refine am_F.ops (pc' := 29) (L' := [.ref 77]) (S' := [.int ((f 77 3) - 1), .ref 79]) (μ' := (am_S f g)) 6 rfl ?_
      refine am_F.ial (N := 80) rfl rfl rfl (am_inbP (by assumption) (by assumption) (by decide)) ?_
      show am_F _ _ 30 [.ref 77] [.int (f 79 (((f 77 3) - 1).toNatClampNeg))] (am_S f g) _
      refine am_F.ops (pc' := 34) (L' := [.ref 77]) (S' := [.int (f 79 (((f 77 3) - 1).toNatClampNeg))]) (μ' := (am_S f g)) 1 rfl ?_
      exact g9
  show am_F _ _ 34 [.ref 77] [.int (if (f 77 3) ≤ 0 then 0 else (if 80 < (f 77 3) then 0 else f 79 (((f 77 3) - 1).toNatClampNeg)))] (am_S f g) _
  subst hKd
  exact am_F.eq (am_F.ret rfl rfl) hK
/-- AccessLattice$Reader.openWith -/
def fn_openWith (mark : Int32) (f : Nat → Nat → Int32) : (Nat → Int32) × (Nat → Int32) := (if (f 77 4) < 6 then (upd (upd (fn_push mark f).1 4 (((fn_push mark f).1 4) + 1)) 5 (((fn_push mark f).1 5) + 1), (fn_push mark f).2) else (upd (f 77) 6 (f 77 5), f 79))
theorem x_openWith (mark : Int32) (f : Nat → Nat → Int32) (g : Nat → Nat → Int64)  : am_D 1 51 2 [.ref 77, .int mark] (am_S f g) ((none : Option Value), am_S (am_row (am_row f 77 ((fn_openWith mark f).1)) 79 ((fn_openWith mark f).2)) g) := by
  refine am_D.of (code := am_k_51) rfl (L0 := [.ref 77, .int mark]) rfl ?_
  generalize hres : ((none : Option Value), am_S (am_row (am_row f 77 ((fn_openWith mark f).1)) 79 ((fn_openWith mark f).2)) g) = res
  obtain ⟨K, hKd⟩ : ∃ K : ((Nat → Int32) × (Nat → Int32)) → Prop, K = fun z => ((none : Option Value), am_S (am_row (am_row f 77 z.1) 79 z.2) g) = res := ⟨_, rfl⟩
  have hK : K (fn_openWith mark f) := by rw [hKd]; exact hres
  clear hres
  unfold fn_openWith at hK
  refine am_F.ops (pc' := 6) (L' := [.ref 77, .int mark]) (S' := [.int 6, .int (f 77 4)]) (μ' := (am_S f g)) 3 rfl ?_
  refine am_F.iteK 1 rfl K hK (fun c1 hK => ?_) (fun c1 hK => ?_)
  · show am_F _ _ 18 [.ref 77, .int mark] [] (am_S f g) _
    refine am_F.ops (pc' := 20) (L' := [.ref 77, .int mark]) (S' := [.int mark, .ref 77]) (μ' := (am_S f g)) 2 rfl ?_
    refine am_F.call rfl rfl (x_push mark f g ) (by decide) ?_
    obtain ⟨y2, hy2⟩ : ∃ z, (fn_push mark f) = z := ⟨_, rfl⟩
    (try rw [hy2] at hK)
    (try rw [hy2])
    refine am_F.mem (F' := (am_row (am_row f 77 y2.1) 79 y2.2)) (G' := g) ?_ (by first | rfl | (funext a; by_cases z0 : a = 77; (subst z0; rfl); by_cases z1 : a = 79; (subst z1; rfl); simp only [am_ui, am_ul, am_row_ne z0, am_row_ne z1])) (by first | rfl | (funext a; by_cases z0 : a = 77; (subst z0; rfl); by_cases z1 : a = 79; (subst z1; rfl); simp only [am_ui, am_ul, am_row_ne z0, am_row_ne z1]))
    show am_F _ _ 23 [.ref 77, .int mark] [] (am_S (am_row (am_row f 77 y2.1) 79 y2.2) g) _
    refine am_F.ops (pc' := 30) (L' := [.ref 77, .int mark]) (S' := [.int ((y2.1 4) + 1), .ref 77]) (μ' := (am_S (am_row (am_row f 77 y2.1) 79 y2.2) g)) 5 rfl ?_
    refine am_F.pfi (F' := (am_row (am_row f 77 (upd y2.1 4 ((y2.1 4) + 1))) 79 y2.2)) rfl rfl (by first | rfl | (funext a; by_cases z0 : a = 77; (subst z0; rfl); by_cases z1 : a = 79; (subst z1; rfl); simp only [am_ui, am_ul, am_row_ne z0, am_row_ne z1])) ?_
    refine am_F.ops (pc' := 40) (L' := [.ref 77, .int mark]) (S' := [.int ((y2.1 5) + 1), .ref 77]) (μ' := (am_S (am_row (am_row f 77 (upd y2.1 4 ((y2.1 4) + 1))) 79 y2.2) g)) 5 rfl ?_
    refine am_F.pfi (F' := (am_row (am_row f 77 (upd (upd y2.1 4 ((y2.1 4) + 1)) 5 ((y2.1 5) + 1))) 79 y2.2)) rfl rfl (by first | rfl | (funext a; by_cases z0 : a = 77; (subst z0; rfl); by_cases z1 : a = 79; (subst z1; rfl); simp only [am_ui, am_ul, am_row_ne z0, am_row_ne z1])) ?_
    subst hKd
    exact am_F.eq (am_F.ret rfl rfl) hK
  · show am_F _ _ 9 [.ref 77, .int mark] [] (am_S f g) _
    refine am_F.ops (pc' := 14) (L' := [.ref 77, .int mark]) (S' := [.int (f 77 5), .ref 77]) (μ' := (am_S f g)) 3 rfl ?_
    refine am_F.pfi (F' := (am_row f 77 (upd (f 77) 6 (f 77 5)))) rfl rfl (by first | rfl | (funext a; by_cases z0 : a = 77; (subst z0; rfl); simp only [am_ui, am_ul, am_row_ne z0])) ?_
    refine am_F.mem (F' := (am_row (am_row f 77 (upd (f 77) 6 (f 77 5))) 79 (f 79))) (G' := g) ?_ (by first | rfl | (funext a; by_cases z0 : a = 77; (subst z0; rfl); by_cases z1 : a = 79; (subst z1; rfl); simp only [am_ui, am_ul, am_row_ne z0, am_row_ne z1])) (by first | rfl | (funext a; by_cases z0 : a = 77; (subst z0; rfl); by_cases z1 : a = 79; (subst z1; rfl); simp only [am_ui, am_ul, am_row_ne z0, am_row_ne z1]))
    subst hKd
    exact am_F.eq (am_F.ret rfl rfl) hK
/-- AccessLattice$Reader.endOperand -/
def st_endOperand_7 (f : Nat → Nat → Int32) : Nat → (Nat → Int32) × (Nat → Int32) → (Nat → Int32) × (Nat → Int32) ⊕ ((Nat → Int32) × (Nat → Int32) ⊕ Empty) := fun i7 z => match z with
  | (r7_77, r7_78) => (if (fn_topMark (am_row (am_row f 77 r7_77) 78 r7_78)) = 33 then .inl (upd (upd (fn_emit (2000 + (fn_topMark (am_row (am_row f 77 r7_77) 78 r7_78))) (am_row (am_row f 77 r7_77) 78 r7_78)).1 3 (((fn_emit (2000 + (fn_topMark (am_row (am_row f 77 r7_77) 78 r7_78))) (am_row (am_row f 77 r7_77) 78 r7_78)).1 3) - 1)) 4 (((fn_emit (2000 + (fn_topMark (am_row (am_row f 77 r7_77) 78 r7_78))) (am_row (am_row f 77 r7_77) 78 r7_78)).1 4) - 1), (fn_emit (2000 + (fn_topMark (am_row (am_row f 77 r7_77) 78 r7_78))) (am_row (am_row f 77 r7_77) 78 r7_78)).2) else (if (fn_topMark (am_row (am_row f 77 r7_77) 78 r7_78)) = 126 then .inl (upd (upd (fn_emit (2000 + (fn_topMark (am_row (am_row f 77 r7_77) 78 r7_78))) (am_row (am_row f 77 r7_77) 78 r7_78)).1 3 (((fn_emit (2000 + (fn_topMark (am_row (am_row f 77 r7_77) 78 r7_78))) (am_row (am_row f 77 r7_77) 78 r7_78)).1 3) - 1)) 4 (((fn_emit (2000 + (fn_topMark (am_row (am_row f 77 r7_77) 78 r7_78))) (am_row (am_row f 77 r7_77) 78 r7_78)).1 4) - 1), (fn_emit (2000 + (fn_topMark (am_row (am_row f 77 r7_77) 78 r7_78))) (am_row (am_row f 77 r7_77) 78 r7_78)).2) else .inr (.inl (r7_77, r7_78))))
def lf_endOperand_7 (f : Nat → Nat → Int32) : (Nat → Int32) × (Nat → Int32) ⊕ Empty := am_forX (st_endOperand_7 f) 6 0 (upd (f 77) 7 0, f 78)
def fn_endOperand (f : Nat → Nat → Int32) : (Nat → Int32) × (Nat → Int32) := (Sum.elim (fun (z7 : (Nat → Int32) × (Nat → Int32)) => (z7.1, z7.2)) (fun (z : Empty) => z.elim) (lf_endOperand_7 f))
theorem lp_endOperand_7 (f : Nat → Nat → Int32) (g : Nat → Nat → Int64)  (res : Option Value × am_M) : ∀ (n i7 : Nat) (r7_77 : Nat → Int32) (r7_78 : Nat → Int32) , i7 + n = 6 → am_KX (fun (z : (Nat → Int32) × (Nat → Int32)) => ∀ (wc : Value), am_F 1 am_k_56 69 [.ref 77, wc] [] (am_S (am_row (am_row f 77 z.1) 78 z.2) g) res) (fun (z : Empty) => True) (am_forX (st_endOperand_7 f) n i7 (r7_77, r7_78)) → am_F 1 am_k_56 7 [.ref 77, .int (nI i7)] [] (am_S (am_row (am_row f 77 r7_77) 78 r7_78) g) res := by
  intro n
  induction n with
  | zero =>
    intro i7 r7_77 r7_78 hi hK
    refine am_F.pos 3 rfl (by show 6 ≤ nI i7; rw [show (6 : Int32) = nI 6 from rfl]; exact nI_le (by omega) (by omega)) ?_
    exact hK _
  | succ n ih =>
    intro i7 r7_77 r7_78 hi hK
    refine am_F.neg 3 rfl (by show ¬ 6 ≤ nI i7; rw [show (6 : Int32) = nI 6 from rfl]; exact nI_ge (by omega) (by omega)) ?_
    have hb7 : i7 < 6 := by omega
    show am_F _ _ 13 [.ref 77, .int (nI i7)] [] (am_S (am_row (am_row f 77 r7_77) 78 r7_78) g) _
    obtain ⟨K, hKd⟩ : ∃ K : ((Nat → Int32) × (Nat → Int32) ⊕ ((Nat → Int32) × (Nat → Int32) ⊕ Empty)) → Prop, K = fun s => am_KX (fun (z : (Nat → Int32) × (Nat → Int32)) => ∀ (wc : Value), am_F 1 am_k_56 69 [.ref 77, wc] [] (am_S (am_row (am_row f 77 z.1) 78 z.2) g) res) (fun (z : Empty) => True) (am_nxt (fun z => am_forX (st_endOperand_7 f) n (i7 + 1) z) s) := ⟨_, rfl⟩
    have hK : K ((st_endOperand_7 f) i7 (r7_77, r7_78)) := by rw [hKd]; exact hK
    unfold st_endOperand_7 at hK
    simp only at hK
    refine am_F.ops (pc' := 14) (L' := [.ref 77, .int (nI i7)]) (S' := [.ref 77]) (μ' := (am_S (am_row (am_row f 77 r7_77) 78 r7_78) g)) 1 rfl ?_
    refine am_F.call rfl rfl (x_topMark  (am_row (am_row f 77 r7_77) 78 r7_78) g ) (by decide) ?_
    show am_F _ _ 17 [.ref 77, .int (nI i7)] [.int (fn_topMark (am_row (am_row f 77 r7_77) 78 r7_78))] (am_S (am_row (am_row f 77 r7_77) 78 r7_78) g) _
    refine am_F.ops (pc' := 19) (L' := [.ref 77, .int (nI i7)]) (S' := [.int 33, .int (fn_topMark (am_row (am_row f 77 r7_77) 78 r7_78))]) (μ' := (am_S (am_row (am_row f 77 r7_77) 78 r7_78) g)) 1 rfl ?_
    refine am_F.iteK 1 rfl K hK (fun c5 hK => ?_) (fun c5 hK => ?_)
    · show am_F _ _ 31 [.ref 77, .int (nI i7)] [] (am_S (am_row (am_row f 77 r7_77) 78 r7_78) g) _
      refine am_F.ops (pc' := 36) (L' := [.ref 77, .int (nI i7)]) (S' := [.ref 77, .int 2000, .ref 77]) (μ' := (am_S (am_row (am_row f 77 r7_77) 78 r7_78) g)) 3 rfl ?_
      refine am_F.call rfl rfl (x_topMark  (am_row (am_row f 77 r7_77) 78 r7_78) g ) (by decide) ?_
      show am_F _ _ 39 [.ref 77, .int (nI i7)] [.int (fn_topMark (am_row (am_row f 77 r7_77) 78 r7_78)), .int 2000, .ref 77] (am_S (am_row (am_row f 77 r7_77) 78 r7_78) g) _
      refine am_F.ops (pc' := 40) (L' := [.ref 77, .int (nI i7)]) (S' := [.int (2000 + (fn_topMark (am_row (am_row f 77 r7_77) 78 r7_78))), .ref 77]) (μ' := (am_S (am_row (am_row f 77 r7_77) 78 r7_78) g)) 1 rfl ?_
      refine am_F.call rfl rfl (x_emit (2000 + (fn_topMark (am_row (am_row f 77 r7_77) 78 r7_78))) (am_row (am_row f 77 r7_77) 78 r7_78) g ) (by decide) ?_
      obtain ⟨y6, hy6⟩ : ∃ z, (fn_emit (2000 + (fn_topMark (am_row (am_row f 77 r7_77) 78 r7_78))) (am_row (am_row f 77 r7_77) 78 r7_78)) = z := ⟨_, rfl⟩
      (try rw [hy6] at hK)
      (try rw [hy6])
      refine am_F.mem (F' := (am_row (am_row f 77 y6.1) 78 y6.2)) (G' := g) ?_ (by first | rfl | (funext a; by_cases z0 : a = 77; (subst z0; rfl); by_cases z1 : a = 78; (subst z1; rfl); simp only [am_ui, am_ul, am_row_ne z0, am_row_ne z1])) (by first | rfl | (funext a; by_cases z0 : a = 77; (subst z0; rfl); by_cases z1 : a = 78; (subst z1; rfl); simp only [am_ui, am_ul, am_row_ne z0, am_row_ne z1]))
      show am_F _ _ 43 [.ref 77, .int (nI i7)] [] (am_S (am_row (am_row f 77 y6.1) 78 y6.2) g) _
      refine am_F.ops (pc' := 50) (L' := [.ref 77, .int (nI i7)]) (S' := [.int ((y6.1 3) - 1), .ref 77]) (μ' := (am_S (am_row (am_row f 77 y6.1) 78 y6.2) g)) 5 rfl ?_
      refine am_F.pfi (F' := (am_row (am_row f 77 (upd y6.1 3 ((y6.1 3) - 1))) 78 y6.2)) rfl rfl (by first | rfl | (funext a; by_cases z0 : a = 77; (subst z0; rfl); by_cases z1 : a = 78; (subst z1; rfl); simp only [am_ui, am_ul, am_row_ne z0, am_row_ne z1])) ?_
      refine am_F.ops (pc' := 60) (L' := [.ref 77, .int (nI i7)]) (S' := [.int ((y6.1 4) - 1), .ref 77]) (μ' := (am_S (am_row (am_row f 77 (upd y6.1 3 ((y6.1 3) - 1))) 78 y6.2) g)) 5 rfl ?_
      refine am_F.pfi (F' := (am_row (am_row f 77 (upd (upd y6.1 3 ((y6.1 3) - 1)) 4 ((y6.1 4) - 1))) 78 y6.2)) rfl rfl (by first | rfl | (funext a; by_cases z0 : a = 77; (subst z0; rfl); by_cases z1 : a = 78; (subst z1; rfl); simp only [am_ui, am_ul, am_row_ne z0, am_row_ne z1])) ?_
      refine am_F.ops (pc' := 7) (L' := [.ref 77, .int ((nI i7) + 1)]) (S' := []) (μ' := (am_S (am_row (am_row f 77 (upd (upd y6.1 3 ((y6.1 3) - 1)) 4 ((y6.1 4) - 1))) 78 y6.2) g)) 2 rfl ?_
      rw [nI_1 i7]
      subst hKd
      exact ih (i7 + 1) (upd (upd y6.1 3 ((y6.1 3) - 1)) 4 ((y6.1 4) - 1)) y6.2 (by omega)  hK
    · show am_F _ _ 22 [.ref 77, .int (nI i7)] [] (am_S (am_row (am_row f 77 r7_77) 78 r7_78) g) _
      refine am_F.ops (pc' := 23) (L' := [.ref 77, .int (nI i7)]) (S' := [.ref 77]) (μ' := (am_S (am_row (am_row f 77 r7_77) 78 r7_78) g)) 1 rfl ?_
      refine am_F.call rfl rfl (x_topMark  (am_row (am_row f 77 r7_77) 78 r7_78) g ) (by decide) ?_
      show am_F _ _ 26 [.ref 77, .int (nI i7)] [.int (fn_topMark (am_row (am_row f 77 r7_77) 78 r7_78))] (am_S (am_row (am_row f 77 r7_77) 78 r7_78) g) _
      refine am_F.ops (pc' := 28) (L' := [.ref 77, .int (nI i7)]) (S' := [.int 126, .int (fn_topMark (am_row (am_row f 77 r7_77) 78 r7_78))]) (μ' := (am_S (am_row (am_row f 77 r7_77) 78 r7_78) g)) 1 rfl ?_
      refine am_F.iteK 1 rfl K hK (fun c7 hK => ?_) (fun c7 hK => ?_)
      · show am_F _ _ 31 [.ref 77, .int (nI i7)] [] (am_S (am_row (am_row f 77 r7_77) 78 r7_78) g) _
        refine am_F.ops (pc' := 36) (L' := [.ref 77, .int (nI i7)]) (S' := [.ref 77, .int 2000, .ref 77]) (μ' := (am_S (am_row (am_row f 77 r7_77) 78 r7_78) g)) 3 rfl ?_
        refine am_F.call rfl rfl (x_topMark  (am_row (am_row f 77 r7_77) 78 r7_78) g ) (by decide) ?_
        show am_F _ _ 39 [.ref 77, .int (nI i7)] [.int (fn_topMark (am_row (am_row f 77 r7_77) 78 r7_78)), .int 2000, .ref 77] (am_S (am_row (am_row f 77 r7_77) 78 r7_78) g) _
        refine am_F.ops (pc' := 40) (L' := [.ref 77, .int (nI i7)]) (S' := [.int (2000 + (fn_topMark (am_row (am_row f 77 r7_77) 78 r7_78))), .ref 77]) (μ' := (am_S (am_row (am_row f 77 r7_77) 78 r7_78) g)) 1 rfl ?_
        refine am_F.call rfl rfl (x_emit (2000 + (fn_topMark (am_row (am_row f 77 r7_77) 78 r7_78))) (am_row (am_row f 77 r7_77) 78 r7_78) g ) (by decide) ?_
        obtain ⟨y8, hy8⟩ : ∃ z, (fn_emit (2000 + (fn_topMark (am_row (am_row f 77 r7_77) 78 r7_78))) (am_row (am_row f 77 r7_77) 78 r7_78)) = z := ⟨_, rfl⟩
        (try rw [hy8] at hK)
        (try rw [hy8])
        refine am_F.mem (F' := (am_row (am_row f 77 y8.1) 78 y8.2)) (G' := g) ?_ (by first | rfl | (funext a; by_cases z0 : a = 77; (subst z0; rfl); by_cases z1 : a = 78; (subst z1; rfl); simp only [am_ui, am_ul, am_row_ne z0, am_row_ne z1])) (by first | rfl | (funext a; by_cases z0 : a = 77; (subst z0; rfl); by_cases z1 : a = 78; (subst z1; rfl); simp only [am_ui, am_ul, am_row_ne z0, am_row_ne z1]))
        show am_F _ _ 43 [.ref 77, .int (nI i7)] [] (am_S (am_row (am_row f 77 y8.1) 78 y8.2) g) _
        refine am_F.ops (pc' := 50) (L' := [.ref 77, .int (nI i7)]) (S' := [.int ((y8.1 3) - 1), .ref 77]) (μ' := (am_S (am_row (am_row f 77 y8.1) 78 y8.2) g)) 5 rfl ?_
        refine am_F.pfi (F' := (am_row (am_row f 77 (upd y8.1 3 ((y8.1 3) - 1))) 78 y8.2)) rfl rfl (by first | rfl | (funext a; by_cases z0 : a = 77; (subst z0; rfl); by_cases z1 : a = 78; (subst z1; rfl); simp only [am_ui, am_ul, am_row_ne z0, am_row_ne z1])) ?_
        refine am_F.ops (pc' := 60) (L' := [.ref 77, .int (nI i7)]) (S' := [.int ((y8.1 4) - 1), .ref 77]) (μ' := (am_S (am_row (am_row f 77 (upd y8.1 3 ((y8.1 3) - 1))) 78 y8.2) g)) 5 rfl ?_
        refine am_F.pfi (F' := (am_row (am_row f 77 (upd (upd y8.1 3 ((y8.1 3) - 1)) 4 ((y8.1 4) - 1))) 78 y8.2)) rfl rfl (by first | rfl | (funext a; by_cases z0 : a = 77; (subst z0; rfl); by_cases z1 : a = 78; (subst z1; rfl); simp only [am_ui, am_ul, am_row_ne z0, am_row_ne z1])) ?_
        refine am_F.ops (pc' := 7) (L' := [.ref 77, .int ((nI i7) + 1)]) (S' := []) (μ' := (am_S (am_row (am_row f 77 (upd (upd y8.1 3 ((y8.1 3) - 1)) 4 ((y8.1 4) - 1))) 78 y8.2) g)) 2 rfl ?_
        rw [nI_1 i7]
        subst hKd
        exact ih (i7 + 1) (upd (upd y8.1 3 ((y8.1 3) - 1)) 4 ((y8.1 4) - 1)) y8.2 (by omega)  hK
      · show am_F _ _ 69 [.ref 77, .int (nI i7)] [] (am_S (am_row (am_row f 77 r7_77) 78 r7_78) g) _
        subst hKd
        exact hK (.int (nI i7))
theorem x_endOperand (f : Nat → Nat → Int32) (g : Nat → Nat → Int64)  : am_D 1 56 2 [.ref 77] (am_S f g) ((none : Option Value), am_S (am_row (am_row f 77 ((fn_endOperand f).1)) 78 ((fn_endOperand f).2)) g) := by
  refine am_D.of (code := am_k_56) rfl (L0 := [.ref 77, am_un]) rfl ?_
  generalize hres : ((none : Option Value), am_S (am_row (am_row f 77 ((fn_endOperand f).1)) 78 ((fn_endOperand f).2)) g) = res
  obtain ⟨K, hKd⟩ : ∃ K : ((Nat → Int32) × (Nat → Int32)) → Prop, K = fun z => ((none : Option Value), am_S (am_row (am_row f 77 z.1) 78 z.2) g) = res := ⟨_, rfl⟩
  have hK : K (fn_endOperand f) := by rw [hKd]; exact hres
  clear hres
  unfold fn_endOperand at hK
  refine am_F.ops (pc' := 2) (L' := [.ref 77, am_un]) (S' := [.int 0, .ref 77]) (μ' := (am_S f g)) 2 rfl ?_
  refine am_F.pfz (F' := (am_row f 77 (upd (f 77) 7 0))) rfl rfl rfl (by first | rfl | (funext a; by_cases z0 : a = 77; (subst z0; rfl); simp only [am_ui, am_ul, am_row_ne z0])) ?_
  refine am_F.ops (pc' := 7) (L' := [.ref 77, .int 0]) (S' := []) (μ' := (am_S (am_row f 77 (upd (f 77) 7 0)) g)) 2 rfl ?_
  refine am_F.mem (F' := (am_row (am_row f 77 (upd (f 77) 7 0)) 78 (f 78))) (G' := g) ?_ (by first | rfl | (funext a; by_cases z0 : a = 77; (subst z0; rfl); by_cases z1 : a = 78; (subst z1; rfl); simp only [am_ui, am_ul, am_row_ne z0, am_row_ne z1])) (by first | rfl | (funext a; by_cases z0 : a = 77; (subst z0; rfl); by_cases z1 : a = 78; (subst z1; rfl); simp only [am_ui, am_ul, am_row_ne z0, am_row_ne z1]))
  show am_F _ _ 7 [.ref 77, .int (nI 0)] [] (am_S (am_row (am_row f 77 (upd (f 77) 7 0)) 78 (f 78)) g) _
  refine lp_endOperand_7 f g  _ 6 0 (upd (f 77) 7 0) (f 78)  (by omega)  ?_
  rw [show am_forX (st_endOperand_7 f) 6 0 (upd (f 77) 7 0, f 78) = (lf_endOperand_7 f) from rfl]
  revert hK
  cases (lf_endOperand_7 f) with
  | inr z =>
    intro hK
    exact z.elim
  | inl z7 =>
    intro hK wc
    subst hKd
    exact am_F.eq (am_F.ret rfl rfl) hK
/-- AccessLattice$Reader.takeOperand -/
def fn_takeOperand (value : Int32) (bytes : Int32) (f : Nat → Nat → Int32) : (Nat → Int32) × (Nat → Int32) := ((fn_endOperand (am_row (am_row f 77 (upd (fn_emit value f).1 5 (((fn_emit value f).1 5) + bytes))) 78 (fn_emit value f).2)).1, (fn_endOperand (am_row (am_row f 77 (upd (fn_emit value f).1 5 (((fn_emit value f).1 5) + bytes))) 78 (fn_emit value f).2)).2)
theorem x_takeOperand (value : Int32) (bytes : Int32) (f : Nat → Nat → Int32) (g : Nat → Nat → Int64)  : am_D 2 54 3 [.ref 77, .int value, .int bytes] (am_S f g) ((none : Option Value), am_S (am_row (am_row f 77 ((fn_takeOperand value bytes f).1)) 78 ((fn_takeOperand value bytes f).2)) g) := by
  refine am_D.of (code := am_k_54) rfl (L0 := [.ref 77, .int value, .int bytes]) rfl ?_
  generalize hres : ((none : Option Value), am_S (am_row (am_row f 77 ((fn_takeOperand value bytes f).1)) 78 ((fn_takeOperand value bytes f).2)) g) = res
  obtain ⟨K, hKd⟩ : ∃ K : ((Nat → Int32) × (Nat → Int32)) → Prop, K = fun z => ((none : Option Value), am_S (am_row (am_row f 77 z.1) 78 z.2) g) = res := ⟨_, rfl⟩
  have hK : K (fn_takeOperand value bytes f) := by rw [hKd]; exact hres
  clear hres
  unfold fn_takeOperand at hK
  refine am_F.ops (pc' := 2) (L' := [.ref 77, .int value, .int bytes]) (S' := [.int value, .ref 77]) (μ' := (am_S f g)) 2 rfl ?_
  refine am_F.call rfl rfl (x_emit value f g ) (by decide) ?_
  obtain ⟨y1, hy1⟩ : ∃ z, (fn_emit value f) = z := ⟨_, rfl⟩
  (try rw [hy1] at hK)
  (try rw [hy1])
  refine am_F.mem (F' := (am_row (am_row f 77 y1.1) 78 y1.2)) (G' := g) ?_ (by first | rfl | (funext a; by_cases z0 : a = 77; (subst z0; rfl); by_cases z1 : a = 78; (subst z1; rfl); simp only [am_ui, am_ul, am_row_ne z0, am_row_ne z1])) (by first | rfl | (funext a; by_cases z0 : a = 77; (subst z0; rfl); by_cases z1 : a = 78; (subst z1; rfl); simp only [am_ui, am_ul, am_row_ne z0, am_row_ne z1]))
  show am_F _ _ 5 [.ref 77, .int value, .int bytes] [] (am_S (am_row (am_row f 77 y1.1) 78 y1.2) g) _
  refine am_F.ops (pc' := 12) (L' := [.ref 77, .int value, .int bytes]) (S' := [.int ((y1.1 5) + bytes), .ref 77]) (μ' := (am_S (am_row (am_row f 77 y1.1) 78 y1.2) g)) 5 rfl ?_
  refine am_F.pfi (F' := (am_row (am_row f 77 (upd y1.1 5 ((y1.1 5) + bytes))) 78 y1.2)) rfl rfl (by first | rfl | (funext a; by_cases z0 : a = 77; (subst z0; rfl); by_cases z1 : a = 78; (subst z1; rfl); simp only [am_ui, am_ul, am_row_ne z0, am_row_ne z1])) ?_
  refine am_F.ops (pc' := 16) (L' := [.ref 77, .int value, .int bytes]) (S' := [.ref 77]) (μ' := (am_S (am_row (am_row f 77 (upd y1.1 5 ((y1.1 5) + bytes))) 78 y1.2) g)) 1 rfl ?_
  refine am_F.call rfl rfl (x_endOperand  (am_row (am_row f 77 (upd y1.1 5 ((y1.1 5) + bytes))) 78 y1.2) g ) (by decide) ?_
  obtain ⟨y2, hy2⟩ : ∃ z, (fn_endOperand (am_row (am_row f 77 (upd y1.1 5 ((y1.1 5) + bytes))) 78 y1.2)) = z := ⟨_, rfl⟩
  (try rw [hy2] at hK)
  (try rw [hy2])
  refine am_F.mem (F' := (am_row (am_row f 77 y2.1) 78 y2.2)) (G' := g) ?_ (by first | rfl | (funext a; by_cases z0 : a = 77; (subst z0; rfl); by_cases z1 : a = 78; (subst z1; rfl); simp only [am_ui, am_ul, am_row_ne z0, am_row_ne z1])) (by first | rfl | (funext a; by_cases z0 : a = 77; (subst z0; rfl); by_cases z1 : a = 78; (subst z1; rfl); simp only [am_ui, am_ul, am_row_ne z0, am_row_ne z1]))
  show am_F _ _ 19 [.ref 77, .int value, .int bytes] [] (am_S (am_row (am_row f 77 y2.1) 78 y2.2) g) _
  subst hKd
  exact am_F.eq (am_F.ret rfl rfl) hK
/-- AccessLattice$Reader.readAttribute -/
def fn_readAttribute (fst : Int32) (figure : Int32) (f : Nat → Nat → Int32) : (Nat → Int32) × (Nat → Int32) := (bif (fn_between figure 48 51) then ((fn_takeOperand ((fst + figure) - 48) 2 f).1, (fn_takeOperand ((fst + figure) - 48) 2 f).2) else (upd (f 77) 6 ((f 77 5) + 1), f 78))
theorem x_readAttribute (fst : Int32) (figure : Int32) (f : Nat → Nat → Int32) (g : Nat → Nat → Int64)  : am_D 3 53 3 [.ref 77, .int fst, .int figure] (am_S f g) ((none : Option Value), am_S (am_row (am_row f 77 ((fn_readAttribute fst figure f).1)) 78 ((fn_readAttribute fst figure f).2)) g) := by
  refine am_D.of (code := am_k_53) rfl (L0 := [.ref 77, .int fst, .int figure]) rfl ?_
  generalize hres : ((none : Option Value), am_S (am_row (am_row f 77 ((fn_readAttribute fst figure f).1)) 78 ((fn_readAttribute fst figure f).2)) g) = res
  obtain ⟨K, hKd⟩ : ∃ K : ((Nat → Int32) × (Nat → Int32)) → Prop, K = fun z => ((none : Option Value), am_S (am_row (am_row f 77 z.1) 78 z.2) g) = res := ⟨_, rfl⟩
  have hK : K (fn_readAttribute fst figure f) := by rw [hKd]; exact hres
  clear hres
  unfold fn_readAttribute at hK
  refine am_F.ops (pc' := 5) (L' := [.ref 77, .int fst, .int figure]) (S' := [.int 51, .int 48, .int figure]) (μ' := (am_S f g)) 3 rfl ?_
  refine am_F.call rfl rfl (x_between figure 48 51 f g ) (by decide) ?_
  show am_F _ _ 8 [.ref 77, .int fst, .int figure] [.int (am_b (fn_between figure 48 51))] (am_S f g) _
  refine am_F.bifK 1 rfl K hK (fun c2 hK => ?_) (fun c2 hK => ?_)
  · show am_F _ _ 11 [.ref 77, .int fst, .int figure] [] (am_S f g) _
    refine am_F.ops (pc' := 19) (L' := [.ref 77, .int fst, .int figure]) (S' := [.int 2, .int ((fst + figure) - 48), .ref 77]) (μ' := (am_S f g)) 7 rfl ?_
    refine am_F.call rfl rfl (x_takeOperand ((fst + figure) - 48) 2 f g ) (by decide) ?_
    obtain ⟨y3, hy3⟩ : ∃ z, (fn_takeOperand ((fst + figure) - 48) 2 f) = z := ⟨_, rfl⟩
    (try rw [hy3] at hK)
    (try rw [hy3])
    refine am_F.mem (F' := (am_row (am_row f 77 y3.1) 78 y3.2)) (G' := g) ?_ (by first | rfl | (funext a; by_cases z0 : a = 77; (subst z0; rfl); by_cases z1 : a = 78; (subst z1; rfl); simp only [am_ui, am_ul, am_row_ne z0, am_row_ne z1])) (by first | rfl | (funext a; by_cases z0 : a = 77; (subst z0; rfl); by_cases z1 : a = 78; (subst z1; rfl); simp only [am_ui, am_ul, am_row_ne z0, am_row_ne z1]))
    show am_F _ _ 22 [.ref 77, .int fst, .int figure] [] (am_S (am_row (am_row f 77 y3.1) 78 y3.2) g) _
    refine am_F.ops (pc' := 35) (L' := [.ref 77, .int fst, .int figure]) (S' := []) (μ' := (am_S (am_row (am_row f 77 y3.1) 78 y3.2) g)) 1 rfl ?_
    subst hKd
    exact am_F.eq (am_F.ret rfl rfl) hK
  · show am_F _ _ 25 [.ref 77, .int fst, .int figure] [] (am_S f g) _
    refine am_F.ops (pc' := 32) (L' := [.ref 77, .int fst, .int figure]) (S' := [.int ((f 77 5) + 1), .ref 77]) (μ' := (am_S f g)) 5 rfl ?_
    refine am_F.pfi (F' := (am_row f 77 (upd (f 77) 6 ((f 77 5) + 1)))) rfl rfl (by first | rfl | (funext a; by_cases z0 : a = 77; (subst z0; rfl); simp only [am_ui, am_ul, am_row_ne z0])) ?_
    refine am_F.mem (F' := (am_row (am_row f 77 (upd (f 77) 6 ((f 77 5) + 1))) 78 (f 78))) (G' := g) ?_ (by first | rfl | (funext a; by_cases z0 : a = 77; (subst z0; rfl); by_cases z1 : a = 78; (subst z1; rfl); simp only [am_ui, am_ul, am_row_ne z0, am_row_ne z1])) (by first | rfl | (funext a; by_cases z0 : a = 77; (subst z0; rfl); by_cases z1 : a = 78; (subst z1; rfl); simp only [am_ui, am_ul, am_row_ne z0, am_row_ne z1]))
    subst hKd
    exact am_F.eq (am_F.ret rfl rfl) hK
/-- AccessLattice$Reader.readNumber -/
def st_readNumber_7 (f : Nat → Nat → Int32) : Nat → Int32 × Int32 → Int32 × Int32 ⊕ (Int32 × Int32 ⊕ Empty) := fun i7 z => match z with
  | (a7_2, a7_3) => (bif (fn_isFigure ((f 77 5) + (nI i7)) f) then .inl (((a7_2 * 10) + (fn_tapeAt ((f 77 5) + (nI i7)) f)) - 48, a7_3 + 1) else .inr (.inl (a7_2, a7_3)))
def lf_readNumber_7 (f : Nat → Nat → Int32) : Int32 × Int32 ⊕ Empty := am_forX (st_readNumber_7 f) 3 0 (0, 0)
def fn_readNumber (f : Nat → Nat → Int32) : (Nat → Int32) × (Nat → Int32) := (Sum.elim (fun (z7 : Int32 × Int32) => (if z7.2 = 0 then (upd (f 77) 6 (f 77 5), f 78) else ((fn_takeOperand z7.1 z7.2 f).1, (fn_takeOperand z7.1 z7.2 f).2))) (fun (z : Empty) => z.elim) (lf_readNumber_7 f))
theorem lp_readNumber_7 (f : Nat → Nat → Int32) (g : Nat → Nat → Int64)  (res : Option Value × am_M) : ∀ (n i7 : Nat) (a7_2 : Int32) (a7_3 : Int32) , i7 + n = 3 → am_KX (fun (z : Int32 × Int32) => ∀ (wc : Value), am_F 3 am_k_58 56 [.ref 77, .ref 75, .int z.1, .int z.2, wc] [] (am_S f g) res) (fun (z : Empty) => True) (am_forX (st_readNumber_7 f) n i7 (a7_2, a7_3)) → am_F 3 am_k_58 7 [.ref 77, .ref 75, .int a7_2, .int a7_3, .int (nI i7)] [] (am_S f g) res := by
  intro n
  induction n with
  | zero =>
    intro i7 a7_2 a7_3 hi hK
    refine am_F.pos 3 rfl (by show 3 ≤ nI i7; rw [show (3 : Int32) = nI 3 from rfl]; exact nI_le (by omega) (by omega)) ?_
    exact hK _
  | succ n ih =>
    intro i7 a7_2 a7_3 hi hK
    refine am_F.neg 3 rfl (by show ¬ 3 ≤ nI i7; rw [show (3 : Int32) = nI 3 from rfl]; exact nI_ge (by omega) (by omega)) ?_
    have hb7 : i7 < 3 := by omega
    show am_F _ _ 13 [.ref 77, .ref 75, .int a7_2, .int a7_3, .int (nI i7)] [] (am_S f g) _
    obtain ⟨K, hKd⟩ : ∃ K : (Int32 × Int32 ⊕ (Int32 × Int32 ⊕ Empty)) → Prop, K = fun s => am_KX (fun (z : Int32 × Int32) => ∀ (wc : Value), am_F 3 am_k_58 56 [.ref 77, .ref 75, .int z.1, .int z.2, wc] [] (am_S f g) res) (fun (z : Empty) => True) (am_nxt (fun z => am_forX (st_readNumber_7 f) n (i7 + 1) z) s) := ⟨_, rfl⟩
    have hK : K ((st_readNumber_7 f) i7 (a7_2, a7_3)) := by rw [hKd]; exact hK
    unfold st_readNumber_7 at hK
    simp only at hK
    refine am_F.ops (pc' := 21) (L' := [.ref 77, .ref 75, .int a7_2, .int a7_3, .int (nI i7)]) (S' := [.int ((f 77 5) + (nI i7)), .ref 75]) (μ' := (am_S f g)) 5 rfl ?_
    refine am_F.call rfl rfl (x_isFigure ((f 77 5) + (nI i7)) f g ) (by decide) ?_
    show am_F _ _ 24 [.ref 77, .ref 75, .int a7_2, .int a7_3, .int (nI i7)] [.int (am_b (fn_isFigure ((f 77 5) + (nI i7)) f))] (am_S f g) _
    refine am_F.bifK 1 rfl K hK (fun c1 hK => ?_) (fun c1 hK => ?_)
    · show am_F _ _ 27 [.ref 77, .ref 75, .int a7_2, .int a7_3, .int (nI i7)] [] (am_S f g) _
      refine am_F.ops (pc' := 39) (L' := [.ref 77, .ref 75, .int a7_2, .int a7_3, .int (nI i7)]) (S' := [.int ((f 77 5) + (nI i7)), .ref 75, .int (a7_2 * 10)]) (μ' := (am_S f g)) 8 rfl ?_
      refine am_F.call rfl rfl (x_tapeAt ((f 77 5) + (nI i7)) f g ) (by decide) ?_
      show am_F _ _ 42 [.ref 77, .ref 75, .int a7_2, .int a7_3, .int (nI i7)] [.int (fn_tapeAt ((f 77 5) + (nI i7)) f), .int (a7_2 * 10)] (am_S f g) _
      refine am_F.ops (pc' := 7) (L' := [.ref 77, .ref 75, .int (((a7_2 * 10) + (fn_tapeAt ((f 77 5) + (nI i7)) f)) - 48), .int (a7_3 + 1), .int ((nI i7) + 1)]) (S' := []) (μ' := (am_S f g)) 7 rfl ?_
      rw [nI_1 i7]
      subst hKd
      exact ih (i7 + 1) (((a7_2 * 10) + (fn_tapeAt ((f 77 5) + (nI i7)) f)) - 48) (a7_3 + 1) (by omega)  hK
    · show am_F _ _ 56 [.ref 77, .ref 75, .int a7_2, .int a7_3, .int (nI i7)] [] (am_S f g) _
      subst hKd
      exact hK (.int (nI i7))
theorem x_readNumber (f : Nat → Nat → Int32) (g : Nat → Nat → Int64)  : am_D 3 58 5 [.ref 77, .ref 75] (am_S f g) ((none : Option Value), am_S (am_row (am_row f 77 ((fn_readNumber f).1)) 78 ((fn_readNumber f).2)) g) := by
  refine am_D.of (code := am_k_58) rfl (L0 := [.ref 77, .ref 75, am_un, am_un, am_un]) rfl ?_
  generalize hres : ((none : Option Value), am_S (am_row (am_row f 77 ((fn_readNumber f).1)) 78 ((fn_readNumber f).2)) g) = res
  obtain ⟨K, hKd⟩ : ∃ K : ((Nat → Int32) × (Nat → Int32)) → Prop, K = fun z => ((none : Option Value), am_S (am_row (am_row f 77 z.1) 78 z.2) g) = res := ⟨_, rfl⟩
  have hK : K (fn_readNumber f) := by rw [hKd]; exact hres
  clear hres
  unfold fn_readNumber at hK
  refine am_F.ops (pc' := 7) (L' := [.ref 77, .ref 75, .int 0, .int 0, .int 0]) (S' := []) (μ' := (am_S f g)) 6 rfl ?_
  show am_F _ _ 7 [.ref 77, .ref 75, .int 0, .int 0, .int (nI 0)] [] (am_S f g) _
  refine lp_readNumber_7 f g  _ 3 0 0 0  (by omega)  ?_
  rw [show am_forX (st_readNumber_7 f) 3 0 (0, 0) = (lf_readNumber_7 f) from rfl]
  revert hK
  cases (lf_readNumber_7 f) with
  | inr z =>
    intro hK
    exact z.elim
  | inl z7 =>
    intro hK wc
    refine am_F.ops (pc' := 57) (L' := [.ref 77, .ref 75, .int z7.1, .int z7.2, wc]) (S' := [.int z7.2]) (μ' := (am_S f g)) 1 rfl ?_
    refine am_F.iteK 1 rfl K hK (fun c3 hK => ?_) (fun c3 hK => ?_)
    · show am_F _ _ 60 [.ref 77, .ref 75, .int z7.1, .int z7.2, wc] [] (am_S f g) _
      refine am_F.ops (pc' := 65) (L' := [.ref 77, .ref 75, .int z7.1, .int z7.2, wc]) (S' := [.int (f 77 5), .ref 77]) (μ' := (am_S f g)) 3 rfl ?_
      refine am_F.pfi (F' := (am_row f 77 (upd (f 77) 6 (f 77 5)))) rfl rfl (by first | rfl | (funext a; by_cases z0 : a = 77; (subst z0; rfl); simp only [am_ui, am_ul, am_row_ne z0])) ?_
      refine am_F.ops (pc' := 77) (L' := [.ref 77, .ref 75, .int z7.1, .int z7.2, wc]) (S' := []) (μ' := (am_S (am_row f 77 (upd (f 77) 6 (f 77 5))) g)) 1 rfl ?_
      refine am_F.mem (F' := (am_row (am_row f 77 (upd (f 77) 6 (f 77 5))) 78 (f 78))) (G' := g) ?_ (by first | rfl | (funext a; by_cases z0 : a = 77; (subst z0; rfl); by_cases z1 : a = 78; (subst z1; rfl); simp only [am_ui, am_ul, am_row_ne z0, am_row_ne z1])) (by first | rfl | (funext a; by_cases z0 : a = 77; (subst z0; rfl); by_cases z1 : a = 78; (subst z1; rfl); simp only [am_ui, am_ul, am_row_ne z0, am_row_ne z1]))
      subst hKd
      exact am_F.eq (am_F.ret rfl rfl) hK
    · show am_F _ _ 71 [.ref 77, .ref 75, .int z7.1, .int z7.2, wc] [] (am_S f g) _
      refine am_F.ops (pc' := 74) (L' := [.ref 77, .ref 75, .int z7.1, .int z7.2, wc]) (S' := [.int z7.2, .int z7.1, .ref 77]) (μ' := (am_S f g)) 3 rfl ?_
      refine am_F.call rfl rfl (x_takeOperand z7.1 z7.2 f g ) (by decide) ?_
      obtain ⟨y4, hy4⟩ : ∃ z, (fn_takeOperand z7.1 z7.2 f) = z := ⟨_, rfl⟩
      (try rw [hy4] at hK)
      (try rw [hy4])
      refine am_F.mem (F' := (am_row (am_row f 77 y4.1) 78 y4.2)) (G' := g) ?_ (by first | rfl | (funext a; by_cases z0 : a = 77; (subst z0; rfl); by_cases z1 : a = 78; (subst z1; rfl); simp only [am_ui, am_ul, am_row_ne z0, am_row_ne z1])) (by first | rfl | (funext a; by_cases z0 : a = 77; (subst z0; rfl); by_cases z1 : a = 78; (subst z1; rfl); simp only [am_ui, am_ul, am_row_ne z0, am_row_ne z1]))
      show am_F _ _ 77 [.ref 77, .ref 75, .int z7.1, .int z7.2, wc] [] (am_S (am_row (am_row f 77 y4.1) 78 y4.2) g) _
      subst hKd
      exact am_F.eq (am_F.ret rfl rfl) hK
/-- AccessLattice$Reader.readOperand -/
def fn_readOperand (f : Nat → Nat → Int32) : (Nat → Int32) × (Nat → Int32) × (Nat → Int32) := (if (fn_tapeAt (f 77 5) f) = 33 then ((fn_openWith (if (fn_tapeAt (f 77 5) f) = 45 then 126 else (fn_tapeAt (f 77 5) f)) f).1, f 78, (fn_openWith (if (fn_tapeAt (f 77 5) f) = 45 then 126 else (fn_tapeAt (f 77 5) f)) f).2) else (if (fn_tapeAt (f 77 5) f) = 40 then ((fn_openWith (if (fn_tapeAt (f 77 5) f) = 45 then 126 else (fn_tapeAt (f 77 5) f)) f).1, f 78, (fn_openWith (if (fn_tapeAt (f 77 5) f) = 45 then 126 else (fn_tapeAt (f 77 5) f)) f).2) else (if (fn_tapeAt (f 77 5) f) = 45 then ((fn_openWith (if (fn_tapeAt (f 77 5) f) = 45 then 126 else (fn_tapeAt (f 77 5) f)) f).1, f 78, (fn_openWith (if (fn_tapeAt (f 77 5) f) = 45 then 126 else (fn_tapeAt (f 77 5) f)) f).2) else (if (fn_tapeAt (f 77 5) f) = 97 then ((fn_takeOperand 1009 1 f).1, (fn_takeOperand 1009 1 f).2, f 79) else (if (fn_tapeAt (f 77 5) f) = 100 then ((fn_takeOperand 1010 1 f).1, (fn_takeOperand 1010 1 f).2, f 79) else (if (fn_tapeAt (f 77 5) f) = 110 then ((fn_takeOperand 1008 1 f).1, (fn_takeOperand 1008 1 f).2, f 79) else (if (fn_tapeAt (f 77 5) f) = 116 then ((fn_readAttribute (if (fn_tapeAt (f 77 5) f) = 117 then 1000 else 1004) (fn_tapeAt ((f 77 5) + 1) f) f).1, (fn_readAttribute (if (fn_tapeAt (f 77 5) f) = 117 then 1000 else 1004) (fn_tapeAt ((f 77 5) + 1) f) f).2, f 79) else (if (fn_tapeAt (f 77 5) f) = 117 then ((fn_readAttribute (if (fn_tapeAt (f 77 5) f) = 117 then 1000 else 1004) (fn_tapeAt ((f 77 5) + 1) f) f).1, (fn_readAttribute (if (fn_tapeAt (f 77 5) f) = 117 then 1000 else 1004) (fn_tapeAt ((f 77 5) + 1) f) f).2, f 79) else ((fn_readNumber f).1, (fn_readNumber f).2, f 79)))))))))
theorem x_readOperand (f : Nat → Nat → Int32) (g : Nat → Nat → Int64)  : am_D 4 49 3 [.ref 77, .ref 75] (am_S f g) ((none : Option Value), am_S (am_row (am_row (am_row f 77 ((fn_readOperand f).1)) 78 ((fn_readOperand f).2.1)) 79 ((fn_readOperand f).2.2)) g) := by
  refine am_D.of (code := am_k_49) rfl (L0 := [.ref 77, .ref 75, am_un]) rfl ?_
  generalize hres : ((none : Option Value), am_S (am_row (am_row (am_row f 77 ((fn_readOperand f).1)) 78 ((fn_readOperand f).2.1)) 79 ((fn_readOperand f).2.2)) g) = res
  obtain ⟨K, hKd⟩ : ∃ K : ((Nat → Int32) × (Nat → Int32) × (Nat → Int32)) → Prop, K = fun z => ((none : Option Value), am_S (am_row (am_row (am_row f 77 z.1) 78 z.2.1) 79 z.2.2) g) = res := ⟨_, rfl⟩
  have hK : K (fn_readOperand f) := by rw [hKd]; exact hres
  clear hres
  unfold fn_readOperand at hK
  refine am_F.ops (pc' := 5) (L' := [.ref 77, .ref 75, am_un]) (S' := [.int (f 77 5), .ref 75]) (μ' := (am_S f g)) 3 rfl ?_
  refine am_F.call rfl rfl (x_tapeAt (f 77 5) f g ) (by decide) ?_
  show am_F _ _ 8 [.ref 77, .ref 75, am_un] [.int (fn_tapeAt (f 77 5) f)] (am_S f g) _
  refine am_F.ops (pc' := 10) (L' := [.ref 77, .ref 75, .int (fn_tapeAt (f 77 5) f)]) (S' := [.int (fn_tapeAt (f 77 5) f)]) (μ' := (am_S f g)) 2 rfl ?_
  refine am_F.ops (pc' := am_ltg [(33, 84), (40, 84), (45, 84), (97, 146), (100, 157), (110, 135), (116, 103), (117, 103)] 168 (fn_tapeAt (f 77 5) f)) (L' := [.ref 77, .ref 75, .int (fn_tapeAt (f 77 5) f)]) (S' := []) (μ' := (am_S f g)) 1 rfl ?_
  refine am_F.ltg K hK (fun c1 hK => ?_) (fun c1 hK => ?_)
  · show am_F _ _ 84 [.ref 77, .ref 75, .int (fn_tapeAt (f 77 5) f)] [] (am_S f g) _
    refine am_F.ops (pc' := 88) (L' := [.ref 77, .ref 75, .int (fn_tapeAt (f 77 5) f)]) (S' := [.int 45, .int (fn_tapeAt (f 77 5) f), .ref 77]) (μ' := (am_S f g)) 3 rfl ?_
    refine am_F.to (am_To.ite (pc' := 97) (L2 := [.ref 77, .ref 75, .int (fn_tapeAt (f 77 5) f)]) (S2 := [.ref 77]) (μ2 := (am_S f g)) (a := 126) (b := (fn_tapeAt (f 77 5) f)) 1 rfl (fun c2 => ?_) (fun c2 => ?_)) ?_
    · intro res9 g9
      show am_F _ _ 91 [.ref 77, .ref 75, .int (fn_tapeAt (f 77 5) f)] [.ref 77] (am_S f g) _
      refine am_F.ops (pc' := 97) (L' := [.ref 77, .ref 75, .int (fn_tapeAt (f 77 5) f)]) (S' := [.int 126, .ref 77]) (μ' := (am_S f g)) 2 rfl ?_
      exact g9
    · intro res9 g9
      show am_F _ _ 96 [.ref 77, .ref 75, .int (fn_tapeAt (f 77 5) f)] [.ref 77] (am_S f g) _
      refine am_F.ops (pc' := 97) (L' := [.ref 77, .ref 75, .int (fn_tapeAt (f 77 5) f)]) (S' := [.int (fn_tapeAt (f 77 5) f), .ref 77]) (μ' := (am_S f g)) 1 rfl ?_
      exact g9
    show am_F _ _ 97 [.ref 77, .ref 75, .int (fn_tapeAt (f 77 5) f)] [.int (if (fn_tapeAt (f 77 5) f) = 45 then 126 else (fn_tapeAt (f 77 5) f)), .ref 77] (am_S f g) _
    refine am_F.call rfl rfl (x_openWith (if (fn_tapeAt (f 77 5) f) = 45 then 126 else (fn_tapeAt (f 77 5) f)) f g ) (by decide) ?_
    obtain ⟨y3, hy3⟩ : ∃ z, (fn_openWith (if (fn_tapeAt (f 77 5) f) = 45 then 126 else (fn_tapeAt (f 77 5) f)) f) = z := ⟨_, rfl⟩
    (try rw [hy3] at hK)
    (try rw [hy3])
    refine am_F.mem (F' := (am_row (am_row f 77 y3.1) 79 y3.2)) (G' := g) ?_ (by first | rfl | (funext a; by_cases z0 : a = 77; (subst z0; rfl); by_cases z1 : a = 79; (subst z1; rfl); simp only [am_ui, am_ul, am_row_ne z0, am_row_ne z1])) (by first | rfl | (funext a; by_cases z0 : a = 77; (subst z0; rfl); by_cases z1 : a = 79; (subst z1; rfl); simp only [am_ui, am_ul, am_row_ne z0, am_row_ne z1]))
    show am_F _ _ 100 [.ref 77, .ref 75, .int (fn_tapeAt (f 77 5) f)] [] (am_S (am_row (am_row f 77 y3.1) 79 y3.2) g) _
    refine am_F.ops (pc' := 173) (L' := [.ref 77, .ref 75, .int (fn_tapeAt (f 77 5) f)]) (S' := []) (μ' := (am_S (am_row (am_row f 77 y3.1) 79 y3.2) g)) 1 rfl ?_
    refine am_F.mem (F' := (am_row (am_row (am_row f 77 y3.1) 78 (f 78)) 79 y3.2)) (G' := g) ?_ (by first | rfl | (funext a; by_cases z0 : a = 77; (subst z0; rfl); by_cases z1 : a = 78; (subst z1; rfl); by_cases z2 : a = 79; (subst z2; rfl); simp only [am_ui, am_ul, am_row_ne z0, am_row_ne z1, am_row_ne z2])) (by first | rfl | (funext a; by_cases z0 : a = 77; (subst z0; rfl); by_cases z1 : a = 78; (subst z1; rfl); by_cases z2 : a = 79; (subst z2; rfl); simp only [am_ui, am_ul, am_row_ne z0, am_row_ne z1, am_row_ne z2]))
    subst hKd
    exact am_F.eq (am_F.ret rfl rfl) hK
  · skip
    refine am_F.ltg K hK (fun c4 hK => ?_) (fun c4 hK => ?_)
    · show am_F _ _ 84 [.ref 77, .ref 75, .int (fn_tapeAt (f 77 5) f)] [] (am_S f g) _
      refine am_F.ops (pc' := 88) (L' := [.ref 77, .ref 75, .int (fn_tapeAt (f 77 5) f)]) (S' := [.int 45, .int (fn_tapeAt (f 77 5) f), .ref 77]) (μ' := (am_S f g)) 3 rfl ?_
      refine am_F.to (am_To.ite (pc' := 97) (L2 := [.ref 77, .ref 75, .int (fn_tapeAt (f 77 5) f)]) (S2 := [.ref 77]) (μ2 := (am_S f g)) (a := 126) (b := (fn_tapeAt (f 77 5) f)) 1 rfl (fun c5 => ?_) (fun c5 => ?_)) ?_
      · intro res9 g9
        show am_F _ _ 91 [.ref 77, .ref 75, .int (fn_tapeAt (f 77 5) f)] [.ref 77] (am_S f g) _
        refine am_F.ops (pc' := 97) (L' := [.ref 77, .ref 75, .int (fn_tapeAt (f 77 5) f)]) (S' := [.int 126, .ref 77]) (μ' := (am_S f g)) 2 rfl ?_
        exact g9
      · intro res9 g9
        show am_F _ _ 96 [.ref 77, .ref 75, .int (fn_tapeAt (f 77 5) f)] [.ref 77] (am_S f g) _
        refine am_F.ops (pc' := 97) (L' := [.ref 77, .ref 75, .int (fn_tapeAt (f 77 5) f)]) (S' := [.int (fn_tapeAt (f 77 5) f), .ref 77]) (μ' := (am_S f g)) 1 rfl ?_
        exact g9
      show am_F _ _ 97 [.ref 77, .ref 75, .int (fn_tapeAt (f 77 5) f)] [.int (if (fn_tapeAt (f 77 5) f) = 45 then 126 else (fn_tapeAt (f 77 5) f)), .ref 77] (am_S f g) _
      refine am_F.call rfl rfl (x_openWith (if (fn_tapeAt (f 77 5) f) = 45 then 126 else (fn_tapeAt (f 77 5) f)) f g ) (by decide) ?_
      obtain ⟨y6, hy6⟩ : ∃ z, (fn_openWith (if (fn_tapeAt (f 77 5) f) = 45 then 126 else (fn_tapeAt (f 77 5) f)) f) = z := ⟨_, rfl⟩
      (try rw [hy6] at hK)
      (try rw [hy6])
      refine am_F.mem (F' := (am_row (am_row f 77 y6.1) 79 y6.2)) (G' := g) ?_ (by first | rfl | (funext a; by_cases z0 : a = 77; (subst z0; rfl); by_cases z1 : a = 79; (subst z1; rfl); simp only [am_ui, am_ul, am_row_ne z0, am_row_ne z1])) (by first | rfl | (funext a; by_cases z0 : a = 77; (subst z0; rfl); by_cases z1 : a = 79; (subst z1; rfl); simp only [am_ui, am_ul, am_row_ne z0, am_row_ne z1]))
      show am_F _ _ 100 [.ref 77, .ref 75, .int (fn_tapeAt (f 77 5) f)] [] (am_S (am_row (am_row f 77 y6.1) 79 y6.2) g) _
      refine am_F.ops (pc' := 173) (L' := [.ref 77, .ref 75, .int (fn_tapeAt (f 77 5) f)]) (S' := []) (μ' := (am_S (am_row (am_row f 77 y6.1) 79 y6.2) g)) 1 rfl ?_
      refine am_F.mem (F' := (am_row (am_row (am_row f 77 y6.1) 78 (f 78)) 79 y6.2)) (G' := g) ?_ (by first | rfl | (funext a; by_cases z0 : a = 77; (subst z0; rfl); by_cases z1 : a = 78; (subst z1; rfl); by_cases z2 : a = 79; (subst z2; rfl); simp only [am_ui, am_ul, am_row_ne z0, am_row_ne z1, am_row_ne z2])) (by first | rfl | (funext a; by_cases z0 : a = 77; (subst z0; rfl); by_cases z1 : a = 78; (subst z1; rfl); by_cases z2 : a = 79; (subst z2; rfl); simp only [am_ui, am_ul, am_row_ne z0, am_row_ne z1, am_row_ne z2]))
      subst hKd
      exact am_F.eq (am_F.ret rfl rfl) hK
    · skip
      refine am_F.ltg K hK (fun c7 hK => ?_) (fun c7 hK => ?_)
      · show am_F _ _ 84 [.ref 77, .ref 75, .int (fn_tapeAt (f 77 5) f)] [] (am_S f g) _
        refine am_F.ops (pc' := 88) (L' := [.ref 77, .ref 75, .int (fn_tapeAt (f 77 5) f)]) (S' := [.int 45, .int (fn_tapeAt (f 77 5) f), .ref 77]) (μ' := (am_S f g)) 3 rfl ?_
        refine am_F.to (am_To.ite (pc' := 97) (L2 := [.ref 77, .ref 75, .int (fn_tapeAt (f 77 5) f)]) (S2 := [.ref 77]) (μ2 := (am_S f g)) (a := 126) (b := (fn_tapeAt (f 77 5) f)) 1 rfl (fun c8 => ?_) (fun c8 => ?_)) ?_
        · intro res9 g9
          show am_F _ _ 91 [.ref 77, .ref 75, .int (fn_tapeAt (f 77 5) f)] [.ref 77] (am_S f g) _
          refine am_F.ops (pc' := 97) (L' := [.ref 77, .ref 75, .int (fn_tapeAt (f 77 5) f)]) (S' := [.int 126, .ref 77]) (μ' := (am_S f g)) 2 rfl ?_
          exact g9
        · intro res9 g9
          show am_F _ _ 96 [.ref 77, .ref 75, .int (fn_tapeAt (f 77 5) f)] [.ref 77] (am_S f g) _
          refine am_F.ops (pc' := 97) (L' := [.ref 77, .ref 75, .int (fn_tapeAt (f 77 5) f)]) (S' := [.int (fn_tapeAt (f 77 5) f), .ref 77]) (μ' := (am_S f g)) 1 rfl ?_
          exact g9
        show am_F _ _ 97 [.ref 77, .ref 75, .int (fn_tapeAt (f 77 5) f)] [.int (if (fn_tapeAt (f 77 5) f) = 45 then 126 else (fn_tapeAt (f 77 5) f)), .ref 77] (am_S f g) _
        refine am_F.call rfl rfl (x_openWith (if (fn_tapeAt (f 77 5) f) = 45 then 126 else (fn_tapeAt (f 77 5) f)) f g ) (by decide) ?_
        obtain ⟨y9, hy9⟩ : ∃ z, (fn_openWith (if (fn_tapeAt (f 77 5) f) = 45 then 126 else (fn_tapeAt (f 77 5) f)) f) = z := ⟨_, rfl⟩
        (try rw [hy9] at hK)
        (try rw [hy9])
        refine am_F.mem (F' := (am_row (am_row f 77 y9.1) 79 y9.2)) (G' := g) ?_ (by first | rfl | (funext a; by_cases z0 : a = 77; (subst z0; rfl); by_cases z1 : a = 79; (subst z1; rfl); simp only [am_ui, am_ul, am_row_ne z0, am_row_ne z1])) (by first | rfl | (funext a; by_cases z0 : a = 77; (subst z0; rfl); by_cases z1 : a = 79; (subst z1; rfl); simp only [am_ui, am_ul, am_row_ne z0, am_row_ne z1]))
        show am_F _ _ 100 [.ref 77, .ref 75, .int (fn_tapeAt (f 77 5) f)] [] (am_S (am_row (am_row f 77 y9.1) 79 y9.2) g) _
        refine am_F.ops (pc' := 173) (L' := [.ref 77, .ref 75, .int (fn_tapeAt (f 77 5) f)]) (S' := []) (μ' := (am_S (am_row (am_row f 77 y9.1) 79 y9.2) g)) 1 rfl ?_
        refine am_F.mem (F' := (am_row (am_row (am_row f 77 y9.1) 78 (f 78)) 79 y9.2)) (G' := g) ?_ (by first | rfl | (funext a; by_cases z0 : a = 77; (subst z0; rfl); by_cases z1 : a = 78; (subst z1; rfl); by_cases z2 : a = 79; (subst z2; rfl); simp only [am_ui, am_ul, am_row_ne z0, am_row_ne z1, am_row_ne z2])) (by first | rfl | (funext a; by_cases z0 : a = 77; (subst z0; rfl); by_cases z1 : a = 78; (subst z1; rfl); by_cases z2 : a = 79; (subst z2; rfl); simp only [am_ui, am_ul, am_row_ne z0, am_row_ne z1, am_row_ne z2]))
        subst hKd
        exact am_F.eq (am_F.ret rfl rfl) hK
      · skip
        refine am_F.ltg K hK (fun c10 hK => ?_) (fun c10 hK => ?_)
        · show am_F _ _ 146 [.ref 77, .ref 75, .int (fn_tapeAt (f 77 5) f)] [] (am_S f g) _
          refine am_F.ops (pc' := 151) (L' := [.ref 77, .ref 75, .int (fn_tapeAt (f 77 5) f)]) (S' := [.int 1, .int 1009, .ref 77]) (μ' := (am_S f g)) 3 rfl ?_
          refine am_F.call rfl rfl (x_takeOperand 1009 1 f g ) (by decide) ?_
          obtain ⟨y11, hy11⟩ : ∃ z, (fn_takeOperand 1009 1 f) = z := ⟨_, rfl⟩
          (try rw [hy11] at hK)
          (try rw [hy11])
          refine am_F.mem (F' := (am_row (am_row f 77 y11.1) 78 y11.2)) (G' := g) ?_ (by first | rfl | (funext a; by_cases z0 : a = 77; (subst z0; rfl); by_cases z1 : a = 78; (subst z1; rfl); simp only [am_ui, am_ul, am_row_ne z0, am_row_ne z1])) (by first | rfl | (funext a; by_cases z0 : a = 77; (subst z0; rfl); by_cases z1 : a = 78; (subst z1; rfl); simp only [am_ui, am_ul, am_row_ne z0, am_row_ne z1]))
          show am_F _ _ 154 [.ref 77, .ref 75, .int (fn_tapeAt (f 77 5) f)] [] (am_S (am_row (am_row f 77 y11.1) 78 y11.2) g) _
          refine am_F.ops (pc' := 173) (L' := [.ref 77, .ref 75, .int (fn_tapeAt (f 77 5) f)]) (S' := []) (μ' := (am_S (am_row (am_row f 77 y11.1) 78 y11.2) g)) 1 rfl ?_
          refine am_F.mem (F' := (am_row (am_row (am_row f 77 y11.1) 78 y11.2) 79 (f 79))) (G' := g) ?_ (by first | rfl | (funext a; by_cases z0 : a = 77; (subst z0; rfl); by_cases z1 : a = 78; (subst z1; rfl); by_cases z2 : a = 79; (subst z2; rfl); simp only [am_ui, am_ul, am_row_ne z0, am_row_ne z1, am_row_ne z2])) (by first | rfl | (funext a; by_cases z0 : a = 77; (subst z0; rfl); by_cases z1 : a = 78; (subst z1; rfl); by_cases z2 : a = 79; (subst z2; rfl); simp only [am_ui, am_ul, am_row_ne z0, am_row_ne z1, am_row_ne z2]))
          subst hKd
          exact am_F.eq (am_F.ret rfl rfl) hK
        · skip
          refine am_F.ltg K hK (fun c12 hK => ?_) (fun c12 hK => ?_)
          · show am_F _ _ 157 [.ref 77, .ref 75, .int (fn_tapeAt (f 77 5) f)] [] (am_S f g) _
            refine am_F.ops (pc' := 162) (L' := [.ref 77, .ref 75, .int (fn_tapeAt (f 77 5) f)]) (S' := [.int 1, .int 1010, .ref 77]) (μ' := (am_S f g)) 3 rfl ?_
            refine am_F.call rfl rfl (x_takeOperand 1010 1 f g ) (by decide) ?_
            obtain ⟨y13, hy13⟩ : ∃ z, (fn_takeOperand 1010 1 f) = z := ⟨_, rfl⟩
            (try rw [hy13] at hK)
            (try rw [hy13])
            refine am_F.mem (F' := (am_row (am_row f 77 y13.1) 78 y13.2)) (G' := g) ?_ (by first | rfl | (funext a; by_cases z0 : a = 77; (subst z0; rfl); by_cases z1 : a = 78; (subst z1; rfl); simp only [am_ui, am_ul, am_row_ne z0, am_row_ne z1])) (by first | rfl | (funext a; by_cases z0 : a = 77; (subst z0; rfl); by_cases z1 : a = 78; (subst z1; rfl); simp only [am_ui, am_ul, am_row_ne z0, am_row_ne z1]))
            show am_F _ _ 165 [.ref 77, .ref 75, .int (fn_tapeAt (f 77 5) f)] [] (am_S (am_row (am_row f 77 y13.1) 78 y13.2) g) _
            refine am_F.ops (pc' := 173) (L' := [.ref 77, .ref 75, .int (fn_tapeAt (f 77 5) f)]) (S' := []) (μ' := (am_S (am_row (am_row f 77 y13.1) 78 y13.2) g)) 1 rfl ?_
            refine am_F.mem (F' := (am_row (am_row (am_row f 77 y13.1) 78 y13.2) 79 (f 79))) (G' := g) ?_ (by first | rfl | (funext a; by_cases z0 : a = 77; (subst z0; rfl); by_cases z1 : a = 78; (subst z1; rfl); by_cases z2 : a = 79; (subst z2; rfl); simp only [am_ui, am_ul, am_row_ne z0, am_row_ne z1, am_row_ne z2])) (by first | rfl | (funext a; by_cases z0 : a = 77; (subst z0; rfl); by_cases z1 : a = 78; (subst z1; rfl); by_cases z2 : a = 79; (subst z2; rfl); simp only [am_ui, am_ul, am_row_ne z0, am_row_ne z1, am_row_ne z2]))
            subst hKd
            exact am_F.eq (am_F.ret rfl rfl) hK
          · skip
            refine am_F.ltg K hK (fun c14 hK => ?_) (fun c14 hK => ?_)
            · show am_F _ _ 135 [.ref 77, .ref 75, .int (fn_tapeAt (f 77 5) f)] [] (am_S f g) _
              refine am_F.ops (pc' := 140) (L' := [.ref 77, .ref 75, .int (fn_tapeAt (f 77 5) f)]) (S' := [.int 1, .int 1008, .ref 77]) (μ' := (am_S f g)) 3 rfl ?_
              refine am_F.call rfl rfl (x_takeOperand 1008 1 f g ) (by decide) ?_
              obtain ⟨y15, hy15⟩ : ∃ z, (fn_takeOperand 1008 1 f) = z := ⟨_, rfl⟩
              (try rw [hy15] at hK)
              (try rw [hy15])
              refine am_F.mem (F' := (am_row (am_row f 77 y15.1) 78 y15.2)) (G' := g) ?_ (by first | rfl | (funext a; by_cases z0 : a = 77; (subst z0; rfl); by_cases z1 : a = 78; (subst z1; rfl); simp only [am_ui, am_ul, am_row_ne z0, am_row_ne z1])) (by first | rfl | (funext a; by_cases z0 : a = 77; (subst z0; rfl); by_cases z1 : a = 78; (subst z1; rfl); simp only [am_ui, am_ul, am_row_ne z0, am_row_ne z1]))
              show am_F _ _ 143 [.ref 77, .ref 75, .int (fn_tapeAt (f 77 5) f)] [] (am_S (am_row (am_row f 77 y15.1) 78 y15.2) g) _
              refine am_F.ops (pc' := 173) (L' := [.ref 77, .ref 75, .int (fn_tapeAt (f 77 5) f)]) (S' := []) (μ' := (am_S (am_row (am_row f 77 y15.1) 78 y15.2) g)) 1 rfl ?_
              refine am_F.mem (F' := (am_row (am_row (am_row f 77 y15.1) 78 y15.2) 79 (f 79))) (G' := g) ?_ (by first | rfl | (funext a; by_cases z0 : a = 77; (subst z0; rfl); by_cases z1 : a = 78; (subst z1; rfl); by_cases z2 : a = 79; (subst z2; rfl); simp only [am_ui, am_ul, am_row_ne z0, am_row_ne z1, am_row_ne z2])) (by first | rfl | (funext a; by_cases z0 : a = 77; (subst z0; rfl); by_cases z1 : a = 78; (subst z1; rfl); by_cases z2 : a = 79; (subst z2; rfl); simp only [am_ui, am_ul, am_row_ne z0, am_row_ne z1, am_row_ne z2]))
              subst hKd
              exact am_F.eq (am_F.ret rfl rfl) hK
            · skip
              refine am_F.ltg K hK (fun c16 hK => ?_) (fun c16 hK => ?_)
              · show am_F _ _ 103 [.ref 77, .ref 75, .int (fn_tapeAt (f 77 5) f)] [] (am_S f g) _
                refine am_F.ops (pc' := 107) (L' := [.ref 77, .ref 75, .int (fn_tapeAt (f 77 5) f)]) (S' := [.int 117, .int (fn_tapeAt (f 77 5) f), .ref 77]) (μ' := (am_S f g)) 3 rfl ?_
                refine am_F.to (am_To.ite (pc' := 119) (L2 := [.ref 77, .ref 75, .int (fn_tapeAt (f 77 5) f)]) (S2 := [.ref 77]) (μ2 := (am_S f g)) (a := 1000) (b := 1004) 1 rfl (fun c17 => ?_) (fun c17 => ?_)) ?_
                · intro res9 g9
                  show am_F _ _ 110 [.ref 77, .ref 75, .int (fn_tapeAt (f 77 5) f)] [.ref 77] (am_S f g) _
                  refine am_F.ops (pc' := 119) (L' := [.ref 77, .ref 75, .int (fn_tapeAt (f 77 5) f)]) (S' := [.int 1000, .ref 77]) (μ' := (am_S f g)) 2 rfl ?_
                  exact g9
                · intro res9 g9
                  show am_F _ _ 116 [.ref 77, .ref 75, .int (fn_tapeAt (f 77 5) f)] [.ref 77] (am_S f g) _
                  refine am_F.ops (pc' := 119) (L' := [.ref 77, .ref 75, .int (fn_tapeAt (f 77 5) f)]) (S' := [.int 1004, .ref 77]) (μ' := (am_S f g)) 1 rfl ?_
                  exact g9
                show am_F _ _ 119 [.ref 77, .ref 75, .int (fn_tapeAt (f 77 5) f)] [.int (if (fn_tapeAt (f 77 5) f) = 117 then 1000 else 1004), .ref 77] (am_S f g) _
                refine am_F.ops (pc' := 126) (L' := [.ref 77, .ref 75, .int (fn_tapeAt (f 77 5) f)]) (S' := [.int ((f 77 5) + 1), .ref 75, .int (if (fn_tapeAt (f 77 5) f) = 117 then 1000 else 1004), .ref 77]) (μ' := (am_S f g)) 5 rfl ?_
                refine am_F.call rfl rfl (x_tapeAt ((f 77 5) + 1) f g ) (by decide) ?_
                show am_F _ _ 129 [.ref 77, .ref 75, .int (fn_tapeAt (f 77 5) f)] [.int (fn_tapeAt ((f 77 5) + 1) f), .int (if (fn_tapeAt (f 77 5) f) = 117 then 1000 else 1004), .ref 77] (am_S f g) _
                refine am_F.call rfl rfl (x_readAttribute (if (fn_tapeAt (f 77 5) f) = 117 then 1000 else 1004) (fn_tapeAt ((f 77 5) + 1) f) f g ) (by decide) ?_
                obtain ⟨y18, hy18⟩ : ∃ z, (fn_readAttribute (if (fn_tapeAt (f 77 5) f) = 117 then 1000 else 1004) (fn_tapeAt ((f 77 5) + 1) f) f) = z := ⟨_, rfl⟩
                (try rw [hy18] at hK)
                (try rw [hy18])
                refine am_F.mem (F' := (am_row (am_row f 77 y18.1) 78 y18.2)) (G' := g) ?_ (by first | rfl | (funext a; by_cases z0 : a = 77; (subst z0; rfl); by_cases z1 : a = 78; (subst z1; rfl); simp only [am_ui, am_ul, am_row_ne z0, am_row_ne z1])) (by first | rfl | (funext a; by_cases z0 : a = 77; (subst z0; rfl); by_cases z1 : a = 78; (subst z1; rfl); simp only [am_ui, am_ul, am_row_ne z0, am_row_ne z1]))
                show am_F _ _ 132 [.ref 77, .ref 75, .int (fn_tapeAt (f 77 5) f)] [] (am_S (am_row (am_row f 77 y18.1) 78 y18.2) g) _
                refine am_F.ops (pc' := 173) (L' := [.ref 77, .ref 75, .int (fn_tapeAt (f 77 5) f)]) (S' := []) (μ' := (am_S (am_row (am_row f 77 y18.1) 78 y18.2) g)) 1 rfl ?_
                refine am_F.mem (F' := (am_row (am_row (am_row f 77 y18.1) 78 y18.2) 79 (f 79))) (G' := g) ?_ (by first | rfl | (funext a; by_cases z0 : a = 77; (subst z0; rfl); by_cases z1 : a = 78; (subst z1; rfl); by_cases z2 : a = 79; (subst z2; rfl); simp only [am_ui, am_ul, am_row_ne z0, am_row_ne z1, am_row_ne z2])) (by first | rfl | (funext a; by_cases z0 : a = 77; (subst z0; rfl); by_cases z1 : a = 78; (subst z1; rfl); by_cases z2 : a = 79; (subst z2; rfl); simp only [am_ui, am_ul, am_row_ne z0, am_row_ne z1, am_row_ne z2]))
                subst hKd
                exact am_F.eq (am_F.ret rfl rfl) hK
              · skip
                refine am_F.ltg K hK (fun c19 hK => ?_) (fun c19 hK => ?_)
                · show am_F _ _ 103 [.ref 77, .ref 75, .int (fn_tapeAt (f 77 5) f)] [] (am_S f g) _
                  refine am_F.ops (pc' := 107) (L' := [.ref 77, .ref 75, .int (fn_tapeAt (f 77 5) f)]) (S' := [.int 117, .int (fn_tapeAt (f 77 5) f), .ref 77]) (μ' := (am_S f g)) 3 rfl ?_
                  refine am_F.to (am_To.ite (pc' := 119) (L2 := [.ref 77, .ref 75, .int (fn_tapeAt (f 77 5) f)]) (S2 := [.ref 77]) (μ2 := (am_S f g)) (a := 1000) (b := 1004) 1 rfl (fun c20 => ?_) (fun c20 => ?_)) ?_
                  · intro res9 g9
                    show am_F _ _ 110 [.ref 77, .ref 75, .int (fn_tapeAt (f 77 5) f)] [.ref 77] (am_S f g) _
                    refine am_F.ops (pc' := 119) (L' := [.ref 77, .ref 75, .int (fn_tapeAt (f 77 5) f)]) (S' := [.int 1000, .ref 77]) (μ' := (am_S f g)) 2 rfl ?_
                    exact g9
                  · intro res9 g9
                    show am_F _ _ 116 [.ref 77, .ref 75, .int (fn_tapeAt (f 77 5) f)] [.ref 77] (am_S f g) _
                    refine am_F.ops (pc' := 119) (L' := [.ref 77, .ref 75, .int (fn_tapeAt (f 77 5) f)]) (S' := [.int 1004, .ref 77]) (μ' := (am_S f g)) 1 rfl ?_
                    exact g9
                  show am_F _ _ 119 [.ref 77, .ref 75, .int (fn_tapeAt (f 77 5) f)] [.int (if (fn_tapeAt (f 77 5) f) = 117 then 1000 else 1004), .ref 77] (am_S f g) _
                  refine am_F.ops (pc' := 126) (L' := [.ref 77, .ref 75, .int (fn_tapeAt (f 77 5) f)]) (S' := [.int ((f 77 5) + 1), .ref 75, .int (if (fn_tapeAt (f 77 5) f) = 117 then 1000 else 1004), .ref 77]) (μ' := (am_S f g)) 5 rfl ?_
                  refine am_F.call rfl rfl (x_tapeAt ((f 77 5) + 1) f g ) (by decide) ?_
                  show am_F _ _ 129 [.ref 77, .ref 75, .int (fn_tapeAt (f 77 5) f)] [.int (fn_tapeAt ((f 77 5) + 1) f), .int (if (fn_tapeAt (f 77 5) f) = 117 then 1000 else 1004), .ref 77] (am_S f g) _
                  refine am_F.call rfl rfl (x_readAttribute (if (fn_tapeAt (f 77 5) f) = 117 then 1000 else 1004) (fn_tapeAt ((f 77 5) + 1) f) f g ) (by decide) ?_
                  obtain ⟨y21, hy21⟩ : ∃ z, (fn_readAttribute (if (fn_tapeAt (f 77 5) f) = 117 then 1000 else 1004) (fn_tapeAt ((f 77 5) + 1) f) f) = z := ⟨_, rfl⟩
                  (try rw [hy21] at hK)
                  (try rw [hy21])
                  refine am_F.mem (F' := (am_row (am_row f 77 y21.1) 78 y21.2)) (G' := g) ?_ (by first | rfl | (funext a; by_cases z0 : a = 77; (subst z0; rfl); by_cases z1 : a = 78; (subst z1; rfl); simp only [am_ui, am_ul, am_row_ne z0, am_row_ne z1])) (by first | rfl | (funext a; by_cases z0 : a = 77; (subst z0; rfl); by_cases z1 : a = 78; (subst z1; rfl); simp only [am_ui, am_ul, am_row_ne z0, am_row_ne z1]))
                  show am_F _ _ 132 [.ref 77, .ref 75, .int (fn_tapeAt (f 77 5) f)] [] (am_S (am_row (am_row f 77 y21.1) 78 y21.2) g) _
                  refine am_F.ops (pc' := 173) (L' := [.ref 77, .ref 75, .int (fn_tapeAt (f 77 5) f)]) (S' := []) (μ' := (am_S (am_row (am_row f 77 y21.1) 78 y21.2) g)) 1 rfl ?_
                  refine am_F.mem (F' := (am_row (am_row (am_row f 77 y21.1) 78 y21.2) 79 (f 79))) (G' := g) ?_ (by first | rfl | (funext a; by_cases z0 : a = 77; (subst z0; rfl); by_cases z1 : a = 78; (subst z1; rfl); by_cases z2 : a = 79; (subst z2; rfl); simp only [am_ui, am_ul, am_row_ne z0, am_row_ne z1, am_row_ne z2])) (by first | rfl | (funext a; by_cases z0 : a = 77; (subst z0; rfl); by_cases z1 : a = 78; (subst z1; rfl); by_cases z2 : a = 79; (subst z2; rfl); simp only [am_ui, am_ul, am_row_ne z0, am_row_ne z1, am_row_ne z2]))
                  subst hKd
                  exact am_F.eq (am_F.ret rfl rfl) hK
                · skip
                  show am_F _ _ 168 [.ref 77, .ref 75, .int (fn_tapeAt (f 77 5) f)] [] (am_S f g) _
                  refine am_F.ops (pc' := 170) (L' := [.ref 77, .ref 75, .int (fn_tapeAt (f 77 5) f)]) (S' := [.ref 75, .ref 77]) (μ' := (am_S f g)) 2 rfl ?_
                  refine am_F.call rfl rfl (x_readNumber  f g ) (by decide) ?_
                  obtain ⟨y22, hy22⟩ : ∃ z, (fn_readNumber f) = z := ⟨_, rfl⟩
                  (try rw [hy22] at hK)
                  (try rw [hy22])
                  refine am_F.mem (F' := (am_row (am_row f 77 y22.1) 78 y22.2)) (G' := g) ?_ (by first | rfl | (funext a; by_cases z0 : a = 77; (subst z0; rfl); by_cases z1 : a = 78; (subst z1; rfl); simp only [am_ui, am_ul, am_row_ne z0, am_row_ne z1])) (by first | rfl | (funext a; by_cases z0 : a = 77; (subst z0; rfl); by_cases z1 : a = 78; (subst z1; rfl); simp only [am_ui, am_ul, am_row_ne z0, am_row_ne z1]))
                  show am_F _ _ 173 [.ref 77, .ref 75, .int (fn_tapeAt (f 77 5) f)] [] (am_S (am_row (am_row f 77 y22.1) 78 y22.2) g) _
                  refine am_F.mem (F' := (am_row (am_row (am_row f 77 y22.1) 78 y22.2) 79 (f 79))) (G' := g) ?_ (by first | rfl | (funext a; by_cases z0 : a = 77; (subst z0; rfl); by_cases z1 : a = 78; (subst z1; rfl); by_cases z2 : a = 79; (subst z2; rfl); simp only [am_ui, am_ul, am_row_ne z0, am_row_ne z1, am_row_ne z2])) (by first | rfl | (funext a; by_cases z0 : a = 77; (subst z0; rfl); by_cases z1 : a = 78; (subst z1; rfl); by_cases z2 : a = 79; (subst z2; rfl); simp only [am_ui, am_ul, am_row_ne z0, am_row_ne z1, am_row_ne z2]))
                  subst hKd
                  exact am_F.eq (am_F.ret rfl rfl) hK
/-- AccessLattice$Reader.popDownTo -/
def st_popDownTo_2 (rank : Int32) (f : Nat → Nat → Int32) : Nat → (Nat → Int32) × (Nat → Int32) → (Nat → Int32) × (Nat → Int32) ⊕ ((Nat → Int32) × (Nat → Int32) ⊕ Empty) := fun i2 z => match z with
  | (r2_77, r2_78) => (if (fn_rankOf (fn_topMark (am_row (am_row f 77 r2_77) 78 r2_78))) < (if rank < 1 then 1 else rank) then .inr (.inl (r2_77, r2_78)) else .inl (upd (fn_emit (2000 + (fn_topMark (am_row (am_row f 77 r2_77) 78 r2_78))) (am_row (am_row f 77 r2_77) 78 r2_78)).1 3 (((fn_emit (2000 + (fn_topMark (am_row (am_row f 77 r2_77) 78 r2_78))) (am_row (am_row f 77 r2_77) 78 r2_78)).1 3) - 1), (fn_emit (2000 + (fn_topMark (am_row (am_row f 77 r2_77) 78 r2_78))) (am_row (am_row f 77 r2_77) 78 r2_78)).2))
def lf_popDownTo_2 (rank : Int32) (f : Nat → Nat → Int32) : (Nat → Int32) × (Nat → Int32) ⊕ Empty := am_forX (st_popDownTo_2 rank f) 80 0 (f 77, f 78)
def fn_popDownTo (rank : Int32) (f : Nat → Nat → Int32) : (Nat → Int32) × (Nat → Int32) := (Sum.elim (fun (z2 : (Nat → Int32) × (Nat → Int32)) => (z2.1, z2.2)) (fun (z : Empty) => z.elim) (lf_popDownTo_2 rank f))
theorem lp_popDownTo_2 (rank : Int32) (f : Nat → Nat → Int32) (g : Nat → Nat → Int64)  (res : Option Value × am_M) : ∀ (n i2 : Nat) (r2_77 : Nat → Int32) (r2_78 : Nat → Int32) , i2 + n = 80 → am_KX (fun (z : (Nat → Int32) × (Nat → Int32)) => ∀ (wc : Value), am_F 1 am_k_62 51 [.ref 77, .int rank, wc] [] (am_S (am_row (am_row f 77 z.1) 78 z.2) g) res) (fun (z : Empty) => True) (am_forX (st_popDownTo_2 rank f) n i2 (r2_77, r2_78)) → am_F 1 am_k_62 2 [.ref 77, .int rank, .int (nI i2)] [] (am_S (am_row (am_row f 77 r2_77) 78 r2_78) g) res := by
  intro n
  induction n with
  | zero =>
    intro i2 r2_77 r2_78 hi hK
    refine am_F.pos 3 rfl (by show 80 ≤ nI i2; rw [show (80 : Int32) = nI 80 from rfl]; exact nI_le (by omega) (by omega)) ?_
    exact hK _
  | succ n ih =>
    intro i2 r2_77 r2_78 hi hK
    refine am_F.neg 3 rfl (by show ¬ 80 ≤ nI i2; rw [show (80 : Int32) = nI 80 from rfl]; exact nI_ge (by omega) (by omega)) ?_
    have hb2 : i2 < 80 := by omega
    show am_F _ _ 8 [.ref 77, .int rank, .int (nI i2)] [] (am_S (am_row (am_row f 77 r2_77) 78 r2_78) g) _
    obtain ⟨K, hKd⟩ : ∃ K : ((Nat → Int32) × (Nat → Int32) ⊕ ((Nat → Int32) × (Nat → Int32) ⊕ Empty)) → Prop, K = fun s => am_KX (fun (z : (Nat → Int32) × (Nat → Int32)) => ∀ (wc : Value), am_F 1 am_k_62 51 [.ref 77, .int rank, wc] [] (am_S (am_row (am_row f 77 z.1) 78 z.2) g) res) (fun (z : Empty) => True) (am_nxt (fun z => am_forX (st_popDownTo_2 rank f) n (i2 + 1) z) s) := ⟨_, rfl⟩
    have hK : K ((st_popDownTo_2 rank f) i2 (r2_77, r2_78)) := by rw [hKd]; exact hK
    unfold st_popDownTo_2 at hK
    simp only at hK
    refine am_F.ops (pc' := 9) (L' := [.ref 77, .int rank, .int (nI i2)]) (S' := [.ref 77]) (μ' := (am_S (am_row (am_row f 77 r2_77) 78 r2_78) g)) 1 rfl ?_
    refine am_F.call rfl rfl (x_topMark  (am_row (am_row f 77 r2_77) 78 r2_78) g ) (by decide) ?_
    show am_F _ _ 12 [.ref 77, .int rank, .int (nI i2)] [.int (fn_topMark (am_row (am_row f 77 r2_77) 78 r2_78))] (am_S (am_row (am_row f 77 r2_77) 78 r2_78) g) _
    refine am_F.call rfl rfl (x_rankOf (fn_topMark (am_row (am_row f 77 r2_77) 78 r2_78)) (am_row (am_row f 77 r2_77) 78 r2_78) g ) (by decide) ?_
    show am_F _ _ 15 [.ref 77, .int rank, .int (nI i2)] [.int (fn_rankOf (fn_topMark (am_row (am_row f 77 r2_77) 78 r2_78)))] (am_S (am_row (am_row f 77 r2_77) 78 r2_78) g) _
    refine am_F.ops (pc' := 20) (L' := [.ref 77, .int rank, .int (nI i2)]) (S' := [.int (if rank < 1 then 1 else rank), .int (fn_rankOf (fn_topMark (am_row (am_row f 77 r2_77) 78 r2_78)))]) (μ' := (am_S (am_row (am_row f 77 r2_77) 78 r2_78) g)) 3 rfl ?_
    refine am_F.iteK 1 rfl K hK (fun c3 hK => ?_) (fun c3 hK => ?_)
    · show am_F _ _ 51 [.ref 77, .int rank, .int (nI i2)] [] (am_S (am_row (am_row f 77 r2_77) 78 r2_78) g) _
      subst hKd
      exact hK (.int (nI i2))
    · show am_F _ _ 23 [.ref 77, .int rank, .int (nI i2)] [] (am_S (am_row (am_row f 77 r2_77) 78 r2_78) g) _
      refine am_F.ops (pc' := 28) (L' := [.ref 77, .int rank, .int (nI i2)]) (S' := [.ref 77, .int 2000, .ref 77]) (μ' := (am_S (am_row (am_row f 77 r2_77) 78 r2_78) g)) 3 rfl ?_
      refine am_F.call rfl rfl (x_topMark  (am_row (am_row f 77 r2_77) 78 r2_78) g ) (by decide) ?_
      show am_F _ _ 31 [.ref 77, .int rank, .int (nI i2)] [.int (fn_topMark (am_row (am_row f 77 r2_77) 78 r2_78)), .int 2000, .ref 77] (am_S (am_row (am_row f 77 r2_77) 78 r2_78) g) _
      refine am_F.ops (pc' := 32) (L' := [.ref 77, .int rank, .int (nI i2)]) (S' := [.int (2000 + (fn_topMark (am_row (am_row f 77 r2_77) 78 r2_78))), .ref 77]) (μ' := (am_S (am_row (am_row f 77 r2_77) 78 r2_78) g)) 1 rfl ?_
      refine am_F.call rfl rfl (x_emit (2000 + (fn_topMark (am_row (am_row f 77 r2_77) 78 r2_78))) (am_row (am_row f 77 r2_77) 78 r2_78) g ) (by decide) ?_
      obtain ⟨y4, hy4⟩ : ∃ z, (fn_emit (2000 + (fn_topMark (am_row (am_row f 77 r2_77) 78 r2_78))) (am_row (am_row f 77 r2_77) 78 r2_78)) = z := ⟨_, rfl⟩
      (try rw [hy4] at hK)
      (try rw [hy4])
      refine am_F.mem (F' := (am_row (am_row f 77 y4.1) 78 y4.2)) (G' := g) ?_ (by first | rfl | (funext a; by_cases z0 : a = 77; (subst z0; rfl); by_cases z1 : a = 78; (subst z1; rfl); simp only [am_ui, am_ul, am_row_ne z0, am_row_ne z1])) (by first | rfl | (funext a; by_cases z0 : a = 77; (subst z0; rfl); by_cases z1 : a = 78; (subst z1; rfl); simp only [am_ui, am_ul, am_row_ne z0, am_row_ne z1]))
      show am_F _ _ 35 [.ref 77, .int rank, .int (nI i2)] [] (am_S (am_row (am_row f 77 y4.1) 78 y4.2) g) _
      refine am_F.ops (pc' := 42) (L' := [.ref 77, .int rank, .int (nI i2)]) (S' := [.int ((y4.1 3) - 1), .ref 77]) (μ' := (am_S (am_row (am_row f 77 y4.1) 78 y4.2) g)) 5 rfl ?_
      refine am_F.pfi (F' := (am_row (am_row f 77 (upd y4.1 3 ((y4.1 3) - 1))) 78 y4.2)) rfl rfl (by first | rfl | (funext a; by_cases z0 : a = 77; (subst z0; rfl); by_cases z1 : a = 78; (subst z1; rfl); simp only [am_ui, am_ul, am_row_ne z0, am_row_ne z1])) ?_
      refine am_F.ops (pc' := 2) (L' := [.ref 77, .int rank, .int ((nI i2) + 1)]) (S' := []) (μ' := (am_S (am_row (am_row f 77 (upd y4.1 3 ((y4.1 3) - 1))) 78 y4.2) g)) 2 rfl ?_
      rw [nI_1 i2]
      subst hKd
      exact ih (i2 + 1) (upd y4.1 3 ((y4.1 3) - 1)) y4.2 (by omega)  hK
theorem x_popDownTo (rank : Int32) (f : Nat → Nat → Int32) (g : Nat → Nat → Int64)  : am_D 1 62 3 [.ref 77, .int rank] (am_S f g) ((none : Option Value), am_S (am_row (am_row f 77 ((fn_popDownTo rank f).1)) 78 ((fn_popDownTo rank f).2)) g) := by
  refine am_D.of (code := am_k_62) rfl (L0 := [.ref 77, .int rank, am_un]) rfl ?_
  generalize hres : ((none : Option Value), am_S (am_row (am_row f 77 ((fn_popDownTo rank f).1)) 78 ((fn_popDownTo rank f).2)) g) = res
  obtain ⟨K, hKd⟩ : ∃ K : ((Nat → Int32) × (Nat → Int32)) → Prop, K = fun z => ((none : Option Value), am_S (am_row (am_row f 77 z.1) 78 z.2) g) = res := ⟨_, rfl⟩
  have hK : K (fn_popDownTo rank f) := by rw [hKd]; exact hres
  clear hres
  unfold fn_popDownTo at hK
  refine am_F.ops (pc' := 2) (L' := [.ref 77, .int rank, .int 0]) (S' := []) (μ' := (am_S f g)) 2 rfl ?_
  refine am_F.mem (F' := (am_row (am_row f 77 (f 77)) 78 (f 78))) (G' := g) ?_ (by first | rfl | (funext a; by_cases z0 : a = 77; (subst z0; rfl); by_cases z1 : a = 78; (subst z1; rfl); simp only [am_ui, am_ul, am_row_ne z0, am_row_ne z1])) (by first | rfl | (funext a; by_cases z0 : a = 77; (subst z0; rfl); by_cases z1 : a = 78; (subst z1; rfl); simp only [am_ui, am_ul, am_row_ne z0, am_row_ne z1]))
  show am_F _ _ 2 [.ref 77, .int rank, .int (nI 0)] [] (am_S (am_row (am_row f 77 (f 77)) 78 (f 78)) g) _
  refine lp_popDownTo_2 rank f g  _ 80 0 (f 77) (f 78)  (by omega)  ?_
  rw [show am_forX (st_popDownTo_2 rank f) 80 0 (f 77, f 78) = (lf_popDownTo_2 rank f) from rfl]
  revert hK
  cases (lf_popDownTo_2 rank f) with
  | inr z =>
    intro hK
    exact z.elim
  | inl z2 =>
    intro hK wc
    subst hKd
    exact am_F.eq (am_F.ret rfl rfl) hK
/-- AccessLattice$Reader.readOperator -/
def fn_readOperator (letter : Int32) (f : Nat → Nat → Int32) : (Nat → Int32) × (Nat → Int32) × (Nat → Int32) := (if letter = 41 then (if (f 77 4) ≤ 0 then (if (fn_rankOf letter) = 0 then (upd (fn_popDownTo (if (fn_rankOf letter) = 3 then 4 else (fn_rankOf letter)) f).1 6 ((fn_popDownTo (if (fn_rankOf letter) = 3 then 4 else (fn_rankOf letter)) f).1 5), (fn_popDownTo (if (fn_rankOf letter) = 3 then 4 else (fn_rankOf letter)) f).2, f 79) else (if (fn_rankOf letter) = 3 then (if (fn_rankOf (fn_topMark (am_row (am_row f 77 (fn_popDownTo (if (fn_rankOf letter) = 3 then 4 else (fn_rankOf letter)) f).1) 78 (fn_popDownTo (if (fn_rankOf letter) = 3 then 4 else (fn_rankOf letter)) f).2))) = 3 then (upd (fn_popDownTo (if (fn_rankOf letter) = 3 then 4 else (fn_rankOf letter)) f).1 6 ((fn_popDownTo (if (fn_rankOf letter) = 3 then 4 else (fn_rankOf letter)) f).1 5), (fn_popDownTo (if (fn_rankOf letter) = 3 then 4 else (fn_rankOf letter)) f).2, f 79) else (upd (upd (fn_push letter (am_row (am_row f 77 (fn_popDownTo (if (fn_rankOf letter) = 3 then 4 else (fn_rankOf letter)) f).1) 78 (fn_popDownTo (if (fn_rankOf letter) = 3 then 4 else (fn_rankOf letter)) f).2)).1 5 (((fn_push letter (am_row (am_row f 77 (fn_popDownTo (if (fn_rankOf letter) = 3 then 4 else (fn_rankOf letter)) f).1) 78 (fn_popDownTo (if (fn_rankOf letter) = 3 then 4 else (fn_rankOf letter)) f).2)).1 5) + 1)) 7 1, (fn_popDownTo (if (fn_rankOf letter) = 3 then 4 else (fn_rankOf letter)) f).2, (fn_push letter (am_row (am_row f 77 (fn_popDownTo (if (fn_rankOf letter) = 3 then 4 else (fn_rankOf letter)) f).1) 78 (fn_popDownTo (if (fn_rankOf letter) = 3 then 4 else (fn_rankOf letter)) f).2)).2)) else (upd (upd (fn_push letter (am_row (am_row f 77 (fn_popDownTo (if (fn_rankOf letter) = 3 then 4 else (fn_rankOf letter)) f).1) 78 (fn_popDownTo (if (fn_rankOf letter) = 3 then 4 else (fn_rankOf letter)) f).2)).1 5 (((fn_push letter (am_row (am_row f 77 (fn_popDownTo (if (fn_rankOf letter) = 3 then 4 else (fn_rankOf letter)) f).1) 78 (fn_popDownTo (if (fn_rankOf letter) = 3 then 4 else (fn_rankOf letter)) f).2)).1 5) + 1)) 7 1, (fn_popDownTo (if (fn_rankOf letter) = 3 then 4 else (fn_rankOf letter)) f).2, (fn_push letter (am_row (am_row f 77 (fn_popDownTo (if (fn_rankOf letter) = 3 then 4 else (fn_rankOf letter)) f).1) 78 (fn_popDownTo (if (fn_rankOf letter) = 3 then 4 else (fn_rankOf letter)) f).2)).2))) else ((fn_endOperand (am_row (am_row f 77 (upd (upd (upd (fn_popDownTo 1 f).1 3 (if (((fn_popDownTo 1 f).1 3) - 1) < 0 then 0 else (((fn_popDownTo 1 f).1 3) - 1))) 4 (((fn_popDownTo 1 f).1 4) - 1)) 5 (((fn_popDownTo 1 f).1 5) + 1))) 78 (fn_popDownTo 1 f).2)).1, (fn_endOperand (am_row (am_row f 77 (upd (upd (upd (fn_popDownTo 1 f).1 3 (if (((fn_popDownTo 1 f).1 3) - 1) < 0 then 0 else (((fn_popDownTo 1 f).1 3) - 1))) 4 (((fn_popDownTo 1 f).1 4) - 1)) 5 (((fn_popDownTo 1 f).1 5) + 1))) 78 (fn_popDownTo 1 f).2)).2, f 79)) else (if (fn_rankOf letter) = 0 then (upd (fn_popDownTo (if (fn_rankOf letter) = 3 then 4 else (fn_rankOf letter)) f).1 6 ((fn_popDownTo (if (fn_rankOf letter) = 3 then 4 else (fn_rankOf letter)) f).1 5), (fn_popDownTo (if (fn_rankOf letter) = 3 then 4 else (fn_rankOf letter)) f).2, f 79) else (if (fn_rankOf letter) = 3 then (if (fn_rankOf (fn_topMark (am_row (am_row f 77 (fn_popDownTo (if (fn_rankOf letter) = 3 then 4 else (fn_rankOf letter)) f).1) 78 (fn_popDownTo (if (fn_rankOf letter) = 3 then 4 else (fn_rankOf letter)) f).2))) = 3 then (upd (fn_popDownTo (if (fn_rankOf letter) = 3 then 4 else (fn_rankOf letter)) f).1 6 ((fn_popDownTo (if (fn_rankOf letter) = 3 then 4 else (fn_rankOf letter)) f).1 5), (fn_popDownTo (if (fn_rankOf letter) = 3 then 4 else (fn_rankOf letter)) f).2, f 79) else (upd (upd (fn_push letter (am_row (am_row f 77 (fn_popDownTo (if (fn_rankOf letter) = 3 then 4 else (fn_rankOf letter)) f).1) 78 (fn_popDownTo (if (fn_rankOf letter) = 3 then 4 else (fn_rankOf letter)) f).2)).1 5 (((fn_push letter (am_row (am_row f 77 (fn_popDownTo (if (fn_rankOf letter) = 3 then 4 else (fn_rankOf letter)) f).1) 78 (fn_popDownTo (if (fn_rankOf letter) = 3 then 4 else (fn_rankOf letter)) f).2)).1 5) + 1)) 7 1, (fn_popDownTo (if (fn_rankOf letter) = 3 then 4 else (fn_rankOf letter)) f).2, (fn_push letter (am_row (am_row f 77 (fn_popDownTo (if (fn_rankOf letter) = 3 then 4 else (fn_rankOf letter)) f).1) 78 (fn_popDownTo (if (fn_rankOf letter) = 3 then 4 else (fn_rankOf letter)) f).2)).2)) else (upd (upd (fn_push letter (am_row (am_row f 77 (fn_popDownTo (if (fn_rankOf letter) = 3 then 4 else (fn_rankOf letter)) f).1) 78 (fn_popDownTo (if (fn_rankOf letter) = 3 then 4 else (fn_rankOf letter)) f).2)).1 5 (((fn_push letter (am_row (am_row f 77 (fn_popDownTo (if (fn_rankOf letter) = 3 then 4 else (fn_rankOf letter)) f).1) 78 (fn_popDownTo (if (fn_rankOf letter) = 3 then 4 else (fn_rankOf letter)) f).2)).1 5) + 1)) 7 1, (fn_popDownTo (if (fn_rankOf letter) = 3 then 4 else (fn_rankOf letter)) f).2, (fn_push letter (am_row (am_row f 77 (fn_popDownTo (if (fn_rankOf letter) = 3 then 4 else (fn_rankOf letter)) f).1) 78 (fn_popDownTo (if (fn_rankOf letter) = 3 then 4 else (fn_rankOf letter)) f).2)).2))))
theorem x_readOperator (letter : Int32) (f : Nat → Nat → Int32) (g : Nat → Nat → Int64)  : am_D 2 60 3 [.ref 77, .int letter] (am_S f g) ((none : Option Value), am_S (am_row (am_row (am_row f 77 ((fn_readOperator letter f).1)) 78 ((fn_readOperator letter f).2.1)) 79 ((fn_readOperator letter f).2.2)) g) := by
  refine am_D.of (code := am_k_60) rfl (L0 := [.ref 77, .int letter, am_un]) rfl ?_
  generalize hres : ((none : Option Value), am_S (am_row (am_row (am_row f 77 ((fn_readOperator letter f).1)) 78 ((fn_readOperator letter f).2.1)) 79 ((fn_readOperator letter f).2.2)) g) = res
  obtain ⟨K, hKd⟩ : ∃ K : ((Nat → Int32) × (Nat → Int32) × (Nat → Int32)) → Prop, K = fun z => ((none : Option Value), am_S (am_row (am_row (am_row f 77 z.1) 78 z.2.1) 79 z.2.2) g) = res := ⟨_, rfl⟩
  have hK : K (fn_readOperator letter f) := by rw [hKd]; exact hres
  clear hres
  unfold fn_readOperator at hK
  refine am_F.ops (pc' := 1) (L' := [.ref 77, .int letter, am_un]) (S' := [.int letter]) (μ' := (am_S f g)) 1 rfl ?_
  refine am_F.call rfl rfl (x_rankOf letter f g ) (by decide) ?_
  show am_F _ _ 4 [.ref 77, .int letter, am_un] [.int (fn_rankOf letter)] (am_S f g) _
  refine am_F.ops (pc' := 8) (L' := [.ref 77, .int letter, .int (fn_rankOf letter)]) (S' := [.int 41, .int letter]) (μ' := (am_S f g)) 3 rfl ?_
  refine am_F.iteK 1 rfl K hK (fun c1 hK => ?_) (fun c1 hK => ?_)
  · show am_F _ _ 11 [.ref 77, .int letter, .int (fn_rankOf letter)] [] (am_S f g) _
    refine am_F.ops (pc' := 15) (L' := [.ref 77, .int letter, .int (fn_rankOf letter)]) (S' := [.int (f 77 4)]) (μ' := (am_S f g)) 2 rfl ?_
    refine am_F.iteK 1 rfl K hK (fun c2 hK => ?_) (fun c2 hK => ?_)
    · show am_F _ _ 62 [.ref 77, .int letter, .int (fn_rankOf letter)] [] (am_S f g) _
      refine am_F.ops (pc' := 65) (L' := [.ref 77, .int letter, .int (fn_rankOf letter)]) (S' := [.int 3, .int (fn_rankOf letter), .ref 77]) (μ' := (am_S f g)) 3 rfl ?_
      refine am_F.to (am_To.ite (pc' := 73) (L2 := [.ref 77, .int letter, .int (fn_rankOf letter)]) (S2 := [.ref 77]) (μ2 := (am_S f g)) (a := 4) (b := (fn_rankOf letter)) 1 rfl (fun c3 => ?_) (fun c3 => ?_)) ?_
      · intro res9 g9
        show am_F _ _ 68 [.ref 77, .int letter, .int (fn_rankOf letter)] [.ref 77] (am_S f g) _
        refine am_F.ops (pc' := 73) (L' := [.ref 77, .int letter, .int (fn_rankOf letter)]) (S' := [.int 4, .ref 77]) (μ' := (am_S f g)) 2 rfl ?_
        exact g9
      · intro res9 g9
        show am_F _ _ 72 [.ref 77, .int letter, .int (fn_rankOf letter)] [.ref 77] (am_S f g) _
        refine am_F.ops (pc' := 73) (L' := [.ref 77, .int letter, .int (fn_rankOf letter)]) (S' := [.int (fn_rankOf letter), .ref 77]) (μ' := (am_S f g)) 1 rfl ?_
        exact g9
      show am_F _ _ 73 [.ref 77, .int letter, .int (fn_rankOf letter)] [.int (if (fn_rankOf letter) = 3 then 4 else (fn_rankOf letter)), .ref 77] (am_S f g) _
      refine am_F.call rfl rfl (x_popDownTo (if (fn_rankOf letter) = 3 then 4 else (fn_rankOf letter)) f g ) (by decide) ?_
      obtain ⟨y4, hy4⟩ : ∃ z, (fn_popDownTo (if (fn_rankOf letter) = 3 then 4 else (fn_rankOf letter)) f) = z := ⟨_, rfl⟩
      (try rw [hy4] at hK)
      (try rw [hy4])
      refine am_F.mem (F' := (am_row (am_row f 77 y4.1) 78 y4.2)) (G' := g) ?_ (by first | rfl | (funext a; by_cases z0 : a = 77; (subst z0; rfl); by_cases z1 : a = 78; (subst z1; rfl); simp only [am_ui, am_ul, am_row_ne z0, am_row_ne z1])) (by first | rfl | (funext a; by_cases z0 : a = 77; (subst z0; rfl); by_cases z1 : a = 78; (subst z1; rfl); simp only [am_ui, am_ul, am_row_ne z0, am_row_ne z1]))
      show am_F _ _ 76 [.ref 77, .int letter, .int (fn_rankOf letter)] [] (am_S (am_row (am_row f 77 y4.1) 78 y4.2) g) _
      refine am_F.ops (pc' := 77) (L' := [.ref 77, .int letter, .int (fn_rankOf letter)]) (S' := [.int (fn_rankOf letter)]) (μ' := (am_S (am_row (am_row f 77 y4.1) 78 y4.2) g)) 1 rfl ?_
      refine am_F.iteK 1 rfl K hK (fun c5 hK => ?_) (fun c5 hK => ?_)
      · show am_F _ _ 96 [.ref 77, .int letter, .int (fn_rankOf letter)] [] (am_S (am_row (am_row f 77 y4.1) 78 y4.2) g) _
        refine am_F.ops (pc' := 101) (L' := [.ref 77, .int letter, .int (fn_rankOf letter)]) (S' := [.int (y4.1 5), .ref 77]) (μ' := (am_S (am_row (am_row f 77 y4.1) 78 y4.2) g)) 3 rfl ?_
        refine am_F.pfi (F' := (am_row (am_row f 77 (upd y4.1 6 (y4.1 5))) 78 y4.2)) rfl rfl (by first | rfl | (funext a; by_cases z0 : a = 77; (subst z0; rfl); by_cases z1 : a = 78; (subst z1; rfl); simp only [am_ui, am_ul, am_row_ne z0, am_row_ne z1])) ?_
        refine am_F.mem (F' := (am_row (am_row (am_row f 77 (upd y4.1 6 (y4.1 5))) 78 y4.2) 79 (f 79))) (G' := g) ?_ (by first | rfl | (funext a; by_cases z0 : a = 77; (subst z0; rfl); by_cases z1 : a = 78; (subst z1; rfl); by_cases z2 : a = 79; (subst z2; rfl); simp only [am_ui, am_ul, am_row_ne z0, am_row_ne z1, am_row_ne z2])) (by first | rfl | (funext a; by_cases z0 : a = 77; (subst z0; rfl); by_cases z1 : a = 78; (subst z1; rfl); by_cases z2 : a = 79; (subst z2; rfl); simp only [am_ui, am_ul, am_row_ne z0, am_row_ne z1, am_row_ne z2]))
        subst hKd
        exact am_F.eq (am_F.ret rfl rfl) hK
      · show am_F _ _ 80 [.ref 77, .int letter, .int (fn_rankOf letter)] [] (am_S (am_row (am_row f 77 y4.1) 78 y4.2) g) _
        refine am_F.ops (pc' := 82) (L' := [.ref 77, .int letter, .int (fn_rankOf letter)]) (S' := [.int 3, .int (fn_rankOf letter)]) (μ' := (am_S (am_row (am_row f 77 y4.1) 78 y4.2) g)) 2 rfl ?_
        refine am_F.iteK 1 rfl K hK (fun c6 hK => ?_) (fun c6 hK => ?_)
        · show am_F _ _ 85 [.ref 77, .int letter, .int (fn_rankOf letter)] [] (am_S (am_row (am_row f 77 y4.1) 78 y4.2) g) _
          refine am_F.ops (pc' := 86) (L' := [.ref 77, .int letter, .int (fn_rankOf letter)]) (S' := [.ref 77]) (μ' := (am_S (am_row (am_row f 77 y4.1) 78 y4.2) g)) 1 rfl ?_
          refine am_F.call rfl rfl (x_topMark  (am_row (am_row f 77 y4.1) 78 y4.2) g ) (by decide) ?_
          show am_F _ _ 89 [.ref 77, .int letter, .int (fn_rankOf letter)] [.int (fn_topMark (am_row (am_row f 77 y4.1) 78 y4.2))] (am_S (am_row (am_row f 77 y4.1) 78 y4.2) g) _
          refine am_F.call rfl rfl (x_rankOf (fn_topMark (am_row (am_row f 77 y4.1) 78 y4.2)) (am_row (am_row f 77 y4.1) 78 y4.2) g ) (by decide) ?_
          show am_F _ _ 92 [.ref 77, .int letter, .int (fn_rankOf letter)] [.int (fn_rankOf (fn_topMark (am_row (am_row f 77 y4.1) 78 y4.2)))] (am_S (am_row (am_row f 77 y4.1) 78 y4.2) g) _
          refine am_F.ops (pc' := 93) (L' := [.ref 77, .int letter, .int (fn_rankOf letter)]) (S' := [.int 3, .int (fn_rankOf (fn_topMark (am_row (am_row f 77 y4.1) 78 y4.2)))]) (μ' := (am_S (am_row (am_row f 77 y4.1) 78 y4.2) g)) 1 rfl ?_
          refine am_F.iteK 1 rfl K hK (fun c7 hK => ?_) (fun c7 hK => ?_)
          · show am_F _ _ 96 [.ref 77, .int letter, .int (fn_rankOf letter)] [] (am_S (am_row (am_row f 77 y4.1) 78 y4.2) g) _
            refine am_F.ops (pc' := 101) (L' := [.ref 77, .int letter, .int (fn_rankOf letter)]) (S' := [.int (y4.1 5), .ref 77]) (μ' := (am_S (am_row (am_row f 77 y4.1) 78 y4.2) g)) 3 rfl ?_
            refine am_F.pfi (F' := (am_row (am_row f 77 (upd y4.1 6 (y4.1 5))) 78 y4.2)) rfl rfl (by first | rfl | (funext a; by_cases z0 : a = 77; (subst z0; rfl); by_cases z1 : a = 78; (subst z1; rfl); simp only [am_ui, am_ul, am_row_ne z0, am_row_ne z1])) ?_
            refine am_F.mem (F' := (am_row (am_row (am_row f 77 (upd y4.1 6 (y4.1 5))) 78 y4.2) 79 (f 79))) (G' := g) ?_ (by first | rfl | (funext a; by_cases z0 : a = 77; (subst z0; rfl); by_cases z1 : a = 78; (subst z1; rfl); by_cases z2 : a = 79; (subst z2; rfl); simp only [am_ui, am_ul, am_row_ne z0, am_row_ne z1, am_row_ne z2])) (by first | rfl | (funext a; by_cases z0 : a = 77; (subst z0; rfl); by_cases z1 : a = 78; (subst z1; rfl); by_cases z2 : a = 79; (subst z2; rfl); simp only [am_ui, am_ul, am_row_ne z0, am_row_ne z1, am_row_ne z2]))
            subst hKd
            exact am_F.eq (am_F.ret rfl rfl) hK
          · show am_F _ _ 105 [.ref 77, .int letter, .int (fn_rankOf letter)] [] (am_S (am_row (am_row f 77 y4.1) 78 y4.2) g) _
            refine am_F.ops (pc' := 107) (L' := [.ref 77, .int letter, .int (fn_rankOf letter)]) (S' := [.int letter, .ref 77]) (μ' := (am_S (am_row (am_row f 77 y4.1) 78 y4.2) g)) 2 rfl ?_
            refine am_F.call rfl rfl (x_push letter (am_row (am_row f 77 y4.1) 78 y4.2) g ) (by decide) ?_
            obtain ⟨y8, hy8⟩ : ∃ z, (fn_push letter (am_row (am_row f 77 y4.1) 78 y4.2)) = z := ⟨_, rfl⟩
            (try rw [hy8] at hK)
            (try rw [hy8])
            refine am_F.mem (F' := (am_row (am_row (am_row f 77 y8.1) 78 y4.2) 79 y8.2)) (G' := g) ?_ (by first | rfl | (funext a; by_cases z0 : a = 77; (subst z0; rfl); by_cases z1 : a = 78; (subst z1; rfl); by_cases z2 : a = 79; (subst z2; rfl); simp only [am_ui, am_ul, am_row_ne z0, am_row_ne z1, am_row_ne z2])) (by first | rfl | (funext a; by_cases z0 : a = 77; (subst z0; rfl); by_cases z1 : a = 78; (subst z1; rfl); by_cases z2 : a = 79; (subst z2; rfl); simp only [am_ui, am_ul, am_row_ne z0, am_row_ne z1, am_row_ne z2]))
            show am_F _ _ 110 [.ref 77, .int letter, .int (fn_rankOf letter)] [] (am_S (am_row (am_row (am_row f 77 y8.1) 78 y4.2) 79 y8.2) g) _
            refine am_F.ops (pc' := 117) (L' := [.ref 77, .int letter, .int (fn_rankOf letter)]) (S' := [.int ((y8.1 5) + 1), .ref 77]) (μ' := (am_S (am_row (am_row (am_row f 77 y8.1) 78 y4.2) 79 y8.2) g)) 5 rfl ?_
            refine am_F.pfi (F' := (am_row (am_row (am_row f 77 (upd y8.1 5 ((y8.1 5) + 1))) 78 y4.2) 79 y8.2)) rfl rfl (by first | rfl | (funext a; by_cases z0 : a = 77; (subst z0; rfl); by_cases z1 : a = 78; (subst z1; rfl); by_cases z2 : a = 79; (subst z2; rfl); simp only [am_ui, am_ul, am_row_ne z0, am_row_ne z1, am_row_ne z2])) ?_
            refine am_F.ops (pc' := 122) (L' := [.ref 77, .int letter, .int (fn_rankOf letter)]) (S' := [.int 1, .ref 77]) (μ' := (am_S (am_row (am_row (am_row f 77 (upd y8.1 5 ((y8.1 5) + 1))) 78 y4.2) 79 y8.2) g)) 2 rfl ?_
            refine am_F.pfz (F' := (am_row (am_row (am_row f 77 (upd (upd y8.1 5 ((y8.1 5) + 1)) 7 1)) 78 y4.2) 79 y8.2)) rfl rfl rfl (by first | rfl | (funext a; by_cases z0 : a = 77; (subst z0; rfl); by_cases z1 : a = 78; (subst z1; rfl); by_cases z2 : a = 79; (subst z2; rfl); simp only [am_ui, am_ul, am_row_ne z0, am_row_ne z1, am_row_ne z2])) ?_
            subst hKd
            exact am_F.eq (am_F.ret rfl rfl) hK
        · show am_F _ _ 105 [.ref 77, .int letter, .int (fn_rankOf letter)] [] (am_S (am_row (am_row f 77 y4.1) 78 y4.2) g) _
          refine am_F.ops (pc' := 107) (L' := [.ref 77, .int letter, .int (fn_rankOf letter)]) (S' := [.int letter, .ref 77]) (μ' := (am_S (am_row (am_row f 77 y4.1) 78 y4.2) g)) 2 rfl ?_
          refine am_F.call rfl rfl (x_push letter (am_row (am_row f 77 y4.1) 78 y4.2) g ) (by decide) ?_
          obtain ⟨y9, hy9⟩ : ∃ z, (fn_push letter (am_row (am_row f 77 y4.1) 78 y4.2)) = z := ⟨_, rfl⟩
          (try rw [hy9] at hK)
          (try rw [hy9])
          refine am_F.mem (F' := (am_row (am_row (am_row f 77 y9.1) 78 y4.2) 79 y9.2)) (G' := g) ?_ (by first | rfl | (funext a; by_cases z0 : a = 77; (subst z0; rfl); by_cases z1 : a = 78; (subst z1; rfl); by_cases z2 : a = 79; (subst z2; rfl); simp only [am_ui, am_ul, am_row_ne z0, am_row_ne z1, am_row_ne z2])) (by first | rfl | (funext a; by_cases z0 : a = 77; (subst z0; rfl); by_cases z1 : a = 78; (subst z1; rfl); by_cases z2 : a = 79; (subst z2; rfl); simp only [am_ui, am_ul, am_row_ne z0, am_row_ne z1, am_row_ne z2]))
          show am_F _ _ 110 [.ref 77, .int letter, .int (fn_rankOf letter)] [] (am_S (am_row (am_row (am_row f 77 y9.1) 78 y4.2) 79 y9.2) g) _
          refine am_F.ops (pc' := 117) (L' := [.ref 77, .int letter, .int (fn_rankOf letter)]) (S' := [.int ((y9.1 5) + 1), .ref 77]) (μ' := (am_S (am_row (am_row (am_row f 77 y9.1) 78 y4.2) 79 y9.2) g)) 5 rfl ?_
          refine am_F.pfi (F' := (am_row (am_row (am_row f 77 (upd y9.1 5 ((y9.1 5) + 1))) 78 y4.2) 79 y9.2)) rfl rfl (by first | rfl | (funext a; by_cases z0 : a = 77; (subst z0; rfl); by_cases z1 : a = 78; (subst z1; rfl); by_cases z2 : a = 79; (subst z2; rfl); simp only [am_ui, am_ul, am_row_ne z0, am_row_ne z1, am_row_ne z2])) ?_
          refine am_F.ops (pc' := 122) (L' := [.ref 77, .int letter, .int (fn_rankOf letter)]) (S' := [.int 1, .ref 77]) (μ' := (am_S (am_row (am_row (am_row f 77 (upd y9.1 5 ((y9.1 5) + 1))) 78 y4.2) 79 y9.2) g)) 2 rfl ?_
          refine am_F.pfz (F' := (am_row (am_row (am_row f 77 (upd (upd y9.1 5 ((y9.1 5) + 1)) 7 1)) 78 y4.2) 79 y9.2)) rfl rfl rfl (by first | rfl | (funext a; by_cases z0 : a = 77; (subst z0; rfl); by_cases z1 : a = 78; (subst z1; rfl); by_cases z2 : a = 79; (subst z2; rfl); simp only [am_ui, am_ul, am_row_ne z0, am_row_ne z1, am_row_ne z2])) ?_
          subst hKd
          exact am_F.eq (am_F.ret rfl rfl) hK
    · show am_F _ _ 18 [.ref 77, .int letter, .int (fn_rankOf letter)] [] (am_S f g) _
      refine am_F.ops (pc' := 20) (L' := [.ref 77, .int letter, .int (fn_rankOf letter)]) (S' := [.int 1, .ref 77]) (μ' := (am_S f g)) 2 rfl ?_
      refine am_F.call rfl rfl (x_popDownTo 1 f g ) (by decide) ?_
      obtain ⟨y10, hy10⟩ : ∃ z, (fn_popDownTo 1 f) = z := ⟨_, rfl⟩
      (try rw [hy10] at hK)
      (try rw [hy10])
      refine am_F.mem (F' := (am_row (am_row f 77 y10.1) 78 y10.2)) (G' := g) ?_ (by first | rfl | (funext a; by_cases z0 : a = 77; (subst z0; rfl); by_cases z1 : a = 78; (subst z1; rfl); simp only [am_ui, am_ul, am_row_ne z0, am_row_ne z1])) (by first | rfl | (funext a; by_cases z0 : a = 77; (subst z0; rfl); by_cases z1 : a = 78; (subst z1; rfl); simp only [am_ui, am_ul, am_row_ne z0, am_row_ne z1]))
      show am_F _ _ 23 [.ref 77, .int letter, .int (fn_rankOf letter)] [] (am_S (am_row (am_row f 77 y10.1) 78 y10.2) g) _
      refine am_F.ops (pc' := 34) (L' := [.ref 77, .int letter, .int (fn_rankOf letter)]) (S' := [.int (if ((y10.1 3) - 1) < 0 then 0 else ((y10.1 3) - 1)), .ref 77]) (μ' := (am_S (am_row (am_row f 77 y10.1) 78 y10.2) g)) 7 rfl ?_
      refine am_F.pfi (F' := (am_row (am_row f 77 (upd y10.1 3 (if ((y10.1 3) - 1) < 0 then 0 else ((y10.1 3) - 1)))) 78 y10.2)) rfl rfl (by first | rfl | (funext a; by_cases z0 : a = 77; (subst z0; rfl); by_cases z1 : a = 78; (subst z1; rfl); simp only [am_ui, am_ul, am_row_ne z0, am_row_ne z1])) ?_
      refine am_F.ops (pc' := 44) (L' := [.ref 77, .int letter, .int (fn_rankOf letter)]) (S' := [.int ((y10.1 4) - 1), .ref 77]) (μ' := (am_S (am_row (am_row f 77 (upd y10.1 3 (if ((y10.1 3) - 1) < 0 then 0 else ((y10.1 3) - 1)))) 78 y10.2) g)) 5 rfl ?_
      refine am_F.pfi (F' := (am_row (am_row f 77 (upd (upd y10.1 3 (if ((y10.1 3) - 1) < 0 then 0 else ((y10.1 3) - 1))) 4 ((y10.1 4) - 1))) 78 y10.2)) rfl rfl (by first | rfl | (funext a; by_cases z0 : a = 77; (subst z0; rfl); by_cases z1 : a = 78; (subst z1; rfl); simp only [am_ui, am_ul, am_row_ne z0, am_row_ne z1])) ?_
      refine am_F.ops (pc' := 54) (L' := [.ref 77, .int letter, .int (fn_rankOf letter)]) (S' := [.int ((y10.1 5) + 1), .ref 77]) (μ' := (am_S (am_row (am_row f 77 (upd (upd y10.1 3 (if ((y10.1 3) - 1) < 0 then 0 else ((y10.1 3) - 1))) 4 ((y10.1 4) - 1))) 78 y10.2) g)) 5 rfl ?_
      refine am_F.pfi (F' := (am_row (am_row f 77 (upd (upd (upd y10.1 3 (if ((y10.1 3) - 1) < 0 then 0 else ((y10.1 3) - 1))) 4 ((y10.1 4) - 1)) 5 ((y10.1 5) + 1))) 78 y10.2)) rfl rfl (by first | rfl | (funext a; by_cases z0 : a = 77; (subst z0; rfl); by_cases z1 : a = 78; (subst z1; rfl); simp only [am_ui, am_ul, am_row_ne z0, am_row_ne z1])) ?_
      refine am_F.ops (pc' := 58) (L' := [.ref 77, .int letter, .int (fn_rankOf letter)]) (S' := [.ref 77]) (μ' := (am_S (am_row (am_row f 77 (upd (upd (upd y10.1 3 (if ((y10.1 3) - 1) < 0 then 0 else ((y10.1 3) - 1))) 4 ((y10.1 4) - 1)) 5 ((y10.1 5) + 1))) 78 y10.2) g)) 1 rfl ?_
      refine am_F.call rfl rfl (x_endOperand  (am_row (am_row f 77 (upd (upd (upd y10.1 3 (if ((y10.1 3) - 1) < 0 then 0 else ((y10.1 3) - 1))) 4 ((y10.1 4) - 1)) 5 ((y10.1 5) + 1))) 78 y10.2) g ) (by decide) ?_
      obtain ⟨y11, hy11⟩ : ∃ z, (fn_endOperand (am_row (am_row f 77 (upd (upd (upd y10.1 3 (if ((y10.1 3) - 1) < 0 then 0 else ((y10.1 3) - 1))) 4 ((y10.1 4) - 1)) 5 ((y10.1 5) + 1))) 78 y10.2)) = z := ⟨_, rfl⟩
      (try rw [hy11] at hK)
      (try rw [hy11])
      refine am_F.mem (F' := (am_row (am_row f 77 y11.1) 78 y11.2)) (G' := g) ?_ (by first | rfl | (funext a; by_cases z0 : a = 77; (subst z0; rfl); by_cases z1 : a = 78; (subst z1; rfl); simp only [am_ui, am_ul, am_row_ne z0, am_row_ne z1])) (by first | rfl | (funext a; by_cases z0 : a = 77; (subst z0; rfl); by_cases z1 : a = 78; (subst z1; rfl); simp only [am_ui, am_ul, am_row_ne z0, am_row_ne z1]))
      show am_F _ _ 61 [.ref 77, .int letter, .int (fn_rankOf letter)] [] (am_S (am_row (am_row f 77 y11.1) 78 y11.2) g) _
      refine am_F.mem (F' := (am_row (am_row (am_row f 77 y11.1) 78 y11.2) 79 (f 79))) (G' := g) ?_ (by first | rfl | (funext a; by_cases z0 : a = 77; (subst z0; rfl); by_cases z1 : a = 78; (subst z1; rfl); by_cases z2 : a = 79; (subst z2; rfl); simp only [am_ui, am_ul, am_row_ne z0, am_row_ne z1, am_row_ne z2])) (by first | rfl | (funext a; by_cases z0 : a = 77; (subst z0; rfl); by_cases z1 : a = 78; (subst z1; rfl); by_cases z2 : a = 79; (subst z2; rfl); simp only [am_ui, am_ul, am_row_ne z0, am_row_ne z1, am_row_ne z2]))
      subst hKd
      exact am_F.eq (am_F.ret rfl rfl) hK
  · show am_F _ _ 62 [.ref 77, .int letter, .int (fn_rankOf letter)] [] (am_S f g) _
    refine am_F.ops (pc' := 65) (L' := [.ref 77, .int letter, .int (fn_rankOf letter)]) (S' := [.int 3, .int (fn_rankOf letter), .ref 77]) (μ' := (am_S f g)) 3 rfl ?_
    refine am_F.to (am_To.ite (pc' := 73) (L2 := [.ref 77, .int letter, .int (fn_rankOf letter)]) (S2 := [.ref 77]) (μ2 := (am_S f g)) (a := 4) (b := (fn_rankOf letter)) 1 rfl (fun c12 => ?_) (fun c12 => ?_)) ?_
    · intro res9 g9
      show am_F _ _ 68 [.ref 77, .int letter, .int (fn_rankOf letter)] [.ref 77] (am_S f g) _
      refine am_F.ops (pc' := 73) (L' := [.ref 77, .int letter, .int (fn_rankOf letter)]) (S' := [.int 4, .ref 77]) (μ' := (am_S f g)) 2 rfl ?_
      exact g9
    · intro res9 g9
      show am_F _ _ 72 [.ref 77, .int letter, .int (fn_rankOf letter)] [.ref 77] (am_S f g) _
      refine am_F.ops (pc' := 73) (L' := [.ref 77, .int letter, .int (fn_rankOf letter)]) (S' := [.int (fn_rankOf letter), .ref 77]) (μ' := (am_S f g)) 1 rfl ?_
      exact g9
    show am_F _ _ 73 [.ref 77, .int letter, .int (fn_rankOf letter)] [.int (if (fn_rankOf letter) = 3 then 4 else (fn_rankOf letter)), .ref 77] (am_S f g) _
    refine am_F.call rfl rfl (x_popDownTo (if (fn_rankOf letter) = 3 then 4 else (fn_rankOf letter)) f g ) (by decide) ?_
    obtain ⟨y13, hy13⟩ : ∃ z, (fn_popDownTo (if (fn_rankOf letter) = 3 then 4 else (fn_rankOf letter)) f) = z := ⟨_, rfl⟩
    (try rw [hy13] at hK)
    (try rw [hy13])
    refine am_F.mem (F' := (am_row (am_row f 77 y13.1) 78 y13.2)) (G' := g) ?_ (by first | rfl | (funext a; by_cases z0 : a = 77; (subst z0; rfl); by_cases z1 : a = 78; (subst z1; rfl); simp only [am_ui, am_ul, am_row_ne z0, am_row_ne z1])) (by first | rfl | (funext a; by_cases z0 : a = 77; (subst z0; rfl); by_cases z1 : a = 78; (subst z1; rfl); simp only [am_ui, am_ul, am_row_ne z0, am_row_ne z1]))
    show am_F _ _ 76 [.ref 77, .int letter, .int (fn_rankOf letter)] [] (am_S (am_row (am_row f 77 y13.1) 78 y13.2) g) _
    refine am_F.ops (pc' := 77) (L' := [.ref 77, .int letter, .int (fn_rankOf letter)]) (S' := [.int (fn_rankOf letter)]) (μ' := (am_S (am_row (am_row f 77 y13.1) 78 y13.2) g)) 1 rfl ?_
    refine am_F.iteK 1 rfl K hK (fun c14 hK => ?_) (fun c14 hK => ?_)
    · show am_F _ _ 96 [.ref 77, .int letter, .int (fn_rankOf letter)] [] (am_S (am_row (am_row f 77 y13.1) 78 y13.2) g) _
      refine am_F.ops (pc' := 101) (L' := [.ref 77, .int letter, .int (fn_rankOf letter)]) (S' := [.int (y13.1 5), .ref 77]) (μ' := (am_S (am_row (am_row f 77 y13.1) 78 y13.2) g)) 3 rfl ?_
      refine am_F.pfi (F' := (am_row (am_row f 77 (upd y13.1 6 (y13.1 5))) 78 y13.2)) rfl rfl (by first | rfl | (funext a; by_cases z0 : a = 77; (subst z0; rfl); by_cases z1 : a = 78; (subst z1; rfl); simp only [am_ui, am_ul, am_row_ne z0, am_row_ne z1])) ?_
      refine am_F.mem (F' := (am_row (am_row (am_row f 77 (upd y13.1 6 (y13.1 5))) 78 y13.2) 79 (f 79))) (G' := g) ?_ (by first | rfl | (funext a; by_cases z0 : a = 77; (subst z0; rfl); by_cases z1 : a = 78; (subst z1; rfl); by_cases z2 : a = 79; (subst z2; rfl); simp only [am_ui, am_ul, am_row_ne z0, am_row_ne z1, am_row_ne z2])) (by first | rfl | (funext a; by_cases z0 : a = 77; (subst z0; rfl); by_cases z1 : a = 78; (subst z1; rfl); by_cases z2 : a = 79; (subst z2; rfl); simp only [am_ui, am_ul, am_row_ne z0, am_row_ne z1, am_row_ne z2]))
      subst hKd
      exact am_F.eq (am_F.ret rfl rfl) hK
    · show am_F _ _ 80 [.ref 77, .int letter, .int (fn_rankOf letter)] [] (am_S (am_row (am_row f 77 y13.1) 78 y13.2) g) _
      refine am_F.ops (pc' := 82) (L' := [.ref 77, .int letter, .int (fn_rankOf letter)]) (S' := [.int 3, .int (fn_rankOf letter)]) (μ' := (am_S (am_row (am_row f 77 y13.1) 78 y13.2) g)) 2 rfl ?_
      refine am_F.iteK 1 rfl K hK (fun c15 hK => ?_) (fun c15 hK => ?_)
      · show am_F _ _ 85 [.ref 77, .int letter, .int (fn_rankOf letter)] [] (am_S (am_row (am_row f 77 y13.1) 78 y13.2) g) _
        refine am_F.ops (pc' := 86) (L' := [.ref 77, .int letter, .int (fn_rankOf letter)]) (S' := [.ref 77]) (μ' := (am_S (am_row (am_row f 77 y13.1) 78 y13.2) g)) 1 rfl ?_
        refine am_F.call rfl rfl (x_topMark  (am_row (am_row f 77 y13.1) 78 y13.2) g ) (by decide) ?_
        show am_F _ _ 89 [.ref 77, .int letter, .int (fn_rankOf letter)] [.int (fn_topMark (am_row (am_row f 77 y13.1) 78 y13.2))] (am_S (am_row (am_row f 77 y13.1) 78 y13.2) g) _
        refine am_F.call rfl rfl (x_rankOf (fn_topMark (am_row (am_row f 77 y13.1) 78 y13.2)) (am_row (am_row f 77 y13.1) 78 y13.2) g ) (by decide) ?_
        show am_F _ _ 92 [.ref 77, .int letter, .int (fn_rankOf letter)] [.int (fn_rankOf (fn_topMark (am_row (am_row f 77 y13.1) 78 y13.2)))] (am_S (am_row (am_row f 77 y13.1) 78 y13.2) g) _
        refine am_F.ops (pc' := 93) (L' := [.ref 77, .int letter, .int (fn_rankOf letter)]) (S' := [.int 3, .int (fn_rankOf (fn_topMark (am_row (am_row f 77 y13.1) 78 y13.2)))]) (μ' := (am_S (am_row (am_row f 77 y13.1) 78 y13.2) g)) 1 rfl ?_
        refine am_F.iteK 1 rfl K hK (fun c16 hK => ?_) (fun c16 hK => ?_)
        · show am_F _ _ 96 [.ref 77, .int letter, .int (fn_rankOf letter)] [] (am_S (am_row (am_row f 77 y13.1) 78 y13.2) g) _
          refine am_F.ops (pc' := 101) (L' := [.ref 77, .int letter, .int (fn_rankOf letter)]) (S' := [.int (y13.1 5), .ref 77]) (μ' := (am_S (am_row (am_row f 77 y13.1) 78 y13.2) g)) 3 rfl ?_
          refine am_F.pfi (F' := (am_row (am_row f 77 (upd y13.1 6 (y13.1 5))) 78 y13.2)) rfl rfl (by first | rfl | (funext a; by_cases z0 : a = 77; (subst z0; rfl); by_cases z1 : a = 78; (subst z1; rfl); simp only [am_ui, am_ul, am_row_ne z0, am_row_ne z1])) ?_
          refine am_F.mem (F' := (am_row (am_row (am_row f 77 (upd y13.1 6 (y13.1 5))) 78 y13.2) 79 (f 79))) (G' := g) ?_ (by first | rfl | (funext a; by_cases z0 : a = 77; (subst z0; rfl); by_cases z1 : a = 78; (subst z1; rfl); by_cases z2 : a = 79; (subst z2; rfl); simp only [am_ui, am_ul, am_row_ne z0, am_row_ne z1, am_row_ne z2])) (by first | rfl | (funext a; by_cases z0 : a = 77; (subst z0; rfl); by_cases z1 : a = 78; (subst z1; rfl); by_cases z2 : a = 79; (subst z2; rfl); simp only [am_ui, am_ul, am_row_ne z0, am_row_ne z1, am_row_ne z2]))
          subst hKd
          exact am_F.eq (am_F.ret rfl rfl) hK
        · show am_F _ _ 105 [.ref 77, .int letter, .int (fn_rankOf letter)] [] (am_S (am_row (am_row f 77 y13.1) 78 y13.2) g) _
          refine am_F.ops (pc' := 107) (L' := [.ref 77, .int letter, .int (fn_rankOf letter)]) (S' := [.int letter, .ref 77]) (μ' := (am_S (am_row (am_row f 77 y13.1) 78 y13.2) g)) 2 rfl ?_
          refine am_F.call rfl rfl (x_push letter (am_row (am_row f 77 y13.1) 78 y13.2) g ) (by decide) ?_
          obtain ⟨y17, hy17⟩ : ∃ z, (fn_push letter (am_row (am_row f 77 y13.1) 78 y13.2)) = z := ⟨_, rfl⟩
          (try rw [hy17] at hK)
          (try rw [hy17])
          refine am_F.mem (F' := (am_row (am_row (am_row f 77 y17.1) 78 y13.2) 79 y17.2)) (G' := g) ?_ (by first | rfl | (funext a; by_cases z0 : a = 77; (subst z0; rfl); by_cases z1 : a = 78; (subst z1; rfl); by_cases z2 : a = 79; (subst z2; rfl); simp only [am_ui, am_ul, am_row_ne z0, am_row_ne z1, am_row_ne z2])) (by first | rfl | (funext a; by_cases z0 : a = 77; (subst z0; rfl); by_cases z1 : a = 78; (subst z1; rfl); by_cases z2 : a = 79; (subst z2; rfl); simp only [am_ui, am_ul, am_row_ne z0, am_row_ne z1, am_row_ne z2]))
          show am_F _ _ 110 [.ref 77, .int letter, .int (fn_rankOf letter)] [] (am_S (am_row (am_row (am_row f 77 y17.1) 78 y13.2) 79 y17.2) g) _
          refine am_F.ops (pc' := 117) (L' := [.ref 77, .int letter, .int (fn_rankOf letter)]) (S' := [.int ((y17.1 5) + 1), .ref 77]) (μ' := (am_S (am_row (am_row (am_row f 77 y17.1) 78 y13.2) 79 y17.2) g)) 5 rfl ?_
          refine am_F.pfi (F' := (am_row (am_row (am_row f 77 (upd y17.1 5 ((y17.1 5) + 1))) 78 y13.2) 79 y17.2)) rfl rfl (by first | rfl | (funext a; by_cases z0 : a = 77; (subst z0; rfl); by_cases z1 : a = 78; (subst z1; rfl); by_cases z2 : a = 79; (subst z2; rfl); simp only [am_ui, am_ul, am_row_ne z0, am_row_ne z1, am_row_ne z2])) ?_
          refine am_F.ops (pc' := 122) (L' := [.ref 77, .int letter, .int (fn_rankOf letter)]) (S' := [.int 1, .ref 77]) (μ' := (am_S (am_row (am_row (am_row f 77 (upd y17.1 5 ((y17.1 5) + 1))) 78 y13.2) 79 y17.2) g)) 2 rfl ?_
          refine am_F.pfz (F' := (am_row (am_row (am_row f 77 (upd (upd y17.1 5 ((y17.1 5) + 1)) 7 1)) 78 y13.2) 79 y17.2)) rfl rfl rfl (by first | rfl | (funext a; by_cases z0 : a = 77; (subst z0; rfl); by_cases z1 : a = 78; (subst z1; rfl); by_cases z2 : a = 79; (subst z2; rfl); simp only [am_ui, am_ul, am_row_ne z0, am_row_ne z1, am_row_ne z2])) ?_
          subst hKd
          exact am_F.eq (am_F.ret rfl rfl) hK
      · show am_F _ _ 105 [.ref 77, .int letter, .int (fn_rankOf letter)] [] (am_S (am_row (am_row f 77 y13.1) 78 y13.2) g) _
        refine am_F.ops (pc' := 107) (L' := [.ref 77, .int letter, .int (fn_rankOf letter)]) (S' := [.int letter, .ref 77]) (μ' := (am_S (am_row (am_row f 77 y13.1) 78 y13.2) g)) 2 rfl ?_
        refine am_F.call rfl rfl (x_push letter (am_row (am_row f 77 y13.1) 78 y13.2) g ) (by decide) ?_
        obtain ⟨y18, hy18⟩ : ∃ z, (fn_push letter (am_row (am_row f 77 y13.1) 78 y13.2)) = z := ⟨_, rfl⟩
        (try rw [hy18] at hK)
        (try rw [hy18])
        refine am_F.mem (F' := (am_row (am_row (am_row f 77 y18.1) 78 y13.2) 79 y18.2)) (G' := g) ?_ (by first | rfl | (funext a; by_cases z0 : a = 77; (subst z0; rfl); by_cases z1 : a = 78; (subst z1; rfl); by_cases z2 : a = 79; (subst z2; rfl); simp only [am_ui, am_ul, am_row_ne z0, am_row_ne z1, am_row_ne z2])) (by first | rfl | (funext a; by_cases z0 : a = 77; (subst z0; rfl); by_cases z1 : a = 78; (subst z1; rfl); by_cases z2 : a = 79; (subst z2; rfl); simp only [am_ui, am_ul, am_row_ne z0, am_row_ne z1, am_row_ne z2]))
        show am_F _ _ 110 [.ref 77, .int letter, .int (fn_rankOf letter)] [] (am_S (am_row (am_row (am_row f 77 y18.1) 78 y13.2) 79 y18.2) g) _
        refine am_F.ops (pc' := 117) (L' := [.ref 77, .int letter, .int (fn_rankOf letter)]) (S' := [.int ((y18.1 5) + 1), .ref 77]) (μ' := (am_S (am_row (am_row (am_row f 77 y18.1) 78 y13.2) 79 y18.2) g)) 5 rfl ?_
        refine am_F.pfi (F' := (am_row (am_row (am_row f 77 (upd y18.1 5 ((y18.1 5) + 1))) 78 y13.2) 79 y18.2)) rfl rfl (by first | rfl | (funext a; by_cases z0 : a = 77; (subst z0; rfl); by_cases z1 : a = 78; (subst z1; rfl); by_cases z2 : a = 79; (subst z2; rfl); simp only [am_ui, am_ul, am_row_ne z0, am_row_ne z1, am_row_ne z2])) ?_
        refine am_F.ops (pc' := 122) (L' := [.ref 77, .int letter, .int (fn_rankOf letter)]) (S' := [.int 1, .ref 77]) (μ' := (am_S (am_row (am_row (am_row f 77 (upd y18.1 5 ((y18.1 5) + 1))) 78 y13.2) 79 y18.2) g)) 2 rfl ?_
        refine am_F.pfz (F' := (am_row (am_row (am_row f 77 (upd (upd y18.1 5 ((y18.1 5) + 1)) 7 1)) 78 y13.2) 79 y18.2)) rfl rfl rfl (by first | rfl | (funext a; by_cases z0 : a = 77; (subst z0; rfl); by_cases z1 : a = 78; (subst z1; rfl); by_cases z2 : a = 79; (subst z2; rfl); simp only [am_ui, am_ul, am_row_ne z0, am_row_ne z1, am_row_ne z2])) ?_
        subst hKd
        exact am_F.eq (am_F.ret rfl rfl) hK
/-- AccessLattice$Reader.readCondition -/
def st_readCondition_6 (f : Nat → Nat → Int32) : Nat → (Nat → Int32) × (Nat → Int32) × (Nat → Int32) → (Nat → Int32) × (Nat → Int32) × (Nat → Int32) ⊕ ((Nat → Int32) × (Nat → Int32) × (Nat → Int32) ⊕ Empty) := fun i6 z => match z with
  | (r6_77, r6_78, r6_79) => (if 0 ≤ (r6_77 6) then .inr (.inl (r6_77, r6_78, r6_79)) else (if (f 75 1) ≤ (r6_77 5) then .inr (.inl (r6_77, r6_78, r6_79)) else (if (r6_77 7) = 0 then .inl ((fn_readOperator (fn_tapeAt (r6_77 5) (am_row (am_row (am_row f 77 r6_77) 78 r6_78) 79 r6_79)) (am_row (am_row (am_row f 77 r6_77) 78 r6_78) 79 r6_79)).1, (fn_readOperator (fn_tapeAt (r6_77 5) (am_row (am_row (am_row f 77 r6_77) 78 r6_78) 79 r6_79)) (am_row (am_row (am_row f 77 r6_77) 78 r6_78) 79 r6_79)).2.1, (fn_readOperator (fn_tapeAt (r6_77 5) (am_row (am_row (am_row f 77 r6_77) 78 r6_78) 79 r6_79)) (am_row (am_row (am_row f 77 r6_77) 78 r6_78) 79 r6_79)).2.2) else .inl ((fn_readOperand (am_row (am_row (am_row f 77 r6_77) 78 r6_78) 79 r6_79)).1, (fn_readOperand (am_row (am_row (am_row f 77 r6_77) 78 r6_78) 79 r6_79)).2.1, (fn_readOperand (am_row (am_row (am_row f 77 r6_77) 78 r6_78) 79 r6_79)).2.2))))
def lf_readCondition_6 (f : Nat → Nat → Int32) (y1 : (Nat → Int32)) : (Nat → Int32) × (Nat → Int32) × (Nat → Int32) ⊕ Empty := am_forX (st_readCondition_6 f) 80 0 (y1, f 78, f 79)
def fn_readCondition (f : Nat → Nat → Int32) : Int32 × (Nat → Int32) × (Nat → Int32) × (Nat → Int32) := (Sum.elim (fun (z6 : (Nat → Int32) × (Nat → Int32) × (Nat → Int32)) => (if 0 ≤ (z6.1 6) then ((fn_popDownTo 0 (am_row (am_row (am_row f 77 z6.1) 78 z6.2.1) 79 z6.2.2)).1 6, (fn_popDownTo 0 (am_row (am_row (am_row f 77 z6.1) 78 z6.2.1) 79 z6.2.2)).1, (fn_popDownTo 0 (am_row (am_row (am_row f 77 z6.1) 78 z6.2.1) 79 z6.2.2)).2, z6.2.2) else (if (z6.1 7) = 0 then (if (z6.1 4) ≤ 0 then ((fn_popDownTo 0 (am_row (am_row (am_row f 77 z6.1) 78 z6.2.1) 79 z6.2.2)).1 6, (fn_popDownTo 0 (am_row (am_row (am_row f 77 z6.1) 78 z6.2.1) 79 z6.2.2)).1, (fn_popDownTo 0 (am_row (am_row (am_row f 77 z6.1) 78 z6.2.1) 79 z6.2.2)).2, z6.2.2) else ((fn_popDownTo 0 (am_row (am_row (am_row f 77 (upd z6.1 6 (f 75 1))) 78 z6.2.1) 79 z6.2.2)).1 6, (fn_popDownTo 0 (am_row (am_row (am_row f 77 (upd z6.1 6 (f 75 1))) 78 z6.2.1) 79 z6.2.2)).1, (fn_popDownTo 0 (am_row (am_row (am_row f 77 (upd z6.1 6 (f 75 1))) 78 z6.2.1) 79 z6.2.2)).2, z6.2.2)) else ((fn_popDownTo 0 (am_row (am_row (am_row f 77 (upd z6.1 6 (f 75 1))) 78 z6.2.1) 79 z6.2.2)).1 6, (fn_popDownTo 0 (am_row (am_row (am_row f 77 (upd z6.1 6 (f 75 1))) 78 z6.2.1) 79 z6.2.2)).1, (fn_popDownTo 0 (am_row (am_row (am_row f 77 (upd z6.1 6 (f 75 1))) 78 z6.2.1) 79 z6.2.2)).2, z6.2.2)))) (fun (z : Empty) => z.elim) (lf_readCondition_6 f (fn_rdStart f)))
theorem lp_readCondition_6 (f : Nat → Nat → Int32) (g : Nat → Nat → Int64) (y1 : (Nat → Int32))  (res : Option Value × am_M) : ∀ (n i6 : Nat) (r6_77 : Nat → Int32) (r6_78 : Nat → Int32) (r6_79 : Nat → Int32) , i6 + n = 80 → am_KX (fun (z : (Nat → Int32) × (Nat → Int32) × (Nat → Int32)) => ∀ (wc : Value), am_F 5 am_k_47 63 [.ref 77, .ref 75, wc] [] (am_S (am_row (am_row (am_row f 77 z.1) 78 z.2.1) 79 z.2.2) g) res) (fun (z : Empty) => True) (am_forX (st_readCondition_6 f) n i6 (r6_77, r6_78, r6_79)) → am_F 5 am_k_47 6 [.ref 77, .ref 75, .int (nI i6)] [] (am_S (am_row (am_row (am_row f 77 r6_77) 78 r6_78) 79 r6_79) g) res := by
  intro n
  induction n with
  | zero =>
    intro i6 r6_77 r6_78 r6_79 hi hK
    refine am_F.pos 3 rfl (by show 80 ≤ nI i6; rw [show (80 : Int32) = nI 80 from rfl]; exact nI_le (by omega) (by omega)) ?_
    exact hK _
  | succ n ih =>
    intro i6 r6_77 r6_78 r6_79 hi hK
    refine am_F.neg 3 rfl (by show ¬ 80 ≤ nI i6; rw [show (80 : Int32) = nI 80 from rfl]; exact nI_ge (by omega) (by omega)) ?_
    have hb6 : i6 < 80 := by omega
    show am_F _ _ 12 [.ref 77, .ref 75, .int (nI i6)] [] (am_S (am_row (am_row (am_row f 77 r6_77) 78 r6_78) 79 r6_79) g) _
    obtain ⟨K, hKd⟩ : ∃ K : ((Nat → Int32) × (Nat → Int32) × (Nat → Int32) ⊕ ((Nat → Int32) × (Nat → Int32) × (Nat → Int32) ⊕ Empty)) → Prop, K = fun s => am_KX (fun (z : (Nat → Int32) × (Nat → Int32) × (Nat → Int32)) => ∀ (wc : Value), am_F 5 am_k_47 63 [.ref 77, .ref 75, wc] [] (am_S (am_row (am_row (am_row f 77 z.1) 78 z.2.1) 79 z.2.2) g) res) (fun (z : Empty) => True) (am_nxt (fun z => am_forX (st_readCondition_6 f) n (i6 + 1) z) s) := ⟨_, rfl⟩
    have hK : K ((st_readCondition_6 f) i6 (r6_77, r6_78, r6_79)) := by rw [hKd]; exact hK
    unfold st_readCondition_6 at hK
    simp only at hK
    refine am_F.ops (pc' := 16) (L' := [.ref 77, .ref 75, .int (nI i6)]) (S' := [.int (r6_77 6)]) (μ' := (am_S (am_row (am_row (am_row f 77 r6_77) 78 r6_78) 79 r6_79) g)) 2 rfl ?_
    refine am_F.iteK 1 rfl K hK (fun c8 hK => ?_) (fun c8 hK => ?_)
    · show am_F _ _ 63 [.ref 77, .ref 75, .int (nI i6)] [] (am_S (am_row (am_row (am_row f 77 r6_77) 78 r6_78) 79 r6_79) g) _
      subst hKd
      exact hK (.int (nI i6))
    · show am_F _ _ 19 [.ref 77, .ref 75, .int (nI i6)] [] (am_S (am_row (am_row (am_row f 77 r6_77) 78 r6_78) 79 r6_79) g) _
      refine am_F.ops (pc' := 27) (L' := [.ref 77, .ref 75, .int (nI i6)]) (S' := [.int (f 75 1), .int (r6_77 5)]) (μ' := (am_S (am_row (am_row (am_row f 77 r6_77) 78 r6_78) 79 r6_79) g)) 4 rfl ?_
      refine am_F.iteK 1 rfl K hK (fun c9 hK => ?_) (fun c9 hK => ?_)
      · show am_F _ _ 63 [.ref 77, .ref 75, .int (nI i6)] [] (am_S (am_row (am_row (am_row f 77 r6_77) 78 r6_78) 79 r6_79) g) _
        subst hKd
        exact hK (.int (nI i6))
      · show am_F _ _ 30 [.ref 77, .ref 75, .int (nI i6)] [] (am_S (am_row (am_row (am_row f 77 r6_77) 78 r6_78) 79 r6_79) g) _
        refine am_F.ops (pc' := 34) (L' := [.ref 77, .ref 75, .int (nI i6)]) (S' := [.int (r6_77 7)]) (μ' := (am_S (am_row (am_row (am_row f 77 r6_77) 78 r6_78) 79 r6_79) g)) 2 rfl ?_
        refine am_F.iteK 1 rfl K hK (fun c11 hK => ?_) (fun c11 hK => ?_)
        · show am_F _ _ 45 [.ref 77, .ref 75, .int (nI i6)] [] (am_S (am_row (am_row (am_row f 77 r6_77) 78 r6_78) 79 r6_79) g) _
          refine am_F.ops (pc' := 51) (L' := [.ref 77, .ref 75, .int (nI i6)]) (S' := [.int (r6_77 5), .ref 75, .ref 77]) (μ' := (am_S (am_row (am_row (am_row f 77 r6_77) 78 r6_78) 79 r6_79) g)) 4 rfl ?_
          refine am_F.call rfl rfl (x_tapeAt (r6_77 5) (am_row (am_row (am_row f 77 r6_77) 78 r6_78) 79 r6_79) g ) (by decide) ?_
          show am_F _ _ 54 [.ref 77, .ref 75, .int (nI i6)] [.int (fn_tapeAt (r6_77 5) (am_row (am_row (am_row f 77 r6_77) 78 r6_78) 79 r6_79)), .ref 77] (am_S (am_row (am_row (am_row f 77 r6_77) 78 r6_78) 79 r6_79) g) _
          refine am_F.call rfl rfl (x_readOperator (fn_tapeAt (r6_77 5) (am_row (am_row (am_row f 77 r6_77) 78 r6_78) 79 r6_79)) (am_row (am_row (am_row f 77 r6_77) 78 r6_78) 79 r6_79) g ) (by decide) ?_
          obtain ⟨y12, hy12⟩ : ∃ z, (fn_readOperator (fn_tapeAt (r6_77 5) (am_row (am_row (am_row f 77 r6_77) 78 r6_78) 79 r6_79)) (am_row (am_row (am_row f 77 r6_77) 78 r6_78) 79 r6_79)) = z := ⟨_, rfl⟩
          (try rw [hy12] at hK)
          (try rw [hy12])
          refine am_F.mem (F' := (am_row (am_row (am_row f 77 y12.1) 78 y12.2.1) 79 y12.2.2)) (G' := g) ?_ (by first | rfl | (funext a; by_cases z0 : a = 77; (subst z0; rfl); by_cases z1 : a = 78; (subst z1; rfl); by_cases z2 : a = 79; (subst z2; rfl); simp only [am_ui, am_ul, am_row_ne z0, am_row_ne z1, am_row_ne z2])) (by first | rfl | (funext a; by_cases z0 : a = 77; (subst z0; rfl); by_cases z1 : a = 78; (subst z1; rfl); by_cases z2 : a = 79; (subst z2; rfl); simp only [am_ui, am_ul, am_row_ne z0, am_row_ne z1, am_row_ne z2]))
          show am_F _ _ 57 [.ref 77, .ref 75, .int (nI i6)] [] (am_S (am_row (am_row (am_row f 77 y12.1) 78 y12.2.1) 79 y12.2.2) g) _
          refine am_F.ops (pc' := 6) (L' := [.ref 77, .ref 75, .int ((nI i6) + 1)]) (S' := []) (μ' := (am_S (am_row (am_row (am_row f 77 y12.1) 78 y12.2.1) 79 y12.2.2) g)) 2 rfl ?_
          rw [nI_1 i6]
          subst hKd
          exact ih (i6 + 1) y12.1 y12.2.1 y12.2.2 (by omega)  hK
        · show am_F _ _ 37 [.ref 77, .ref 75, .int (nI i6)] [] (am_S (am_row (am_row (am_row f 77 r6_77) 78 r6_78) 79 r6_79) g) _
          refine am_F.ops (pc' := 39) (L' := [.ref 77, .ref 75, .int (nI i6)]) (S' := [.ref 75, .ref 77]) (μ' := (am_S (am_row (am_row (am_row f 77 r6_77) 78 r6_78) 79 r6_79) g)) 2 rfl ?_
          refine am_F.call rfl rfl (x_readOperand  (am_row (am_row (am_row f 77 r6_77) 78 r6_78) 79 r6_79) g ) (by decide) ?_
          obtain ⟨y13, hy13⟩ : ∃ z, (fn_readOperand (am_row (am_row (am_row f 77 r6_77) 78 r6_78) 79 r6_79)) = z := ⟨_, rfl⟩
          (try rw [hy13] at hK)
          (try rw [hy13])
          refine am_F.mem (F' := (am_row (am_row (am_row f 77 y13.1) 78 y13.2.1) 79 y13.2.2)) (G' := g) ?_ (by first | rfl | (funext a; by_cases z0 : a = 77; (subst z0; rfl); by_cases z1 : a = 78; (subst z1; rfl); by_cases z2 : a = 79; (subst z2; rfl); simp only [am_ui, am_ul, am_row_ne z0, am_row_ne z1, am_row_ne z2])) (by first | rfl | (funext a; by_cases z0 : a = 77; (subst z0; rfl); by_cases z1 : a = 78; (subst z1; rfl); by_cases z2 : a = 79; (subst z2; rfl); simp only [am_ui, am_ul, am_row_ne z0, am_row_ne z1, am_row_ne z2]))
          show am_F _ _ 42 [.ref 77, .ref 75, .int (nI i6)] [] (am_S (am_row (am_row (am_row f 77 y13.1) 78 y13.2.1) 79 y13.2.2) g) _
          refine am_F.ops (pc' := 6) (L' := [.ref 77, .ref 75, .int ((nI i6) + 1)]) (S' := []) (μ' := (am_S (am_row (am_row (am_row f 77 y13.1) 78 y13.2.1) 79 y13.2.2) g)) 3 rfl ?_
          rw [nI_1 i6]
          subst hKd
          exact ih (i6 + 1) y13.1 y13.2.1 y13.2.2 (by omega)  hK
theorem x_readCondition (f : Nat → Nat → Int32) (g : Nat → Nat → Int64)  : am_D 5 47 3 [.ref 77, .ref 75] (am_S f g) (some (Value.int ((fn_readCondition f).1)), am_S (am_row (am_row (am_row f 77 ((fn_readCondition f).2.1)) 78 ((fn_readCondition f).2.2.1)) 79 ((fn_readCondition f).2.2.2)) g) := by
  refine am_D.of (code := am_k_47) rfl (L0 := [.ref 77, .ref 75, am_un]) rfl ?_
  generalize hres : (some (Value.int ((fn_readCondition f).1)), am_S (am_row (am_row (am_row f 77 ((fn_readCondition f).2.1)) 78 ((fn_readCondition f).2.2.1)) 79 ((fn_readCondition f).2.2.2)) g) = res
  obtain ⟨K, hKd⟩ : ∃ K : (Int32 × (Nat → Int32) × (Nat → Int32) × (Nat → Int32)) → Prop, K = fun z => (some (Value.int z.1), am_S (am_row (am_row (am_row f 77 z.2.1) 78 z.2.2.1) 79 z.2.2.2) g) = res := ⟨_, rfl⟩
  have hK : K (fn_readCondition f) := by rw [hKd]; exact hres
  clear hres
  unfold fn_readCondition at hK
  refine am_F.ops (pc' := 1) (L' := [.ref 77, .ref 75, am_un]) (S' := [.ref 77]) (μ' := (am_S f g)) 1 rfl ?_
  refine am_F.call rfl rfl (x_rdStart  f g ) (by decide) ?_
  obtain ⟨y1, hy1⟩ : ∃ z, (fn_rdStart f) = z := ⟨_, rfl⟩
  (try rw [hy1] at hK)
  (try rw [hy1])
  refine am_F.mem (F' := (am_row f 77 y1)) (G' := g) ?_ (by first | rfl | (funext a; by_cases z0 : a = 77; (subst z0; rfl); simp only [am_ui, am_ul, am_row_ne z0])) (by first | rfl | (funext a; by_cases z0 : a = 77; (subst z0; rfl); simp only [am_ui, am_ul, am_row_ne z0]))
  show am_F _ _ 4 [.ref 77, .ref 75, am_un] [] (am_S (am_row f 77 y1) g) _
  refine am_F.ops (pc' := 6) (L' := [.ref 77, .ref 75, .int 0]) (S' := []) (μ' := (am_S (am_row f 77 y1) g)) 2 rfl ?_
  refine am_F.mem (F' := (am_row (am_row (am_row f 77 y1) 78 (f 78)) 79 (f 79))) (G' := g) ?_ (by first | rfl | (funext a; by_cases z0 : a = 77; (subst z0; rfl); by_cases z1 : a = 78; (subst z1; rfl); by_cases z2 : a = 79; (subst z2; rfl); simp only [am_ui, am_ul, am_row_ne z0, am_row_ne z1, am_row_ne z2])) (by first | rfl | (funext a; by_cases z0 : a = 77; (subst z0; rfl); by_cases z1 : a = 78; (subst z1; rfl); by_cases z2 : a = 79; (subst z2; rfl); simp only [am_ui, am_ul, am_row_ne z0, am_row_ne z1, am_row_ne z2]))
  show am_F _ _ 6 [.ref 77, .ref 75, .int (nI 0)] [] (am_S (am_row (am_row (am_row f 77 y1) 78 (f 78)) 79 (f 79)) g) _
  refine lp_readCondition_6 f g y1  _ 80 0 y1 (f 78) (f 79)  (by omega)  ?_
  rw [show am_forX (st_readCondition_6 f) 80 0 (y1, f 78, f 79) = (lf_readCondition_6 f y1) from rfl]
  revert hK
  cases (lf_readCondition_6 f y1) with
  | inr z =>
    intro hK
    exact z.elim
  | inl z6 =>
    intro hK wc
    refine am_F.ops (pc' := 67) (L' := [.ref 77, .ref 75, wc]) (S' := [.int (z6.1 6)]) (μ' := (am_S (am_row (am_row (am_row f 77 z6.1) 78 z6.2.1) 79 z6.2.2) g)) 2 rfl ?_
    refine am_F.iteK 1 rfl K hK (fun c15 hK => ?_) (fun c15 hK => ?_)
    · show am_F _ _ 92 [.ref 77, .ref 75, wc] [] (am_S (am_row (am_row (am_row f 77 z6.1) 78 z6.2.1) 79 z6.2.2) g) _
      refine am_F.ops (pc' := 94) (L' := [.ref 77, .ref 75, wc]) (S' := [.int 0, .ref 77]) (μ' := (am_S (am_row (am_row (am_row f 77 z6.1) 78 z6.2.1) 79 z6.2.2) g)) 2 rfl ?_
      refine am_F.call rfl rfl (x_popDownTo 0 (am_row (am_row (am_row f 77 z6.1) 78 z6.2.1) 79 z6.2.2) g ) (by decide) ?_
      obtain ⟨y16, hy16⟩ : ∃ z, (fn_popDownTo 0 (am_row (am_row (am_row f 77 z6.1) 78 z6.2.1) 79 z6.2.2)) = z := ⟨_, rfl⟩
      (try rw [hy16] at hK)
      (try rw [hy16])
      refine am_F.mem (F' := (am_row (am_row (am_row f 77 y16.1) 78 y16.2) 79 z6.2.2)) (G' := g) ?_ (by first | rfl | (funext a; by_cases z0 : a = 77; (subst z0; rfl); by_cases z1 : a = 78; (subst z1; rfl); by_cases z2 : a = 79; (subst z2; rfl); simp only [am_ui, am_ul, am_row_ne z0, am_row_ne z1, am_row_ne z2])) (by first | rfl | (funext a; by_cases z0 : a = 77; (subst z0; rfl); by_cases z1 : a = 78; (subst z1; rfl); by_cases z2 : a = 79; (subst z2; rfl); simp only [am_ui, am_ul, am_row_ne z0, am_row_ne z1, am_row_ne z2]))
      show am_F _ _ 97 [.ref 77, .ref 75, wc] [] (am_S (am_row (am_row (am_row f 77 y16.1) 78 y16.2) 79 z6.2.2) g) _
      refine am_F.ops (pc' := 101) (L' := [.ref 77, .ref 75, wc]) (S' := [.int (y16.1 6)]) (μ' := (am_S (am_row (am_row (am_row f 77 y16.1) 78 y16.2) 79 z6.2.2) g)) 2 rfl ?_
      subst hKd
      exact am_F.eq (am_F.ret rfl rfl) hK
    · show am_F _ _ 70 [.ref 77, .ref 75, wc] [] (am_S (am_row (am_row (am_row f 77 z6.1) 78 z6.2.1) 79 z6.2.2) g) _
      refine am_F.ops (pc' := 74) (L' := [.ref 77, .ref 75, wc]) (S' := [.int (z6.1 7)]) (μ' := (am_S (am_row (am_row (am_row f 77 z6.1) 78 z6.2.1) 79 z6.2.2) g)) 2 rfl ?_
      refine am_F.iteK 1 rfl K hK (fun c19 hK => ?_) (fun c19 hK => ?_)
      · show am_F _ _ 77 [.ref 77, .ref 75, wc] [] (am_S (am_row (am_row (am_row f 77 z6.1) 78 z6.2.1) 79 z6.2.2) g) _
        refine am_F.ops (pc' := 81) (L' := [.ref 77, .ref 75, wc]) (S' := [.int (z6.1 4)]) (μ' := (am_S (am_row (am_row (am_row f 77 z6.1) 78 z6.2.1) 79 z6.2.2) g)) 2 rfl ?_
        refine am_F.iteK 1 rfl K hK (fun c21 hK => ?_) (fun c21 hK => ?_)
        · show am_F _ _ 92 [.ref 77, .ref 75, wc] [] (am_S (am_row (am_row (am_row f 77 z6.1) 78 z6.2.1) 79 z6.2.2) g) _
          refine am_F.ops (pc' := 94) (L' := [.ref 77, .ref 75, wc]) (S' := [.int 0, .ref 77]) (μ' := (am_S (am_row (am_row (am_row f 77 z6.1) 78 z6.2.1) 79 z6.2.2) g)) 2 rfl ?_
          refine am_F.call rfl rfl (x_popDownTo 0 (am_row (am_row (am_row f 77 z6.1) 78 z6.2.1) 79 z6.2.2) g ) (by decide) ?_
          obtain ⟨y22, hy22⟩ : ∃ z, (fn_popDownTo 0 (am_row (am_row (am_row f 77 z6.1) 78 z6.2.1) 79 z6.2.2)) = z := ⟨_, rfl⟩
          (try rw [hy22] at hK)
          (try rw [hy22])
          refine am_F.mem (F' := (am_row (am_row (am_row f 77 y22.1) 78 y22.2) 79 z6.2.2)) (G' := g) ?_ (by first | rfl | (funext a; by_cases z0 : a = 77; (subst z0; rfl); by_cases z1 : a = 78; (subst z1; rfl); by_cases z2 : a = 79; (subst z2; rfl); simp only [am_ui, am_ul, am_row_ne z0, am_row_ne z1, am_row_ne z2])) (by first | rfl | (funext a; by_cases z0 : a = 77; (subst z0; rfl); by_cases z1 : a = 78; (subst z1; rfl); by_cases z2 : a = 79; (subst z2; rfl); simp only [am_ui, am_ul, am_row_ne z0, am_row_ne z1, am_row_ne z2]))
          show am_F _ _ 97 [.ref 77, .ref 75, wc] [] (am_S (am_row (am_row (am_row f 77 y22.1) 78 y22.2) 79 z6.2.2) g) _
          refine am_F.ops (pc' := 101) (L' := [.ref 77, .ref 75, wc]) (S' := [.int (y22.1 6)]) (μ' := (am_S (am_row (am_row (am_row f 77 y22.1) 78 y22.2) 79 z6.2.2) g)) 2 rfl ?_
          subst hKd
          exact am_F.eq (am_F.ret rfl rfl) hK
        · show am_F _ _ 84 [.ref 77, .ref 75, wc] [] (am_S (am_row (am_row (am_row f 77 z6.1) 78 z6.2.1) 79 z6.2.2) g) _
          refine am_F.ops (pc' := 89) (L' := [.ref 77, .ref 75, wc]) (S' := [.int (f 75 1), .ref 77]) (μ' := (am_S (am_row (am_row (am_row f 77 z6.1) 78 z6.2.1) 79 z6.2.2) g)) 3 rfl ?_
          refine am_F.pfi (F' := (am_row (am_row (am_row f 77 (upd z6.1 6 (f 75 1))) 78 z6.2.1) 79 z6.2.2)) rfl rfl (by first | rfl | (funext a; by_cases z0 : a = 77; (subst z0; rfl); by_cases z1 : a = 78; (subst z1; rfl); by_cases z2 : a = 79; (subst z2; rfl); simp only [am_ui, am_ul, am_row_ne z0, am_row_ne z1, am_row_ne z2])) ?_
          refine am_F.ops (pc' := 94) (L' := [.ref 77, .ref 75, wc]) (S' := [.int 0, .ref 77]) (μ' := (am_S (am_row (am_row (am_row f 77 (upd z6.1 6 (f 75 1))) 78 z6.2.1) 79 z6.2.2) g)) 2 rfl ?_
          refine am_F.call rfl rfl (x_popDownTo 0 (am_row (am_row (am_row f 77 (upd z6.1 6 (f 75 1))) 78 z6.2.1) 79 z6.2.2) g ) (by decide) ?_
          obtain ⟨y23, hy23⟩ : ∃ z, (fn_popDownTo 0 (am_row (am_row (am_row f 77 (upd z6.1 6 (f 75 1))) 78 z6.2.1) 79 z6.2.2)) = z := ⟨_, rfl⟩
          (try rw [hy23] at hK)
          (try rw [hy23])
          refine am_F.mem (F' := (am_row (am_row (am_row f 77 y23.1) 78 y23.2) 79 z6.2.2)) (G' := g) ?_ (by first | rfl | (funext a; by_cases z0 : a = 77; (subst z0; rfl); by_cases z1 : a = 78; (subst z1; rfl); by_cases z2 : a = 79; (subst z2; rfl); simp only [am_ui, am_ul, am_row_ne z0, am_row_ne z1, am_row_ne z2])) (by first | rfl | (funext a; by_cases z0 : a = 77; (subst z0; rfl); by_cases z1 : a = 78; (subst z1; rfl); by_cases z2 : a = 79; (subst z2; rfl); simp only [am_ui, am_ul, am_row_ne z0, am_row_ne z1, am_row_ne z2]))
          show am_F _ _ 97 [.ref 77, .ref 75, wc] [] (am_S (am_row (am_row (am_row f 77 y23.1) 78 y23.2) 79 z6.2.2) g) _
          refine am_F.ops (pc' := 101) (L' := [.ref 77, .ref 75, wc]) (S' := [.int (y23.1 6)]) (μ' := (am_S (am_row (am_row (am_row f 77 y23.1) 78 y23.2) 79 z6.2.2) g)) 2 rfl ?_
          subst hKd
          exact am_F.eq (am_F.ret rfl rfl) hK
      · show am_F _ _ 84 [.ref 77, .ref 75, wc] [] (am_S (am_row (am_row (am_row f 77 z6.1) 78 z6.2.1) 79 z6.2.2) g) _
        refine am_F.ops (pc' := 89) (L' := [.ref 77, .ref 75, wc]) (S' := [.int (f 75 1), .ref 77]) (μ' := (am_S (am_row (am_row (am_row f 77 z6.1) 78 z6.2.1) 79 z6.2.2) g)) 3 rfl ?_
        refine am_F.pfi (F' := (am_row (am_row (am_row f 77 (upd z6.1 6 (f 75 1))) 78 z6.2.1) 79 z6.2.2)) rfl rfl (by first | rfl | (funext a; by_cases z0 : a = 77; (subst z0; rfl); by_cases z1 : a = 78; (subst z1; rfl); by_cases z2 : a = 79; (subst z2; rfl); simp only [am_ui, am_ul, am_row_ne z0, am_row_ne z1, am_row_ne z2])) ?_
        refine am_F.ops (pc' := 94) (L' := [.ref 77, .ref 75, wc]) (S' := [.int 0, .ref 77]) (μ' := (am_S (am_row (am_row (am_row f 77 (upd z6.1 6 (f 75 1))) 78 z6.2.1) 79 z6.2.2) g)) 2 rfl ?_
        refine am_F.call rfl rfl (x_popDownTo 0 (am_row (am_row (am_row f 77 (upd z6.1 6 (f 75 1))) 78 z6.2.1) 79 z6.2.2) g ) (by decide) ?_
        obtain ⟨y24, hy24⟩ : ∃ z, (fn_popDownTo 0 (am_row (am_row (am_row f 77 (upd z6.1 6 (f 75 1))) 78 z6.2.1) 79 z6.2.2)) = z := ⟨_, rfl⟩
        (try rw [hy24] at hK)
        (try rw [hy24])
        refine am_F.mem (F' := (am_row (am_row (am_row f 77 y24.1) 78 y24.2) 79 z6.2.2)) (G' := g) ?_ (by first | rfl | (funext a; by_cases z0 : a = 77; (subst z0; rfl); by_cases z1 : a = 78; (subst z1; rfl); by_cases z2 : a = 79; (subst z2; rfl); simp only [am_ui, am_ul, am_row_ne z0, am_row_ne z1, am_row_ne z2])) (by first | rfl | (funext a; by_cases z0 : a = 77; (subst z0; rfl); by_cases z1 : a = 78; (subst z1; rfl); by_cases z2 : a = 79; (subst z2; rfl); simp only [am_ui, am_ul, am_row_ne z0, am_row_ne z1, am_row_ne z2]))
        show am_F _ _ 97 [.ref 77, .ref 75, wc] [] (am_S (am_row (am_row (am_row f 77 y24.1) 78 y24.2) 79 z6.2.2) g) _
        refine am_F.ops (pc' := 101) (L' := [.ref 77, .ref 75, wc]) (S' := [.int (y24.1 6)]) (μ' := (am_S (am_row (am_row (am_row f 77 y24.1) 78 y24.2) 79 z6.2.2) g)) 2 rfl ?_
        subst hKd
        exact am_F.eq (am_F.ret rfl rfl) hK
/-- AccessLattice$Reader.readMark -/
def fn_readMark (mark : Int32) (f : Nat → Nat → Int32) : (Nat → Int32) := (if (f 77 6) < 0 then (if (fn_tapeAt (f 77 5) f) = mark then upd (f 77) 5 ((f 77 5) + 1) else upd (f 77) 6 (f 77 5)) else f 77)
theorem x_readMark (mark : Int32) (f : Nat → Nat → Int32) (g : Nat → Nat → Int64)  : am_D 1 72 3 [.ref 77, .ref 75, .int mark] (am_S f g) ((none : Option Value), am_S (am_row f 77 (fn_readMark mark f)) g) := by
  refine am_D.of (code := am_k_72) rfl (L0 := [.ref 77, .ref 75, .int mark]) rfl ?_
  generalize hres : ((none : Option Value), am_S (am_row f 77 (fn_readMark mark f)) g) = res
  obtain ⟨K, hKd⟩ : ∃ K : (Nat → Int32) → Prop, K = fun z => ((none : Option Value), am_S (am_row f 77 z) g) = res := ⟨_, rfl⟩
  have hK : K (fn_readMark mark f) := by rw [hKd]; exact hres
  clear hres
  unfold fn_readMark at hK
  refine am_F.ops (pc' := 4) (L' := [.ref 77, .ref 75, .int mark]) (S' := [.int (f 77 6)]) (μ' := (am_S f g)) 2 rfl ?_
  refine am_F.iteK 1 rfl K hK (fun c1 hK => ?_) (fun c1 hK => ?_)
  · show am_F _ _ 8 [.ref 77, .ref 75, .int mark] [] (am_S f g) _
    refine am_F.ops (pc' := 13) (L' := [.ref 77, .ref 75, .int mark]) (S' := [.int (f 77 5), .ref 75]) (μ' := (am_S f g)) 3 rfl ?_
    refine am_F.call rfl rfl (x_tapeAt (f 77 5) f g ) (by decide) ?_
    show am_F _ _ 16 [.ref 77, .ref 75, .int mark] [.int (fn_tapeAt (f 77 5) f)] (am_S f g) _
    refine am_F.ops (pc' := 17) (L' := [.ref 77, .ref 75, .int mark]) (S' := [.int mark, .int (fn_tapeAt (f 77 5) f)]) (μ' := (am_S f g)) 1 rfl ?_
    refine am_F.iteK 1 rfl K hK (fun c3 hK => ?_) (fun c3 hK => ?_)
    · show am_F _ _ 20 [.ref 77, .ref 75, .int mark] [] (am_S f g) _
      refine am_F.ops (pc' := 27) (L' := [.ref 77, .ref 75, .int mark]) (S' := [.int ((f 77 5) + 1), .ref 77]) (μ' := (am_S f g)) 5 rfl ?_
      refine am_F.pfi (F' := (am_row f 77 (upd (f 77) 5 ((f 77 5) + 1)))) rfl rfl (by first | rfl | (funext a; by_cases z0 : a = 77; (subst z0; rfl); simp only [am_ui, am_ul, am_row_ne z0])) ?_
      refine am_F.ops (pc' := 41) (L' := [.ref 77, .ref 75, .int mark]) (S' := []) (μ' := (am_S (am_row f 77 (upd (f 77) 5 ((f 77 5) + 1))) g)) 1 rfl ?_
      subst hKd
      exact am_F.eq (am_F.ret rfl rfl) hK
    · show am_F _ _ 33 [.ref 77, .ref 75, .int mark] [] (am_S f g) _
      refine am_F.ops (pc' := 38) (L' := [.ref 77, .ref 75, .int mark]) (S' := [.int (f 77 5), .ref 77]) (μ' := (am_S f g)) 3 rfl ?_
      refine am_F.pfi (F' := (am_row f 77 (upd (f 77) 6 (f 77 5)))) rfl rfl (by first | rfl | (funext a; by_cases z0 : a = 77; (subst z0; rfl); simp only [am_ui, am_ul, am_row_ne z0])) ?_
      subst hKd
      exact am_F.eq (am_F.ret rfl rfl) hK
  · show am_F _ _ 7 [.ref 77, .ref 75, .int mark] [] (am_S f g) _
    refine am_F.mem (F' := (am_row f 77 (f 77))) (G' := g) ?_ (by first | rfl | (funext a; by_cases z0 : a = 77; (subst z0; rfl); simp only [am_ui, am_ul, am_row_ne z0])) (by first | rfl | (funext a; by_cases z0 : a = 77; (subst z0; rfl); simp only [am_ui, am_ul, am_row_ne z0]))
    subst hKd
    exact am_F.eq (am_F.ret rfl rfl) hK
/-- AccessLattice$Reader.readRole -/
def fn_readRole (f : Nat → Nat → Int32) : (Nat → Int32) × (Nat → Int32) := (if (f 77 6) < 0 then (bif (fn_isFigure ((f 77 5) + 1) f) then (bif (fn_isFigure (f 77 5) f) then (bif (fn_isRole (((((fn_tapeAt (f 77 5) f) - 48) * 10) + (fn_tapeAt ((f 77 5) + 1) f)) - 48)) then (upd (fn_emit (((((fn_tapeAt (f 77 5) f) - 48) * 10) + (fn_tapeAt ((f 77 5) + 1) f)) - 48) f).1 5 (((fn_emit (((((fn_tapeAt (f 77 5) f) - 48) * 10) + (fn_tapeAt ((f 77 5) + 1) f)) - 48) f).1 5) + 2), (fn_emit (((((fn_tapeAt (f 77 5) f) - 48) * 10) + (fn_tapeAt ((f 77 5) + 1) f)) - 48) f).2) else (upd (f 77) 6 (f 77 5), f 78)) else (upd (f 77) 6 (f 77 5), f 78)) else (bif (fn_isFigure (f 77 5) f) then (bif (fn_isRole ((fn_tapeAt (f 77 5) f) - 48)) then (upd (fn_emit ((fn_tapeAt (f 77 5) f) - 48) f).1 5 (((fn_emit ((fn_tapeAt (f 77 5) f) - 48) f).1 5) + 1), (fn_emit ((fn_tapeAt (f 77 5) f) - 48) f).2) else (upd (f 77) 6 (f 77 5), f 78)) else (upd (f 77) 6 (f 77 5), f 78))) else (f 77, f 78))
theorem x_readRole (f : Nat → Nat → Int32) (g : Nat → Nat → Int64)  : am_D 2 73 4 [.ref 77, .ref 75] (am_S f g) ((none : Option Value), am_S (am_row (am_row f 77 ((fn_readRole f).1)) 78 ((fn_readRole f).2)) g) := by
  refine am_D.of (code := am_k_73) rfl (L0 := [.ref 77, .ref 75, am_un, am_un]) rfl ?_
  generalize hres : ((none : Option Value), am_S (am_row (am_row f 77 ((fn_readRole f).1)) 78 ((fn_readRole f).2)) g) = res
  obtain ⟨K, hKd⟩ : ∃ K : ((Nat → Int32) × (Nat → Int32)) → Prop, K = fun z => ((none : Option Value), am_S (am_row (am_row f 77 z.1) 78 z.2) g) = res := ⟨_, rfl⟩
  have hK : K (fn_readRole f) := by rw [hKd]; exact hres
  clear hres
  unfold fn_readRole at hK
  refine am_F.ops (pc' := 4) (L' := [.ref 77, .ref 75, am_un, am_un]) (S' := [.int (f 77 6)]) (μ' := (am_S f g)) 2 rfl ?_
  refine am_F.iteK 1 rfl K hK (fun c1 hK => ?_) (fun c1 hK => ?_)
  · show am_F _ _ 8 [.ref 77, .ref 75, am_un, am_un] [] (am_S f g) _
    refine am_F.ops (pc' := 13) (L' := [.ref 77, .ref 75, am_un, am_un]) (S' := [.int (f 77 5), .ref 75]) (μ' := (am_S f g)) 3 rfl ?_
    refine am_F.call rfl rfl (x_tapeAt (f 77 5) f g ) (by decide) ?_
    show am_F _ _ 16 [.ref 77, .ref 75, am_un, am_un] [.int (fn_tapeAt (f 77 5) f)] (am_S f g) _
    refine am_F.ops (pc' := 29) (L' := [.ref 77, .ref 75, .int ((fn_tapeAt (f 77 5) f) - 48), .int 1]) (S' := [.int ((f 77 5) + 1), .ref 75]) (μ' := (am_S f g)) 10 rfl ?_
    refine am_F.call rfl rfl (x_isFigure ((f 77 5) + 1) f g ) (by decide) ?_
    show am_F _ _ 32 [.ref 77, .ref 75, .int ((fn_tapeAt (f 77 5) f) - 48), .int 1] [.int (am_b (fn_isFigure ((f 77 5) + 1) f))] (am_S f g) _
    refine am_F.bifK 1 rfl K hK (fun c3 hK => ?_) (fun c3 hK => ?_)
    · show am_F _ _ 35 [.ref 77, .ref 75, .int ((fn_tapeAt (f 77 5) f) - 48), .int 1] [] (am_S f g) _
      refine am_F.ops (pc' := 46) (L' := [.ref 77, .ref 75, .int ((fn_tapeAt (f 77 5) f) - 48), .int 1]) (S' := [.int ((f 77 5) + 1), .ref 75, .int (((fn_tapeAt (f 77 5) f) - 48) * 10)]) (μ' := (am_S f g)) 8 rfl ?_
      refine am_F.call rfl rfl (x_tapeAt ((f 77 5) + 1) f g ) (by decide) ?_
      show am_F _ _ 49 [.ref 77, .ref 75, .int ((fn_tapeAt (f 77 5) f) - 48), .int 1] [.int (fn_tapeAt ((f 77 5) + 1) f), .int (((fn_tapeAt (f 77 5) f) - 48) * 10)] (am_S f g) _
      refine am_F.ops (pc' := 61) (L' := [.ref 77, .ref 75, .int (((((fn_tapeAt (f 77 5) f) - 48) * 10) + (fn_tapeAt ((f 77 5) + 1) f)) - 48), .int 2]) (S' := [.int (f 77 5), .ref 75]) (μ' := (am_S f g)) 9 rfl ?_
      refine am_F.call rfl rfl (x_isFigure (f 77 5) f g ) (by decide) ?_
      show am_F _ _ 64 [.ref 77, .ref 75, .int (((((fn_tapeAt (f 77 5) f) - 48) * 10) + (fn_tapeAt ((f 77 5) + 1) f)) - 48), .int 2] [.int (am_b (fn_isFigure (f 77 5) f))] (am_S f g) _
      refine am_F.bifK 1 rfl K hK (fun c4 hK => ?_) (fun c4 hK => ?_)
      · show am_F _ _ 67 [.ref 77, .ref 75, .int (((((fn_tapeAt (f 77 5) f) - 48) * 10) + (fn_tapeAt ((f 77 5) + 1) f)) - 48), .int 2] [] (am_S f g) _
        refine am_F.ops (pc' := 68) (L' := [.ref 77, .ref 75, .int (((((fn_tapeAt (f 77 5) f) - 48) * 10) + (fn_tapeAt ((f 77 5) + 1) f)) - 48), .int 2]) (S' := [.int (((((fn_tapeAt (f 77 5) f) - 48) * 10) + (fn_tapeAt ((f 77 5) + 1) f)) - 48)]) (μ' := (am_S f g)) 1 rfl ?_
        refine am_F.call rfl rfl (x_isRole (((((fn_tapeAt (f 77 5) f) - 48) * 10) + (fn_tapeAt ((f 77 5) + 1) f)) - 48) f g ) (by decide) ?_
        show am_F _ _ 71 [.ref 77, .ref 75, .int (((((fn_tapeAt (f 77 5) f) - 48) * 10) + (fn_tapeAt ((f 77 5) + 1) f)) - 48), .int 2] [.int (am_b (fn_isRole (((((fn_tapeAt (f 77 5) f) - 48) * 10) + (fn_tapeAt ((f 77 5) + 1) f)) - 48)))] (am_S f g) _
        refine am_F.bifK 1 rfl K hK (fun c5 hK => ?_) (fun c5 hK => ?_)
        · show am_F _ _ 83 [.ref 77, .ref 75, .int (((((fn_tapeAt (f 77 5) f) - 48) * 10) + (fn_tapeAt ((f 77 5) + 1) f)) - 48), .int 2] [] (am_S f g) _
          refine am_F.ops (pc' := 85) (L' := [.ref 77, .ref 75, .int (((((fn_tapeAt (f 77 5) f) - 48) * 10) + (fn_tapeAt ((f 77 5) + 1) f)) - 48), .int 2]) (S' := [.int (((((fn_tapeAt (f 77 5) f) - 48) * 10) + (fn_tapeAt ((f 77 5) + 1) f)) - 48), .ref 77]) (μ' := (am_S f g)) 2 rfl ?_
          refine am_F.call rfl rfl (x_emit (((((fn_tapeAt (f 77 5) f) - 48) * 10) + (fn_tapeAt ((f 77 5) + 1) f)) - 48) f g ) (by decide) ?_
          obtain ⟨y6, hy6⟩ : ∃ z, (fn_emit (((((fn_tapeAt (f 77 5) f) - 48) * 10) + (fn_tapeAt ((f 77 5) + 1) f)) - 48) f) = z := ⟨_, rfl⟩
          (try rw [hy6] at hK)
          (try rw [hy6])
          refine am_F.mem (F' := (am_row (am_row f 77 y6.1) 78 y6.2)) (G' := g) ?_ (by first | rfl | (funext a; by_cases z0 : a = 77; (subst z0; rfl); by_cases z1 : a = 78; (subst z1; rfl); simp only [am_ui, am_ul, am_row_ne z0, am_row_ne z1])) (by first | rfl | (funext a; by_cases z0 : a = 77; (subst z0; rfl); by_cases z1 : a = 78; (subst z1; rfl); simp only [am_ui, am_ul, am_row_ne z0, am_row_ne z1]))
          show am_F _ _ 88 [.ref 77, .ref 75, .int (((((fn_tapeAt (f 77 5) f) - 48) * 10) + (fn_tapeAt ((f 77 5) + 1) f)) - 48), .int 2] [] (am_S (am_row (am_row f 77 y6.1) 78 y6.2) g) _
          refine am_F.ops (pc' := 95) (L' := [.ref 77, .ref 75, .int (((((fn_tapeAt (f 77 5) f) - 48) * 10) + (fn_tapeAt ((f 77 5) + 1) f)) - 48), .int 2]) (S' := [.int ((y6.1 5) + 2), .ref 77]) (μ' := (am_S (am_row (am_row f 77 y6.1) 78 y6.2) g)) 5 rfl ?_
          refine am_F.pfi (F' := (am_row (am_row f 77 (upd y6.1 5 ((y6.1 5) + 2))) 78 y6.2)) rfl rfl (by first | rfl | (funext a; by_cases z0 : a = 77; (subst z0; rfl); by_cases z1 : a = 78; (subst z1; rfl); simp only [am_ui, am_ul, am_row_ne z0, am_row_ne z1])) ?_
          subst hKd
          exact am_F.eq (am_F.ret rfl rfl) hK
        · show am_F _ _ 74 [.ref 77, .ref 75, .int (((((fn_tapeAt (f 77 5) f) - 48) * 10) + (fn_tapeAt ((f 77 5) + 1) f)) - 48), .int 2] [] (am_S f g) _
          refine am_F.ops (pc' := 79) (L' := [.ref 77, .ref 75, .int (((((fn_tapeAt (f 77 5) f) - 48) * 10) + (fn_tapeAt ((f 77 5) + 1) f)) - 48), .int 2]) (S' := [.int (f 77 5), .ref 77]) (μ' := (am_S f g)) 3 rfl ?_
          refine am_F.pfi (F' := (am_row f 77 (upd (f 77) 6 (f 77 5)))) rfl rfl (by first | rfl | (funext a; by_cases z0 : a = 77; (subst z0; rfl); simp only [am_ui, am_ul, am_row_ne z0])) ?_
          refine am_F.mem (F' := (am_row (am_row f 77 (upd (f 77) 6 (f 77 5))) 78 (f 78))) (G' := g) ?_ (by first | rfl | (funext a; by_cases z0 : a = 77; (subst z0; rfl); by_cases z1 : a = 78; (subst z1; rfl); simp only [am_ui, am_ul, am_row_ne z0, am_row_ne z1])) (by first | rfl | (funext a; by_cases z0 : a = 77; (subst z0; rfl); by_cases z1 : a = 78; (subst z1; rfl); simp only [am_ui, am_ul, am_row_ne z0, am_row_ne z1]))
          subst hKd
          exact am_F.eq (am_F.ret rfl rfl) hK
      · show am_F _ _ 74 [.ref 77, .ref 75, .int (((((fn_tapeAt (f 77 5) f) - 48) * 10) + (fn_tapeAt ((f 77 5) + 1) f)) - 48), .int 2] [] (am_S f g) _
        refine am_F.ops (pc' := 79) (L' := [.ref 77, .ref 75, .int (((((fn_tapeAt (f 77 5) f) - 48) * 10) + (fn_tapeAt ((f 77 5) + 1) f)) - 48), .int 2]) (S' := [.int (f 77 5), .ref 77]) (μ' := (am_S f g)) 3 rfl ?_
        refine am_F.pfi (F' := (am_row f 77 (upd (f 77) 6 (f 77 5)))) rfl rfl (by first | rfl | (funext a; by_cases z0 : a = 77; (subst z0; rfl); simp only [am_ui, am_ul, am_row_ne z0])) ?_
        refine am_F.mem (F' := (am_row (am_row f 77 (upd (f 77) 6 (f 77 5))) 78 (f 78))) (G' := g) ?_ (by first | rfl | (funext a; by_cases z0 : a = 77; (subst z0; rfl); by_cases z1 : a = 78; (subst z1; rfl); simp only [am_ui, am_ul, am_row_ne z0, am_row_ne z1])) (by first | rfl | (funext a; by_cases z0 : a = 77; (subst z0; rfl); by_cases z1 : a = 78; (subst z1; rfl); simp only [am_ui, am_ul, am_row_ne z0, am_row_ne z1]))
        subst hKd
        exact am_F.eq (am_F.ret rfl rfl) hK
    · show am_F _ _ 56 [.ref 77, .ref 75, .int ((fn_tapeAt (f 77 5) f) - 48), .int 1] [] (am_S f g) _
      refine am_F.ops (pc' := 61) (L' := [.ref 77, .ref 75, .int ((fn_tapeAt (f 77 5) f) - 48), .int 1]) (S' := [.int (f 77 5), .ref 75]) (μ' := (am_S f g)) 3 rfl ?_
      refine am_F.call rfl rfl (x_isFigure (f 77 5) f g ) (by decide) ?_
      show am_F _ _ 64 [.ref 77, .ref 75, .int ((fn_tapeAt (f 77 5) f) - 48), .int 1] [.int (am_b (fn_isFigure (f 77 5) f))] (am_S f g) _
      refine am_F.bifK 1 rfl K hK (fun c7 hK => ?_) (fun c7 hK => ?_)
      · show am_F _ _ 67 [.ref 77, .ref 75, .int ((fn_tapeAt (f 77 5) f) - 48), .int 1] [] (am_S f g) _
        refine am_F.ops (pc' := 68) (L' := [.ref 77, .ref 75, .int ((fn_tapeAt (f 77 5) f) - 48), .int 1]) (S' := [.int ((fn_tapeAt (f 77 5) f) - 48)]) (μ' := (am_S f g)) 1 rfl ?_
        refine am_F.call rfl rfl (x_isRole ((fn_tapeAt (f 77 5) f) - 48) f g ) (by decide) ?_
        show am_F _ _ 71 [.ref 77, .ref 75, .int ((fn_tapeAt (f 77 5) f) - 48), .int 1] [.int (am_b (fn_isRole ((fn_tapeAt (f 77 5) f) - 48)))] (am_S f g) _
        refine am_F.bifK 1 rfl K hK (fun c8 hK => ?_) (fun c8 hK => ?_)
        · show am_F _ _ 83 [.ref 77, .ref 75, .int ((fn_tapeAt (f 77 5) f) - 48), .int 1] [] (am_S f g) _
          refine am_F.ops (pc' := 85) (L' := [.ref 77, .ref 75, .int ((fn_tapeAt (f 77 5) f) - 48), .int 1]) (S' := [.int ((fn_tapeAt (f 77 5) f) - 48), .ref 77]) (μ' := (am_S f g)) 2 rfl ?_
          refine am_F.call rfl rfl (x_emit ((fn_tapeAt (f 77 5) f) - 48) f g ) (by decide) ?_
          obtain ⟨y9, hy9⟩ : ∃ z, (fn_emit ((fn_tapeAt (f 77 5) f) - 48) f) = z := ⟨_, rfl⟩
          (try rw [hy9] at hK)
          (try rw [hy9])
          refine am_F.mem (F' := (am_row (am_row f 77 y9.1) 78 y9.2)) (G' := g) ?_ (by first | rfl | (funext a; by_cases z0 : a = 77; (subst z0; rfl); by_cases z1 : a = 78; (subst z1; rfl); simp only [am_ui, am_ul, am_row_ne z0, am_row_ne z1])) (by first | rfl | (funext a; by_cases z0 : a = 77; (subst z0; rfl); by_cases z1 : a = 78; (subst z1; rfl); simp only [am_ui, am_ul, am_row_ne z0, am_row_ne z1]))
          show am_F _ _ 88 [.ref 77, .ref 75, .int ((fn_tapeAt (f 77 5) f) - 48), .int 1] [] (am_S (am_row (am_row f 77 y9.1) 78 y9.2) g) _
          refine am_F.ops (pc' := 95) (L' := [.ref 77, .ref 75, .int ((fn_tapeAt (f 77 5) f) - 48), .int 1]) (S' := [.int ((y9.1 5) + 1), .ref 77]) (μ' := (am_S (am_row (am_row f 77 y9.1) 78 y9.2) g)) 5 rfl ?_
          refine am_F.pfi (F' := (am_row (am_row f 77 (upd y9.1 5 ((y9.1 5) + 1))) 78 y9.2)) rfl rfl (by first | rfl | (funext a; by_cases z0 : a = 77; (subst z0; rfl); by_cases z1 : a = 78; (subst z1; rfl); simp only [am_ui, am_ul, am_row_ne z0, am_row_ne z1])) ?_
          subst hKd
          exact am_F.eq (am_F.ret rfl rfl) hK
        · show am_F _ _ 74 [.ref 77, .ref 75, .int ((fn_tapeAt (f 77 5) f) - 48), .int 1] [] (am_S f g) _
          refine am_F.ops (pc' := 79) (L' := [.ref 77, .ref 75, .int ((fn_tapeAt (f 77 5) f) - 48), .int 1]) (S' := [.int (f 77 5), .ref 77]) (μ' := (am_S f g)) 3 rfl ?_
          refine am_F.pfi (F' := (am_row f 77 (upd (f 77) 6 (f 77 5)))) rfl rfl (by first | rfl | (funext a; by_cases z0 : a = 77; (subst z0; rfl); simp only [am_ui, am_ul, am_row_ne z0])) ?_
          refine am_F.mem (F' := (am_row (am_row f 77 (upd (f 77) 6 (f 77 5))) 78 (f 78))) (G' := g) ?_ (by first | rfl | (funext a; by_cases z0 : a = 77; (subst z0; rfl); by_cases z1 : a = 78; (subst z1; rfl); simp only [am_ui, am_ul, am_row_ne z0, am_row_ne z1])) (by first | rfl | (funext a; by_cases z0 : a = 77; (subst z0; rfl); by_cases z1 : a = 78; (subst z1; rfl); simp only [am_ui, am_ul, am_row_ne z0, am_row_ne z1]))
          subst hKd
          exact am_F.eq (am_F.ret rfl rfl) hK
      · show am_F _ _ 74 [.ref 77, .ref 75, .int ((fn_tapeAt (f 77 5) f) - 48), .int 1] [] (am_S f g) _
        refine am_F.ops (pc' := 79) (L' := [.ref 77, .ref 75, .int ((fn_tapeAt (f 77 5) f) - 48), .int 1]) (S' := [.int (f 77 5), .ref 77]) (μ' := (am_S f g)) 3 rfl ?_
        refine am_F.pfi (F' := (am_row f 77 (upd (f 77) 6 (f 77 5)))) rfl rfl (by first | rfl | (funext a; by_cases z0 : a = 77; (subst z0; rfl); simp only [am_ui, am_ul, am_row_ne z0])) ?_
        refine am_F.mem (F' := (am_row (am_row f 77 (upd (f 77) 6 (f 77 5))) 78 (f 78))) (G' := g) ?_ (by first | rfl | (funext a; by_cases z0 : a = 77; (subst z0; rfl); by_cases z1 : a = 78; (subst z1; rfl); simp only [am_ui, am_ul, am_row_ne z0, am_row_ne z1])) (by first | rfl | (funext a; by_cases z0 : a = 77; (subst z0; rfl); by_cases z1 : a = 78; (subst z1; rfl); simp only [am_ui, am_ul, am_row_ne z0, am_row_ne z1]))
        subst hKd
        exact am_F.eq (am_F.ret rfl rfl) hK
  · show am_F _ _ 7 [.ref 77, .ref 75, am_un, am_un] [] (am_S f g) _
    refine am_F.mem (F' := (am_row (am_row f 77 (f 77)) 78 (f 78))) (G' := g) ?_ (by first | rfl | (funext a; by_cases z0 : a = 77; (subst z0; rfl); by_cases z1 : a = 78; (subst z1; rfl); simp only [am_ui, am_ul, am_row_ne z0, am_row_ne z1])) (by first | rfl | (funext a; by_cases z0 : a = 77; (subst z0; rfl); by_cases z1 : a = 78; (subst z1; rfl); simp only [am_ui, am_ul, am_row_ne z0, am_row_ne z1]))
    subst hKd
    exact am_F.eq (am_F.ret rfl rfl) hK
/-- AccessLattice$Reader.readPairs -/
def st_readPairs_6 (f : Nat → Nat → Int32) : Nat → (Nat → Int32) × (Nat → Int32) → (Nat → Int32) × (Nat → Int32) ⊕ ((Nat → Int32) × (Nat → Int32) ⊕ Empty) := fun i6 z => match z with
  | (r6_77, r6_78) => (if 0 ≤ (r6_77 6) then .inr (.inl (r6_77, r6_78)) else (if (nI i6) = 0 then (if (nI i6) ≤ 0 then .inl ((fn_readRole (am_row (am_row f 77 (fn_readMark 62 (am_row (am_row f 77 (fn_readRole (am_row (am_row f 77 r6_77) 78 r6_78)).1) 78 (fn_readRole (am_row (am_row f 77 r6_77) 78 r6_78)).2))) 78 (fn_readRole (am_row (am_row f 77 r6_77) 78 r6_78)).2)).1, (fn_readRole (am_row (am_row f 77 (fn_readMark 62 (am_row (am_row f 77 (fn_readRole (am_row (am_row f 77 r6_77) 78 r6_78)).1) 78 (fn_readRole (am_row (am_row f 77 r6_77) 78 r6_78)).2))) 78 (fn_readRole (am_row (am_row f 77 r6_77) 78 r6_78)).2)).2) else .inl ((fn_readRole (am_row (am_row f 77 (fn_readMark 62 (am_row (am_row f 77 (fn_readRole (am_row (am_row f 77 (fn_readMark 44 (am_row (am_row f 77 r6_77) 78 r6_78))) 78 r6_78)).1) 78 (fn_readRole (am_row (am_row f 77 (fn_readMark 44 (am_row (am_row f 77 r6_77) 78 r6_78))) 78 r6_78)).2))) 78 (fn_readRole (am_row (am_row f 77 (fn_readMark 44 (am_row (am_row f 77 r6_77) 78 r6_78))) 78 r6_78)).2)).1, (fn_readRole (am_row (am_row f 77 (fn_readMark 62 (am_row (am_row f 77 (fn_readRole (am_row (am_row f 77 (fn_readMark 44 (am_row (am_row f 77 r6_77) 78 r6_78))) 78 r6_78)).1) 78 (fn_readRole (am_row (am_row f 77 (fn_readMark 44 (am_row (am_row f 77 r6_77) 78 r6_78))) 78 r6_78)).2))) 78 (fn_readRole (am_row (am_row f 77 (fn_readMark 44 (am_row (am_row f 77 r6_77) 78 r6_78))) 78 r6_78)).2)).2)) else (if (f 75 1) ≤ (r6_77 5) then .inr (.inl (r6_77, r6_78)) else (if (nI i6) ≤ 0 then .inl ((fn_readRole (am_row (am_row f 77 (fn_readMark 62 (am_row (am_row f 77 (fn_readRole (am_row (am_row f 77 r6_77) 78 r6_78)).1) 78 (fn_readRole (am_row (am_row f 77 r6_77) 78 r6_78)).2))) 78 (fn_readRole (am_row (am_row f 77 r6_77) 78 r6_78)).2)).1, (fn_readRole (am_row (am_row f 77 (fn_readMark 62 (am_row (am_row f 77 (fn_readRole (am_row (am_row f 77 r6_77) 78 r6_78)).1) 78 (fn_readRole (am_row (am_row f 77 r6_77) 78 r6_78)).2))) 78 (fn_readRole (am_row (am_row f 77 r6_77) 78 r6_78)).2)).2) else .inl ((fn_readRole (am_row (am_row f 77 (fn_readMark 62 (am_row (am_row f 77 (fn_readRole (am_row (am_row f 77 (fn_readMark 44 (am_row (am_row f 77 r6_77) 78 r6_78))) 78 r6_78)).1) 78 (fn_readRole (am_row (am_row f 77 (fn_readMark 44 (am_row (am_row f 77 r6_77) 78 r6_78))) 78 r6_78)).2))) 78 (fn_readRole (am_row (am_row f 77 (fn_readMark 44 (am_row (am_row f 77 r6_77) 78 r6_78))) 78 r6_78)).2)).1, (fn_readRole (am_row (am_row f 77 (fn_readMark 62 (am_row (am_row f 77 (fn_readRole (am_row (am_row f 77 (fn_readMark 44 (am_row (am_row f 77 r6_77) 78 r6_78))) 78 r6_78)).1) 78 (fn_readRole (am_row (am_row f 77 (fn_readMark 44 (am_row (am_row f 77 r6_77) 78 r6_78))) 78 r6_78)).2))) 78 (fn_readRole (am_row (am_row f 77 (fn_readMark 44 (am_row (am_row f 77 r6_77) 78 r6_78))) 78 r6_78)).2)).2)))))
def lf_readPairs_6 (f : Nat → Nat → Int32) (y1 : (Nat → Int32)) : (Nat → Int32) × (Nat → Int32) ⊕ Empty := am_forX (st_readPairs_6 f) 80 0 (y1, f 78)
def fn_readPairs (f : Nat → Nat → Int32) : Int32 × (Nat → Int32) × (Nat → Int32) := (Sum.elim (fun (z6 : (Nat → Int32) × (Nat → Int32)) => (z6.1 6, z6.1, z6.2)) (fun (z : Empty) => z.elim) (lf_readPairs_6 f (fn_rdStart f)))
theorem lp_readPairs_6 (f : Nat → Nat → Int32) (g : Nat → Nat → Int64) (y1 : (Nat → Int32))  (res : Option Value × am_M) : ∀ (n i6 : Nat) (r6_77 : Nat → Int32) (r6_78 : Nat → Int32) , i6 + n = 80 → am_KX (fun (z : (Nat → Int32) × (Nat → Int32)) => ∀ (wc : Value), am_F 3 am_k_71 68 [.ref 77, .ref 75, wc] [] (am_S (am_row (am_row f 77 z.1) 78 z.2) g) res) (fun (z : Empty) => True) (am_forX (st_readPairs_6 f) n i6 (r6_77, r6_78)) → am_F 3 am_k_71 6 [.ref 77, .ref 75, .int (nI i6)] [] (am_S (am_row (am_row f 77 r6_77) 78 r6_78) g) res := by
  intro n
  induction n with
  | zero =>
    intro i6 r6_77 r6_78 hi hK
    refine am_F.pos 3 rfl (by show 80 ≤ nI i6; rw [show (80 : Int32) = nI 80 from rfl]; exact nI_le (by omega) (by omega)) ?_
    exact hK _
  | succ n ih =>
    intro i6 r6_77 r6_78 hi hK
    refine am_F.neg 3 rfl (by show ¬ 80 ≤ nI i6; rw [show (80 : Int32) = nI 80 from rfl]; exact nI_ge (by omega) (by omega)) ?_
    have hb6 : i6 < 80 := by omega
    show am_F _ _ 12 [.ref 77, .ref 75, .int (nI i6)] [] (am_S (am_row (am_row f 77 r6_77) 78 r6_78) g) _
    obtain ⟨K, hKd⟩ : ∃ K : ((Nat → Int32) × (Nat → Int32) ⊕ ((Nat → Int32) × (Nat → Int32) ⊕ Empty)) → Prop, K = fun s => am_KX (fun (z : (Nat → Int32) × (Nat → Int32)) => ∀ (wc : Value), am_F 3 am_k_71 68 [.ref 77, .ref 75, wc] [] (am_S (am_row (am_row f 77 z.1) 78 z.2) g) res) (fun (z : Empty) => True) (am_nxt (fun z => am_forX (st_readPairs_6 f) n (i6 + 1) z) s) := ⟨_, rfl⟩
    have hK : K ((st_readPairs_6 f) i6 (r6_77, r6_78)) := by rw [hKd]; exact hK
    unfold st_readPairs_6 at hK
    simp only at hK
    refine am_F.ops (pc' := 16) (L' := [.ref 77, .ref 75, .int (nI i6)]) (S' := [.int (r6_77 6)]) (μ' := (am_S (am_row (am_row f 77 r6_77) 78 r6_78) g)) 2 rfl ?_
    refine am_F.iteK 1 rfl K hK (fun c23 hK => ?_) (fun c23 hK => ?_)
    · show am_F _ _ 68 [.ref 77, .ref 75, .int (nI i6)] [] (am_S (am_row (am_row f 77 r6_77) 78 r6_78) g) _
      subst hKd
      exact hK (.int (nI i6))
    · show am_F _ _ 19 [.ref 77, .ref 75, .int (nI i6)] [] (am_S (am_row (am_row f 77 r6_77) 78 r6_78) g) _
      refine am_F.ops (pc' := 20) (L' := [.ref 77, .ref 75, .int (nI i6)]) (S' := [.int (nI i6)]) (μ' := (am_S (am_row (am_row f 77 r6_77) 78 r6_78) g)) 1 rfl ?_
      refine am_F.iteK 1 rfl K hK (fun c24 hK => ?_) (fun c24 hK => ?_)
      · show am_F _ _ 34 [.ref 77, .ref 75, .int (nI i6)] [] (am_S (am_row (am_row f 77 r6_77) 78 r6_78) g) _
        refine am_F.ops (pc' := 35) (L' := [.ref 77, .ref 75, .int (nI i6)]) (S' := [.int (nI i6)]) (μ' := (am_S (am_row (am_row f 77 r6_77) 78 r6_78) g)) 1 rfl ?_
        refine am_F.iteK 1 rfl K hK (fun c26 hK => ?_) (fun c26 hK => ?_)
        · show am_F _ _ 45 [.ref 77, .ref 75, .int (nI i6)] [] (am_S (am_row (am_row f 77 r6_77) 78 r6_78) g) _
          refine am_F.ops (pc' := 47) (L' := [.ref 77, .ref 75, .int (nI i6)]) (S' := [.ref 75, .ref 77]) (μ' := (am_S (am_row (am_row f 77 r6_77) 78 r6_78) g)) 2 rfl ?_
          refine am_F.call rfl rfl (x_readRole  (am_row (am_row f 77 r6_77) 78 r6_78) g ) (by decide) ?_
          obtain ⟨y27, hy27⟩ : ∃ z, (fn_readRole (am_row (am_row f 77 r6_77) 78 r6_78)) = z := ⟨_, rfl⟩
          (try rw [hy27] at hK)
          (try rw [hy27])
          refine am_F.mem (F' := (am_row (am_row f 77 y27.1) 78 y27.2)) (G' := g) ?_ (by first | rfl | (funext a; by_cases z0 : a = 77; (subst z0; rfl); by_cases z1 : a = 78; (subst z1; rfl); simp only [am_ui, am_ul, am_row_ne z0, am_row_ne z1])) (by first | rfl | (funext a; by_cases z0 : a = 77; (subst z0; rfl); by_cases z1 : a = 78; (subst z1; rfl); simp only [am_ui, am_ul, am_row_ne z0, am_row_ne z1]))
          show am_F _ _ 50 [.ref 77, .ref 75, .int (nI i6)] [] (am_S (am_row (am_row f 77 y27.1) 78 y27.2) g) _
          refine am_F.ops (pc' := 54) (L' := [.ref 77, .ref 75, .int (nI i6)]) (S' := [.int 62, .ref 75, .ref 77]) (μ' := (am_S (am_row (am_row f 77 y27.1) 78 y27.2) g)) 3 rfl ?_
          refine am_F.call rfl rfl (x_readMark 62 (am_row (am_row f 77 y27.1) 78 y27.2) g ) (by decide) ?_
          obtain ⟨y28, hy28⟩ : ∃ z, (fn_readMark 62 (am_row (am_row f 77 y27.1) 78 y27.2)) = z := ⟨_, rfl⟩
          (try rw [hy28] at hK)
          (try rw [hy28])
          refine am_F.mem (F' := (am_row (am_row f 77 y28) 78 y27.2)) (G' := g) ?_ (by first | rfl | (funext a; by_cases z0 : a = 77; (subst z0; rfl); by_cases z1 : a = 78; (subst z1; rfl); simp only [am_ui, am_ul, am_row_ne z0, am_row_ne z1])) (by first | rfl | (funext a; by_cases z0 : a = 77; (subst z0; rfl); by_cases z1 : a = 78; (subst z1; rfl); simp only [am_ui, am_ul, am_row_ne z0, am_row_ne z1]))
          show am_F _ _ 57 [.ref 77, .ref 75, .int (nI i6)] [] (am_S (am_row (am_row f 77 y28) 78 y27.2) g) _
          refine am_F.ops (pc' := 59) (L' := [.ref 77, .ref 75, .int (nI i6)]) (S' := [.ref 75, .ref 77]) (μ' := (am_S (am_row (am_row f 77 y28) 78 y27.2) g)) 2 rfl ?_
          refine am_F.call rfl rfl (x_readRole  (am_row (am_row f 77 y28) 78 y27.2) g ) (by decide) ?_
          obtain ⟨y29, hy29⟩ : ∃ z, (fn_readRole (am_row (am_row f 77 y28) 78 y27.2)) = z := ⟨_, rfl⟩
          (try rw [hy29] at hK)
          (try rw [hy29])
          refine am_F.mem (F' := (am_row (am_row f 77 y29.1) 78 y29.2)) (G' := g) ?_ (by first | rfl | (funext a; by_cases z0 : a = 77; (subst z0; rfl); by_cases z1 : a = 78; (subst z1; rfl); simp only [am_ui, am_ul, am_row_ne z0, am_row_ne z1])) (by first | rfl | (funext a; by_cases z0 : a = 77; (subst z0; rfl); by_cases z1 : a = 78; (subst z1; rfl); simp only [am_ui, am_ul, am_row_ne z0, am_row_ne z1]))
          show am_F _ _ 62 [.ref 77, .ref 75, .int (nI i6)] [] (am_S (am_row (am_row f 77 y29.1) 78 y29.2) g) _
          refine am_F.ops (pc' := 6) (L' := [.ref 77, .ref 75, .int ((nI i6) + 1)]) (S' := []) (μ' := (am_S (am_row (am_row f 77 y29.1) 78 y29.2) g)) 2 rfl ?_
          rw [nI_1 i6]
          subst hKd
          exact ih (i6 + 1) y29.1 y29.2 (by omega)  hK
        · show am_F _ _ 38 [.ref 77, .ref 75, .int (nI i6)] [] (am_S (am_row (am_row f 77 r6_77) 78 r6_78) g) _
          refine am_F.ops (pc' := 42) (L' := [.ref 77, .ref 75, .int (nI i6)]) (S' := [.int 44, .ref 75, .ref 77]) (μ' := (am_S (am_row (am_row f 77 r6_77) 78 r6_78) g)) 3 rfl ?_
          refine am_F.call rfl rfl (x_readMark 44 (am_row (am_row f 77 r6_77) 78 r6_78) g ) (by decide) ?_
          obtain ⟨y30, hy30⟩ : ∃ z, (fn_readMark 44 (am_row (am_row f 77 r6_77) 78 r6_78)) = z := ⟨_, rfl⟩
          (try rw [hy30] at hK)
          (try rw [hy30])
          refine am_F.mem (F' := (am_row (am_row f 77 y30) 78 r6_78)) (G' := g) ?_ (by first | rfl | (funext a; by_cases z0 : a = 77; (subst z0; rfl); by_cases z1 : a = 78; (subst z1; rfl); simp only [am_ui, am_ul, am_row_ne z0, am_row_ne z1])) (by first | rfl | (funext a; by_cases z0 : a = 77; (subst z0; rfl); by_cases z1 : a = 78; (subst z1; rfl); simp only [am_ui, am_ul, am_row_ne z0, am_row_ne z1]))
          show am_F _ _ 45 [.ref 77, .ref 75, .int (nI i6)] [] (am_S (am_row (am_row f 77 y30) 78 r6_78) g) _
          refine am_F.ops (pc' := 47) (L' := [.ref 77, .ref 75, .int (nI i6)]) (S' := [.ref 75, .ref 77]) (μ' := (am_S (am_row (am_row f 77 y30) 78 r6_78) g)) 2 rfl ?_
          refine am_F.call rfl rfl (x_readRole  (am_row (am_row f 77 y30) 78 r6_78) g ) (by decide) ?_
          obtain ⟨y31, hy31⟩ : ∃ z, (fn_readRole (am_row (am_row f 77 y30) 78 r6_78)) = z := ⟨_, rfl⟩
          (try rw [hy31] at hK)
          (try rw [hy31])
          refine am_F.mem (F' := (am_row (am_row f 77 y31.1) 78 y31.2)) (G' := g) ?_ (by first | rfl | (funext a; by_cases z0 : a = 77; (subst z0; rfl); by_cases z1 : a = 78; (subst z1; rfl); simp only [am_ui, am_ul, am_row_ne z0, am_row_ne z1])) (by first | rfl | (funext a; by_cases z0 : a = 77; (subst z0; rfl); by_cases z1 : a = 78; (subst z1; rfl); simp only [am_ui, am_ul, am_row_ne z0, am_row_ne z1]))
          show am_F _ _ 50 [.ref 77, .ref 75, .int (nI i6)] [] (am_S (am_row (am_row f 77 y31.1) 78 y31.2) g) _
          refine am_F.ops (pc' := 54) (L' := [.ref 77, .ref 75, .int (nI i6)]) (S' := [.int 62, .ref 75, .ref 77]) (μ' := (am_S (am_row (am_row f 77 y31.1) 78 y31.2) g)) 3 rfl ?_
          refine am_F.call rfl rfl (x_readMark 62 (am_row (am_row f 77 y31.1) 78 y31.2) g ) (by decide) ?_
          obtain ⟨y32, hy32⟩ : ∃ z, (fn_readMark 62 (am_row (am_row f 77 y31.1) 78 y31.2)) = z := ⟨_, rfl⟩
          (try rw [hy32] at hK)
          (try rw [hy32])
          refine am_F.mem (F' := (am_row (am_row f 77 y32) 78 y31.2)) (G' := g) ?_ (by first | rfl | (funext a; by_cases z0 : a = 77; (subst z0; rfl); by_cases z1 : a = 78; (subst z1; rfl); simp only [am_ui, am_ul, am_row_ne z0, am_row_ne z1])) (by first | rfl | (funext a; by_cases z0 : a = 77; (subst z0; rfl); by_cases z1 : a = 78; (subst z1; rfl); simp only [am_ui, am_ul, am_row_ne z0, am_row_ne z1]))
          show am_F _ _ 57 [.ref 77, .ref 75, .int (nI i6)] [] (am_S (am_row (am_row f 77 y32) 78 y31.2) g) _
          refine am_F.ops (pc' := 59) (L' := [.ref 77, .ref 75, .int (nI i6)]) (S' := [.ref 75, .ref 77]) (μ' := (am_S (am_row (am_row f 77 y32) 78 y31.2) g)) 2 rfl ?_
          refine am_F.call rfl rfl (x_readRole  (am_row (am_row f 77 y32) 78 y31.2) g ) (by decide) ?_
          obtain ⟨y33, hy33⟩ : ∃ z, (fn_readRole (am_row (am_row f 77 y32) 78 y31.2)) = z := ⟨_, rfl⟩
          (try rw [hy33] at hK)
          (try rw [hy33])
          refine am_F.mem (F' := (am_row (am_row f 77 y33.1) 78 y33.2)) (G' := g) ?_ (by first | rfl | (funext a; by_cases z0 : a = 77; (subst z0; rfl); by_cases z1 : a = 78; (subst z1; rfl); simp only [am_ui, am_ul, am_row_ne z0, am_row_ne z1])) (by first | rfl | (funext a; by_cases z0 : a = 77; (subst z0; rfl); by_cases z1 : a = 78; (subst z1; rfl); simp only [am_ui, am_ul, am_row_ne z0, am_row_ne z1]))
          show am_F _ _ 62 [.ref 77, .ref 75, .int (nI i6)] [] (am_S (am_row (am_row f 77 y33.1) 78 y33.2) g) _
          refine am_F.ops (pc' := 6) (L' := [.ref 77, .ref 75, .int ((nI i6) + 1)]) (S' := []) (μ' := (am_S (am_row (am_row f 77 y33.1) 78 y33.2) g)) 2 rfl ?_
          rw [nI_1 i6]
          subst hKd
          exact ih (i6 + 1) y33.1 y33.2 (by omega)  hK
      · show am_F _ _ 23 [.ref 77, .ref 75, .int (nI i6)] [] (am_S (am_row (am_row f 77 r6_77) 78 r6_78) g) _
        refine am_F.ops (pc' := 31) (L' := [.ref 77, .ref 75, .int (nI i6)]) (S' := [.int (f 75 1), .int (r6_77 5)]) (μ' := (am_S (am_row (am_row f 77 r6_77) 78 r6_78) g)) 4 rfl ?_
        refine am_F.iteK 1 rfl K hK (fun c34 hK => ?_) (fun c34 hK => ?_)
        · show am_F _ _ 68 [.ref 77, .ref 75, .int (nI i6)] [] (am_S (am_row (am_row f 77 r6_77) 78 r6_78) g) _
          subst hKd
          exact hK (.int (nI i6))
        · show am_F _ _ 34 [.ref 77, .ref 75, .int (nI i6)] [] (am_S (am_row (am_row f 77 r6_77) 78 r6_78) g) _
          refine am_F.ops (pc' := 35) (L' := [.ref 77, .ref 75, .int (nI i6)]) (S' := [.int (nI i6)]) (μ' := (am_S (am_row (am_row f 77 r6_77) 78 r6_78) g)) 1 rfl ?_
          refine am_F.iteK 1 rfl K hK (fun c36 hK => ?_) (fun c36 hK => ?_)
          · show am_F _ _ 45 [.ref 77, .ref 75, .int (nI i6)] [] (am_S (am_row (am_row f 77 r6_77) 78 r6_78) g) _
            refine am_F.ops (pc' := 47) (L' := [.ref 77, .ref 75, .int (nI i6)]) (S' := [.ref 75, .ref 77]) (μ' := (am_S (am_row (am_row f 77 r6_77) 78 r6_78) g)) 2 rfl ?_
            refine am_F.call rfl rfl (x_readRole  (am_row (am_row f 77 r6_77) 78 r6_78) g ) (by decide) ?_
            obtain ⟨y37, hy37⟩ : ∃ z, (fn_readRole (am_row (am_row f 77 r6_77) 78 r6_78)) = z := ⟨_, rfl⟩
            (try rw [hy37] at hK)
            (try rw [hy37])
            refine am_F.mem (F' := (am_row (am_row f 77 y37.1) 78 y37.2)) (G' := g) ?_ (by first | rfl | (funext a; by_cases z0 : a = 77; (subst z0; rfl); by_cases z1 : a = 78; (subst z1; rfl); simp only [am_ui, am_ul, am_row_ne z0, am_row_ne z1])) (by first | rfl | (funext a; by_cases z0 : a = 77; (subst z0; rfl); by_cases z1 : a = 78; (subst z1; rfl); simp only [am_ui, am_ul, am_row_ne z0, am_row_ne z1]))
            show am_F _ _ 50 [.ref 77, .ref 75, .int (nI i6)] [] (am_S (am_row (am_row f 77 y37.1) 78 y37.2) g) _
            refine am_F.ops (pc' := 54) (L' := [.ref 77, .ref 75, .int (nI i6)]) (S' := [.int 62, .ref 75, .ref 77]) (μ' := (am_S (am_row (am_row f 77 y37.1) 78 y37.2) g)) 3 rfl ?_
            refine am_F.call rfl rfl (x_readMark 62 (am_row (am_row f 77 y37.1) 78 y37.2) g ) (by decide) ?_
            obtain ⟨y38, hy38⟩ : ∃ z, (fn_readMark 62 (am_row (am_row f 77 y37.1) 78 y37.2)) = z := ⟨_, rfl⟩
            (try rw [hy38] at hK)
            (try rw [hy38])
            refine am_F.mem (F' := (am_row (am_row f 77 y38) 78 y37.2)) (G' := g) ?_ (by first | rfl | (funext a; by_cases z0 : a = 77; (subst z0; rfl); by_cases z1 : a = 78; (subst z1; rfl); simp only [am_ui, am_ul, am_row_ne z0, am_row_ne z1])) (by first | rfl | (funext a; by_cases z0 : a = 77; (subst z0; rfl); by_cases z1 : a = 78; (subst z1; rfl); simp only [am_ui, am_ul, am_row_ne z0, am_row_ne z1]))
            show am_F _ _ 57 [.ref 77, .ref 75, .int (nI i6)] [] (am_S (am_row (am_row f 77 y38) 78 y37.2) g) _
            refine am_F.ops (pc' := 59) (L' := [.ref 77, .ref 75, .int (nI i6)]) (S' := [.ref 75, .ref 77]) (μ' := (am_S (am_row (am_row f 77 y38) 78 y37.2) g)) 2 rfl ?_
            refine am_F.call rfl rfl (x_readRole  (am_row (am_row f 77 y38) 78 y37.2) g ) (by decide) ?_
            obtain ⟨y39, hy39⟩ : ∃ z, (fn_readRole (am_row (am_row f 77 y38) 78 y37.2)) = z := ⟨_, rfl⟩
            (try rw [hy39] at hK)
            (try rw [hy39])
            refine am_F.mem (F' := (am_row (am_row f 77 y39.1) 78 y39.2)) (G' := g) ?_ (by first | rfl | (funext a; by_cases z0 : a = 77; (subst z0; rfl); by_cases z1 : a = 78; (subst z1; rfl); simp only [am_ui, am_ul, am_row_ne z0, am_row_ne z1])) (by first | rfl | (funext a; by_cases z0 : a = 77; (subst z0; rfl); by_cases z1 : a = 78; (subst z1; rfl); simp only [am_ui, am_ul, am_row_ne z0, am_row_ne z1]))
            show am_F _ _ 62 [.ref 77, .ref 75, .int (nI i6)] [] (am_S (am_row (am_row f 77 y39.1) 78 y39.2) g) _
            refine am_F.ops (pc' := 6) (L' := [.ref 77, .ref 75, .int ((nI i6) + 1)]) (S' := []) (μ' := (am_S (am_row (am_row f 77 y39.1) 78 y39.2) g)) 2 rfl ?_
            rw [nI_1 i6]
            subst hKd
            exact ih (i6 + 1) y39.1 y39.2 (by omega)  hK
          · show am_F _ _ 38 [.ref 77, .ref 75, .int (nI i6)] [] (am_S (am_row (am_row f 77 r6_77) 78 r6_78) g) _
            refine am_F.ops (pc' := 42) (L' := [.ref 77, .ref 75, .int (nI i6)]) (S' := [.int 44, .ref 75, .ref 77]) (μ' := (am_S (am_row (am_row f 77 r6_77) 78 r6_78) g)) 3 rfl ?_
            refine am_F.call rfl rfl (x_readMark 44 (am_row (am_row f 77 r6_77) 78 r6_78) g ) (by decide) ?_
            obtain ⟨y40, hy40⟩ : ∃ z, (fn_readMark 44 (am_row (am_row f 77 r6_77) 78 r6_78)) = z := ⟨_, rfl⟩
            (try rw [hy40] at hK)
            (try rw [hy40])
            refine am_F.mem (F' := (am_row (am_row f 77 y40) 78 r6_78)) (G' := g) ?_ (by first | rfl | (funext a; by_cases z0 : a = 77; (subst z0; rfl); by_cases z1 : a = 78; (subst z1; rfl); simp only [am_ui, am_ul, am_row_ne z0, am_row_ne z1])) (by first | rfl | (funext a; by_cases z0 : a = 77; (subst z0; rfl); by_cases z1 : a = 78; (subst z1; rfl); simp only [am_ui, am_ul, am_row_ne z0, am_row_ne z1]))
            show am_F _ _ 45 [.ref 77, .ref 75, .int (nI i6)] [] (am_S (am_row (am_row f 77 y40) 78 r6_78) g) _
            refine am_F.ops (pc' := 47) (L' := [.ref 77, .ref 75, .int (nI i6)]) (S' := [.ref 75, .ref 77]) (μ' := (am_S (am_row (am_row f 77 y40) 78 r6_78) g)) 2 rfl ?_
            refine am_F.call rfl rfl (x_readRole  (am_row (am_row f 77 y40) 78 r6_78) g ) (by decide) ?_
            obtain ⟨y41, hy41⟩ : ∃ z, (fn_readRole (am_row (am_row f 77 y40) 78 r6_78)) = z := ⟨_, rfl⟩
            (try rw [hy41] at hK)
            (try rw [hy41])
            refine am_F.mem (F' := (am_row (am_row f 77 y41.1) 78 y41.2)) (G' := g) ?_ (by first | rfl | (funext a; by_cases z0 : a = 77; (subst z0; rfl); by_cases z1 : a = 78; (subst z1; rfl); simp only [am_ui, am_ul, am_row_ne z0, am_row_ne z1])) (by first | rfl | (funext a; by_cases z0 : a = 77; (subst z0; rfl); by_cases z1 : a = 78; (subst z1; rfl); simp only [am_ui, am_ul, am_row_ne z0, am_row_ne z1]))
            show am_F _ _ 50 [.ref 77, .ref 75, .int (nI i6)] [] (am_S (am_row (am_row f 77 y41.1) 78 y41.2) g) _
            refine am_F.ops (pc' := 54) (L' := [.ref 77, .ref 75, .int (nI i6)]) (S' := [.int 62, .ref 75, .ref 77]) (μ' := (am_S (am_row (am_row f 77 y41.1) 78 y41.2) g)) 3 rfl ?_
            refine am_F.call rfl rfl (x_readMark 62 (am_row (am_row f 77 y41.1) 78 y41.2) g ) (by decide) ?_
            obtain ⟨y42, hy42⟩ : ∃ z, (fn_readMark 62 (am_row (am_row f 77 y41.1) 78 y41.2)) = z := ⟨_, rfl⟩
            (try rw [hy42] at hK)
            (try rw [hy42])
            refine am_F.mem (F' := (am_row (am_row f 77 y42) 78 y41.2)) (G' := g) ?_ (by first | rfl | (funext a; by_cases z0 : a = 77; (subst z0; rfl); by_cases z1 : a = 78; (subst z1; rfl); simp only [am_ui, am_ul, am_row_ne z0, am_row_ne z1])) (by first | rfl | (funext a; by_cases z0 : a = 77; (subst z0; rfl); by_cases z1 : a = 78; (subst z1; rfl); simp only [am_ui, am_ul, am_row_ne z0, am_row_ne z1]))
            show am_F _ _ 57 [.ref 77, .ref 75, .int (nI i6)] [] (am_S (am_row (am_row f 77 y42) 78 y41.2) g) _
            refine am_F.ops (pc' := 59) (L' := [.ref 77, .ref 75, .int (nI i6)]) (S' := [.ref 75, .ref 77]) (μ' := (am_S (am_row (am_row f 77 y42) 78 y41.2) g)) 2 rfl ?_
            refine am_F.call rfl rfl (x_readRole  (am_row (am_row f 77 y42) 78 y41.2) g ) (by decide) ?_
            obtain ⟨y43, hy43⟩ : ∃ z, (fn_readRole (am_row (am_row f 77 y42) 78 y41.2)) = z := ⟨_, rfl⟩
            (try rw [hy43] at hK)
            (try rw [hy43])
            refine am_F.mem (F' := (am_row (am_row f 77 y43.1) 78 y43.2)) (G' := g) ?_ (by first | rfl | (funext a; by_cases z0 : a = 77; (subst z0; rfl); by_cases z1 : a = 78; (subst z1; rfl); simp only [am_ui, am_ul, am_row_ne z0, am_row_ne z1])) (by first | rfl | (funext a; by_cases z0 : a = 77; (subst z0; rfl); by_cases z1 : a = 78; (subst z1; rfl); simp only [am_ui, am_ul, am_row_ne z0, am_row_ne z1]))
            show am_F _ _ 62 [.ref 77, .ref 75, .int (nI i6)] [] (am_S (am_row (am_row f 77 y43.1) 78 y43.2) g) _
            refine am_F.ops (pc' := 6) (L' := [.ref 77, .ref 75, .int ((nI i6) + 1)]) (S' := []) (μ' := (am_S (am_row (am_row f 77 y43.1) 78 y43.2) g)) 2 rfl ?_
            rw [nI_1 i6]
            subst hKd
            exact ih (i6 + 1) y43.1 y43.2 (by omega)  hK
theorem x_readPairs (f : Nat → Nat → Int32) (g : Nat → Nat → Int64)  : am_D 3 71 3 [.ref 77, .ref 75] (am_S f g) (some (Value.int ((fn_readPairs f).1)), am_S (am_row (am_row f 77 ((fn_readPairs f).2.1)) 78 ((fn_readPairs f).2.2)) g) := by
  refine am_D.of (code := am_k_71) rfl (L0 := [.ref 77, .ref 75, am_un]) rfl ?_
  generalize hres : (some (Value.int ((fn_readPairs f).1)), am_S (am_row (am_row f 77 ((fn_readPairs f).2.1)) 78 ((fn_readPairs f).2.2)) g) = res
  obtain ⟨K, hKd⟩ : ∃ K : (Int32 × (Nat → Int32) × (Nat → Int32)) → Prop, K = fun z => (some (Value.int z.1), am_S (am_row (am_row f 77 z.2.1) 78 z.2.2) g) = res := ⟨_, rfl⟩
  have hK : K (fn_readPairs f) := by rw [hKd]; exact hres
  clear hres
  unfold fn_readPairs at hK
  refine am_F.ops (pc' := 1) (L' := [.ref 77, .ref 75, am_un]) (S' := [.ref 77]) (μ' := (am_S f g)) 1 rfl ?_
  refine am_F.call rfl rfl (x_rdStart  f g ) (by decide) ?_
  obtain ⟨y1, hy1⟩ : ∃ z, (fn_rdStart f) = z := ⟨_, rfl⟩
  (try rw [hy1] at hK)
  (try rw [hy1])
  refine am_F.mem (F' := (am_row f 77 y1)) (G' := g) ?_ (by first | rfl | (funext a; by_cases z0 : a = 77; (subst z0; rfl); simp only [am_ui, am_ul, am_row_ne z0])) (by first | rfl | (funext a; by_cases z0 : a = 77; (subst z0; rfl); simp only [am_ui, am_ul, am_row_ne z0]))
  show am_F _ _ 4 [.ref 77, .ref 75, am_un] [] (am_S (am_row f 77 y1) g) _
  refine am_F.ops (pc' := 6) (L' := [.ref 77, .ref 75, .int 0]) (S' := []) (μ' := (am_S (am_row f 77 y1) g)) 2 rfl ?_
  refine am_F.mem (F' := (am_row (am_row f 77 y1) 78 (f 78))) (G' := g) ?_ (by first | rfl | (funext a; by_cases z0 : a = 77; (subst z0; rfl); by_cases z1 : a = 78; (subst z1; rfl); simp only [am_ui, am_ul, am_row_ne z0, am_row_ne z1])) (by first | rfl | (funext a; by_cases z0 : a = 77; (subst z0; rfl); by_cases z1 : a = 78; (subst z1; rfl); simp only [am_ui, am_ul, am_row_ne z0, am_row_ne z1]))
  show am_F _ _ 6 [.ref 77, .ref 75, .int (nI 0)] [] (am_S (am_row (am_row f 77 y1) 78 (f 78)) g) _
  refine lp_readPairs_6 f g y1  _ 80 0 y1 (f 78)  (by omega)  ?_
  rw [show am_forX (st_readPairs_6 f) 80 0 (y1, f 78) = (lf_readPairs_6 f y1) from rfl]
  revert hK
  cases (lf_readPairs_6 f y1) with
  | inr z =>
    intro hK
    exact z.elim
  | inl z6 =>
    intro hK wc
    refine am_F.ops (pc' := 72) (L' := [.ref 77, .ref 75, wc]) (S' := [.int (z6.1 6)]) (μ' := (am_S (am_row (am_row f 77 z6.1) 78 z6.2) g)) 2 rfl ?_
    subst hKd
    exact am_F.eq (am_F.ret rfl rfl) hK
/-- AccessLattice$Grounds.add -/
def fn_groundsAdd (what : Int32) (which : Int32) (f : Nat → Nat → Int32) : (Nat → Int32) × (Nat → Int32) × (Nat → Int32) := (if (f 83 2) < 0 then (f 83, f 84, f 85) else (if 62 ≤ (f 83 2) then (f 83, f 84, f 85) else (upd (f 83) 2 ((f 83 2) + 1), upd (f 84) ((f 83 2).toNatClampNeg) what, upd (f 85) ((f 83 2).toNatClampNeg) which)))
theorem x_groundsAdd (what : Int32) (which : Int32) (f : Nat → Nat → Int32) (g : Nat → Nat → Int64)  : am_D 0 87 3 [.ref 83, .int what, .int which] (am_S f g) ((none : Option Value), am_S (am_row (am_row (am_row f 83 ((fn_groundsAdd what which f).1)) 84 ((fn_groundsAdd what which f).2.1)) 85 ((fn_groundsAdd what which f).2.2)) g) := by
  refine am_D.of (code := am_k_87) rfl (L0 := [.ref 83, .int what, .int which]) rfl ?_
  generalize hres : ((none : Option Value), am_S (am_row (am_row (am_row f 83 ((fn_groundsAdd what which f).1)) 84 ((fn_groundsAdd what which f).2.1)) 85 ((fn_groundsAdd what which f).2.2)) g) = res
  obtain ⟨K, hKd⟩ : ∃ K : ((Nat → Int32) × (Nat → Int32) × (Nat → Int32)) → Prop, K = fun z => ((none : Option Value), am_S (am_row (am_row (am_row f 83 z.1) 84 z.2.1) 85 z.2.2) g) = res := ⟨_, rfl⟩
  have hK : K (fn_groundsAdd what which f) := by rw [hKd]; exact hres
  clear hres
  unfold fn_groundsAdd at hK
  refine am_F.ops (pc' := 4) (L' := [.ref 83, .int what, .int which]) (S' := [.int (f 83 2)]) (μ' := (am_S f g)) 2 rfl ?_
  refine am_F.iteK 1 rfl K hK (fun c2 hK => ?_) (fun c2 hK => ?_)
  · show am_F _ _ 49 [.ref 83, .int what, .int which] [] (am_S f g) _
    refine am_F.mem (F' := (am_row (am_row (am_row f 83 (f 83)) 84 (f 84)) 85 (f 85))) (G' := g) ?_ (by first | rfl | (funext a; by_cases z0 : a = 83; (subst z0; rfl); by_cases z1 : a = 84; (subst z1; rfl); by_cases z2 : a = 85; (subst z2; rfl); simp only [am_ui, am_ul, am_row_ne z0, am_row_ne z1, am_row_ne z2])) (by first | rfl | (funext a; by_cases z0 : a = 83; (subst z0; rfl); by_cases z1 : a = 84; (subst z1; rfl); by_cases z2 : a = 85; (subst z2; rfl); simp only [am_ui, am_ul, am_row_ne z0, am_row_ne z1, am_row_ne z2]))
    subst hKd
    exact am_F.eq (am_F.ret rfl rfl) hK
  · show am_F _ _ 7 [.ref 83, .int what, .int which] [] (am_S f g) _
    refine am_F.ops (pc' := 16) (L' := [.ref 83, .int what, .int which]) (S' := [.int 62, .int (f 83 2)]) (μ' := (am_S f g)) 5 rfl ?_
    refine am_F.iteK 1 rfl K hK (fun c4 hK => ?_) (fun c4 hK => ?_)
    · show am_F _ _ 49 [.ref 83, .int what, .int which] [] (am_S f g) _
      refine am_F.mem (F' := (am_row (am_row (am_row f 83 (f 83)) 84 (f 84)) 85 (f 85))) (G' := g) ?_ (by first | rfl | (funext a; by_cases z0 : a = 83; (subst z0; rfl); by_cases z1 : a = 84; (subst z1; rfl); by_cases z2 : a = 85; (subst z2; rfl); simp only [am_ui, am_ul, am_row_ne z0, am_row_ne z1, am_row_ne z2])) (by first | rfl | (funext a; by_cases z0 : a = 83; (subst z0; rfl); by_cases z1 : a = 84; (subst z1; rfl); by_cases z2 : a = 85; (subst z2; rfl); simp only [am_ui, am_ul, am_row_ne z0, am_row_ne z1, am_row_ne z2]))
      subst hKd
      exact am_F.eq (am_F.ret rfl rfl) hK
    · show am_F _ _ 19 [.ref 83, .int what, .int which] [] (am_S f g) _
      refine am_F.ops (pc' := 28) (L' := [.ref 83, .int what, .int which]) (S' := [.int what, .int (f 83 2), .ref 84]) (μ' := (am_S f g)) 5 rfl ?_
      refine am_F.ias (F' := (am_row f 84 (upd (f 84) ((f 83 2).toNatClampNeg) what))) (N := 62) rfl rfl rfl (am_inbH (y := 62) (by assumption) (by assumption) rfl) (by first | rfl | (funext a; by_cases z0 : a = 84; (subst z0; rfl); simp only [am_ui, am_ul, am_row_ne z0])) ?_
      refine am_F.ops (pc' := 38) (L' := [.ref 83, .int what, .int which]) (S' := [.int which, .int (f 83 2), .ref 85]) (μ' := (am_S (am_row f 84 (upd (f 84) ((f 83 2).toNatClampNeg) what)) g)) 5 rfl ?_
      refine am_F.ias (F' := (am_row (am_row f 84 (upd (f 84) ((f 83 2).toNatClampNeg) what)) 85 (upd (f 85) ((f 83 2).toNatClampNeg) which))) (N := 62) rfl rfl rfl (am_inbH (y := 62) (by assumption) (by assumption) rfl) (by first | rfl | (funext a; by_cases z0 : a = 84; (subst z0; rfl); by_cases z1 : a = 85; (subst z1; rfl); simp only [am_ui, am_ul, am_row_ne z0, am_row_ne z1])) ?_
      refine am_F.ops (pc' := 46) (L' := [.ref 83, .int what, .int which]) (S' := [.int ((f 83 2) + 1), .ref 83]) (μ' := (am_S (am_row (am_row f 84 (upd (f 84) ((f 83 2).toNatClampNeg) what)) 85 (upd (f 85) ((f 83 2).toNatClampNeg) which)) g)) 5 rfl ?_
      refine am_F.pfi (F' := (am_row (am_row (am_row f 83 (upd (f 83) 2 ((f 83 2) + 1))) 84 (upd (f 84) ((f 83 2).toNatClampNeg) what)) 85 (upd (f 85) ((f 83 2).toNatClampNeg) which))) rfl rfl (by first | rfl | (funext a; by_cases z0 : a = 83; (subst z0; rfl); by_cases z1 : a = 84; (subst z1; rfl); by_cases z2 : a = 85; (subst z2; rfl); simp only [am_ui, am_ul, am_row_ne z0, am_row_ne z1, am_row_ne z2])) ?_
      subst hKd
      exact am_F.eq (am_F.ret rfl rfl) hK
