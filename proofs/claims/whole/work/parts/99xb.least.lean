/-! LEAST AND LOSE: the class's answer -/
set_option linter.unusedVariables false
theorem tr_ans_c2 {P P' : Nat → Bool} {kd : Nat → Int32} {R : Nat} (h : ∀ r, r < R → kd r ≠ 2 → P r = P' r) : pu_ans P kd R = pu_ans P' kd R := by
  unfold pu_ans
  have e : ∀ k : Int32, k ≠ 2 → ∀ j, j < R → (P j && decide (kd j = k)) = (P' j && decide (kd j = k)) := fun k hk j hj => by
    by_cases c : kd j = k
    · rw [h j hj (by rw [c]; exact hk)]
    · rw [decide_eq_false c, Bool.and_false, Bool.and_false]
  rw [pu_fst_c R 0 (p := fun r => P' r && decide (kd r = 1)) (p' := fun r => P r && decide (kd r = 1)) (fun j _ hj => e 1 (by decide) j (by omega)), pu_fst_c R 0 (p := fun r => P' r && decide (kd r = 0)) (p' := fun r => P r && decide (kd r = 0)) (fun j _ hj => e 0 (by decide) j (by omega))]
/-- an ALLOWED is by a GRANT -/
theorem tr_ans1 {P : Nat → Bool} {kd : Nat → Int32} {R : Nat} (h : pu_ans P kd R = 1) : ∃ r, r < R ∧ P r = true ∧ kd r = 0 := by
  unfold pu_ans at h
  cases e1 : pu_fst (fun r => P r && decide (kd r = 1)) R 0 with
  | some r =>
    rw [e1] at h
    dsimp only at h
    exact absurd h (by decide)
  | none =>
    rw [e1] at h
    dsimp only at h
    cases e2 : pu_fst (fun r => P r && decide (kd r = 0)) R 0 with
    | some r =>
      obtain ⟨-, g1, g2, -⟩ := pu_fst_some R 0 r e2
      rw [Bool.and_eq_true, decide_eq_true_eq] at g2
      exact ⟨r, by omega, g2.1, g2.2⟩
    | none =>
      rw [e2] at h
      dsimp only at h
      exact absurd h (by decide)
theorem tr_AN0 {F M : Nat → Nat → Int32} {FT : Int32} {u a t : Nat} (hFT : ∀ q, pu_bt FT q = true ↔ q < (M 89 202).toNatClampNeg ∧ M 89 (490 + 9 * q + 0) ≠ 2 ∧ pu_fit F (F 1 7) q u a t = true) : tr_AN M FT 0 (M 94 u) = pu_av F M u a t := by
  unfold tr_AN pu_av
  refine tr_ans_c2 (fun r hr hk => ?_)
  unfold tr_ap pu_app
  rw [pu_0, Bool.not_false, Bool.and_true, Bool.and_comm]
  refine congrArg _ (Bool.eq_iff_iff.mpr ?_)
  rw [hFT r]
  exact ⟨fun h => h.2.2, fun h => ⟨hr, hk, h⟩⟩
/-- which rules are met -/
theorem tr_metE {F M : Nat → Nat → Int32} (hA : pu_A F M) {u a t : Nat} (hu : u < 16) (ha : a < 8) (ht : t < 16) (q : Nat) : pu_bt (fn_met u (nI a) t (fn_rulesOn (nI a) t F) F).1 q = true ↔ q < (M 89 202).toNatClampNeg ∧ M 89 (490 + 9 * q + 0) ≠ 2 ∧ pu_fit F (F 1 7) q u a t = true := by
  obtain ⟨hc, hcr, h1, h2, h8, hT, h6, h9⟩ := hA
  obtain ⟨R, r1, r2, r3, r4⟩ := id hcr
  have hR := (pu_cl r2 (by omega)).2
  have hRF : (F 18 11).toNatClampNeg = R := by rw [h8.1]; exact hR
  rw [pu_met h1 hcr h8 hu ht, hR]
  constructor
  · rintro ⟨hr, g⟩
    have hth := h8.2.2.1 q (by omega)
    obtain ⟨w1, w2, w3, w4, w5, w6, w7⟩ := h8.2.1 q (by omega)
    obtain ⟨-, ⟨th, th1, th2⟩⟩ := r3 q (by omega)
    obtain ⟨d01, d02⟩ := pu_nat01 (x := fn_stepsUp t (F 21 q) F) (by
      rw [w3, th2, pu_stepsUp hc h2 ht]
      exact pu_dep_nn 16 0 _ _ (by omega))
    rw [Bool.and_eq_true, pu_rulesOn F ha hRF r1 q, h6, Bool.and_eq_true, Bool.and_eq_true, pu_timely F (F 1 7) hRF r1 q] at g
    rw [Bool.and_eq_true, Bool.and_eq_true, Bool.and_eq_true, hth] at g
    unfold pu_fit
    simp only [Bool.and_eq_true, Bool.or_eq_true, Bool.not_eq_true', decide_eq_true_eq, decide_eq_false_iff_not] at g ⊢
    obtain ⟨⟨-, ⟨⟨-, ⟨⟨⟨-, g0⟩, g1⟩, g2⟩, g3⟩, g4⟩, g5⟩, g8⟩ := g
    refine ⟨hr, g0, ⟨⟨⟨⟨⟨⟨g4, g3⟩, g1⟩, g2⟩, ?_⟩, ?_⟩, g8⟩⟩
    · rcases g5 with g5 | ⟨g5, -⟩
      · rw [g5]; decide
      · exact fun z => g5 (Int32.le_of_lt z)
    · rcases g5 with g5 | ⟨-, g5⟩
      · exact .inl g5
      · exact .inr g5
  · rintro ⟨hr, g0, g⟩
    have hth := h8.2.2.1 q (by omega)
    obtain ⟨w1, w2, w3, w4, w5, w6, w7⟩ := h8.2.1 q (by omega)
    obtain ⟨-, ⟨th, th1, th2⟩⟩ := r3 q (by omega)
    obtain ⟨d01, d02⟩ := pu_nat01 (x := fn_stepsUp t (F 21 q) F) (by
      rw [w3, th2, pu_stepsUp hc h2 ht]
      exact pu_dep_nn 16 0 _ _ (by omega))
    refine ⟨hr, ?_⟩
    rw [Bool.and_eq_true, pu_rulesOn F ha hRF r1 q, h6, Bool.and_eq_true, Bool.and_eq_true, pu_timely F (F 1 7) hRF r1 q]
    rw [Bool.and_eq_true, Bool.and_eq_true, Bool.and_eq_true, hth]
    unfold pu_fit at g
    simp only [Bool.and_eq_true, Bool.or_eq_true, Bool.not_eq_true', decide_eq_true_eq, decide_eq_false_iff_not] at g ⊢
    obtain ⟨⟨⟨⟨⟨⟨g4, g3⟩, g1⟩, g2⟩, e1⟩, e2⟩, g8⟩ := g
    refine ⟨⟨hr, ⟨⟨hr, ⟨⟨⟨by omega, g0⟩, g1⟩, g2⟩, g3⟩, g4⟩, ?_⟩, g8⟩
    by_cases e : fn_stepsUp t (F 21 q) F = 0
    · exact .inl e
    · exact .inr ⟨fun z => e ((d02 e1).mp z), e2.resolve_left e⟩
/-- what the class's search comes to -/
def tr_end (loss : Bool) (OU : Int32 → Int32) (v : Int32) (r80 r81 r82 : Nat → Int32) : Prop := (v = -2 ∧ ∀ i, OU i = -2) ∨ ∃ (k : Nat) (q C : List Nat), 1 ≤ k ∧ k ≤ 3 ∧ v = nI k ∧ q.length = k ∧ (∀ x, x ∈ q → x < C.length) ∧ C.length ≤ 90 ∧ r80 2 = nI C.length ∧ ap_at r81 0 C ∧ ap_at r82 0 q ∧ (∀ c, c ∈ C → c < 300) ∧ ∀ i, OU i = tr_o1 loss i k (q.map (fun j => C.getD j 0))
def tr_OU (M : Nat → Nat → Int32) (FT : Int32) (u : Nat) (loss : Bool) : Int32 → Int32 := fun i => tr_ou loss i (fun k => tr_sk (tr_Q M FT u loss) k (tr_CR (M 89) (M 96) u loss))
section
variable {F M : Nat → Nat → Int32} {g : Nat → Nat → Int64} {u a t : Nat} {FT : Int32}
theorem tr_kd3 (hcr : pu_Crl (M 89)) {r : Nat} (hr : r < (M 89 202).toNatClampNeg) : M 89 (490 + 9 * r + 0) = 0 ∨ M 89 (490 + 9 * r + 0) = 1 ∨ M 89 (490 + 9 * r + 0) = 2 := by
  obtain ⟨R, r1, r2, r3, r4⟩ := id hcr
  have hR := (pu_cl r2 (by omega)).2
  obtain ⟨⟨k, k1, k2⟩, -⟩ := r4 r (by omega)
  rw [k2]
  rcases (show k = 0 ∨ k = 1 ∨ k = 2 by omega) with e | e | e <;> subst e
  · exact .inl rfl
  · exact .inr (.inl rfl)
  · exact .inr (.inr rfl)
/-- the search over the options is that over the candidates -/
theorem tr_fin {loss : Bool} (hu : u < 16) (hc : pu_Cln (M 89)) (hcr : pu_Crl (M 89)) (hS : ∀ l, l < (M 89 201).toNatClampNeg → M 96 l = fn_m_standAgain_157 (tr_MM M u 0 0) l) (h0 : tr_Q M FT u loss [] = false) {Bh : Int64} {X : Int32} (hb1 : ∀ l, pu_bl Bh l = true → l < (M 89 201).toNatClampNeg ∧ M 96 l ≠ 0) (hb2 : loss = true → ∀ l, l < (M 89 201).toNatClampNeg → fn_m_standAgain_157 (tr_MM M u 0 0) l = 1 → M 89 (210 + 7 * l + 1) = nI u → pu_bl Bh l = true) (hb3 : loss = true → ∀ l j, l < (M 89 201).toNatClampNeg → pu_bl Bh l = true → M 89 (210 + 7 * l + 5) = nI j → j < l → pu_bl Bh j = true) (hx : ∀ r, pu_bt X r = true → r < (M 89 202).toNatClampNeg ∧ M 89 (490 + 9 * r + 0) = am_b (!loss)) (hX : ∀ r, r < (M 89 202).toNatClampNeg → M 89 (490 + 9 * r + 0) = am_b (!loss) → pu_bt FT r = true → (loss = true → fn_m_has (tr_RO M u 0 0) (M 89 (490 + 9 * r + 1)) = true) → pu_bt X r = true) {C : List Nat} (hC : C = (tr_rg 0 20).filter (tr_p0 (M 89) u loss) ++ (((tr_rg 0 40).filter (fun l => loss && pu_bl Bh l)).map (fun i => 100 + i) ++ ((tr_rg 0 30).filter (fun r => pu_bt X r)).map (fun i => 200 + i))) : C.length ≤ 90 ∧ C.Nodup ∧ (∀ c, c ∈ C → tr_W c) ∧ (∀ c, c ∈ C → 100 ≤ c → c < 200 → c - 100 < (M 89 201).toNatClampNeg ∧ M 89 (210 + 7 * (c - 100) + 6) = 0) ∧ ∀ i, tr_OU M FT u loss i = match tr_ff (tr_oC M FT u (!loss) C) with
    | some (k, q) => tr_o1 loss i k (q.map (fun j => C.getD j 0))
    | none => -2 := by
  obtain ⟨L, l1, l2, l3, l4⟩ := id hc
  have hL := (pu_cl l2 (by omega)).2
  obtain ⟨R, r1, r2, r3, r4⟩ := id hcr
  have hR := (pu_cl r2 (by omega)).2
  have hL40 : (M 89 201).toNatClampNeg ≤ 40 := by omega
  have hR30 : (M 89 202).toNatClampNeg ≤ 30 := by omega
  have hf := tr_CRf (s := M 89) (z := M 96) (u := u) (loss := loss) (Bh := Bh) (X := X) hL40 hR30 hb1 hx
  rw [← hC] at hf
  have hsub : List.Sublist C (tr_CR (M 89) (M 96) u loss) := by rw [← hf]; exact List.filter_sublist
  have hlen := tr_len (M 89) (M 96) u loss
  have hle := List.Sublist.length_le hsub
  have hL0 : tr_Lk M 0 := fun l h => by rw [pu_0L] at h; cases h
  refine ⟨by omega, List.Nodup.sublist hsub (tr_so_nodup _ 0 (tr_CR_so (M 89) (M 96) u loss hL40)).2, fun c h => tr_VW (tr_CRV hL40 hR30 (List.Sublist.mem h hsub)).1, fun c h c1 c2 => ?_, fun i => ?_⟩
  · obtain ⟨d1, d2⟩ := (tr_CRV hL40 hR30 (List.Sublist.mem h hsub)).2.1 c1 c2
    rw [hS _ d1] at d2
    have hZ := tr_ZE (T := 0) hu hc hL0 _ d1
    exact ⟨d1, (hZ.2.mp (hZ.1.resolve_left d2)).2.2.1⟩
  · unfold tr_OU
    rw [tr_ou_min (q := tr_q Bh X) h0 (fun l hl => tr_irr hu hc hcr hS hb2 hb3 hX hl), hf]
    have e : (fun k => tr_sk (tr_Q M FT u loss) k C) = fun k => (tr_oC M FT u (!loss) C k).map (fun p => p.map (fun j => C.getD j 0)) := by
      funext k
      rw [tr_sk_at]
      unfold tr_oC tr_QC
      rw [Bool.not_not]
    rw [e, tr_ou_ff]
    cases tr_ff (tr_oC M FT u (!loss) C) with
    | none => rfl
    | some kq =>
      obtain ⟨k, q⟩ := kq
      rfl
theorem tr_mk0 (p : Nat → Bool) (n : Nat) : ([] : List Nat) ++ ((tr_rg 0 n).filter p).map (fun i => 0 + i) = (tr_rg 0 n).filter p := by
  rw [List.nil_append]
  exact List.map_id'' (fun x => Nat.zero_add x) _
theorem tr_leastChange (hu : u < 16) (ht : t < 16) {m : Int32 × (Nat → Int32) × (Nat → Int32)} (hm : m = fn_met u (nI a) t (fn_rulesOn (nI a) t F) F) (hX : tr_X F M (g 11 6) u m.1 FT) (hS : ∀ l, l < (M 89 201).toNatClampNeg → M 96 l = fn_m_standAgain_157 (tr_MM M u 0 0) l) (h34 : ∀ j, j < 16 → j ≠ u → F 34 j = M 93 j) (h35 : F 35 u = tr_RO M u 0 0) (h0 : tr_Q M FT u false [] = false) : ∃ v r34 r35 r80 r81 r82 l1 l80, fn_s_leastChange (nI u) (nI a) (nI t) F g = some (v, r34, r35, m.2.1, m.2.2, r80, r81, r82, l1, l80) ∧ tr_end false (tr_OU M FT u false) v r80 r81 r82 := by
  obtain ⟨x1, x2, x3, x4, x5, x6, x7, x8, x9, x10⟩ := id hX
  have hden : ∀ r, pu_bt FT r = true → (pu_bt (F 18 9) r = true ↔ M 89 (490 + 9 * r + 0) = 1) := fun r h => (x4.2.2.2.1 r (x10 r h).1).1 (x10 r h).2
  have h20 := tr_addOptions (p := tr_p0 (M 89) u false) (fst := 0) (most := 20) (a := 0) (b := 20) (bits := ((F 30 u) ^^^ (-1)).toInt64) (F := am_row (am_row (am_row F 36 m.2.1) 37 m.2.2) 80 (upd (F 80) 2 0)) (xs := []) rfl rfl (by omega) (fun i hi => by
    rw [tr_i64 _ (by omega), pu_not _ (by omega), x6]
    unfold tr_p0
    cases pu_bt (M 89 (184 + u)) i <;> rfl) (show upd (F 80) 2 0 2 = nI 0 from pu_us) trivial (by show 0 + 20 ≤ 90; omega)
  obtain ⟨y6, y6', a1, a2, a3, a4⟩ := h20
  rw [tr_mk0] at a2 a3
  have hlA := tr_len_f (tr_p0 (M 89) u false) 0 20
  obtain ⟨X, hXd⟩ : ∃ X, X = m.1 &&& F 18 9 := ⟨_, rfl⟩
  obtain ⟨y7, y7', b1, b2, b3, b4⟩ := tr_addOptions (p := fun r => pu_bt X r) (fst := 200) (most := 30) (a := 200) (b := 30) (bits := X.toInt64) (F := am_row (am_row (am_row (am_row F 36 m.2.1) 37 m.2.2) 80 y6) 81 y6') (xs := (tr_rg 0 20).filter (tr_p0 (M 89) u false)) rfl rfl (by omega) (fun i hi => tr_i64 _ (by omega)) a2 a3 (by omega)
  obtain ⟨C, hC⟩ : ∃ C, C = (tr_rg 0 20).filter (tr_p0 (M 89) u false) ++ ((tr_rg 0 30).filter (fun r => pu_bt X r)).map (fun i => 200 + i) := ⟨_, rfl⟩
  rw [← hC] at b2 b3
  have hXb : ∀ r, pu_bt X r = true ↔ pu_bt FT r = true ∧ M 89 (490 + 9 * r + 0) = 1 := fun r => by
    rw [hXd, pu_and, Bool.and_eq_true, x9 r]
    exact ⟨fun h => ⟨h.1, (hden r h.1).mp h.2⟩, fun h => ⟨h.1, (hden r h.1).mpr h.2⟩⟩
  have hfin := tr_fin (M := M) (u := u) (FT := FT) (loss := false) hu x1 x2 hS h0 (Bh := 0) (X := X) (fun l h => by rw [pu_0L] at h; cases h) (fun h => by cases h) (fun h => by cases h) (fun r h => ⟨(x10 r ((hXb r).mp h).1).1, ((hXb r).mp h).2⟩) (fun r _ hk hf _ => (hXb r).mpr ⟨hf, hk⟩) (C := C) (by
    have e40 : (tr_rg 0 40).filter (fun l => false && pu_bl 0 l) = [] := List.filter_eq_nil_iff.mpr (fun c _ h => by cases h)
    rw [hC, e40, List.map_nil, List.nil_append])
  obtain ⟨f1, f2, f3, f4, f5⟩ := hfin
  unfold fn_s_leastChange
  rw [am_chk_p (am_inbN ht (by decide)), am_chk_p (am_inbN hu (by decide)), nI_clamp (show u < 2147483648 by omega), nI_clamp (show t < 2147483648 by omega), ← hm]
  by_cases cG : (m.1 &&& ((F 18 9) ^^^ (-1))) = 0
  · rw [if_pos cG]
    refine ⟨_, _, _, _, _, _, _, _, rfl, .inl ⟨rfl, fun i => tr_ou_none (fun l => ?_)⟩⟩
    unfold tr_Q tr_P
    rw [cond_false]
    have : decide (tr_AN M FT (l.foldl tr_tog (0, 0, 0)).2.2 (tr_RO M u (l.foldl tr_tog (0, 0, 0)).1 (l.foldl tr_tog (0, 0, 0)).2.1) = 1) = false := decide_eq_false fun h => by
      obtain ⟨r, h1, h2, h3⟩ := tr_ans1 h
      unfold tr_ap at h2
      rw [Bool.and_eq_true, Bool.and_eq_true] at h2
      have hr32 : r < 32 := by
        obtain ⟨R, r1, r2, -⟩ := id x2
        have hR := (pu_cl r2 (by omega)).2
        omega
      have hz := pu_zero.mp cG r hr32
      have hk : M 89 (490 + 9 * r + 0) = 0 := h3
      have hd0 : pu_bt (F 18 9) r = false := Bool.eq_false_iff.mpr fun h => by
        have := (hden r h2.1.1).mp h
        rw [hk] at this; exact absurd this (by decide)
      rw [pu_and, pu_not _ hr32, (x9 r).mpr h2.1.1, hd0] at hz
      cases hz
    rw [this, Bool.and_false]
  · rw [if_neg cG, a1, am_ob_s]
    dsimp only
    rw [← hXd, b1, am_ob_s]
    dsimp only
    have hXF : tr_X (am_row (am_row (am_row (am_row F 36 m.2.1) 37 m.2.2) 80 y7) 81 y7') M (g 11 6) u m.1 FT := hX
    obtain ⟨v, r34, r35, r80, r82, l1, l80, w1, w2, w3⟩ := tr_fewest (gain := true) (g := g) (C := C) hu hXF rfl f1 b3 f3 f4 f2 h34 h35 b2
    rw [w1, am_ob_s]
    refine ⟨_, _, _, _, _, _, _, _, rfl, ?_⟩
    have f5' : ∀ i, tr_OU M FT u false i = match tr_ff (tr_oC M FT u true C) with
      | some (k, q) => tr_o1 false i k (q.map (fun j => C.getD j 0))
      | none => -2 := f5
    cases e : tr_ff (tr_oC M FT u true C) with
    | none =>
      rw [e] at w3 f5'
      exact .inl ⟨w3, f5'⟩
    | some kq =>
      obtain ⟨k, q⟩ := kq
      rw [e] at w3 f5'
      obtain ⟨d1, d2, d3, d4, d5, d6⟩ := w3
      exact .inr ⟨k, q, C, d4, d5, d1, d3, d6, f1, w2, b3, d2, fun c hc => by have := f3 c hc; unfold tr_W at this; omega, f5'⟩
theorem tr_leastLoss (hu : u < 16) (ht : t < 16) {m : Int32 × (Nat → Int32) × (Nat → Int32)} (hm : m = fn_met u (nI a) t (fn_rulesOn (nI a) t F) F) (hX : tr_X F M (g 11 6) u m.1 FT) (hS : ∀ l, l < (M 89 201).toNatClampNeg → M 96 l = fn_m_standAgain_157 (tr_MM M u 0 0) l) (hg : ∀ l, l < (M 89 201).toNatClampNeg → (pu_bl (g 1 5) l = true ↔ M 96 l = 1)) (h34 : ∀ j, j < 16 → j ≠ u → F 34 j = M 93 j) (h35 : F 35 u = tr_RO M u 0 0) (h0 : tr_Q M FT u true [] = false) : ∃ v r34 r35 r80 r81 r82 l1 l80, fn_s_leastLoss (nI u) (nI a) (nI t) F g = some (v, r34, r35, m.2.1, m.2.2, r80, r81, r82, l1, l80) ∧ tr_end true (tr_OU M FT u true) v r80 r81 r82 := by
  obtain ⟨x1, x2, x3, x4, x5, x6, x7, x8, x9, x10⟩ := id hX
  obtain ⟨L, l1, l2, l3, l4⟩ := id x1
  have hL := (pu_cl l2 (by omega)).2
  obtain ⟨R, r1, r2, r3, r4⟩ := id x2
  have hR := (pu_cl r2 (by omega)).2
  have hRF : (F 18 11).toNatClampNeg = R := by rw [x4.1]; exact hR
  have hden : ∀ r, pu_bt FT r = true → (pu_bt (F 18 9) r = true ↔ M 89 (490 + 9 * r + 0) = 1) := fun r h => (x4.2.2.2.1 r (x10 r h).1).1 (x10 r h).2
  have hL0 : tr_Lk M 0 := fun l h => by rw [pu_0L] at h; cases h
  obtain ⟨y6, y6', a1, a2, a3, a4⟩ := tr_addOptions (p := tr_p0 (M 89) u true) (fst := 0) (most := 20) (a := 0) (b := 20) (bits := (F 30 u).toInt64) (F := am_row (am_row (am_row F 36 m.2.1) 37 m.2.2) 80 (upd (F 80) 2 0)) (xs := []) rfl rfl (by omega) (fun i hi => by
    rw [tr_i64 _ (by omega), x6]
    unfold tr_p0
    cases pu_bt (M 89 (184 + u)) i <;> rfl) (show upd (F 80) 2 0 2 = nI 0 from pu_us) trivial (by show 0 + 20 ≤ 90; omega)
  rw [tr_mk0] at a2 a3
  have hlA := tr_len_f (tr_p0 (M 89) u true) 0 20
  -- loans behind
  obtain ⟨B, hBd⟩ : ∃ B, B = fn_loansBehind (nI u) (am_row (am_row (am_row (am_row F 36 m.2.1) 37 m.2.2) 80 y6) 81 y6') g := ⟨_, rfl⟩
  have hbeh := tr_behind (F := am_row (am_row (am_row (am_row F 36 m.2.1) 37 m.2.2) 80 y6) 81 y6') (g := g) (tk := g 11 6) (s := M 89) (St := fun l => fn_m_standAgain_157 (tr_MM M u 0 0) l = 1) (u := u) x1 x3 (fun l hl => by rw [hg l hl, hS l hl]) (fun l j hl hst he hj => by
    have hZ := tr_ZE (T := 0) hu x1 hL0 l hl
    rcases (hZ.2.mp hst).1 with ⟨e1, -⟩ | ⟨i, i1, i2, i3⟩
    · rw [he] at e1; exact absurd e1 (tr_nm1 (by omega))
    · rw [he] at i2
      have := (nI_eq (by omega) (by omega)).mp i2
      subst this
      exact i3)
  rw [← hBd] at hbeh
  obtain ⟨B1, B2, B3⟩ := hbeh
  obtain ⟨y8, y8', b1, b2, b3, b4⟩ := tr_addOptions (p := fun l => true && pu_bl B l) (fst := 100) (most := 40) (a := 100) (b := 40) (bits := B) (F := am_row (am_row (am_row (am_row F 36 m.2.1) 37 m.2.2) 80 y6) 81 y6') (xs := (tr_rg 0 20).filter (tr_p0 (M 89) u true)) rfl rfl (by omega) (fun i hi => by rw [Bool.true_and]) a2 a3 (by omega)
  have hlB : ((tr_rg 0 20).filter (tr_p0 (M 89) u true) ++ ((tr_rg 0 40).filter (fun l => true && pu_bl B l)).map (fun i => 100 + i)).length ≤ 60 := by
    have := tr_len_f (fun l => true && pu_bl B l) 0 40
    rw [List.length_append, List.length_map]
    omega
  obtain ⟨X, hXd⟩ : ∃ X, X = (fn_ofRoles m.1 (F 35 u) (am_row (am_row F 36 m.2.1) 37 m.2.2)) &&& ((F 18 9) ^^^ (-1)) := ⟨_, rfl⟩
  have hof := pu_ofRoles (am_row (am_row F 36 m.2.1) 37 m.2.2) m.1 (F 35 u) (R := R) hRF r1
  have hXb : ∀ r, r < 32 → (pu_bt X r = true ↔ r < R ∧ pu_bt FT r = true ∧ fn_m_has (tr_RO M u 0 0) (M 89 (490 + 9 * r + 1)) = true ∧ M 89 (490 + 9 * r + 0) = 0) := fun r hr => by
    rw [hXd, pu_and, Bool.and_eq_true, hof r, Bool.and_eq_true, x9 r, pu_not _ hr, h35]
    constructor
    · rintro ⟨⟨g1, g2, g3⟩, g4⟩
      have g3 : fn_m_has (tr_RO M u 0 0) (F 19 r) = true := g3
      rw [(x4.2.1 r (by omega)).1] at g3
      have g5 : pu_bt (F 18 9) r = false := by simpa using g4
      refine ⟨g1, g2, g3, ?_⟩
      rcases tr_kd3 x2 (by rw [hR]; exact g1) with k | k | k
      · exact k
      · rw [(hden r g2).mpr k] at g5; cases g5
      · exact absurd k (x10 r g2).2
    · rintro ⟨g1, g2, g3, g4⟩
      refine ⟨⟨g1, g2, ?_⟩, ?_⟩
      · show fn_m_has (tr_RO M u 0 0) (F 19 r) = true
        rw [(x4.2.1 r (by omega)).1]; exact g3
      · have : pu_bt (F 18 9) r = false := Bool.eq_false_iff.mpr fun h => by
          have := (hden r g2).mp h
          rw [g4] at this; exact absurd this (by decide)
        rw [this]; rfl
  have hX32 : ∀ r, pu_bt X r = true → r < 32 := fun r h => by
    rcases Nat.lt_or_ge r 32 with h1 | h1
    · exact h1
    · rw [pu_big h1] at h; cases h
  obtain ⟨y9, y9', c1, c2, c3, c4⟩ := tr_addOptions (p := fun r => pu_bt X r) (fst := 200) (most := 30) (a := 200) (b := 30) (bits := X.toInt64) (F := am_row (am_row (am_row (am_row F 36 m.2.1) 37 m.2.2) 80 y8) 81 y8') (xs := (tr_rg 0 20).filter (tr_p0 (M 89) u true) ++ ((tr_rg 0 40).filter (fun l => true && pu_bl B l)).map (fun i => 100 + i)) rfl rfl (by omega) (fun i hi => tr_i64 _ (by omega)) b2 b3 (by omega)
  obtain ⟨C, hC⟩ : ∃ C, C = (tr_rg 0 20).filter (tr_p0 (M 89) u true) ++ (((tr_rg 0 40).filter (fun l => true && pu_bl B l)).map (fun i => 100 + i) ++ ((tr_rg 0 30).filter (fun r => pu_bt X r)).map (fun i => 200 + i)) := ⟨_, rfl⟩
  rw [List.append_assoc, ← hC] at c2 c3
  have hfin := tr_fin (M := M) (u := u) (FT := FT) (loss := true) hu x1 x2 hS h0 (Bh := B) (X := X) (fun l h => ⟨(B1 l h).1, by rw [hS l (B1 l h).1, (B1 l h).2]; decide⟩) (fun _ l h1 h2 h3 => B2 l h1 h2 h3) (fun _ l j h1 h2 h3 h4 => B3 l j h1 h2 h3 h4) (fun r h => by
    obtain ⟨g1, g2, g3, g4⟩ := (hXb r (hX32 r h)).mp h
    exact ⟨by rw [hR]; exact g1, g4⟩) (fun r hr hk hf hh => (hXb r (by omega)).mpr ⟨by rw [← hR]; exact hr, hf, hh rfl, hk⟩) (C := C) hC
  obtain ⟨f1, f2, f3, f4, f5⟩ := hfin
  unfold fn_s_leastLoss
  rw [am_chk_p (am_inbN ht (by decide)), am_chk_p (am_inbN hu (by decide)), nI_clamp (show u < 2147483648 by omega), nI_clamp (show t < 2147483648 by omega), ← hm, a1, am_ob_s]
  dsimp only
  rw [← hBd, b1, am_ob_s]
  dsimp only
  rw [← hXd, c1, am_ob_s]
  dsimp only
  have hXF : tr_X (am_row (am_row (am_row (am_row F 36 m.2.1) 37 m.2.2) 80 y9) 81 y9') M (g 11 6) u m.1 FT := hX
  obtain ⟨v, r34, r35, r80, r82, l1', l80, w1, w2, w3⟩ := tr_fewest (gain := false) (g := g) (C := C) hu hXF rfl f1 c3 f3 f4 f2 h34 h35 c2
  rw [w1, am_ob_s]
  refine ⟨_, _, _, _, _, _, _, _, rfl, ?_⟩
  have f5' : ∀ i, tr_OU M FT u true i = match tr_ff (tr_oC M FT u false C) with
    | some (k, q) => tr_o1 true i k (q.map (fun j => C.getD j 0))
    | none => -2 := f5
  cases e : tr_ff (tr_oC M FT u false C) with
  | none =>
    rw [e] at w3 f5'
    exact .inl ⟨w3, f5'⟩
  | some kq =>
    obtain ⟨k, q⟩ := kq
    rw [e] at w3 f5'
    obtain ⟨d1, d2, d3, d4, d5, d6⟩ := w3
    exact .inr ⟨k, q, C, d4, d5, d1, d3, d6, f1, w2, c3, d2, fun c hc => by have := f3 c hc; unfold tr_W at this; omega, f5'⟩
end
/-- the i-th of them, told -/
theorem tr_tell {loss : Bool} {OU : Int32 → Int32} {v : Int32} {r80 r81 r82 : Nat → Int32} (h : tr_end loss OU v r80 r81 r82) (i : Int32) : (v = -2 ∧ OU i = -2) ∨ (¬ v = -2 ∧ ((¬ i < v ∧ OU i = -2) ∨ (i < v ∧ ((¬ 0 ≤ i ∧ OU i = v) ∨ (0 ≤ i ∧ ∃ c, c < 300 ∧ OU i = nI (tr_rc loss c) ∧ ∀ F : Nat → Nat → Int32, F 80 = r80 → F 81 = r81 → F 82 = r82 → fn_s_chosen i F = some (nI c)))))) := by
  rcases h with ⟨h1, h2⟩ | ⟨k, q, C, k1, k3, hv, hq, hx, h90, h80, h81, h82, hC, hO⟩
  · exact .inl ⟨h1, h2 i⟩
  · right
    have hv2 : ¬ v = -2 := fun e => by
      rw [hv] at e
      have := congrArg Int32.toInt e
      rw [nI_toInt (by omega)] at this
      exact absurd this (by rw [show (-2 : Int32).toInt = -2 from rfl]; omega)
    refine ⟨hv2, ?_⟩
    have hO := hO i
    unfold tr_o1 at hO
    by_cases c0 : 0 ≤ i
    · rw [if_pos c0] at hO
      by_cases c1 : nI k ≤ i
      · rw [if_pos c1] at hO
        exact .inl ⟨by rw [hv]; exact Int32.not_lt.mpr c1, hO⟩
      · rw [if_neg c1] at hO
        refine .inr ⟨by rw [hv]; exact Int32.not_le.mp c1, .inr ⟨c0, ?_⟩⟩
        obtain ⟨x, x1, x2⟩ := nI_of (x := i) (Int32.not_lt.mpr c0)
        have xk : x < k := by
          rcases Nat.lt_or_ge x k with h | h
          · exact h
          · exact absurd (by rw [x2]; exact nI_le h x1) c1
        rw [x2, nI_clamp x1, tr_getD_map _ _ _ (by omega)] at hO
        have hqx : q.getD x 0 < C.length := hx _ (by
          have e := tr_drop q x (by omega)
          have : q.getD x 0 ∈ q.drop x := by rw [e]; exact List.mem_cons_self
          exact List.mem_of_mem_drop this)
        have hcC : C.getD (q.getD x 0) 0 ∈ C := by
          have e := tr_drop C (q.getD x 0) hqx
          have : C.getD (q.getD x 0) 0 ∈ C.drop (q.getD x 0) := by rw [e]; exact List.mem_cons_self
          exact List.mem_of_mem_drop this
        refine ⟨C.getD (q.getD x 0) 0, hC _ hcC, by rw [x2]; exact hO, fun F e80 e81 e82 => ?_⟩
        rw [x2]
        have g82 := tr_at_get q 0 h82 x (by omega)
        have g81 := tr_at_get C 0 h81 (q.getD x 0) hqx
        rw [Nat.zero_add] at g82 g81
        exact tr_chosen (F := F) (n := C.length) (p := q.getD x 0) (by omega) h90 (by rw [e80]; exact h80) hqx (by rw [e82]; exact g82) (by rw [e81]; exact g81)
    · rw [if_neg c0] at hO
      refine .inr ⟨?_, .inl ⟨c0, by rw [hO, hv]⟩⟩
      rw [hv]
      exact Int32.lt_of_lt_of_le (Int32.not_le.mp c0) (nI_pos' (by omega))
