/-! LEAST AND LOSE: the class supposes a choice -/
set_option linter.unusedVariables false
/-- the first of some rules -/
theorem tr_first {F : Nat → Nat → Int32} {s : Nat → Int32} (hcr : pu_Crl s) (h8 : pu_Vrl F s) {A : Int32} {P : Nat → Bool} (bA : ∀ r, r < (s 202).toNatClampNeg → (pu_bt A r = true ↔ P r = true ∧ s (490 + 9 * r + 0) ≠ 2)) (bA2 : ∀ q, (s 202).toNatClampNeg ≤ q → pu_bt A q = false) : fn_first A F = pu_dec P (tr_kd s) (s 202).toNatClampNeg := by
  obtain ⟨R, r1, r2, r3, r4⟩ := id hcr
  have hR := (pu_cl r2 (by omega)).2
  have hRF : (F 18 11).toNatClampNeg = R := by rw [h8.1]; exact hR
  rw [hR] at bA bA2 ⊢
  have kd : ∀ r, r < R → s (490 + 9 * r + 0) = 0 ∨ s (490 + 9 * r + 0) = 1 ∨ s (490 + 9 * r + 0) = 2 := fun r hr => by
    obtain ⟨⟨k, k1, k2⟩, -⟩ := r4 r hr
    rw [k2]
    rcases (show k = 0 ∨ k = 1 ∨ k = 2 by omega) with e | e | e <;> subst e
    · exact .inl rfl
    · exact .inr (.inl rfl)
    · exact .inr (.inr rfl)
  have hD : ∀ r, r < R → s (490 + 9 * r + 0) ≠ 2 → (pu_bt (F 18 9) r = true ↔ s (490 + 9 * r + 0) = 1) := fun r hr => (h8.2.2.2.1 r (by rw [hR]; exact hr)).1
  have hx : ∀ (j : Nat) (B : Bool) (k : Int32), (B && decide (tr_kd s j = k)) = true ↔ B = true ∧ s (490 + 9 * j + 0) = k := fun j B k => by rw [Bool.and_eq_true, decide_eq_true_eq]; exact Iff.rfl
  unfold fn_first lf_first_22
  rw [hRF, pu_fstX (p := fun r => pu_bt (if (A &&& (F 18 9)) = 0 then A else A &&& (F 18 9)) r) R 0 (fun j _ hj => by
    unfold st_first_22
    rw [pu_has _ (by omega : j < 32)])]
  unfold pu_dec
  by_cases c : A &&& F 18 9 = 0
  · have hz := pu_zero.mp c
    have n1 : pu_fst (fun r => P r && decide (tr_kd s r = 1)) R 0 = none := (pu_fst_none R 0).mpr fun j _ hj => by
      cases e : (P j && decide (tr_kd s j = 1)) with
      | false => rfl
      | true =>
        have e := (hx j (P j) 1).mp e
        have z := hz j (by omega)
        rw [pu_and, (bA j (by omega)).mpr ⟨e.1, by rw [e.2]; decide⟩, (hD j (by omega) (by rw [e.2]; decide)).mpr e.2] at z
        cases z
    rw [n1]
    simp only
    rw [pu_fst_c R 0 (p := fun r => P r && decide (tr_kd s r = 0)) (fun j _ hj => by
      rw [if_pos c]
      refine Bool.eq_iff_iff.mpr ?_
      refine (bA j (by omega)).trans ((and_congr_right fun hpj => ?_).trans (hx j _ 0).symm)
      constructor
      · intro h2'
        rcases kd j (by omega) with k | k | k
        · exact k
        · have := (pu_fst_none R 0).mp n1 j (by omega) hj
          rw [(hx j (P j) 1).mpr ⟨hpj, k⟩] at this
          cases this
        · exact absurd k h2'
      · intro h; rw [h]; decide)]
  · have e1 : pu_fst (fun r => pu_bt (if (A &&& (F 18 9)) = 0 then A else A &&& (F 18 9)) r) R 0 = pu_fst (fun r => P r && decide (tr_kd s r = 1)) R 0 := pu_fst_c R 0 (fun j _ hj => by
      rw [if_neg c]
      refine Bool.eq_iff_iff.mpr ?_
      rw [pu_and, Bool.and_eq_true, bA j (by omega)]
      refine Iff.trans ?_ (hx j _ 1).symm
      constructor
      · rintro ⟨⟨h1, h2⟩, h3⟩
        exact ⟨h1, (hD j (by omega) h2).mp h3⟩
      · rintro ⟨h1, h2⟩
        exact ⟨⟨h1, by rw [h2]; decide⟩, (hD j (by omega) (by rw [h2]; decide)).mpr h2⟩)
    rw [e1]
    cases e2 : pu_fst (fun r => P r && decide (tr_kd s r = 1)) R 0 with
    | some r => rfl
    | none =>
      refine absurd (pu_zero.mpr fun i hi => ?_) c
      rw [pu_and]
      rcases Nat.lt_or_ge i R with hiR | hiR
      · cases b : pu_bt A i with
        | false => rfl
        | true =>
          obtain ⟨b1, b2⟩ := (bA i hiR).mp b
          cases b3 : pu_bt (F 18 9) i with
          | false => rfl
          | true =>
            have := (pu_fst_none R 0).mp e2 i (by omega) (by omega)
            rw [(hx i (P i) 1).mpr ⟨b1, (hD i hiR b2).mp b3⟩] at this
            cases this
      · rw [bA2 i hiR]; rfl
/-- what the class knows of the reference, for one who is asked about -/
def tr_X (F M : Nat → Nat → Int32) (tk : Int64) (u : Nat) (met FT : Int32) : Prop := pu_Cln (M 89) ∧ pu_Crl (M 89) ∧ pu_Vln F tk (M 89) ∧ pu_Vrl F (M 89) ∧ (∀ r, r < 20 → F 6 r = M 92 r) ∧ F 30 u = M 89 (184 + u) ∧ (∀ r, r < 20 → F 31 r = M 89 (164 + r)) ∧ F 1 7 = M 89 200 ∧ (∀ q, pu_bt met q = true ↔ pu_bt FT q = true) ∧ ∀ q, pu_bt FT q = true → q < (M 89 202).toNatClampNeg ∧ M 89 (490 + 9 * q + 0) ≠ 2
theorem tr_ansC {F M : Nat → Nat → Int32} {tk : Int64} {u : Nat} {met FT : Int32} (hX : tr_X F M tk u met FT) (G held : Int32) : fn_answerBy (fn_first (fn_ofRoles (met &&& (G ^^^ (-1))) held F) F) F = tr_AN M FT G held := by
  obtain ⟨x1, x2, x3, x4, x5, x6, x7, x8, x9, x10⟩ := hX
  obtain ⟨R, r1, r2, r3, r4⟩ := id x2
  have hR := (pu_cl r2 (by omega)).2
  have hRF : (F 18 11).toNatClampNeg = R := by rw [x4.1]; exact hR
  have hb := pu_ofRoles F (met &&& (G ^^^ (-1))) held hRF r1
  have hf := tr_first (F := F) (s := M 89) (A := fn_ofRoles (met &&& (G ^^^ (-1))) held F) (P := tr_ap (M 89) FT G held) x2 x4 (fun r hr => by
    rw [hR] at hr
    rw [hb r]
    unfold tr_ap
    rw [Bool.and_eq_true, Bool.and_eq_true, Bool.and_eq_true, pu_and, Bool.and_eq_true, pu_not _ (by omega : r < 32), x9 r, (x4.2.1 r (by omega)).1]
    constructor
    · rintro ⟨-, ⟨h1, h2⟩, h3⟩
      exact ⟨⟨⟨h1, h2⟩, h3⟩, (x10 r h1).2⟩
    · rintro ⟨⟨⟨h1, h2⟩, h3⟩, -⟩
      exact ⟨hr, ⟨h1, h2⟩, h3⟩) (fun q hq => by
    cases b : pu_bt (fn_ofRoles (met &&& (G ^^^ (-1))) held F) q with
    | false => rfl
    | true => have := ((hb q).mp b).1; omega)
  rw [hf]
  have := pu_ansC (F := F) (f' := M) x2 x4 (tr_ap (M 89) FT G held)
  exact this
theorem tr_barC {F M : Nat → Nat → Int32} (held : Int32) (h : ∀ r, r < 20 → F 31 r = M 89 (164 + r)) : fn_isBarred held F = fn_m_isUnlike held M := by
  unfold fn_isBarred lf_isBarred_2 fn_m_isUnlike lf_m_isUnlike_2
  rw [pu_forXC 20 0 () (f := st_isBarred_2 held F) (g := st_m_isUnlike_2 held M) (fun j x _ hj => by
    unfold st_isBarred_2 st_m_isUnlike_2
    rw [pu_hm, h j (by omega), show held &&& M 89 (164 + j) = M 89 (164 + j) &&& held from pu_ext fun i hi => by rw [pu_and, pu_and, Bool.and_comm]])]
/-- what is held as supposed: class and reference alike -/
theorem tr_heldX {F M : Nat → Nat → Int32} {g : Nat → Nat → Int64} {u : Nat} {met FT : Int32} (hu : u < 16) (hX : tr_X F M (g 11 6) u met FT) {T : Int32} {Lo : Int64} (hLo : ∀ l, pu_bl Lo l = true → l < (M 89 201).toNatClampNeg ∧ M 89 (210 + 7 * l + 6) = 0) {w : Nat → Int32} (hw : ∀ j, j < 16 → j ≠ u → w j = M 93 j) (hwu : w u = fn_spread (F 30 u ^^^ T) F) : (fn_settleLoans Lo (am_row F 34 w) g).1 u = tr_RO M u T Lo := by
  obtain ⟨x1, x2, x3, x4, x5, x6, x7, x8, x9, x10⟩ := hX
  obtain ⟨L, l1, l2, l3, l4⟩ := id x1
  have hL := (pu_cl l2 (by omega)).2
  have hL' : ∀ l, pu_bl Lo l = true → l < L := fun l h => by have := (hLo l h).1; omega
  have hC : pu_Cln (tr_row (M 89) u T Lo) := tr_Cln hu T Lo (fun l hl => by
    cases h : pu_bl Lo l with
    | false => rfl
    | true => have := hL' l h; omega) x1 (fun l _ h => (hLo l h).1)
  have e201 : tr_row (M 89) u T Lo 201 = M 89 201 := tr_row_o _ _ _ _ (by omega) (by omega)
  have e200 : tr_row (M 89) u T Lo 200 = M 89 200 := tr_row_o _ _ _ _ (by omega) (by omega)
  have hV : pu_Vln (am_row F 34 w) (Lo ||| g 11 6) (tr_row (M 89) u T Lo) := by
    refine ⟨x3.1.trans e201.symm, fun l hl => ?_⟩
    obtain ⟨v0, v1, v2, v3, v4, v5, v6⟩ := x3.2 l hl
    rw [tr_row_l _ hu T Lo l 0 (by omega), tr_row_l _ hu T Lo l 1 (by omega), tr_row_l _ hu T Lo l 2 (by omega), tr_row_l _ hu T Lo l 3 (by omega), tr_row_l _ hu T Lo l 4 (by omega), tr_row_l _ hu T Lo l 5 (by omega), tr_row_k _ hu T Lo hl]
    refine ⟨v0, v1, v2, v3, v4, v5, ?_⟩
    rw [pu_orL, Bool.or_eq_true]
    by_cases c : pu_bl Lo l = true
    · rw [if_pos c, (hLo l c).2]
      exact ⟨fun _ => by decide, fun _ => .inl c⟩
    · rw [if_neg c, ← v6]
      exact ⟨fun h => h.resolve_left c, .inr⟩
  have hwu' : w u = tr_al (M 92) (M 89 (184 + u) ^^^ T) := by
    rw [hwu, pu_spread (f := F) (f' := M) x5, x6, tr_alE]
  have hd34 : ∀ j, j < 16 → w j = tr_und (M 89) (M 92) (M 93) u T j := fun j hj => by
    unfold tr_und
    by_cases e : j = u
    · subst e; rw [pu_us, hwu']
    · rw [pu_un e]; exact hw j hj e
  have hLE := pu_le (f := am_row F 34 w) (f' := tr_MM M u T Lo) (tk := Lo ||| g 11 6) (tick := F 1 7) hV hC hd34 (x8.trans e200.symm)
  have hLL : (tr_MM M u T Lo 89 201).toNatClampNeg = L := by rw [← hL, ← e201]; rfl
  rw [hLL] at hLE
  have e200' : tr_MM M u T Lo 89 200 = F 1 7 := e200.trans x8.symm
  obtain ⟨m1, m2, m3, m4⟩ := pu_loans (f := am_row F 34 w) (f' := tr_MM M u T Lo) (g := g) (lost := Lo) (L := L) hLE
  have hro : tr_row (M 89) u T Lo (184 + u) = M 89 (184 + u) ^^^ T := by unfold tr_row; rw [if_pos rfl]
  refine pu_held (f := am_row F 34 w) (f' := am_row (tr_MM M u T Lo) 96 (fn_m_standAgain_157 (tr_MM M u T Lo))) (held := (fn_settleLoans Lo (am_row F 34 w) g).1) (L := L) hu (e201.trans l2) l1 x5 ?_ (fun l hl => ?_) (fun l hl => (m1 l hl).1) (fun q hq => m3 u hu q hq)
  · show w u = fn_m_allUnder (tr_row (M 89) u T Lo (184 + u)) _
    rw [tr_alE, hwu', hro]
    rfl
  · obtain ⟨-, b, c, -, -, -, -, d, -⟩ := hLE.2.2.2.2.2 l hl
    exact ⟨b, c, d⟩
def tr_in (M : Nat → Nat → Int32) (u : Nat) (r34 r35 r80 : Nat → Int32) (l80 : Nat → Int64) (n : Nat) : Prop := (∀ j, j < 16 → j ≠ u → r34 j = M 93 j) ∧ r35 u = tr_RO M u (r80 3) (l80 4) ∧ r80 2 = nI n
theorem tr_suits {F M : Nat → Nat → Int32} {g : Nat → Nat → Int64} {u n : Nat} {met FT : Int32} {C ps : List Nat} {gain : Bool} (hu : u < 16) (hX : tr_X F M (g 11 6) u met FT) (hk : ps.length ≤ 3) (hn : C.length = n) (hn90 : n ≤ 90) (hw : ap_at (F 81) 0 C) (hC : ∀ c, c ∈ C → tr_W c) (hCL : ∀ c, c ∈ C → 100 ≤ c → c < 200 → c - 100 < (M 89 201).toNatClampNeg ∧ M 89 (210 + 7 * (c - 100) + 6) = 0) (h82 : ap_at (F 82) 0 ps) (hx : ∀ x, x ∈ ps → x < n) (hnd : (ps.map (fun i => C.getD i 0)).Nodup) (hin : tr_in M u (F 34) (F 35) (F 80) (g 80) n) : ∃ r34 r35 r80 l1 l80, fn_s_suits (nI u) met (nI ps.length) gain F g = some (tr_P M FT u (!gain) ((ps.map (fun i => C.getD i 0)).foldl tr_tog (0, 0, 0)), r34, r35, r80, l1, l80) ∧ tr_in M u r34 r35 r80 l80 n := by
  obtain ⟨i1, i2, i3⟩ := hin
  obtain ⟨y80, yl, y1, y2, y3, y4, y5⟩ := tr_sumUp (F := F) (g := g) hk hn hn90 hw (fun c hc => by have := hC c hc; unfold tr_W at this; omega) h82 hx i3
  obtain ⟨l, hl⟩ : ∃ l, l = ps.map (fun i => C.getD i 0) := ⟨_, rfl⟩
  rw [← hl] at y3 y4 y5 hnd ⊢
  have hlC : ∀ c, c ∈ l → c ∈ C := fun c hc => by
    rw [hl] at hc
    obtain ⟨i, j1, j2⟩ := List.mem_map.mp hc
    have hi := hx i j1
    have e := tr_drop C i (by omega)
    have : C.getD i 0 ∈ C.drop i := by rw [e]; exact List.mem_cons_self
    have j2' : C.getD i 0 = c := j2
    rw [j2'] at this
    exact List.mem_of_mem_drop this
  have hlW : ∀ c, c ∈ l → tr_W c := fun c hc => hC c (hlC c hc)
  rw [tr_or_tog hlW hnd] at y3 y4 y5
  have hbit : ∀ q, q < 64 → (pu_bl (l.foldl tr_tog (0, 0, 0)).2.1 q = true → 100 + q ∈ l) := fun q hq h => by
    have := tr_st_bits hlW hnd (d := 100 + q) (.inr (.inl (by omega)))
    unfold tr_hb at this
    rw [if_neg (by omega), if_pos (by omega), show 100 + q - 100 = q by omega, h] at this
    exact decide_eq_true_eq.mp this.symm
  obtain ⟨z, hz⟩ : ∃ z, z = l.foldl tr_tog (0, 0, 0) := ⟨_, rfl⟩
  rw [← hz] at y3 y4 y5 hbit ⊢
  have hLo : ∀ q, pu_bl z.2.1 q = true → q < (M 89 201).toNatClampNeg ∧ M 89 (210 + 7 * q + 6) = 0 := fun q h => by
    have hq : q < 64 := by
      rcases Nat.lt_or_ge q 64 with h1 | h1
      · exact h1
      · rw [pu_bigL h1] at h; cases h
    have hc := hlC _ (hbit q hq h)
    have := hCL _ hc (by omega) (by omega)
    rw [show 100 + q - 100 = q by omega] at this
    exact this
  -- the rest, whatever is held by
  have tail : ∀ (F' : Nat → Nat → Int32) (h : Int32), tr_X F' M (g 11 6) u met FT → h = tr_RO M u z.1 z.2.1 → (bif gain then (bif (if (fn_answerBy (fn_first (fn_ofRoles (met &&& ((y80 5) ^^^ (-1))) h F') F') F') = 1 then true else false) then (bif (fn_isBarred h F') then false else true) else false) else (bif (if (fn_answerBy (fn_first (fn_ofRoles (met &&& ((y80 5) ^^^ (-1))) h F') F') F') = 1 then true else false) then false else true)) = tr_P M FT u (!gain) z := by
    intro F' h hX' hh
    rw [tr_ansC hX', y5, hh, tr_barC _ hX'.2.2.2.2.2.2.1]
    unfold tr_P
    generalize tr_AN M FT z.2.2 (tr_RO M u z.1 z.2.1) = av
    generalize fn_m_isUnlike (tr_RO M u z.1 z.2.1) M = un
    by_cases c : av = 1
    · rw [if_pos c, decide_eq_true c]
      cases gain <;> cases un <;> rfl
    · rw [if_neg c, decide_eq_false c]
      cases gain <;> cases un <;> rfl
  obtain ⟨S, hS⟩ : ∃ S, fn_suppose u (y80 3) (yl 4) (am_row F 80 y80) (am_row g 80 yl) = S := ⟨_, rfl⟩
  have hs1 : S.1 = upd (F 34) u (fn_spread (F 30 u ^^^ y80 3) F) := by rw [← hS]; rfl
  have hs2 : S.2.1 u = tr_RO M u z.1 z.2.1 := by
    have e : S.2.1 = (fn_settleLoans (yl 4) (am_row (am_row F 80 y80) 34 (upd (F 34) u (fn_spread (F 30 u ^^^ y80 3) F))) (am_row g 80 yl)).1 := by rw [← hS]; rfl
    rw [e, y3, y4]
    exact tr_heldX (F := am_row F 80 y80) (M := M) (g := am_row g 80 yl) (met := met) (FT := FT) hu hX hLo (fun j h1 h2 => by rw [pu_un h2]; exact i1 j h1 h2) pu_us
  have hin' : tr_in M u S.1 S.2.1 y80 yl n := by
    refine ⟨fun j h1 h2 => ?_, by rw [y3, y4]; exact hs2, y2⟩
    rw [hs1, pu_un h2]; exact i1 j h1 h2
  have tB := tail (am_row (am_row (am_row F 34 S.1) 35 S.2.1) 80 y80) (S.2.1 u) hX hs2
  unfold fn_s_suits
  rw [y1, am_ob_s]
  dsimp only
  rw [nI_clamp (show u < 2147483648 by omega), hS]
  by_cases c1 : y80 3 = F 80 3
  · rw [if_pos c1]
    by_cases c2 : lg_cmp (yl 4) (g 80 4) = 0
    · rw [if_pos c2, am_chk_p (am_inbN hu (by decide))]
      have c2' := (lg_cmp_eq _ _).mp c2
      have tA := tail (am_row F 80 y80) (F 35 u) hX (by rw [i2, ← c1, ← c2', y3, y4])
      rw [tA]
      exact ⟨_, _, _, _, _, rfl, i1, by rw [i2, c1, c2'], y2⟩
    · rw [if_neg c2, am_chk_p (am_inbN hu (by decide)), tB]
      exact ⟨_, _, _, _, _, rfl, hin'⟩
  · rw [if_neg c1, am_chk_p (am_inbN hu (by decide)), tB]
    exact ⟨_, _, _, _, _, rfl, hin'⟩
