/-! LEAST AND LOSE: the reference's search -/
set_option linter.unusedVariables false
theorem tr_drop : ∀ (C : List Nat) (i : Nat), i < C.length → C.drop i = C.getD i 0 :: C.drop (i + 1) := by
  intro C
  induction C with
  | nil => intro i h; exact absurd h (Nat.not_lt_zero _)
  | cons x xs ih =>
    intro i h
    cases i with
    | zero => rfl
    | succ i =>
      rw [List.length_cons] at h
      exact ih i (by omega)
theorem tr_mOK {s : Nat → Int32} {u : Nat} (hu : u < 16) (T : Int32) (Lo : Int64) (h : am_mOK s) : am_mOK (tr_row s u T Lo) := by
  obtain ⟨h1, h2, h3, h4, h5, h6, h7⟩ := h
  have e1 : tr_row s u T Lo 201 = s 201 := tr_row_o s u T Lo (by omega) (by omega)
  have e2 : tr_row s u T Lo 202 = s 202 := tr_row_o s u T Lo (by omega) (by omega)
  refine ⟨?_, ?_, ?_, ?_, ?_, ?_, ?_⟩
  · rw [e1]; exact h1
  · rw [e1]; exact h2
  · rw [e2]; exact h3
  · rw [e2]; exact h4
  · rw [e1]
    intro i hi
    rw [tr_row_l s hu T Lo i 0 (by omega)]; exact h5 i hi
  · rw [e1]
    intro i hi
    rw [tr_row_l s hu T Lo i 5 (by omega)]; exact h6 i hi
  · rw [e1]
    intro i hi
    rw [tr_row_l s hu T Lo i 2 (by omega)]; exact h7 i hi
/-- where the search stands -/
def tr_Om (M : Nat → Nat → Int32) (u : Nat) (z : tr_St) (B88 B101 : Nat → Int32) (F : Nat → Nat → Int32) : Prop := F 89 = tr_row (M 89) u z.1 z.2.1 ∧ F 93 = tr_und (M 89) (M 92) (M 93) u z.1 ∧ F 92 = M 92 ∧ F 101 = B101 ∧ F 88 29 = z.2.2 ∧ ∀ j, j ≠ 24 → j ≠ 29 → F 88 j = B88 j
abbrev tr_Y : Type := Bool × (Nat → Int32) × (Nat → Int32) × (Nat → Int32) × (Nat → Int32) × (Nat → Int32)
def tr_res (M : Nat → Nat → Int32) (u : Nat) (z : tr_St) (B88 r102 : Nat → Int32) (loss : Bool) (done n : Nat) (o : Option (List Nat)) (b : Bool) (y88 y89 y93 y102 : Nat → Int32) : Prop := y89 = tr_row (M 89) u z.1 z.2.1 ∧ y93 = tr_und (M 89) (M 92) (M 93) u z.1 ∧ y88 29 = z.2.2 ∧ (∀ j, j ≠ 24 → j ≠ 29 → y88 j = B88 j) ∧ (∀ j, j < done → y102 j = r102 j) ∧ match o with
  | some l => b = true ∧ ∀ j, j < n → y102 (done + j) = nI (tr_rc loss (l.getD j 0))
  | none => b = false
section
variable {M : Nat → Nat → Int32} {u : Nat} {B88 B101 : Nat → Int32} {loss : Bool} {C : List Nat} {FT : Int32}
/-- the candidates from one on -/
theorem tr_loop (hu : u < 16) (hC : ∀ c, c ∈ C → tr_V loss c) (h90 : C.length ≤ 90) (h101 : ∀ i, i < C.length → B101 i = nI (tr_rc loss (C.getD i 0))) (h27 : B88 27 = nI C.length) {m done n many : Nat} (hdn : done + (n + 1) = many) (hm3 : many ≤ 3) {z : tr_St} {P : List Nat → Bool}
    (U : ∀ (z' : tr_St) (frm : Nat) (F : Nat → Nat → Int32) (c : Nat), c ∈ C → z' = tr_tog z c → tr_Om M u z' B88 B101 F → frm ≤ C.length → ∃ y : tr_Y, fn_m_triesN m (nI u) (nI (done + 1)) (nI many) (nI frm) loss F = some y ∧ tr_res M u z' B88 (F 102) loss (done + 1) n (tr_sk (fun l => P (c :: l)) n (C.drop frm)) y.1 y.2.1 y.2.2.1 y.2.2.2.1 y.2.2.2.2.2)
    {f : Nat → Nat → Int32} (hf92 : f 92 = M 92) (hf101 : f 101 = B101) : ∀ d i r88 r96 r102, i + d = C.length → r88 29 = z.2.2 → (∀ j, j ≠ 24 → j ≠ 29 → r88 j = B88 j) → ∃ b k q88 q89 q93 q96 q102, am_while (st_m_triesS_20 (fn_m_triesN m) (nI u) (nI done) (nI many) loss f) (0, nI i, r88, tr_row (M 89) u z.1 z.2.1, tr_und (M 89) (M 92) (M 93) u z.1, r96, r102) = some (.inl (am_b b, k, q88, q89, q93, q96, q102)) ∧ tr_res M u z B88 r102 loss done (n + 1) (tr_sk P (n + 1) (C.drop i)) b q88 q89 q93 q102 := by
  intro d
  induction d with
  | zero =>
    intro i r88 r96 r102 hi h29 hr
    have e : i = C.length := by omega
    subst e
    refine ⟨false, nI C.length, r88, _, _, r96, r102, sn_wh1 (z := .inl (0, nI C.length, r88, tr_row (M 89) u z.1 z.2.1, tr_und (M 89) (M 92) (M 93) u z.1, r96, r102)) ?_, rfl, rfl, h29, hr, fun _ _ => rfl, ?_⟩
    · unfold st_m_triesS_20
      simp only
      rw [hr 27 (by decide) (by decide), h27, if_pos (Int32.le_refl _)]
    · rw [List.drop_length]
      rfl
  | succ d ih =>
    intro i r88 r96 r102 hi h29 hr
    have hil : i < C.length := by omega
    obtain ⟨c, hc⟩ : ∃ c, c = C.getD i 0 := ⟨_, rfl⟩
    have hcC : c ∈ C := by
      have e := tr_drop C i hil
      have : C.getD i 0 ∈ C.drop i := by rw [e]; exact List.mem_cons_self
      rw [hc]
      exact List.mem_of_mem_drop this
    have hV := hC c hcC
    have e101 : f 101 i = nI (tr_rc loss c) := by rw [hf101, h101 i hil, hc]
    -- made
    obtain ⟨r, t1, t2, t3⟩ := tr_turns (s := M 89) (d := M 92) (w := M 93) (z := z) (F := am_row (am_row (am_row (am_row (am_row f 88 r88) 89 (tr_row (M 89) u z.1 z.2.1)) 93 (tr_und (M 89) (M 92) (M 93) u z.1)) 96 r96) 102 (upd r102 done (nI (tr_rc loss c)))) hu hV rfl rfl hf92 h29
    -- tried on
    obtain ⟨y, y1, y89, y93, y29, y88, y102, yo⟩ := U (tr_tog z c) (i + 1) (am_row (am_row (am_row (am_row (am_row f 88 r) 89 (tr_row (M 89) u (tr_tog z c).1 (tr_tog z c).2.1)) 93 (tr_und (M 89) (M 92) (M 93) u (tr_tog z c).1)) 96 r96) 102 (upd r102 done (nI (tr_rc loss c)))) c hcC rfl ⟨rfl, rfl, hf92, hf101, t2, fun j h1 h2 => (t3 j h2).trans (hr j h1 h2)⟩ (by omega)
    have y102' : ∀ j, j < done + 1 → y.2.2.2.2.2 j = upd r102 done (nI (tr_rc loss c)) j := y102
    -- unmade
    obtain ⟨r', s1, s2, s3⟩ := tr_turns (s := M 89) (d := M 92) (w := M 93) (z := tr_tog z c) (F := am_row (am_row (am_row (am_row (am_row f 88 y.2.1) 89 y.2.2.1) 93 y.2.2.2.1) 96 y.2.2.2.2.1) 102 y.2.2.2.2.2) hu hV y89 y93 hf92 y29
    rw [tr_tog2] at s1 s2
    have hs : st_m_triesS_20 (fn_m_triesN m) (nI u) (nI done) (nI many) loss f (0, nI i, r88, tr_row (M 89) u z.1 z.2.1, tr_und (M 89) (M 92) (M 93) u z.1, r96, r102) = some (.inl (am_b y.1, nI (i + 1), r', tr_row (M 89) u z.1 z.2.1, tr_und (M 89) (M 92) (M 93) u z.1, y.2.2.2.2.1, y.2.2.2.2.2)) := by
      unfold st_m_triesS_20
      simp only
      rw [hr 27 (by decide) (by decide), h27, if_neg (show ¬ nI C.length ≤ nI i from nI_ge hil (by omega))]
      rw [am_chk_p (am_inbN (show i < 90 by omega) (by decide)), am_chk_p (am_inbN (show done < 3 by omega) (by decide)), nI_clamp (show i < 2147483648 by omega), nI_clamp (show done < 2147483648 by omega), e101, t1, am_ob_s]
      try simp only
      rw [nI_1, nI_1, y1, am_ob_s]
      try simp only
      rw [s1, am_ob_s, if_pos True.intro]
    have hr' : ∀ j, j ≠ 24 → j ≠ 29 → r' j = B88 j := fun j h1 h2 => (s3 j h2).trans (y88 j h1 h2)
    rw [tr_drop C i hil, ← hc, tr_skc]
    cases e : tr_sk (fun l => P (c :: l)) n (C.drop (i + 1)) with
    | some l =>
      rw [e] at yo
      obtain ⟨b1, b2⟩ := yo
      refine ⟨true, nI (i + 1), r', _, _, y.2.2.2.2.1, y.2.2.2.2.2, sn_wh2 (b := (am_b y.1, nI (i + 1), r', tr_row (M 89) u z.1 z.2.1, tr_und (M 89) (M 92) (M 93) u z.1, y.2.2.2.2.1, y.2.2.2.2.2)) hs (sn_wh1 (z := .inl (am_b true, nI (i + 1), r', tr_row (M 89) u z.1 z.2.1, tr_und (M 89) (M 92) (M 93) u z.1, y.2.2.2.2.1, y.2.2.2.2.2)) ?_), rfl, rfl, s2, hr', fun j hj => ?_, rfl, fun j hj => ?_⟩
      · rw [b1]
        unfold st_m_triesS_20
        simp only
        by_cases c9 : r' 27 ≤ nI (i + 1)
        · rw [if_pos c9]
        · rw [if_neg c9, if_neg (show ¬ am_b true = 0 by decide)]
      · rw [y102' j (by omega), pu_un (by omega)]
      · cases j with
        | zero =>
          rw [Nat.add_zero, y102' done (by omega), pu_us]
          rfl
        | succ j =>
          rw [show done + (j + 1) = done + 1 + j by omega, b2 j (by omega)]
          rfl
    | none =>
      rw [e] at yo
      have b1 : y.1 = false := yo
      obtain ⟨b, k, q88, q89, q93, q96, q102, w1, w2, w3, w4, w5, w6, w7⟩ := ih (i + 1) r' y.2.2.2.2.1 y.2.2.2.2.2 (by omega) s2 hr'
      refine ⟨b, k, q88, q89, q93, q96, q102, sn_wh2 (b := (0, nI (i + 1), r', tr_row (M 89) u z.1 z.2.1, tr_und (M 89) (M 92) (M 93) u z.1, y.2.2.2.2.1, y.2.2.2.2.2)) (by rw [hs, b1]; rfl) w1, w2, w3, w4, w5, fun j hj => ?_, w7⟩
      rw [w6 j hj, y102' j (by omega), pu_un (by omega)]
theorem tr_tries (hu : u < 16) (hC : ∀ c, c ∈ C → tr_V loss c) (h90 : C.length ≤ 90) (h101 : ∀ i, i < C.length → B101 i = nI (tr_rc loss (C.getD i 0))) (h27 : B88 27 = nI C.length) (h28 : B88 28 = FT) (hR : (M 89 202).toNatClampNeg ≤ 30) (hm : am_mOK (M 89)) (G : tr_St → Prop) (hG : ∀ z c, c ∈ C → G z → G (tr_tog z c)) (hCl : ∀ z, G z → pu_Cln (tr_row (M 89) u z.1 z.2.1)) {many : Nat} (hm3 : many ≤ 3) : ∀ n m done z frm F, n < m → done + n = many → G z → tr_Om M u z B88 B101 F → frm ≤ C.length → ∃ y : tr_Y, fn_m_triesN m (nI u) (nI done) (nI many) (nI frm) loss F = some y ∧ tr_res M u z B88 (F 102) loss done n (tr_sk (fun l => tr_P M FT u loss (l.foldl tr_tog z)) n (C.drop frm)) y.1 y.2.1 y.2.2.1 y.2.2.2.1 y.2.2.2.2.2 := by
  intro n
  induction n with
  | zero =>
    intro m done z frm F hnm hd hGz hO hf
    obtain ⟨m, rfl⟩ : ∃ k, m = k + 1 := ⟨m - 1, by omega⟩
    obtain ⟨o1, o2, o3, o4, o5, o6⟩ := hO
    have e : done = many := by omega
    subst e
    obtain ⟨r, y, d1, d2⟩ := tr_does (M := M) (F := F) (FT := FT) (z := z) (loss := loss) hu hR (hCl z hGz) o1 o2 o3 ((o6 28 (by decide) (by decide)).trans h28) o5
    show ∃ y : tr_Y, fn_m_triesS (fn_m_triesN m) (nI u) (nI done) (nI done) (nI frm) loss F = some y ∧ _
    unfold fn_m_triesS
    rw [if_pos rfl, am_chk_p (by rw [o1]; exact tr_mOK hu _ _ hm), d1, am_ob_s]
    refine ⟨_, rfl, o1, o2, (d2 29 (by decide)).trans o5, fun j h1 h2 => (d2 j h1).trans (o6 j h1 h2), fun _ _ => rfl, ?_⟩
    rw [tr_sk0]
    show match (if tr_P M FT u loss z = true then some [] else none) with
      | some l => tr_P M FT u loss z = true ∧ ∀ j, j < 0 → F 102 (done + j) = nI (tr_rc loss (l.getD j 0))
      | none => tr_P M FT u loss z = false
    by_cases c : tr_P M FT u loss z = true
    · rw [if_pos c]
      exact ⟨c, fun j hj => absurd hj (Nat.not_lt_zero _)⟩
    · rw [if_neg c]
      exact Bool.eq_false_iff.mpr c
  | succ n ih =>
    intro m done z frm F hnm hd hGz hO hf
    obtain ⟨m, rfl⟩ : ∃ k, m = k + 1 := ⟨m - 1, by omega⟩
    obtain ⟨o1, o2, o3, o4, o5, o6⟩ := hO
    obtain ⟨b, k, q88, q89, q93, q96, q102, w1, w2⟩ := tr_loop (M := M) (B88 := B88) (B101 := B101) (C := C) (m := m) (done := done) (n := n) (many := many) (z := z) (P := fun l => tr_P M FT u loss (l.foldl tr_tog z)) hu hC h90 h101 h27 hd hm3 (fun z' frm F' c hcC hz' hO' hf' => by
      have h := ih m (done + 1) z' frm F' (by omega) (by omega) (by rw [hz']; exact hG z c hcC hGz) hO' hf'
      subst hz'
      exact h) (f := F) o3 o4 (C.length - frm) frm (F 88) (F 96) (F 102) (by omega) o5 o6
    show ∃ y : tr_Y, fn_m_triesS (fn_m_triesN m) (nI u) (nI done) (nI many) (nI frm) loss F = some y ∧ _
    unfold fn_m_triesS lf_m_triesS_20
    rw [if_neg (show ¬ nI done = nI many from fun h => by have := (nI_eq (by omega) (by omega)).mp h; omega), o1, o2, w1, am_ob_s]
    simp only [Sum.elim_inl]
    have e : (decide (¬ am_b b = 0)) = b := by cases b <;> rfl
    rw [e, am_chk_p rfl]
    exact ⟨_, rfl, w2⟩
end
