/-! LEAST AND LOSE: changes made, what is held then -/
set_option linter.unusedVariables false
theorem tr_xor32 (x y z : Int32) : x ^^^ y ^^^ z = x ^^^ (y ^^^ z) := pu_ext fun i hi => by
  rw [pu_xor, pu_xor, pu_xor, pu_xor]
  cases pu_bt x i <;> cases pu_bt y i <;> cases pu_bt z i <;> rfl
theorem tr_xx32 (x y : Int32) : x ^^^ y ^^^ y = x := pu_ext fun i hi => by
  rw [pu_xor, pu_xor]
  cases pu_bt x i <;> cases pu_bt y i <;> rfl
theorem tr_x0 (x : Int32) : x ^^^ 0 = x := pu_ext fun i hi => by
  rw [pu_xor, pu_0]
  cases pu_bt x i <;> rfl
theorem tr_xorL (x y : Int64) (i : Nat) : pu_bl (x ^^^ y) i = (pu_bl x i ^^ pu_bl y i) := by unfold pu_bl; rw [Int64.toBitVec_xor, BitVec.getLsbD_xor]
theorem tr_xxL (x y : Int64) : x ^^^ y ^^^ y = x := pu_extL fun i hi => by
  rw [tr_xorL, tr_xorL]
  cases pu_bl x i <;> cases pu_bl y i <;> rfl
abbrev tr_St : Type := Int32 × Int64 × Int32
def tr_bi (n : Nat) : Int32 := (1 : Int32) <<< ((nI n) &&& 31)
def tr_bl (n : Nat) : Int64 := (1 : Int64) <<< ((nI n).toInt64 &&& 63)
/-- a change more, or one less: roles, loans by 100, rules by 200 -/
def tr_tog (z : tr_St) (c : Nat) : tr_St := if c < 100 then (z.1 ^^^ tr_bi c, z.2.1, z.2.2) else (if c < 200 then (z.1, z.2.1 ^^^ tr_bl (c - 100), z.2.2) else (z.1, z.2.1, z.2.2 ^^^ tr_bi (c - 200)))
theorem tr_tog2 (z : tr_St) (c : Nat) : tr_tog (tr_tog z c) c = z := by
  obtain ⟨T, L, G⟩ := z
  unfold tr_tog
  by_cases c1 : c < 100
  · rw [if_pos c1, if_pos c1]
    show (T ^^^ tr_bi c ^^^ tr_bi c, L, G) = (T, L, G)
    rw [tr_xx32]
  · rw [if_neg c1, if_neg c1]
    by_cases c2 : c < 200
    · rw [if_pos c2, if_pos c2]
      show (T, L ^^^ tr_bl (c - 100) ^^^ tr_bl (c - 100), G) = (T, L, G)
      rw [tr_xxL]
    · rw [if_neg c2, if_neg c2]
      show (T, L, G ^^^ tr_bi (c - 200) ^^^ tr_bi (c - 200)) = (T, L, G)
      rw [tr_xx32]
def tr_V (loss : Bool) (c : Nat) : Prop := c < 20 ∨ (loss = true ∧ 100 ≤ c ∧ c < 140) ∨ (200 ≤ c ∧ c < 230)
/-- the number that the reference tells -/
def tr_rc (loss : Bool) (c : Nat) : Nat := if c < 200 then c else (if loss = true then c else c - 100)
def tr_row (s : Nat → Int32) (u : Nat) (T : Int32) (Lo : Int64) : Nat → Int32 := fun j => if j = 184 + u then s j ^^^ T else (if 210 ≤ j ∧ j < 490 ∧ (j - 210) % 7 = 6 ∧ pu_bl Lo ((j - 210) / 7) = true then s j ^^^ 1 else s j)
def tr_al (d : Nat → Int32) (b : Int32) : Int32 := fn_m_allUnder b (fun _ => d)
theorem tr_alE (b : Int32) (f : Nat → Nat → Int32) : fn_m_allUnder b f = tr_al (f 92) b := rfl
def tr_und (s d w : Nat → Int32) (u : Nat) (T : Int32) : Nat → Int32 := upd w u (tr_al d (s (184 + u) ^^^ T))
theorem tr_row0 (s : Nat → Int32) (u : Nat) : tr_row s u 0 0 = s := by
  funext j
  unfold tr_row
  by_cases c : j = 184 + u
  · rw [if_pos c, tr_x0]
  · rw [if_neg c, if_neg (fun h => by have := h.2.2.2; rw [pu_0L] at this; cases this)]
theorem tr_row_T (s : Nat → Int32) (u : Nat) (T b : Int32) (Lo : Int64) : upd (tr_row s u T Lo) (184 + u) (tr_row s u T Lo (184 + u) ^^^ b) = tr_row s u (T ^^^ b) Lo := by
  funext j
  by_cases c : j = 184 + u
  · subst c
    rw [pu_us]
    unfold tr_row
    rw [if_pos rfl, if_pos rfl, tr_xor32]
  · rw [pu_un c]
    unfold tr_row
    rw [if_neg c, if_neg c]
theorem tr_one1 : (1 : Int32) ^^^ 1 = 0 := rfl
/-- most of the row is as it was -/
theorem tr_row_o (s : Nat → Int32) (u : Nat) (T : Int32) (Lo : Int64) {j : Nat} (h1 : j ≠ 184 + u) (h2 : ¬ (210 ≤ j ∧ j < 490 ∧ (j - 210) % 7 = 6)) : tr_row s u T Lo j = s j := by
  unfold tr_row
  rw [if_neg h1, if_neg (fun h => h2 ⟨h.1, h.2.1, h.2.2.1⟩)]
theorem tr_row_l (s : Nat → Int32) {u : Nat} (hu : u < 16) (T : Int32) (Lo : Int64) (l w : Nat) (hw : w < 6) : tr_row s u T Lo (210 + 7 * l + w) = s (210 + 7 * l + w) := tr_row_o s u T Lo (by omega) (by omega)
theorem tr_row_k (s : Nat → Int32) {u : Nat} (hu : u < 16) (T : Int32) (Lo : Int64) {l : Nat} (hl : l < 40) : tr_row s u T Lo (210 + 7 * l + 6) = if pu_bl Lo l = true then s (210 + 7 * l + 6) ^^^ 1 else s (210 + 7 * l + 6) := by
  unfold tr_row
  have e : (210 + 7 * l + 6 - 210) / 7 = l := by omega
  rw [if_neg (by omega), e]
  by_cases c : pu_bl Lo l = true
  · rw [if_pos c, if_pos ⟨by omega, by omega, by omega, c⟩]
  · rw [if_neg c, if_neg (fun h => c h.2.2.2)]
theorem tr_row_L (s : Nat → Int32) {u : Nat} (hu : u < 16) (T : Int32) (Lo : Int64) {l : Nat} (hl : l < 40) : upd (tr_row s u T Lo) (210 + 7 * l + 6) (tr_row s u T Lo (210 + 7 * l + 6) ^^^ 1) = tr_row s u T (Lo ^^^ tr_bl l) := by
  funext j
  by_cases c : j = 210 + 7 * l + 6
  · subst c
    rw [pu_us, tr_row_k s hu T Lo hl, tr_row_k s hu T (Lo ^^^ tr_bl l) hl]
    have hb : pu_bl (Lo ^^^ tr_bl l) l = !pu_bl Lo l := by
      unfold tr_bl
      rw [tr_xorL, pu_oneL l (by omega), decide_eq_true rfl]
      cases pu_bl Lo l <;> rfl
    by_cases h : pu_bl Lo l = true
    · rw [if_pos h, if_neg (show ¬ pu_bl (Lo ^^^ tr_bl l) l = true by rw [hb, h]; decide), tr_xx32]
    · have h' := Bool.eq_false_iff.mpr h
      rw [if_neg h, if_pos (show pu_bl (Lo ^^^ tr_bl l) l = true by rw [hb, h']; rfl)]
  · rw [pu_un c]
    unfold tr_row
    by_cases c1 : j = 184 + u
    · rw [if_pos c1, if_pos c1]
    · rw [if_neg c1, if_neg c1]
      by_cases c2 : 210 ≤ j ∧ j < 490 ∧ (j - 210) % 7 = 6
      · have e : pu_bl (Lo ^^^ tr_bl l) ((j - 210) / 7) = pu_bl Lo ((j - 210) / 7) := by
          unfold tr_bl
          rw [tr_xorL, pu_oneL l (by omega), decide_eq_false (by omega)]
          cases pu_bl Lo ((j - 210) / 7) <;> rfl
        rw [e]
      · rw [if_neg (fun h => c2 ⟨h.1, h.2.1, h.2.2.1⟩), if_neg (fun h => c2 ⟨h.1, h.2.1, h.2.2.1⟩)]
theorem tr_und_T (s d w : Nat → Int32) (u : Nat) (T b : Int32) : upd (tr_und s d w u T) u (tr_al d ((s (184 + u) ^^^ T) ^^^ b)) = tr_und s d w u (T ^^^ b) := by
  unfold tr_und
  rw [pu_uu, tr_xor32]
/-- the reference makes a change, or unmakes it -/
theorem tr_turns {s d w : Nat → Int32} {z : tr_St} {u c : Nat} {loss : Bool} {F : Nat → Nat → Int32} (hu : u < 16) (hc : tr_V loss c) (h89 : F 89 = tr_row s u z.1 z.2.1) (h93 : F 93 = tr_und s d w u z.1) (h92 : F 92 = d) (h29 : F 88 29 = z.2.2) : ∃ r, fn_m_turns (nI u) (nI (tr_rc loss c)) loss F = some (r, tr_row s u (tr_tog z c).1 (tr_tog z c).2.1, tr_und s d w u (tr_tog z c).1) ∧ r 29 = (tr_tog z c).2.2 ∧ ∀ j, j ≠ 29 → r j = F 88 j := by
  obtain ⟨T, Lo, G⟩ := z
  dsimp only at h89 h93 h29
  have e184 : (184 : Int32) + nI u = nI (184 + u) := nI_add 184 u
  have gone : ∀ x, x < 1000 → 100 ≤ x → x % 100 = c - 200 → 200 ≤ c → (some (upd (F 88) 29 ((F 88 29) ^^^ ((1 : Int32) <<< (((nI x) - (nI x) / 100 * 100) &&& 31))), F 89, F 93) : Option ((Nat → Int32) × (Nat → Int32) × (Nat → Int32))) = some (upd (F 88) 29 (G ^^^ tr_bi (c - 200)), tr_row s u T Lo, tr_und s d w u T) := by
    intro x h1 h2 h3 h4
    rw [show (nI x) - (nI x) / 100 * 100 = nI (x % 100) from pk_rem (a := x) (d := 100) (by omega) (by omega) (by omega), h3, h29, h89, h93]
    rfl
  rcases hc with h | ⟨hL, h⟩ | h
  · have e : tr_rc loss c = c := by unfold tr_rc; rw [if_pos (by omega)]
    have et : tr_tog (T, Lo, G) c = (T ^^^ tr_bi c, Lo, G) := by unfold tr_tog; rw [if_pos (by omega)]
    rw [e, et]
    refine ⟨F 88, ?_, h29, fun _ _ => rfl⟩
    unfold fn_m_turns
    rw [if_neg (show ¬ (100 : Int32) ≤ nI c from nI_ge (b := 100) (by omega) (by omega)), e184, am_chk_p (am_inbN (show 184 + u < 3340 by omega) (by decide)), am_chk_p (am_inbN hu (by decide)), nI_clamp (show 184 + u < 2147483648 by omega), nI_clamp (show u < 2147483648 by omega), h89, h93, pu_us, tr_alE]
    show some (F 88, upd (tr_row s u T Lo) (184 + u) (tr_row s u T Lo (184 + u) ^^^ tr_bi c), upd (tr_und s d w u T) u (tr_al (F 92) (tr_row s u T Lo (184 + u) ^^^ tr_bi c))) = some (F 88, tr_row s u (T ^^^ tr_bi c) Lo, tr_und s d w u (T ^^^ tr_bi c))
    rw [tr_row_T, h92, show tr_row s u T Lo (184 + u) = s (184 + u) ^^^ T by unfold tr_row; rw [if_pos rfl], tr_und_T]
  · subst hL
    have e : tr_rc true c = c := by unfold tr_rc; rw [if_pos (by omega)]
    have et : tr_tog (T, Lo, G) c = (T, Lo ^^^ tr_bl (c - 100), G) := by unfold tr_tog; rw [if_neg (by omega), if_pos (by omega)]
    rw [e, et]
    refine ⟨F 88, ?_, h29, fun _ _ => rfl⟩
    have ei : ((210 : Int32) + (7 * (nI c - 100))) + 6 = nI (210 + 7 * (c - 100) + 6) := by rw [show (100 : Int32) = nI 100 from rfl, pk_sub h.1, show (7 : Int32) = nI 7 from rfl, pk_mul, show (210 : Int32) = nI 210 from rfl, nI_add, show (6 : Int32) = nI 6 from rfl, nI_add]
    unfold fn_m_turns
    rw [if_pos (show (100 : Int32) ≤ nI c from nI_le (a := 100) h.1 (by omega)), cond_true, if_neg (show ¬ (200 : Int32) ≤ nI c from nI_ge (b := 200) (by omega) (by omega)), ei, am_chk_p (am_inbN (show 210 + 7 * (c - 100) + 6 < 3340 by omega) (by decide)), nI_clamp (show 210 + 7 * (c - 100) + 6 < 2147483648 by omega), h89, h93, tr_row_L s hu T Lo (show c - 100 < 40 by omega)]
  · have et : tr_tog (T, Lo, G) c = (T, Lo, G ^^^ tr_bi (c - 200)) := by unfold tr_tog; rw [if_neg (by omega), if_neg (by omega)]
    rw [et]
    refine ⟨upd (F 88) 29 (G ^^^ tr_bi (c - 200)), ?_, pu_us, fun j hj => pu_un hj⟩
    cases loss with
    | true =>
      have e : tr_rc true c = c := by unfold tr_rc; rw [if_neg (by omega), if_pos rfl]
      rw [e]
      unfold fn_m_turns
      rw [if_pos (show (100 : Int32) ≤ nI c from nI_le (a := 100) (by omega) (by omega)), cond_true, if_pos (show (200 : Int32) ≤ nI c from nI_le (a := 200) (by omega) (by omega))]
      exact gone c (by omega) (by omega) (by omega) (by omega)
    | false =>
      have e : tr_rc false c = c - 100 := by unfold tr_rc; rw [if_neg (by omega), if_neg (by decide)]
      rw [e]
      unfold fn_m_turns
      rw [if_pos (show (100 : Int32) ≤ nI (c - 100) from nI_le (a := 100) (by omega) (by omega)), cond_false]
      exact gone (c - 100) (by omega) (by omega) (by omega) (by omega)
/-! what is held, and the answer -/
theorem tr_stand {F F' : Nat → Nat → Int32} (hc : pu_Cln (F' 89)) (h : F 89 = F' 89) (h3 : F 93 = F' 93) : ∀ l, l < (F' 89 201).toNatClampNeg → fn_m_standAgain_157 F l = fn_m_standAgain_157 F' l := by
  obtain ⟨L, l1, l2, l3, l4⟩ := hc
  have hL := (pu_cl l2 (by omega)).2
  rw [hL]
  unfold fn_m_standAgain_157 lf_m_standAgain_157_2
  rw [h, hL]
  refine pu_for20 (f := st_m_standAgain_157_2 F) (g := st_m_standAgain_157_2 F') (fun k x y => ∀ l, l < k → x l = y l) L (F 96) (F' 96) (fun l hl => absurd hl (Nat.not_lt_zero _)) (fun k x y hk hxy l hl => ?_)
  have e : ∀ i w r r', fn_m_loanAt i w (am_row F 96 r) = fn_m_loanAt i w (am_row F' 96 r') := fun i w r r' => by
    show F 89 ((210 + (7 * i)) + w) = F' 89 ((210 + (7 * i)) + w)
    rw [h]
  unfold st_m_standAgain_157_2
  by_cases el : l = k
  · subst el
    rw [pu_us, pu_us, e l 5 x y, e l 0 x y, e l 2 x y, e l 3 x y, e l 6 x y, h3, h]
    obtain ⟨-, -, -, -, g5, -⟩ := l3 l hk
    have g5' : fn_m_loanAt l 5 (am_row F' 96 y) = -1 ∨ ∃ j, j < l ∧ fn_m_loanAt l 5 (am_row F' 96 y) = nI j := g5
    rcases g5' with g | ⟨j, j1, j2⟩
    · rw [g, if_pos (show (-1 : Int32) < 0 by decide), if_pos (show (-1 : Int32) < 0 by decide)]
    · rw [j2, if_neg (nI_pos (by omega)), if_neg (nI_pos (by omega)), nI_clamp (by omega), hxy j j1]
  · rw [pu_un el, pu_un el]
    exact hxy l (by omega)
theorem tr_heldC {F F' : Nat → Nat → Int32} {u : Nat} (h : F 89 = F' 89) (h2 : F 92 = F' 92) (h6 : ∀ l, l < (F' 89 201).toNatClampNeg → F 96 l = F' 96 l) : fn_m_heldBy_159 u F = fn_m_heldBy_159 u F' := by
  unfold fn_m_heldBy_159
  rw [tr_alE, tr_alE, h2]
  refine congrArg _ ?_
  unfold lf_m_heldBy_159_13
  rw [h]
  refine pu_forC _ _ fun l x hl => ?_
  unfold st_m_heldBy_159_13
  rw [h6 l hl, show fn_m_loanAt l 1 F = fn_m_loanAt l 1 F' by show F 89 _ = F' 89 _; rw [h], show fn_m_loanAt l 2 F = fn_m_loanAt l 2 F' by show F 89 _ = F' 89 _; rw [h]]
theorem tr_unlC {F F' : Nat → Nat → Int32} (roles : Int32) (h : ∀ i, i < 20 → F 89 (164 + i) = F' 89 (164 + i)) : fn_m_isUnlike roles F = fn_m_isUnlike roles F' := by
  unfold fn_m_isUnlike lf_m_isUnlike_2
  rw [pu_forXC 20 0 () (f := st_m_isUnlike_2 roles F) (g := st_m_isUnlike_2 roles F') (fun j x _ hj => by
    unfold st_m_isUnlike_2
    rw [h j (by omega)])]
/-- the reference's answer by what fits and isn't gone -/
def tr_kd (s : Nat → Int32) : Nat → Int32 := fun r => s (490 + 9 * r + 0)
def tr_ap (s : Nat → Int32) (FT G roles : Int32) : Nat → Bool := fun r => (pu_bt FT r && !pu_bt G r) && fn_m_has roles (s (490 + 9 * r + 1))
theorem tr_ans21 (roles : Int32) (F : Nat → Nat → Int32) (k : Nat) (hk : k < 2) : ∀ n i r, i + n ≤ 32 → am_forX (st_m_answerBy_217_21 roles F k) n i r = match pu_fst (fun r => tr_ap (F 89) (F 88 28) (F 88 29) roles r && decide (tr_kd (F 89) r = nI k)) n i with
    | some j => .inr ((if k = 1 then 2 else 1), upd r 24 (nI j))
    | none => .inl r := by
  intro n
  induction n with
  | zero => intro i r _; rfl
  | succ n ih =>
    intro i r hi
    rw [am_forX_s, pu_fst]
    have hb : fn_m_has ((F 88 28) &&& ((F 88 29) ^^^ (-1))) (nI i) = (pu_bt (F 88 28) i && !pu_bt (F 88 29) i) := by rw [pu_mhas _ (by omega), pu_and, pu_not _ (by omega)]
    have hst : st_m_answerBy_217_21 roles F k i r = bif (tr_ap (F 89) (F 88 28) (F 88 29) roles i && decide (tr_kd (F 89) i = nI k)) then .inr (.inr ((if k = 1 then 2 else 1), upd r 24 (nI i))) else .inl r := by
      unfold st_m_answerBy_217_21 tr_ap tr_kd
      rw [hb, show fn_m_ruleAt i 0 (am_row F 88 r) = F 89 (490 + 9 * i + 0) from rfl, show fn_m_ruleAt i 1 (am_row F 88 r) = F 89 (490 + 9 * i + 1) from rfl]
      cases (pu_bt (F 88 28) i && !pu_bt (F 88 29) i) with
      | false => rfl
      | true =>
        rw [cond_true, Bool.true_and]
        by_cases c : F 89 (490 + 9 * i + 0) = nI k
        · rw [if_pos c, decide_eq_true c, Bool.and_true]
          cases fn_m_has roles (F 89 (490 + 9 * i + 1)) with
          | false => rfl
          | true =>
            rw [cond_true, cond_true]
            by_cases c1 : k = 1
            · subst c1; rw [if_pos (show nI 1 = 1 from rfl)]; rfl
            · have : k = 0 := by omega
              subst this
              rw [if_neg (show ¬ nI 0 = 1 by decide)]; rfl
        · rw [if_neg c, decide_eq_false c, Bool.and_false]; rfl
    rw [hst]
    cases (tr_ap (F 89) (F 88 28) (F 88 29) roles i && decide (tr_kd (F 89) i = nI k)) with
    | true => rfl
    | false => exact ih (i + 1) r (by omega)
theorem tr_ansM (roles : Int32) (F : Nat → Nat → Int32) (hR : (F 89 202).toNatClampNeg ≤ 30) : (fn_m_answerBy_217 roles F).1 = pu_ans (tr_ap (F 89) (F 88 28) (F 88 29) roles) (tr_kd (F 89)) (F 89 202).toNatClampNeg ∧ ∀ j, j ≠ 24 → (fn_m_answerBy_217 roles F).2 j = F 88 j := by
  have h1 := tr_ans21 roles F 1 (by omega) (F 89 202).toNatClampNeg 0 (F 88) (by omega)
  have h0 := tr_ans21 roles F 0 (by omega) (F 89 202).toNatClampNeg 0 (F 88) (by omega)
  have e1 : lf_m_answerBy_217_21 roles F 1 (F 88) = _ := h1
  have e0 : lf_m_answerBy_217_21 roles F 0 (F 88) = _ := h0
  unfold fn_m_answerBy_217 lf_m_answerBy_217_14
  rw [am_dnX_s]
  have s1 : st_m_answerBy_217_14 roles F 1 (F 88) = Sum.elim (fun (z21 : (Nat → Int32)) => .inl z21) (fun (z : Int32 × (Nat → Int32)) => .inr (.inr z)) (lf_m_answerBy_217_21 roles F 1 (F 88)) := rfl
  have s0 : ∀ r, r = F 88 → am_dnX (st_m_answerBy_217_14 roles F) 1 r = am_nxt (fun z => .inl z) (Sum.elim (fun (z21 : (Nat → Int32)) => .inl z21) (fun (z : Int32 × (Nat → Int32)) => .inr (.inr z)) (lf_m_answerBy_217_21 roles F 0 (F 88))) := fun r hr => by subst hr; rfl
  rw [s1, e1]
  unfold pu_ans
  cases c1 : pu_fst (fun r => tr_ap (F 89) (F 88 28) (F 88 29) roles r && decide (tr_kd (F 89) r = nI 1)) (F 89 202).toNatClampNeg 0 with
  | some r =>
    have c1' : pu_fst (fun r => tr_ap (F 89) (F 88 28) (F 88 29) roles r && decide (tr_kd (F 89) r = 1)) (F 89 202).toNatClampNeg 0 = some r := c1
    rw [c1']
    exact ⟨rfl, fun j hj => pu_un hj⟩
  | none =>
    have c1' : pu_fst (fun r => tr_ap (F 89) (F 88 28) (F 88 29) roles r && decide (tr_kd (F 89) r = 1)) (F 89 202).toNatClampNeg 0 = none := c1
    rw [c1']
    have d : ∀ A : (Nat → Int32) ⊕ Int32 × (Nat → Int32), am_dnX (st_m_answerBy_217_14 roles F) 1 (F 88) = A → am_nxt (fun z => am_dnX (st_m_answerBy_217_14 roles F) 1 z) (Sum.elim (fun (z21 : (Nat → Int32)) => .inl z21) (fun (z : Int32 × (Nat → Int32)) => .inr (.inr z)) (.inl (F 88) : (Nat → Int32) ⊕ Int32 × (Nat → Int32))) = A := fun A h => h
    simp only
    rw [d _ (s0 (F 88) rfl), e0]
    cases c0 : pu_fst (fun r => tr_ap (F 89) (F 88 28) (F 88 29) roles r && decide (tr_kd (F 89) r = nI 0)) (F 89 202).toNatClampNeg 0 with
    | some r =>
      have c0' : pu_fst (fun r => tr_ap (F 89) (F 88 28) (F 88 29) roles r && decide (tr_kd (F 89) r = 0)) (F 89 202).toNatClampNeg 0 = some r := c0
      rw [c0']
      exact ⟨rfl, fun j hj => pu_un hj⟩
    | none =>
      have c0' : pu_fst (fun r => tr_ap (F 89) (F 88 28) (F 88 29) roles r && decide (tr_kd (F 89) r = 0)) (F 89 202).toNatClampNeg 0 = none := c0
      rw [c0']
      exact ⟨rfl, fun j hj => pu_un hj⟩
/-! a choice tried -/
def tr_MM (M : Nat → Nat → Int32) (u : Nat) (T : Int32) (Lo : Int64) : Nat → Nat → Int32 := am_row (am_row M 89 (tr_row (M 89) u T Lo)) 93 (tr_und (M 89) (M 92) (M 93) u T)
def tr_RO (M : Nat → Nat → Int32) (u : Nat) (T : Int32) (Lo : Int64) : Int32 := fn_m_heldBy_159 u (am_row (tr_MM M u T Lo) 96 (fn_m_standAgain_157 (tr_MM M u T Lo)))
def tr_AN (M : Nat → Nat → Int32) (FT G roles : Int32) : Int32 := pu_ans (tr_ap (M 89) FT G roles) (tr_kd (M 89)) (M 89 202).toNatClampNeg
def tr_P (M : Nat → Nat → Int32) (FT : Int32) (u : Nat) (loss : Bool) (z : tr_St) : Bool := bif loss then !decide (tr_AN M FT z.2.2 (tr_RO M u z.1 z.2.1) = 1) else (!fn_m_isUnlike (tr_RO M u z.1 z.2.1) M && decide (tr_AN M FT z.2.2 (tr_RO M u z.1 z.2.1) = 1))
theorem tr_Cln {s : Nat → Int32} {u : Nat} (hu : u < 16) (T : Int32) (Lo : Int64) (hLo : ∀ l, 40 ≤ l → pu_bl Lo l = false) (hc : pu_Cln s) (h01 : ∀ l, l < 40 → pu_bl Lo l = true → l < (s 201).toNatClampNeg) : pu_Cln (tr_row s u T Lo) := by
  obtain ⟨L, l1, l2, l3, l4⟩ := hc
  have hL := (pu_cl l2 (by omega)).2
  refine ⟨L, l1, (tr_row_o s u T Lo (by omega) (by omega)).trans l2, fun l hl => ?_, fun l hl hl' => ?_⟩
  · obtain ⟨a0, a1, a2, a4, a5, a6⟩ := l3 l hl
    rw [tr_row_l s hu T Lo l 0 (by omega), tr_row_l s hu T Lo l 1 (by omega), tr_row_l s hu T Lo l 2 (by omega), tr_row_l s hu T Lo l 4 (by omega), tr_row_l s hu T Lo l 5 (by omega), tr_row_k s hu T Lo (show l < 40 by omega)]
    refine ⟨a0, a1, a2, a4, a5, ?_⟩
    by_cases c : pu_bl Lo l = true
    · rw [if_pos c]
      rcases a6 with a6 | a6
      · rw [a6]; exact .inr rfl
      · rw [a6]; exact .inl rfl
    · rw [if_neg c]; exact a6
  · rw [tr_row_k s hu T Lo hl']
    by_cases c : pu_bl Lo l = true
    · have := h01 l hl' c; omega
    · rw [if_neg c]; exact l4 l hl hl'
theorem tr_does {M F : Nat → Nat → Int32} {FT : Int32} {u : Nat} {z : tr_St} {loss : Bool} (hu : u < 16) (hR : (M 89 202).toNatClampNeg ≤ 30) (hC : pu_Cln (tr_row (M 89) u z.1 z.2.1)) (h89 : F 89 = tr_row (M 89) u z.1 z.2.1) (h93 : F 93 = tr_und (M 89) (M 92) (M 93) u z.1) (h92 : F 92 = M 92) (h28 : F 88 28 = FT) (h29 : F 88 29 = z.2.2) : ∃ r y, fn_m_does (nI u) loss F = some (tr_P M FT u loss z, r, y) ∧ ∀ j, j ≠ 24 → r j = F 88 j := by
  obtain ⟨T, Lo, G⟩ := z
  dsimp only at hC h89 h93 h29
  obtain ⟨sa, hsa⟩ : ∃ sa, sa = fn_m_standAgain_157 F := ⟨_, rfl⟩
  have hst : ∀ l, l < (tr_row (M 89) u T Lo 201).toNatClampNeg → sa l = fn_m_standAgain_157 (tr_MM M u T Lo) l := by
    rw [hsa]
    exact tr_stand (F := F) (F' := tr_MM M u T Lo) hC h89 h93
  have hro : fn_m_heldBy_159 u (am_row F 96 sa) = tr_RO M u T Lo := tr_heldC (F := am_row F 96 sa) (F' := am_row (tr_MM M u T Lo) 96 (fn_m_standAgain_157 (tr_MM M u T Lo))) h89 h92 hst
  have hun : fn_m_isUnlike (tr_RO M u T Lo) (am_row F 96 sa) = fn_m_isUnlike (tr_RO M u T Lo) M := tr_unlC _ (fun i hi => by
    show F 89 (164 + i) = _
    rw [h89, tr_row_o _ _ _ _ (by omega) (by omega)])
  have h202 : F 89 202 = M 89 202 := by rw [h89, tr_row_o _ _ _ _ (by omega) (by omega)]
  obtain ⟨a1, a2⟩ := tr_ansM (tr_RO M u T Lo) (am_row F 96 sa) (show (F 89 202).toNatClampNeg ≤ 30 by rw [h202]; exact hR)
  have a1' : (fn_m_answerBy_217 (tr_RO M u T Lo) (am_row F 96 sa)).1 = tr_AN M FT G (tr_RO M u T Lo) := by
    rw [a1]
    show pu_ans (tr_ap (F 89) (F 88 28) (F 88 29) (tr_RO M u T Lo)) (tr_kd (F 89)) (F 89 202).toNatClampNeg = pu_ans (tr_ap (M 89) FT G (tr_RO M u T Lo)) (tr_kd (M 89)) (M 89 202).toNatClampNeg
    rw [h202, h28, h29, h89]
    have k1 : tr_kd (tr_row (M 89) u T Lo) = tr_kd (M 89) := by funext r; unfold tr_kd; exact tr_row_o _ _ _ _ (by omega) (by omega)
    have k2 : tr_ap (tr_row (M 89) u T Lo) FT G (tr_RO M u T Lo) = tr_ap (M 89) FT G (tr_RO M u T Lo) := by funext r; unfold tr_ap; rw [tr_row_o _ _ _ _ (by omega) (by omega)]
    rw [k1, k2]
  have a2' : ∀ j, j ≠ 24 → (fn_m_answerBy_217 (tr_RO M u T Lo) (am_row F 96 sa)).2 j = F 88 j := a2
  unfold fn_m_does
  rw [am_chk_p (am_inbN hu (by decide)), nI_clamp (show u < 2147483648 by omega), ← hsa, hro, hun]
  unfold tr_P
  dsimp only
  rw [a1']
  generalize (fn_m_answerBy_217 (tr_RO M u T Lo) (am_row F 96 sa)).2 = rr at a2'
  generalize tr_AN M FT G (tr_RO M u T Lo) = av
  cases loss with
  | true =>
    rw [cond_true, cond_true]
    refine ⟨rr, sa, ?_, a2'⟩
    by_cases c : av = 1
    · rw [if_pos c, decide_eq_true c]; rfl
    · rw [if_neg c, decide_eq_false c]; rfl
  | false =>
    rw [cond_false, cond_false]
    cases fn_m_isUnlike (tr_RO M u T Lo) M with
    | true => exact ⟨F 88, sa, rfl, fun _ _ => rfl⟩
    | false =>
      rw [cond_false]
      refine ⟨rr, sa, ?_, a2'⟩
      by_cases c : av = 1
      · rw [if_pos c, decide_eq_true c]; rfl
      · rw [if_neg c, decide_eq_false c]; rfl
