/-! THE PURE LAYER: conditions, as the reference and as the class keep them -/
set_option linter.unusedVariables false
def pu_lf (x : Int32) : Nat := if 1010 ≤ x then (if 1020 ≤ x then (if x = 1020 then 8 else if x = 1021 then 9 else 10) else (x - 1010).toNatClampNeg + 4) else (x - 1000).toNatClampNeg
/-- marks, the joining one ahead, read from place i on: the value, and the place behind -/
def pu_pe : Nat → (Nat → Int32) → (Nat → Int32) → Nat → Option (Int32 × Nat)
  | 0, _, _, _ => none
  | k + 1, m, ρ, i => if 1000 ≤ m i then (if 2000 ≤ m i then (match pu_pe k m ρ (i + 1) with
      | none => none
      | some (a, i1) => if m i = 2126 then some (-a, i1) else if m i = 2033 then some (am_b (if a = 0 then true else false), i1) else (match pu_pe k m ρ i1 with
        | none => none
        | some (b, i2) => some (fn_m_joined (m i - 2000) a b, i2))) else some (ρ (pu_lf (m i)), i + 1)) else some (m i, i + 1)
/-- what a mark can be -/
def pu_tok (x : Int32) : Prop := (∃ n, n < 1000 ∧ x = nI n) ∨ (∃ k, k < 4 ∧ x = nI (1000 + k)) ∨ (∃ k, k < 4 ∧ x = nI (1010 + k)) ∨ (∃ k, k < 3 ∧ x = nI (1020 + k)) ∨ (∃ k, k < 256 ∧ x = nI (2000 + k))
def pu_Pre (m : Nat → Int32) (i n : Nat) (V : (Nat → Int32) → Int32) : Prop := (∀ j, j < n → pu_tok (m (i + j))) ∧ ∀ ρ k, n ≤ k → pu_pe k m ρ i = some (V ρ, i + n)
theorem pu_pe_le {m ρ : Nat → Int32} : ∀ (k i : Nat) (v : Int32) (i2 : Nat), pu_pe k m ρ i = some (v, i2) → i < i2 := by
  intro k
  induction k with
  | zero => intro i v i2 h; cases h
  | succ k ih =>
    intro i v i2 h
    unfold pu_pe at h
    by_cases c1 : 1000 ≤ m i
    · rw [if_pos c1] at h
      by_cases c2 : 2000 ≤ m i
      · rw [if_pos c2] at h
        cases h1 : pu_pe k m ρ (i + 1) with
        | none => rw [h1] at h; cases h
        | some z =>
          obtain ⟨a, i1⟩ := z
          have g1 := ih _ _ _ h1
          rw [h1] at h
          simp only at h
          by_cases c3 : m i = 2126
          · rw [if_pos c3] at h; cases h; omega
          · rw [if_neg c3] at h
            by_cases c4 : m i = 2033
            · rw [if_pos c4] at h; cases h; omega
            · rw [if_neg c4] at h
              cases h2 : pu_pe k m ρ i1 with
              | none => rw [h2] at h; cases h
              | some y =>
                obtain ⟨b, i3⟩ := y
                have g2 := ih _ _ _ h2
                rw [h2] at h
                cases h; omega
      · rw [if_neg c2] at h; cases h; omega
    · rw [if_neg c1] at h; cases h; omega
/-- the same marks at another place -/
theorem pu_pe_mv {m m' ρ : Nat → Int32} : ∀ (k i j : Nat) (v : Int32) (i2 : Nat), pu_pe k m ρ i = some (v, i2) → (∀ x, i + x < i2 → m' (j + x) = m (i + x)) → pu_pe k m' ρ j = some (v, j + (i2 - i)) := by
  intro k
  induction k with
  | zero => intro i j v i2 h; cases h
  | succ k ih =>
    intro i j v i2 h hm
    have hlt := pu_pe_le _ _ _ _ h
    have h0 : m' j = m i := hm 0 (by omega)
    unfold pu_pe at h ⊢
    rw [h0]
    by_cases c1 : 1000 ≤ m i
    · rw [if_pos c1] at h ⊢
      by_cases c2 : 2000 ≤ m i
      · rw [if_pos c2] at h ⊢
        cases h1 : pu_pe k m ρ (i + 1) with
        | none => rw [h1] at h; cases h
        | some z =>
          obtain ⟨a, i1⟩ := z
          have g1 := pu_pe_le _ _ _ _ h1
          rw [h1] at h
          simp only at h
          by_cases c3 : m i = 2126
          · rw [if_pos c3] at h
            have e9 := Prod.mk.inj (Option.some.inj h)
            have e8 := e9.2
            rw [ih (i + 1) (j + 1) a i1 h1 (fun x hx => by rw [show j + 1 + x = j + (1 + x) by omega, show i + 1 + x = i + (1 + x) by omega]; exact hm (1 + x) (by omega))]
            simp only
            rw [if_pos c3, show j + 1 + (i1 - (i + 1)) = j + (i2 - i) by omega, e9.1]
          · rw [if_neg c3] at h
            by_cases c4 : m i = 2033
            · rw [if_pos c4] at h
              have e9 := Prod.mk.inj (Option.some.inj h)
              have e8 := e9.2
              rw [ih (i + 1) (j + 1) a i1 h1 (fun x hx => by rw [show j + 1 + x = j + (1 + x) by omega, show i + 1 + x = i + (1 + x) by omega]; exact hm (1 + x) (by omega))]
              simp only
              rw [if_neg c3, if_pos c4, show j + 1 + (i1 - (i + 1)) = j + (i2 - i) by omega, e9.1]
            · rw [if_neg c4] at h
              cases h2 : pu_pe k m ρ i1 with
              | none => rw [h2] at h; cases h
              | some y =>
                obtain ⟨b, i3⟩ := y
                have g2 := pu_pe_le _ _ _ _ h2
                rw [h2] at h
                have e9 := Prod.mk.inj (Option.some.inj h)
                have e8 := e9.2
                subst e8
                rw [← e9.1]
                rw [ih (i + 1) (j + 1) a i1 h1 (fun x hx => by rw [show j + 1 + x = j + (1 + x) by omega, show i + 1 + x = i + (1 + x) by omega]; exact hm (1 + x) (by omega))]
                simp only
                rw [if_neg c3, if_neg c4, ih i1 (j + 1 + (i1 - (i + 1))) b i3 h2 (fun x hx => by rw [show j + 1 + (i1 - (i + 1)) + x = j + (i1 - i + x) by omega, show i1 + x = i + (i1 - i + x) by omega]; exact hm (i1 - i + x) (by omega))]
                simp only
                rw [show j + 1 + (i1 - (i + 1)) + (i3 - i1) = j + (i3 - i) by omega]
      · rw [if_neg c2] at h ⊢
        cases h
        rw [show i + 1 - i = 1 by omega]
    · rw [if_neg c1] at h ⊢
      cases h
      rw [show i + 1 - i = 1 by omega]
theorem pu_Pre_mv {m m' : Nat → Int32} {i j n : Nat} {V : (Nat → Int32) → Int32} (h : pu_Pre m i n V) (hm : ∀ x, x < n → m' (j + x) = m (i + x)) : pu_Pre m' j n V := by
  refine ⟨fun x hx => by rw [hm x hx]; exact h.1 x hx, fun ρ k hk => ?_⟩
  have := pu_pe_mv k i j _ _ (h.2 ρ k hk) (fun x hx => hm x (by omega))
  rw [this, show j + (i + n - i) = j + n by omega]
theorem pu_Pre_pos {m : Nat → Int32} {i n : Nat} {V : (Nat → Int32) → Int32} (h : pu_Pre m i n V) : 0 < n := by
  have := pu_pe_le _ _ _ _ (h.2 (fun _ => 0) n (Nat.le_refl _))
  omega
/-- the reference's part() reads them -/
theorem pu_part {m ρ : Nat → Int32} {B u t : Nat} (hu : u < 16) (ht : t < 16) : ∀ (k i : Nat) (v : Int32) (i2 : Nat), pu_pe k m ρ i = some (v, i2) → ∀ f : Nat → Nat → Int32, (∀ x, i ≤ x → x < i2 → pu_tok (m x) ∧ f 89 (B + x) = m x) → B + i2 ≤ 3340 → f 88 16 = nI (B + i) → f 88 17 = nI u → f 88 19 = nI t → (∀ j, j < 4 → ρ j = f 89 (4 * u + j)) → (∀ j, j < 4 → ρ (4 + j) = f 89 (64 + 4 * t + j)) → ρ 8 = f 89 200 → ρ 9 = f 88 18 → ρ 10 = f 88 20 → fn_m_partN k f = some (v, upd (f 88) 16 (nI (B + i2))) := by
  intro k
  induction k with
  | zero => intro i v i2 h; cases h
  | succ k ih =>
    intro i v i2 h f hm hB h16 h17 h19 hr1 hr2 hr8 hr9 hr10
    have hlt := pu_pe_le _ _ _ _ h
    obtain ⟨htok, h0⟩ := hm i (Nat.le_refl _) hlt
    show fn_m_partS (fn_m_partN k) f = _
    unfold fn_m_partS
    rw [h16, am_chk_p (am_inbN (by omega) (by decide)), nI_clamp (by omega), h0]
    unfold pu_pe at h
    have hstep : ∀ (f1 : Nat → Nat → Int32) (j : Nat), f1 = am_row f 88 (upd (f 88) 16 (nI (B + j))) → ∀ (i' : Nat) (v' : Int32) (i2' : Nat), i' = j → i ≤ i' → i2' ≤ i2 → pu_pe k m ρ i' = some (v', i2') → fn_m_partN k f1 = some (v', upd (f 88) 16 (nI (B + i2'))) := by
      intro f1 j hf1 i' v' i2' hj hi' hi2' hp
      subst hf1; subst hj
      have := ih i' v' i2' hp (am_row f 88 (upd (f 88) 16 (nI (B + i')))) (fun x h1 h2 => hm x (by omega) (by omega)) (by omega) (show upd (f 88) 16 (nI (B + i')) 16 = _ from pu_us) (show upd (f 88) 16 (nI (B + i')) 17 = _ from (pu_un (by decide)).trans h17) (show upd (f 88) 16 (nI (B + i')) 19 = _ from (pu_un (by decide)).trans h19) hr1 hr2 hr8 (hr9.trans (show f 88 18 = upd (f 88) 16 (nI (B + i')) 18 from (pu_un (by decide)).symm)) (hr10.trans (show f 88 20 = upd (f 88) 16 (nI (B + i')) 20 from (pu_un (by decide)).symm))
      rw [this]
      show some (v', upd (upd (f 88) 16 (nI (B + i'))) 16 (nI (B + i2'))) = _
      rw [pu_uu]
    by_cases c1 : 1000 ≤ m i
    · rw [if_pos c1] at h ⊢
      by_cases c2 : 2000 ≤ m i
      · have c10 : 1010 ≤ m i := Int32.le_trans (by decide) c2
        have c20 : 1020 ≤ m i := Int32.le_trans (by decide) c2
        rw [if_pos c2] at h
        rw [if_pos c10, if_pos c20, if_pos c2]
        cases h1 : pu_pe k m ρ (i + 1) with
        | none => rw [h1] at h; cases h
        | some z =>
          obtain ⟨a, i1⟩ := z
          have g1 := pu_pe_le _ _ _ _ h1
          rw [h1] at h
          simp only at h
          have hi1 : i1 ≤ i2 := by
            by_cases c3 : m i = 2126
            · rw [if_pos c3] at h; cases h; omega
            · rw [if_neg c3] at h
              by_cases c4 : m i = 2033
              · rw [if_pos c4] at h; cases h; omega
              · rw [if_neg c4] at h
                cases h2 : pu_pe k m ρ i1 with
                | none => rw [h2] at h; cases h
                | some y =>
                  obtain ⟨b, i3⟩ := y
                  have g2 := pu_pe_le _ _ _ _ h2
                  rw [h2] at h
                  cases h; omega
          rw [nI_1, Nat.add_assoc B i 1, hstep _ (i + 1) rfl (i + 1) a i1 rfl (by omega) hi1 h1, am_ob_s]
          by_cases c3 : m i = 2126
          · rw [if_pos c3] at h ⊢; cases h; rfl
          · rw [if_neg c3] at h ⊢
            by_cases c4 : m i = 2033
            · rw [if_pos c4] at h ⊢; cases h; rfl
            · rw [if_neg c4] at h ⊢
              cases h2 : pu_pe k m ρ i1 with
              | none => rw [h2] at h; cases h
              | some y =>
                obtain ⟨b, i3⟩ := y
                rw [h2] at h
                have e9 := Prod.mk.inj (Option.some.inj h)
                have e8 := e9.2
                rw [hstep _ i1 rfl i1 b i3 rfl (by omega) (by omega) h2, am_ob_s, ← e9.1, ← e8]
      · rw [if_neg c2] at h
        cases h
        rw [nI_1]
        rcases htok with ⟨n, n1, n2⟩ | ⟨n, n1, n2⟩ | ⟨n, n1, n2⟩ | ⟨n, n1, n2⟩ | ⟨n, n1, n2⟩
        · rw [n2, show (1000 : Int32) = nI 1000 from rfl, nI_leI (by omega) (by omega)] at c1; omega
        · have e1 : ¬ (1010 : Int32) ≤ m i := by rw [n2, show (1010 : Int32) = nI 1010 from rfl, nI_leI (by omega) (by omega)]; omega
          rw [if_neg e1]
          have ex : ((4 * nI u) + m i) - 1000 = nI (4 * u + n) := by rw [n2, show (4 : Int32) = nI 4 from rfl, show (1000 : Int32) = nI 1000 from rfl, pk_mul, nI_add, pk_sub (by omega)]; exact congrArg nI (by omega)
          rw [h17, ex, am_chk_p (am_inbN (by omega) (by decide)), nI_clamp (by omega), ← hr1 n n1]
          have e2 : pu_lf (m i) = n := by unfold pu_lf; rw [if_neg e1, n2, show (1000 : Int32) = nI 1000 from rfl, pk_sub (by omega), nI_clamp (by omega)]; omega
          rw [e2]
          rfl
        · have e1 : (1010 : Int32) ≤ m i := by rw [n2, show (1010 : Int32) = nI 1010 from rfl, nI_leI (by omega) (by omega)]; omega
          have e3 : ¬ (1020 : Int32) ≤ m i := by rw [n2, show (1020 : Int32) = nI 1020 from rfl, nI_leI (by omega) (by omega)]; omega
          rw [if_pos e1, if_neg e3]
          have ex : ((64 + (4 * nI t)) + m i) - 1010 = nI (64 + 4 * t + n) := by rw [n2, show (64 : Int32) = nI 64 from rfl, show (4 : Int32) = nI 4 from rfl, show (1010 : Int32) = nI 1010 from rfl, pk_mul, nI_add, nI_add, pk_sub (by omega)]; exact congrArg nI (by omega)
          rw [h19, ex, am_chk_p (am_inbN (by omega) (by decide)), nI_clamp (by omega), ← hr2 n n1]
          have e2 : pu_lf (m i) = 4 + n := by unfold pu_lf; rw [if_pos e1, if_neg e3, n2, show (1010 : Int32) = nI 1010 from rfl, pk_sub (by omega), nI_clamp (by omega)]; omega
          rw [e2]
          rfl
        · have e1 : (1010 : Int32) ≤ m i := by rw [n2, show (1010 : Int32) = nI 1010 from rfl, nI_leI (by omega) (by omega)]; omega
          have e3 : (1020 : Int32) ≤ m i := by rw [n2, show (1020 : Int32) = nI 1020 from rfl, nI_leI (by omega) (by omega)]; omega
          rw [if_pos e1, if_pos e3, if_neg c2]
          unfold pu_lf
          rw [if_pos e1, if_pos e3]
          by_cases d1 : m i = 1020
          · rw [if_pos d1, if_pos d1, hr8]; rfl
          · rw [if_neg d1, if_neg d1]
            by_cases d2 : m i = 1021
            · rw [if_pos d2, if_pos d2, hr9]; rfl
            · rw [if_neg d2, if_neg d2, hr10]; rfl
        · rw [n2, show (2000 : Int32) = nI 2000 from rfl, nI_leI (by omega) (by omega)] at c2; omega
    · rw [if_neg c1] at h ⊢
      cases h
      rw [nI_1]
      rfl
/-! the class: codes behind their operands -/
def pu_wk (G : Nat → Int32) (c : Int32) (z : Int32 × (Nat → Int32)) : Int32 × (Nat → Int32) := fn_work c z.1 (fun k => if k = 36 then G else z.2)
def pu_rn (G c : Nat → Int32) (n i : Nat) (z : Int32 × (Nat → Int32)) : Int32 × (Nat → Int32) := am_for (fun i z => pu_wk G (c i) z) n i z
def pu_Post (c : Nat → Int32) (i n : Nat) (V : (Nat → Int32) → Int32) : Prop := ∀ (G : Nat → Int32) (t : Nat) (st : Nat → Int32), t + n ≤ 80 → ∃ st', pu_rn G c n i (nI t, st) = (nI (t + 1), st') ∧ st' t = V G ∧ ∀ j, j < t → st' j = st j
theorem pu_for_app {α : Type} (f : Nat → α → α) : ∀ (n m i : Nat) (a : α), am_for f (n + m) i a = am_for f m (i + n) (am_for f n i a) := by
  intro n
  induction n with
  | zero => intro m i a; rw [Nat.zero_add]; rfl
  | succ n ih =>
    intro m i a
    rw [show n + 1 + m = (n + m) + 1 by omega]
    show am_for f (n + m) (i + 1) (f i a) = am_for f m (i + (n + 1)) (am_for f n (i + 1) (f i a))
    rw [ih, show i + 1 + n = i + (n + 1) by omega]
theorem pu_rn_app (G c : Nat → Int32) (n m i : Nat) (z : Int32 × (Nat → Int32)) : pu_rn G c (n + m) i z = pu_rn G c m (i + n) (pu_rn G c n i z) := pu_for_app _ n m i z
theorem pu_rn_1 (G c : Nat → Int32) (i : Nat) (z : Int32 × (Nat → Int32)) : pu_rn G c 1 i z = pu_wk G (c i) z := rfl
theorem pu_rn_mv {G c c' : Nat → Int32} : ∀ (n i j : Nat) (z : Int32 × (Nat → Int32)), (∀ x, x < n → c' (j + x) = c (i + x)) → pu_rn G c' n j z = pu_rn G c n i z := by
  intro n
  induction n with
  | zero => intro i j z _; rfl
  | succ n ih =>
    intro i j z h
    show pu_rn G c' n (j + 1) (pu_wk G (c' j) z) = pu_rn G c n (i + 1) (pu_wk G (c i) z)
    rw [show c' j = c i from h 0 (by omega)]
    exact ih (i + 1) (j + 1) _ (fun x hx => by rw [show j + 1 + x = j + (x + 1) by omega, show i + 1 + x = i + (x + 1) by omega]; exact h (x + 1) (by omega))
theorem pu_Post_mv {c c' : Nat → Int32} {i j n : Nat} {V : (Nat → Int32) → Int32} (h : pu_Post c i n V) (hc : ∀ x, x < n → c' (j + x) = c (i + x)) : pu_Post c' j n V := by
  intro G t st ht
  rw [pu_rn_mv n i j _ hc]
  exact h G t st ht
theorem pu_btwN {v lo hi : Nat} (h1 : lo ≤ v) (h2 : v ≤ hi) (h : hi < 2 ^ 31) : fn_between (nI v) (nI lo) (nI hi) = true := by
  unfold fn_between
  rw [if_neg (nI_nlt h1 (by omega)), if_neg (nI_nlt h2 h)]
theorem pu_btwF {v lo hi : Nat} (h1 : v < lo ∨ hi < v) (ha : hi < 2 ^ 31) (hb : v < 2 ^ 31) (hc : lo < 2 ^ 31) : fn_between (nI v) (nI lo) (nI hi) = false := by
  unfold fn_between
  rcases h1 with h | h
  · rw [if_pos (nI_lt h hc)]
  · by_cases c : nI v < nI lo
    · rw [if_pos c]
    · rw [if_neg c, if_pos (nI_lt h hb)]
/-- an operand -/
theorem pu_Post_leaf {c : Nat → Int32} {i : Nat} {V : (Nat → Int32) → Int32} {n : Nat} (hn : n < 2000) (hc : c i = nI n) (hV : ∀ G, V G = if 1000 ≤ n ∧ n ≤ 1010 then G (n - 1000) else nI n) : pu_Post c i 1 V := by
  intro G t st ht
  rw [pu_rn_1]
  unfold pu_wk fn_work
  rw [hc, show (2000 : Int32) = nI 2000 from rfl, if_neg (by rw [nI_leI (by omega) (by omega)]; omega), show (80 : Int32) = nI 80 from rfl, if_neg (by rw [nI_leI (by omega) (by omega)]; omega)]
  refine ⟨upd st t (bif fn_between (nI n) (nI 1000) (nI 1010) then G ((nI n - nI 1000).toNatClampNeg) else nI n), ?_, ?_, fun j hj => ?_⟩
  · show ((if nI 80 < nI t + 1 then nI 80 else nI t + 1), upd st (nI t).toNatClampNeg (bif fn_between (nI n) (nI 1000) (nI 1010) then G ((nI n - nI 1000).toNatClampNeg) else nI n)) = _
    rw [nI_1, if_neg (nI_nlt (by omega) (by omega)), nI_clamp (n := t) (by omega)]
  · rw [pu_us, hV]
    by_cases d : 1000 ≤ n ∧ n ≤ 1010
    · rw [pu_btwN d.1 d.2 (by decide), if_pos d, pk_sub d.1, nI_clamp (by omega)]; rfl
    · rw [pu_btwF (by omega) (by decide) (by omega) (by decide), if_neg d]; rfl
  · rw [pu_un (by omega)]
/-- ! and - ahead -/
theorem pu_Post_un {c : Nat → Int32} {i n : Nat} {V : (Nat → Int32) → Int32} (h : pu_Post c i n V) {o : Nat} (ho : o = 33 ∨ o = 126) (hc : c (i + n) = nI (2000 + o)) : pu_Post c i (n + 1) (fun G => if o = 126 then -(V G) else am_b (if V G = 0 then true else false)) := by
  intro G t st ht
  obtain ⟨st', h1, h2, h3⟩ := h G t st (by omega)
  rw [pu_rn_app, h1, pu_rn_1]
  unfold pu_wk fn_work
  rw [hc, show (2000 : Int32) = nI 2000 from rfl, if_pos (by rw [nI_leI (by omega) (by omega)]; omega), pk_sub (by omega), show 2000 + o - 2000 = o by omega]
  have hb : fn_between (nI (t + 1)) 1 80 = true := pu_btwN (lo := 1) (hi := 80) (by omega) (by omega) (by decide)
  have ht1 : (nI (t + 1) - 1).toNatClampNeg = t := by rw [nI_pred, nI_clamp (by omega)]
  rcases ho with ho | ho <;> subst ho
  · refine ⟨upd st' t (am_b (if V G = 0 then true else false)), ?_, pu_us, fun j hj => by rw [pu_un (by omega)]; exact h3 j hj⟩
    show (if nI 33 = 33 then (bif fn_between (nI (t + 1)) 1 80 then (nI (t + 1), upd st' ((nI (t + 1) - 1).toNatClampNeg) (if nI 33 = 126 then -(st' ((nI (t + 1) - 1).toNatClampNeg)) else am_b (if st' ((nI (t + 1) - 1).toNatClampNeg) = 0 then true else false))) else (nI (t + 1), st')) else _) = _
    rw [if_pos (show nI 33 = 33 from rfl), hb, cond_true, if_neg (show ¬ nI 33 = 126 by decide), ht1, h2]
  · refine ⟨upd st' t (-(V G)), ?_, pu_us, fun j hj => by rw [pu_un (by omega)]; exact h3 j hj⟩
    show (if nI 126 = 33 then _ else (if nI 126 = 126 then (bif fn_between (nI (t + 1)) 1 80 then (nI (t + 1), upd st' ((nI (t + 1) - 1).toNatClampNeg) (if nI 126 = 126 then -(st' ((nI (t + 1) - 1).toNatClampNeg)) else am_b (if st' ((nI (t + 1) - 1).toNatClampNeg) = 0 then true else false))) else (nI (t + 1), st')) else _)) = _
    rw [if_neg (show ¬ nI 126 = 33 by decide), if_pos (show nI 126 = 126 from rfl), hb, cond_true, if_pos (show nI 126 = 126 from rfl), ht1, h2]
/-- between two -/
theorem pu_Post_bin {c : Nat → Int32} {i n m : Nat} {V W : (Nat → Int32) → Int32} (h : pu_Post c i n V) (h' : pu_Post c (i + n) m W) {o : Nat} (ho : o ≠ 33 ∧ o ≠ 126 ∧ o < 256) (hc : c (i + n + m) = nI (2000 + o)) (hm : 0 < m) : pu_Post c i (n + m + 1) (fun G => fn_combined (nI o) (V G) (W G)) := by
  intro G t st ht
  obtain ⟨st', h1, h2, h3⟩ := h G t st (by omega)
  rw [pu_rn_app, pu_rn_app, h1]
  rcases Nat.lt_or_ge (t + 1 + m) 81 with hlt | hge
  · obtain ⟨st2, g1, g2, g3⟩ := h' G (t + 1) st' (by omega)
    rw [g1, show i + (n + m) = i + n + m by omega, pu_rn_1]
    unfold pu_wk fn_work
    rw [hc, show (2000 : Int32) = nI 2000 from rfl, if_pos (by rw [nI_leI (by omega) (by omega)]; omega), pk_sub (by omega), show 2000 + o - 2000 = o by omega]
    have hb : fn_between (nI (t + 1 + 1)) 2 80 = true := pu_btwN (lo := 2) (hi := 80) (by omega) (by omega) (by decide)
    have e1 : (nI (t + 1 + 1) - 1).toNatClampNeg = t + 1 := by rw [nI_pred, nI_clamp (by omega)]
    have e2 : (nI (t + 1 + 1) - 2).toNatClampNeg = t := by rw [show (2 : Int32) = nI 2 from rfl, pk_sub (by omega), nI_clamp (by omega)]; omega
    refine ⟨upd st2 t (fn_combined (nI o) (V G) (W G)), ?_, pu_us, fun j hj => ?_⟩
    · show (if nI o = 33 then _ else (if nI o = 126 then _ else (bif fn_between (nI (t + 1 + 1)) 2 80 then (nI (t + 1 + 1) - 1, upd st2 ((nI (t + 1 + 1) - 2).toNatClampNeg) (fn_combined (nI o) (st2 ((nI (t + 1 + 1) - 2).toNatClampNeg)) (st2 ((nI (t + 1 + 1) - 1).toNatClampNeg)))) else (nI (t + 1 + 1), st2)))) = _
      rw [if_neg (show ¬ nI o = 33 by rw [show (33 : Int32) = nI 33 from rfl, nI_eq (by omega) (by omega)]; omega), if_neg (show ¬ nI o = 126 by rw [show (126 : Int32) = nI 126 from rfl, nI_eq (by omega) (by omega)]; omega), hb, cond_true, e1, e2, g2, g3 t (by omega), h2, nI_pred]
    · rw [pu_un (by omega), g3 j (by omega)]; exact h3 j hj
  · omega
