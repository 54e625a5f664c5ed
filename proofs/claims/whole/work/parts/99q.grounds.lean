/-! THE PURE LAYER: the grounds of an answer -/
set_option linter.unusedVariables false
section
variable {e : Nat → Nat → Bool} {T T' S : Nat → Bool}
/-- only what can be reached counts -/
theorem mg_BS (hT : ∀ i, i < 20 → S i = true → T' i = T i) (hS : ∀ i q, i < 20 → q < 20 → S i = true → e i q = true → S q = true) : ∀ n i, i < 20 → S i = true → pu_B e T' n i = pu_B e T n i := by
  intro n
  induction n with
  | zero => intro i hi hs; exact hT i hi hs
  | succ n ih =>
    intro i hi hs
    refine Bool.eq_iff_iff.mpr ?_
    rw [pu_B_s, pu_B_s, ih i hi hs]
    refine or_congr Iff.rfl ⟨?_, ?_⟩
    · rintro ⟨q, q1, q2, q3⟩
      exact ⟨q, q1, q2, by rw [← ih q q1 (hS i q hi q1 hs q2)]; exact q3⟩
    · rintro ⟨q, q1, q2, q3⟩
      exact ⟨q, q1, q2, by rw [ih q q1 (hS i q hi q1 hs q2)]; exact q3⟩
theorem mg_DS (hT : ∀ i, i < 20 → S i = true → T' i = T i) (hS : ∀ i q, i < 20 → q < 20 → S i = true → e i q = true → S q = true) (n i : Nat) (hi : i < 20) (hs : S i = true) : pu_isD e T' n i = pu_isD e T n i := by
  cases n with
  | zero => exact hT i hi hs
  | succ n => rw [pu_isD, pu_isD, mg_BS hT hS _ _ hi hs, mg_BS hT hS _ _ hi hs]
theorem mg_ndS (hT : ∀ i, i < 20 → S i = true → T' i = T i) (hS : ∀ i q, i < 20 → q < 20 → S i = true → e i q = true → S q = true) {fr d : Nat} (hfr : fr < 20) (hs : S fr = true) (hd : pu_isD e T' d fr = true) : ∀ k, k ≤ d → pu_nd e T fr d k = pu_nd e T' fr d k ∧ S (pu_nd e T' fr d k) = true := by
  intro k
  induction k with
  | zero => intro _; exact ⟨rfl, hs⟩
  | succ k ih =>
    intro hk
    obtain ⟨h1, h2⟩ := ih (by omega)
    obtain ⟨n1, n2⟩ := pu_nd_k hfr hd k (by omega)
    obtain ⟨s1, s2, s3⟩ := pu_nd_s (show k < d by omega) n2
    obtain ⟨-, -, g3, -⟩ := pu_fst_some 20 0 _ s1
    rw [Bool.and_eq_true] at g3
    refine ⟨?_, hS _ _ n1 s2 h2 g3.1⟩
    show (pu_fst (fun q => e (pu_nd e T fr d k) q && pu_isD e T (d - (k + 1)) q) 20 0).getD 0 = (pu_fst (fun q => e (pu_nd e T' fr d k) q && pu_isD e T' (d - (k + 1)) q) 20 0).getD 0
    refine congrArg (fun o => Option.getD o 0) (pu_fst_c 20 0 fun q _ hq => ?_)
    rw [h1]
    cases c : e (pu_nd e T' fr d k) q with
    | false => rfl
    | true => rw [mg_DS hT hS _ q (by omega) (hS _ q n1 (by omega) h2 c)]
end
/-- a role above is within some steps -/
theorem mg_reach {d : Nat → Int32} {e : Nat → Nat → Bool} {T : Nat → Bool} (hok : pu_ok d) (he : ∀ i q, pu_E d i q → e q i = true) {x role : Nat} (h : pu_R d x role) (hx : T x = true) : ∃ n, pu_B e T n role = true := by
  have := pu_W_le (E := pu_E d) (T := fun i q => (∃ n, pu_B e T n i = true) → ∃ n, pu_B e T n q = true) (fun i h => h) (fun i q hE ⟨n, hn⟩ => ⟨n + 1, (pu_B_s n q).mpr (.inr ⟨i, hE.1, he i q hE, hn⟩)⟩) (fun i j q h1 h2 h => h2 (h1 h)) 20 x role h
  exact this ⟨0, hx⟩
/-- rows of grounds -/
def mg_c (K V : Nat → Int32) (r83 r84 r85 : Nat → Int32) (n : Nat) : Prop := r83 2 = nI n ∧ ∀ j, j < n → r84 j = K j ∧ r85 j = V j
def mg_m (K V : Nat → Int32) (r0 r88 r99 r100 : Nat → Int32) (n : Nat) : Prop := r88 23 = nI n ∧ (∀ j, j ≠ 23 → r88 j = r0 j) ∧ ∀ j, j < n → r99 j = K j ∧ r100 j = V j
theorem mg_cadd {K V : Nat → Int32} {F : Nat → Nat → Int32} {n : Nat} (h : mg_c K V (F 83) (F 84) (F 85) n) (hn : n < 62) {what which : Int32} (hk : what = K n) (hv : which = V n) : mg_c K V (fn_groundsAdd what which F).1 (fn_groundsAdd what which F).2.1 (fn_groundsAdd what which F).2.2 (n + 1) := by
  obtain ⟨h1, h2⟩ := h
  unfold fn_groundsAdd
  rw [h1, if_neg (nI_pos (by omega)), if_neg (show ¬ (62 : Int32) ≤ nI n from nI_ge (b := 62) hn (by omega)), nI_clamp (by omega), nI_1]
  show mg_c K V (upd (F 83) 2 (nI (n + 1))) (upd (F 84) n what) (upd (F 85) n which) (n + 1)
  refine ⟨pu_us, fun j hj => ?_⟩
  by_cases e : j = n
  · subst e; exact ⟨pu_us.trans hk, pu_us.trans hv⟩
  · obtain ⟨a, b⟩ := h2 j (by omega)
    exact ⟨(pu_un e).trans a, (pu_un e).trans b⟩
theorem mg_madd {K V r0 : Nat → Int32} {F : Nat → Nat → Int32} {n : Nat} (h : mg_m K V r0 (F 88) (F 99) (F 100) n) (hn : n < 64) {what which : Int32} (hk : what = K n) (hv : which = V n) : mg_m K V r0 (fn_m_groundsAdd what which F).1 (fn_m_groundsAdd what which F).2.1 (fn_m_groundsAdd what which F).2.2 (n + 1) := by
  obtain ⟨h1, h3, h2⟩ := h
  unfold fn_m_groundsAdd
  rw [h1, nI_clamp (by omega), nI_1]
  show mg_m K V r0 (upd (F 88) 23 (nI (n + 1))) (upd (F 99) n what) (upd (F 100) n which) (n + 1)
  refine ⟨pu_us, fun j hj => (pu_un hj).trans (h3 j hj), fun j hj => ?_⟩
  by_cases e : j = n
  · subst e; exact ⟨pu_us.trans hk, pu_us.trans hv⟩
  · obtain ⟨a, b⟩ := h2 j (by omega)
    exact ⟨(pu_un e).trans a, (pu_un e).trans b⟩
/-- what is lent to a user: which roles -/
theorem mg_lentC {F : Nat → Nat → Int32} {g : Nat → Nat → Int64} {L u : Nat} (hu : u < 16) (hL : L ≤ 40) (h1 : (F 11 7).toNatClampNeg = L) (hr : ∀ l, l < L → am_inb (F 14 l) 20 = true) (q : Nat) : pu_bt (fn_lentTo (nI u) F g) q = true ↔ ∃ l, l < L ∧ pu_bl (g 1 5) l = true ∧ F 13 l = nI u ∧ F 14 l = nI q ∧ q < 20 := by
  unfold fn_lentTo lf_lentTo_4
  rw [h1, pu_gather (p := fun l => pu_bl (g 1 5) l && decide (F 13 l = nI u)) (v := fun l => 1 <<< (F 14 l &&& 31)) (st_lentTo_4 (nI u) F g) L 0 (fun j x hj => by
    unfold st_lentTo_4
    rw [show fn_isStanding (nI j) g = pu_bl (g 1 5) j from pu_hasL _ (by omega)]
    cases pu_bl (g 1 5) j with
    | false => rfl
    | true =>
      by_cases c : F 13 j = nI u
      · rw [cond_true, if_pos c, decide_eq_true c]; rfl
      · rw [cond_true, if_neg c, decide_eq_false c]; rfl) q, pu_0]
  constructor
  · rintro (h | ⟨l, l1, l2, l3⟩)
    · cases h
    · rw [Bool.and_eq_true, decide_eq_true_eq] at l2
      obtain ⟨n1, n2⟩ := am_inbQ (hr l l1)
      rw [n1, pu_one _ (by omega), decide_eq_true_eq] at l3
      subst l3
      exact ⟨l, l1, l2.1, l2.2, n1, n2⟩
  · rintro ⟨l, l1, l2, l3, l4, l5⟩
    refine .inr ⟨l, l1, by rw [l2, decide_eq_true l3]; rfl, ?_⟩
    rw [l4, pu_one _ (by omega)]; simp
theorem mg_lentM {a0 : Int32} {M : Nat → Nat → Int32} {y4 : (Nat → Int32) × (Nat → Int32) × (Nat → Int32)} {L : Nat} {O : Int32} (hL : L ≤ 40) (h1 : (M 89 201).toNatClampNeg = L) (hO : (M 89 ((184 + a0).toNatClampNeg)) &&& (fn_m_allAbove (fn_m_ruleAt (M 88 24).toNatClampNeg 1 M) (am_row (am_row (am_row M 88 y4.1) 99 y4.2.1) 100 y4.2.2)) = O) (hr : ∀ l, l < L → am_inb (M 89 (210 + 7 * l + 2)) 20 = true) (h01 : ∀ l, l < L → M 96 l = 0 ∨ M 96 l = 1) : ∃ z, lf_m_groundsOf_50 a0 M y4 = .inl z ∧ (O ≠ 0 → z = O) ∧ (O = 0 → ∀ q, pu_bt z q = true ↔ ∃ l, l < L ∧ M 96 l = 1 ∧ M 89 (210 + 7 * l + 1) = a0 ∧ M 89 (210 + 7 * l + 2) = nI q ∧ q < 20) := by
  unfold lf_m_groundsOf_50
  rw [hO, h1]
  have hst : ∀ j x, st_m_groundsOf_50 a0 M y4 j x = (bif (if O = 0 then false else true) then .inr (.inl x) else .inl (x ||| (if (M 96 j) = 0 then 0 else (if M 89 (210 + 7 * j + 1) = a0 then (1 : Int32) <<< (M 89 (210 + 7 * j + 2) &&& 31) else 0)))) := fun j x => by
    unfold st_m_groundsOf_50
    rw [hO]
    rfl
  by_cases c : O = 0
  · have key := pu_forX0 (f := st_m_groundsOf_50 a0 M y4) (fun k x => ∀ q, pu_bt x q = true ↔ ∃ l, l < k ∧ M 96 l = 1 ∧ M 89 (210 + 7 * l + 1) = a0 ∧ M 89 (210 + 7 * l + 2) = nI q ∧ q < 20) (fun z => match z with
      | .inl x => ∀ q, pu_bt x q = true ↔ ∃ l, l < L ∧ M 96 l = 1 ∧ M 89 (210 + 7 * l + 1) = a0 ∧ M 89 (210 + 7 * l + 2) = nI q ∧ q < 20
      | .inr _ => False) L O (fun q => by
      rw [c, pu_0]
      exact ⟨fun h => by (cases h), fun ⟨l, l1, _⟩ => by omega⟩) (by
      intro k x hk hx
      refine .inl ⟨_, by rw [hst, if_pos c, cond_false], fun q => ?_⟩
      rw [pu_or, Bool.or_eq_true, hx q]
      have hs : (∃ l, l < k + 1 ∧ M 96 l = 1 ∧ M 89 (210 + 7 * l + 1) = a0 ∧ M 89 (210 + 7 * l + 2) = nI q ∧ q < 20) ↔ (∃ l, l < k ∧ M 96 l = 1 ∧ M 89 (210 + 7 * l + 1) = a0 ∧ M 89 (210 + 7 * l + 2) = nI q ∧ q < 20) ∨ (M 96 k = 1 ∧ M 89 (210 + 7 * k + 1) = a0 ∧ M 89 (210 + 7 * k + 2) = nI q ∧ q < 20) := by
        constructor
        · rintro ⟨l, l1, l2⟩
          by_cases e : l = k
          · subst e; exact .inr l2
          · exact .inl ⟨l, by omega, l2⟩
        · rintro (⟨l, l1, l2⟩ | h)
          · exact ⟨l, by omega, l2⟩
          · exact ⟨k, by omega, h⟩
      rw [hs]
      refine or_congr Iff.rfl ?_
      obtain ⟨n1, n2⟩ := am_inbQ (hr k hk)
      rcases h01 k hk with e | e
      · rw [if_pos e, pu_0]
        exact ⟨fun h => by (cases h), fun h => by rw [e] at h; exact absurd h.1 (by decide)⟩
      · rw [if_neg (by rw [e]; decide)]
        by_cases e2 : M 89 (210 + 7 * k + 1) = a0
        · rw [if_pos e2, n1, pu_one _ (by omega), decide_eq_true_eq]
          constructor
          · intro h; subst h; exact ⟨e, e2, rfl, n2⟩
          · rintro ⟨-, -, h3, h4⟩
            exact ((nI_eq (by omega) (by omega)).mp h3).symm
        · rw [if_neg e2, pu_0]
          exact ⟨fun h => by (cases h), fun h => absurd h.2.1 e2⟩) (fun x hx => hx)
    cases hz : am_forX (st_m_groundsOf_50 a0 M y4) L 0 O with
    | inl z => rw [hz] at key; exact ⟨z, rfl, fun h => absurd c h, fun _ => key⟩
    | inr z => rw [hz] at key; exact key.elim
  · refine ⟨O, ?_, fun _ => rfl, fun h => absurd h c⟩
    cases L with
    | zero => rfl
    | succ L => rw [am_forX_s, hst, if_neg c]; rfl
/-- what a loan rests on, and so on down -/
def mg_ch (s : Nat → Int32) (l : Nat) : Nat → Nat
  | 0 => l
  | i + 1 => (s (210 + 7 * mg_ch s l i + 5)).toNatClampNeg
theorem mg_chain {s : Nat → Int32} (hc : pu_Cln s) {L : Nat} (hL : s 201 = nI L) (hL2 : L ≤ 40) {l : Nat} (hl : l < L) : ∃ m, m ≤ l ∧ (∀ i, i ≤ m → mg_ch s l i < L) ∧ (∀ i, i < m → s (210 + 7 * mg_ch s l i + 5) = nI (mg_ch s l (i + 1))) ∧ s (210 + 7 * mg_ch s l m + 5) = -1 := by
  obtain ⟨L', l1, l2, l3, l4⟩ := hc
  have eL : L' = L := (nI_eq (by omega) (by omega)).mp (l2.symm.trans hL)
  subst eL
  have key : ∀ n l, l ≤ n → l < L' → ∃ m, m ≤ l ∧ (∀ i, i ≤ m → mg_ch s l i < L') ∧ (∀ i, i < m → s (210 + 7 * mg_ch s l i + 5) = nI (mg_ch s l (i + 1))) ∧ s (210 + 7 * mg_ch s l m + 5) = -1 := by
    intro n
    induction n with
    | zero =>
      intro l hn hl
      obtain ⟨-, -, -, -, h, -⟩ := l3 l hl
      rcases h with h | ⟨j, j1, j2⟩
      · exact ⟨0, Nat.zero_le _, fun i hi => by rw [show i = 0 by omega]; exact hl, fun i hi => absurd hi (Nat.not_lt_zero _), h⟩
      · omega
    | succ n ih =>
      intro l hn hl
      obtain ⟨-, -, -, -, h, -⟩ := l3 l hl
      rcases h with h | ⟨j, j1, j2⟩
      · exact ⟨0, Nat.zero_le _, fun i hi => by rw [show i = 0 by omega]; exact hl, fun i hi => absurd hi (Nat.not_lt_zero _), h⟩
      · have ej : (s (210 + 7 * l + 5)).toNatClampNeg = j := by rw [j2, nI_clamp (by omega)]
        have sh : ∀ i, mg_ch s l (i + 1) = mg_ch s j i := by
          intro i
          induction i with
          | zero => exact ej
          | succ i ih2 =>
            show (s (210 + 7 * mg_ch s l (i + 1) + 5)).toNatClampNeg = (s (210 + 7 * mg_ch s j i + 5)).toNatClampNeg
            rw [ih2]
        obtain ⟨m, m1, m2, m3, m4⟩ := ih j (by omega) (by omega)
        refine ⟨m + 1, by omega, fun i hi => ?_, fun i hi => ?_, ?_⟩
        · cases i with
          | zero => exact hl
          | succ i => rw [sh]; exact m2 i (by omega)
        · cases i with
          | zero =>
            rw [sh]
            exact j2
          | succ i => rw [sh, sh]; exact m3 i (by omega)
        · rw [sh]; exact m4
  exact key l l (Nat.le_refl _) hl
