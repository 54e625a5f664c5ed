/-! THE PURE LAYER: roles above roles -/
set_option linter.unusedVariables false
/-- from i to q by at most the roles below k in between -/
def pu_W (E : Nat → Nat → Prop) : Nat → Nat → Nat → Prop
  | 0, i, q => i = q ∨ E i q
  | k + 1, i, q => pu_W E k i q ∨ (pu_W E k i k ∧ pu_W E k k q)
theorem pu_W_r (E : Nat → Nat → Prop) (i : Nat) : ∀ k, pu_W E k i i := by
  intro k
  induction k with
  | zero => exact .inl rfl
  | succ k ih => exact .inl ih
theorem pu_W_e {E : Nat → Nat → Prop} {i q : Nat} (h : E i q) : ∀ k, pu_W E k i q := by
  intro k
  induction k with
  | zero => exact .inr h
  | succ k ih => exact .inl ih
theorem pu_W_t {E : Nat → Nat → Prop} : ∀ (K i m q : Nat), m < K → pu_W E K i m → pu_W E K m q → pu_W E K i q := by
  intro K
  induction K with
  | zero => intro i m q h; omega
  | succ K ih =>
    intro i m q hm h1 h2
    rcases Nat.lt_succ_iff_lt_or_eq.mp hm with h | h
    · rcases h1 with h1 | ⟨a1, a2⟩ <;> rcases h2 with h2 | ⟨b1, b2⟩
      · exact .inl (ih i m q h h1 h2)
      · exact .inr ⟨ih i m K h h1 b1, b2⟩
      · exact .inr ⟨a1, ih K m q h a2 h2⟩
      · exact .inr ⟨a1, b2⟩
    · subst h
      have g1 : pu_W E m i m := by rcases h1 with h1 | h1; exact h1; exact h1.1
      have g2 : pu_W E m m q := by rcases h2 with h2 | h2; exact h2; exact h2.2
      exact .inr ⟨g1, g2⟩
theorem pu_W_le {E T : Nat → Nat → Prop} (hr : ∀ i, T i i) (hE : ∀ i q, E i q → T i q) (ht : ∀ i j q, T i j → T j q → T i q) : ∀ (K i q : Nat), pu_W E K i q → T i q := by
  intro K
  induction K with
  | zero => intro i q h; rcases h with h | h; subst h; exact hr i; exact hE i q h
  | succ K ih => intro i q h; rcases h with h | ⟨h1, h2⟩; exact ih i q h; exact ht i K q (ih i K h1) (ih K q h2)
theorem pu_W_m {E : Nat → Nat → Prop} (i : Nat) : ∀ K, pu_W E (K + 1) i K ↔ pu_W E K i K := fun K => ⟨fun h => by rcases h with h | h; exact h; exact h.1, .inl⟩
theorem pu_W_m2 {E : Nat → Nat → Prop} (q : Nat) : ∀ K, pu_W E (K + 1) K q ↔ pu_W E K K q := fun K => ⟨fun h => by rcases h with h | h; exact h; exact h.2, .inl⟩
theorem pu_W_flip {E : Nat → Nat → Prop} : ∀ (K i q : Nat), pu_W (fun a b => E b a) K i q ↔ pu_W E K q i := by
  intro K
  induction K with
  | zero => intro i q; exact ⟨fun h => h.elim (fun h => .inl h.symm) .inr, fun h => h.elim (fun h => .inl h.symm) .inr⟩
  | succ K ih =>
    intro i q
    show (_ ∨ (_ ∧ _)) ↔ (_ ∨ (_ ∧ _))
    rw [ih, ih, ih]
    exact ⟨fun h => h.elim .inl (fun h => .inr ⟨h.2, h.1⟩), fun h => h.elim .inl (fun h => .inr ⟨h.2, h.1⟩)⟩
/-- the pairs as told: bit q of row r -/
def pu_E (d : Nat → Int32) (r q : Nat) : Prop := r < 20 ∧ pu_bt (d r) q = true
/-- itself and all that is below -/
def pu_R (d : Nat → Int32) (r q : Nat) : Prop := pu_W (pu_E d) 20 r q
/-- rows of pairs: only roles -/
def pu_ok (d : Nat → Int32) : Prop := ∀ r, r < 20 → ∀ q, 20 ≤ q → pu_bt (d r) q = false
theorem pu_E_lt {d : Nat → Int32} (h : pu_ok d) {r q : Nat} (e : pu_E d r q) : r < 20 ∧ q < 20 := by
  refine ⟨e.1, Nat.lt_of_not_le fun hq => ?_⟩
  have e2 := e.2
  rw [h r e.1 q hq] at e2
  cases e2
theorem pu_R_r (d : Nat → Int32) (r : Nat) : pu_R d r r := pu_W_r _ r 20
theorem pu_R_e {d : Nat → Int32} {r q : Nat} (h : pu_E d r q) : pu_R d r q := pu_W_e h 20
theorem pu_W_lt {E : Nat → Nat → Prop} (hE : ∀ r q, E r q → r < 20 ∧ q < 20) (K i q : Nat) (h : pu_W E K i q) : i = q ∨ (i < 20 ∧ q < 20) := by
  refine pu_W_le (T := fun i q => i = q ∨ (i < 20 ∧ q < 20)) (fun i => .inl rfl) (fun i q e => .inr (hE i q e)) (fun i j q h1 h2 => ?_) K i q h
  rcases h1 with h1 | h1 <;> rcases h2 with h2 | h2
  · exact .inl (h1.trans h2)
  · subst h1; exact .inr h2
  · subst h2; exact .inr h1
  · exact .inr ⟨h1.1, h2.2⟩
theorem pu_R_lt {d : Nat → Int32} (hd : pu_ok d) {i q : Nat} (h : pu_R d i q) : i = q ∨ (i < 20 ∧ q < 20) := pu_W_lt (fun _ _ e => pu_E_lt hd e) 20 i q h
theorem pu_R_t {d : Nat → Int32} (hd : pu_ok d) {i m q : Nat} (h1 : pu_R d i m) (h2 : pu_R d m q) : pu_R d i q := by
  rcases pu_R_lt hd h1 with h | h
  · subst h; exact h2
  · exact pu_W_t 20 i m q h.2 h1 h2
/-- a row of closures: bit q of row r says whether q is r or below -/
def pu_CL (d c : Nat → Int32) : Prop := ∀ r, r < 20 → ∀ q, q < 32 → (pu_bt (c r) q = true ↔ pu_R d r q)
/-- the same, upwards -/
def pu_CU (d c : Nat → Int32) : Prop := ∀ r, r < 20 → ∀ q, q < 32 → (pu_bt (c r) q = true ↔ pu_R d q r)
theorem pu_CL_eq {d c c' : Nat → Int32} (h : pu_CL d c) (h' : pu_CL d c') {r : Nat} (hr : r < 20) : c r = c' r := by
  refine pu_ext fun i hi => ?_
  have a := h r hr i hi
  have b := h' r hr i hi
  exact Bool.eq_iff_iff.mpr (a.trans b.symm)
theorem pu_R_congr {d d' : Nat → Int32} (h : ∀ r, r < 20 → d r = d' r) {i q : Nat} : pu_R d i q ↔ pu_R d' i q := by
  have e : pu_E d = pu_E d' := by
    funext r q
    unfold pu_E
    by_cases hr : r < 20
    · rw [h r hr]
    · simp [hr]
  unfold pu_R; rw [e]
/-- one stage in place: row i takes row k in, if it has k -/
theorem pu_stage {E : Nat → Nat → Prop} (K : Nat) (hK : K < 20) (g : Nat → (Nat → Int32) → (Nat → Int32)) (hg : ∀ i r, i < 20 → g i r = if pu_bt (r i) K then upd r i (r i ||| r K) else r) (r : Nat → Int32) (hr : ∀ i, i < 20 → ∀ q, q < 32 → (pu_bt (r i) q = true ↔ pu_W E K i q)) : ∀ i, i < 20 → ∀ q, q < 32 → (pu_bt ((am_for g 20 0 r) i) q = true ↔ pu_W E (K + 1) i q) := by
  have h := pu_for0 (f := g) (fun k x => (∀ i, k ≤ i → i < 20 → x i = r i) ∧ (∀ q, q < 32 → (pu_bt (x K) q = true ↔ pu_W E K K q)) ∧ ∀ i, i < k → i < 20 → ∀ q, q < 32 → (pu_bt (x i) q = true ↔ pu_W E (K + 1) i q)) 20 r ⟨fun i _ _ => rfl, fun q hq => hr K hK q hq, fun i hi => by omega⟩ (fun k x hk ⟨h1, h2, h3⟩ => by
    rw [hg k x hk]
    have hb : ∀ q, q < 32 → (pu_bt (x k) q = true ↔ pu_W E K k q) := fun q hq => by rw [h1 k (Nat.le_refl _) hk]; exact hr k hk q hq
    cases c : pu_bt (x k) K with
    | false =>
      rw [if_neg (by simp)]
      refine ⟨fun i hi h20 => h1 i (by omega) h20, h2, fun i hi h20 q hq => ?_⟩
      rcases Nat.lt_succ_iff_lt_or_eq.mp hi with h | h
      · exact h3 i h h20 q hq
      · subst h
        rw [hb q hq]
        refine ⟨.inl, fun w => ?_⟩
        rcases w with w | w
        · exact w
        · rw [← hb K (by omega), c] at w; cases w.1
    | true =>
      rw [if_pos rfl]
      refine ⟨fun i hi h20 => ?_, fun q hq => ?_, fun i hi h20 q hq => ?_⟩
      · rw [pu_un (by omega)]; exact h1 i (by omega) h20
      · by_cases e : K = k
        · subst e
          rw [pu_us, pu_or, Bool.or_self]; exact h2 q hq
        · rw [pu_un e]; exact h2 q hq
      · rcases Nat.lt_succ_iff_lt_or_eq.mp hi with h | h
        · rw [pu_un (by omega)]; exact h3 i h h20 q hq
        · subst h
          rw [pu_us, pu_or, Bool.or_eq_true, hb q hq, h2 q hq]
          constructor
          · rintro (w | w)
            · exact .inl w
            · exact .inr ⟨(hb K (by omega)).mp c, w⟩
          · rintro (w | w)
            · exact .inl w
            · exact .inr w.2)
  exact fun i hi q hq => h.2.2 i hi hi q hq
theorem pu_close_in (f : Nat → Nat → Int32) (K : Nat) (a b : Nat → Int32) : lf_close_56 K a b = (am_for (fun i r => if pu_bt (r i) K then upd r i (r i ||| r K) else r) 20 0 a, am_for (fun i r => if pu_bt (r i) K then upd r i (r i ||| r K) else r) 20 0 b) ∨ 32 ≤ K := by
  rcases Nat.lt_or_ge K 32 with hK | hK
  · refine .inl ?_
    unfold lf_close_56
    have key : ∀ (n i : Nat) (a b : Nat → Int32), am_for (st_close_56 K) n i (a, b) = (am_for (fun i r => if pu_bt (r i) K then upd r i (r i ||| r K) else r) n i a, am_for (fun i r => if pu_bt (r i) K then upd r i (r i ||| r K) else r) n i b) := by
      intro n
      induction n with
      | zero => intro i a b; rfl
      | succ n ih =>
        intro i a b
        show am_for (st_close_56 K) n (i + 1) (st_close_56 K i (a, b)) = _
        have e : st_close_56 K i (a, b) = (if pu_bt (a i) K then upd a i (a i ||| a K) else a, if pu_bt (b i) K then upd b i (b i ||| b K) else b) := by
          unfold st_close_56
          simp only
          rw [pu_has _ hK, pu_has _ hK]
          cases pu_bt (a i) K <;> cases pu_bt (b i) K <;> rfl
        rw [e, ih]
        rfl
    exact key 20 0 a b
  · exact .inr hK
theorem pu_close_W {E E' : Nat → Nat → Prop} (a b : Nat → Int32) (ha : ∀ i, i < 20 → ∀ q, q < 32 → (pu_bt (a i) q = true ↔ pu_W E 0 i q)) (hb : ∀ i, i < 20 → ∀ q, q < 32 → (pu_bt (b i) q = true ↔ pu_W E' 0 i q)) : (∀ i, i < 20 → ∀ q, q < 32 → (pu_bt ((lf_close_48 (a, b)).1 i) q = true ↔ pu_W E 20 i q)) ∧ (∀ i, i < 20 → ∀ q, q < 32 → (pu_bt ((lf_close_48 (a, b)).2 i) q = true ↔ pu_W E' 20 i q)) := by
  unfold lf_close_48
  exact pu_for0 (f := st_close_48) (fun K z => (∀ i, i < 20 → ∀ q, q < 32 → (pu_bt (z.1 i) q = true ↔ pu_W E K i q)) ∧ (∀ i, i < 20 → ∀ q, q < 32 → (pu_bt (z.2 i) q = true ↔ pu_W E' K i q))) 20 (a, b) ⟨ha, hb⟩ (fun K z hK ⟨h1, h2⟩ => by
    obtain ⟨x, y⟩ := z
    unfold st_close_48
    simp only
    rcases pu_close_in (fun _ _ => 0) K x y with e | e
    · rw [e]
      exact ⟨pu_stage K hK _ (fun _ _ _ => rfl) x h1, pu_stage K hK _ (fun _ _ _ => rfl) y h2⟩
    · omega)
/-- the class's closures -/
theorem pu_close (f : Nat → Nat → Int32) (hf : pu_ok (f 4)) (hu : ∀ r, r < 20 → ∀ q, q < 32 → (pu_bt (f 5 r) q = true ↔ pu_E (f 4) q r)) : pu_CL (f 4) (fn_close f).1 ∧ pu_CU (f 4) (fn_close f).2 := by
  have h0 : (∀ i, i < 20 → (lf_close_2 f).1 i = (f 4 i) ||| (1 <<< ((nI i) &&& 31))) ∧ (∀ i, i < 20 → (lf_close_2 f).2 i = (f 5 i) ||| (1 <<< ((nI i) &&& 31))) := by
    unfold lf_close_2
    have h := pu_for0 (f := st_close_2 f) (fun K z => (∀ i, i < K → z.1 i = (f 4 i) ||| (1 <<< ((nI i) &&& 31))) ∧ (∀ i, i < K → z.2 i = (f 5 i) ||| (1 <<< ((nI i) &&& 31)))) 20 (f 6, f 7) ⟨fun i hi => by omega, fun i hi => by omega⟩ (fun K z hK ⟨h1, h2⟩ => by
      obtain ⟨x, y⟩ := z
      unfold st_close_2
      simp only
      refine ⟨fun i hi => ?_, fun i hi => ?_⟩
      · by_cases e : i = K
        · subst e; exact pu_us
        · rw [pu_un e]; exact h1 i (by omega)
      · by_cases e : i = K
        · subst e; exact pu_us
        · rw [pu_un e]; exact h2 i (by omega))
    exact ⟨fun i hi => h.1 i hi, fun i hi => h.2 i hi⟩
  have hw := pu_close_W (E := pu_E (f 4)) (E' := fun a b => pu_E (f 4) b a) (lf_close_2 f).1 (lf_close_2 f).2 (fun i hi q hq => by
    rw [h0.1 i hi, pu_or, pu_one i (by omega), Bool.or_eq_true, decide_eq_true_eq]
    constructor
    · rintro (h | h)
      · exact .inr ⟨hi, h⟩
      · exact .inl h.symm
    · rintro (h | h)
      · exact .inr h.symm
      · exact .inl h.2) (fun i hi q hq => by
    rw [h0.2 i hi, pu_or, pu_one i (by omega), Bool.or_eq_true, decide_eq_true_eq, hu i hi q hq]
    constructor
    · rintro (h | h)
      · exact .inr h
      · exact .inl h.symm
    · rintro (h | h)
      · exact .inr h.symm
      · exact .inl h)
  refine ⟨fun r hr q hq => ?_, fun r hr q hq => ?_⟩
  · exact hw.1 r hr q hq
  · exact (hw.2 r hr q hq).trans (pu_W_flip 20 r q)
