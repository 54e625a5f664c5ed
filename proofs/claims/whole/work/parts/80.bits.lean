/-! THE PURE LAYER: bits (began from the kit's bits to paste) and loops -/
set_option linter.unusedVariables false
def pu_bt (x : Int32) (i : Nat) : Bool := x.toBitVec.getLsbD i
theorem pu_ext {x y : Int32} (h : ∀ i, i < 32 → pu_bt x i = pu_bt y i) : x = y := Int32.toBitVec_inj.mp (BitVec.eq_of_getLsbD_eq (fun i hi => h i hi))
theorem pu_or (x y : Int32) (i : Nat) : pu_bt (x ||| y) i = (pu_bt x i || pu_bt y i) := by unfold pu_bt; rw [Int32.toBitVec_or, BitVec.getLsbD_or]
theorem pu_and (x y : Int32) (i : Nat) : pu_bt (x &&& y) i = (pu_bt x i && pu_bt y i) := by unfold pu_bt; rw [Int32.toBitVec_and, BitVec.getLsbD_and]
theorem pu_xor (x y : Int32) (i : Nat) : pu_bt (x ^^^ y) i = (pu_bt x i ^^ pu_bt y i) := by unfold pu_bt; rw [Int32.toBitVec_xor, BitVec.getLsbD_xor]
theorem pu_big {x : Int32} {i : Nat} (h : 32 ≤ i) : pu_bt x i = false := BitVec.getLsbD_of_ge _ _ h
theorem pu_m1 : ∀ i, i < 32 → pu_bt (-1) i = true := by decide +kernel
theorem pu_0 (i : Nat) : pu_bt 0 i = false := BitVec.getLsbD_zero
theorem pu_1 (i : Nat) : pu_bt 1 i = decide (i = 0) := by
  rcases Nat.lt_or_ge i 32 with h | h
  · exact (by decide +kernel : ∀ i, i < 32 → pu_bt 1 i = decide (i = 0)) i h
  · rw [pu_big h, decide_eq_false (by omega)]
theorem pu_sl : ∀ n, n < 32 → ((nI n &&& 31).toBitVec.smod 32).toNat = n := by decide +kernel
theorem pu_shl (n : Nat) (hn : n < 32) (x : Int32) {i : Nat} (hi : i < 32) : pu_bt (x <<< (nI n &&& 31)) i = (decide (n ≤ i) && pu_bt x (i - n)) := by
  unfold pu_bt
  rw [Int32.toBitVec_shiftLeft]
  show (x.toBitVec <<< ((nI n &&& 31).toBitVec.smod 32).toNat).getLsbD i = _
  rw [pu_sl n hn, BitVec.getLsbD_shiftLeft]
  rcases Nat.lt_or_ge i n with h | h
  · simp [h, Nat.not_le.mpr h]
  · simp [hi, h, Nat.not_lt.mpr h]
theorem pu_sshr (n : Nat) (hn : n < 32) (x : Int32) {i : Nat} (hi : i < 32) : pu_bt (x >>> (nI n &&& 31)) i = if n + i < 32 then pu_bt x (n + i) else pu_bt x 31 := by
  unfold pu_bt
  rw [Int32.toBitVec_shiftRight]
  show (x.toBitVec.sshiftRight ((nI n &&& 31).toBitVec.smod 32).toNat).getLsbD i = _
  rw [pu_sl n hn, BitVec.getLsbD_sshiftRight, BitVec.msb_eq_getLsbD_last]
  simp [hi]
/-- one bit -/
theorem pu_one (n : Nat) (hn : n < 32) (i : Nat) : pu_bt (1 <<< (nI n &&& 31)) i = decide (i = n) := by
  rcases Nat.lt_or_ge i 32 with h | h
  · rw [pu_shl n hn 1 h, pu_1]
    rcases Nat.lt_trichotomy i n with c | c | c
    · rw [decide_eq_false (show ¬ n ≤ i by omega), decide_eq_false (show ¬ i = n by omega)]; rfl
    · subst c; simp
    · rw [decide_eq_false (show ¬ i - n = 0 by omega), decide_eq_false (show ¬ i = n by omega), Bool.and_false]
  · rw [pu_big h, decide_eq_false (by omega)]
theorem pu_not (x : Int32) {i : Nat} (hi : i < 32) : pu_bt (x ^^^ (-1)) i = !pu_bt x i := by
  rw [pu_xor, pu_m1 i hi, Bool.xor_true]
theorem pu_and1 (x : Int32) : x &&& 1 = if pu_bt x 0 then 1 else 0 := by
  refine pu_ext fun i hi => ?_
  rw [pu_and, pu_1]
  by_cases c : i = 0
  · subst c
    cases h : pu_bt x 0 <;> simp [pu_0, pu_1]
  · rw [decide_eq_false c, Bool.and_false]
    cases h : pu_bt x 0 <;> simp [pu_0, pu_1, c]
theorem pu_has (x : Int32) {i : Nat} (hi : i < 32) : fn_has x (nI i) = pu_bt x i := by
  unfold fn_has
  rw [pu_and1, pu_sshr i hi x (by omega), Nat.add_zero, if_pos hi]
  cases pu_bt x i <;> rfl
theorem pu_mhas (x : Int32) {i : Nat} (hi : i < 32) : fn_m_has x (nI i) = pu_bt x i := by
  unfold fn_m_has
  rw [pu_and1, pu_sshr i hi x (by omega), Nat.add_zero, if_pos hi]
  cases pu_bt x i <;> rfl
theorem pu_hm (x y : Int32) : fn_has x y = fn_m_has x y := by
  unfold fn_has fn_m_has
  rw [pu_and1]
  cases pu_bt (x >>> (y &&& 31)) 0 <;> rfl
theorem pu_zero {x : Int32} : x = 0 ↔ ∀ i, i < 32 → pu_bt x i = false := by
  constructor
  · intro h i _; rw [h, pu_0]
  · intro h; exact pu_ext fun i hi => by rw [h i hi, pu_0]
/-! longs -/
def pu_bl (x : Int64) (i : Nat) : Bool := x.toBitVec.getLsbD i
theorem pu_orL (x y : Int64) (i : Nat) : pu_bl (x ||| y) i = (pu_bl x i || pu_bl y i) := by unfold pu_bl; rw [Int64.toBitVec_or, BitVec.getLsbD_or]
theorem pu_andL (x y : Int64) (i : Nat) : pu_bl (x &&& y) i = (pu_bl x i && pu_bl y i) := by unfold pu_bl; rw [Int64.toBitVec_and, BitVec.getLsbD_and]
theorem pu_extL {x y : Int64} (h : ∀ i, i < 64 → pu_bl x i = pu_bl y i) : x = y := Int64.toBitVec_inj.mp (BitVec.eq_of_getLsbD_eq (fun i hi => h i hi))
theorem pu_bigL {x : Int64} {i : Nat} (h : 64 ≤ i) : pu_bl x i = false := BitVec.getLsbD_of_ge _ _ h
theorem pu_0L (i : Nat) : pu_bl 0 i = false := BitVec.getLsbD_zero
theorem pu_1L (i : Nat) : pu_bl 1 i = decide (i = 0) := by
  rcases Nat.lt_or_ge i 64 with h | h
  · exact (by decide +kernel : ∀ i, i < 64 → pu_bl 1 i = decide (i = 0)) i h
  · rw [pu_bigL h, decide_eq_false (by omega)]
theorem pu_slL : ∀ n, n < 64 → (((nI n).toInt64 &&& 63).toBitVec.smod 64).toNat = n := by decide +kernel
theorem pu_oneL (n : Nat) (hn : n < 64) (i : Nat) : pu_bl ((1 : Int64) <<< ((nI n).toInt64 &&& 63)) i = decide (i = n) := by
  rcases Nat.lt_or_ge i 64 with h | h
  · unfold pu_bl
    rw [Int64.toBitVec_shiftLeft]
    show ((1 : Int64).toBitVec <<< (((nI n).toInt64 &&& 63).toBitVec.smod 64).toNat).getLsbD i = _
    rw [pu_slL n hn, BitVec.getLsbD_shiftLeft]
    have e := pu_1L (i - n)
    unfold pu_bl at e
    rw [e]
    rcases Nat.lt_trichotomy i n with c | c | c
    · simp [c, show ¬ i = n by omega]
    · subst c; simp [h]
    · rw [decide_eq_false (show ¬ i - n = 0 by omega), decide_eq_false (show ¬ i = n by omega), Bool.and_false]
  · rw [pu_bigL h, decide_eq_false (by omega)]
theorem pu_and1L (x : Int64) : x &&& 1 = if pu_bl x 0 then 1 else 0 := by
  refine pu_extL fun i hi => ?_
  rw [pu_andL, pu_1L]
  by_cases c : i = 0
  · subst c
    cases h : pu_bl x 0 <;> simp [pu_0L, pu_1L]
  · rw [decide_eq_false c, Bool.and_false]
    cases h : pu_bl x 0 <;> simp [pu_0L, pu_1L, c]
theorem pu_sshrL (n : Nat) (hn : n < 64) (x : Int64) : pu_bl (x >>> ((nI n).toInt64 &&& 63)) 0 = pu_bl x n := by
  unfold pu_bl
  rw [Int64.toBitVec_shiftRight]
  show (x.toBitVec.sshiftRight (((nI n).toInt64 &&& 63).toBitVec.smod 64).toNat).getLsbD 0 = _
  rw [pu_slL n hn, BitVec.getLsbD_sshiftRight]
  simp [hn]
theorem pu_hasL (x : Int64) {i : Nat} (hi : i < 64) : fn_hasLong x (nI i) = pu_bl x i := by
  unfold fn_hasLong
  rw [pu_and1L, pu_sshrL i hi x]
  cases pu_bl x i <;> rfl
/-! places in a row -/
theorem pu_us {f : Nat → Int32} {k : Nat} {x : Int32} : upd f k x k = x := by unfold upd; rw [if_pos rfl]
theorem pu_un {f : Nat → Int32} {k j : Nat} {x : Int32} (h : j ≠ k) : upd f k x j = f j := by unfold upd; rw [if_neg h]
theorem pu_u {f : Nat → Int32} {k j : Nat} {x : Int32} : upd f k x j = if j = k then x else f j := rfl
theorem pu_uid (f : Nat → Int32) (k : Nat) : upd f k (f k) = f := by
  funext j; unfold upd; by_cases h : j = k
  · rw [if_pos h, h]
  · rw [if_neg h]
theorem pu_uu {f : Nat → Int32} {k : Nat} {x y : Int32} : upd (upd f k x) k y = upd f k y := by
  funext j; unfold upd; by_cases h : j = k
  · rw [if_pos h, if_pos h]
  · rw [if_neg h, if_neg h, if_neg h]
/-! loops -/
theorem pu_for {α : Type} {f : Nat → α → α} (P : Nat → α → Prop) : ∀ (n i : Nat) (a : α), P i a → (∀ j x, i ≤ j → j < i + n → P j x → P (j + 1) (f j x)) → P (i + n) (am_for f n i a) := by
  intro n
  induction n with
  | zero => intro i a h _; exact h
  | succ n ih =>
    intro i a h hs
    have h1 := ih (i + 1) (f i a) (hs i a (Nat.le_refl _) (by omega) h) (fun j x h1 h2 => hs j x (by omega) (by omega))
    rw [show i + (n + 1) = i + 1 + n by omega]
    exact h1
theorem pu_for0 {α : Type} {f : Nat → α → α} (P : Nat → α → Prop) (n : Nat) (a : α) (h : P 0 a) (hs : ∀ j x, j < n → P j x → P (j + 1) (f j x)) : P n (am_for f n 0 a) := by
  have := pu_for P n 0 a h (fun j x _ h2 => hs j x (by omega))
  rwa [Nat.zero_add] at this
theorem pu_for2 {α β : Type} {f : Nat → α → α} {g : Nat → β → β} (P : Nat → α → β → Prop) : ∀ (n i : Nat) (a : α) (b : β), P i a b → (∀ j x y, i ≤ j → j < i + n → P j x y → P (j + 1) (f j x) (g j y)) → P (i + n) (am_for f n i a) (am_for g n i b) := by
  intro n
  induction n with
  | zero => intro i a b h _; exact h
  | succ n ih =>
    intro i a b h hs
    have h1 := ih (i + 1) (f i a) (g i b) (hs i a b (Nat.le_refl _) (by omega) h) (fun j x y h1 h2 => hs j x y (by omega) (by omega))
    rw [show i + (n + 1) = i + 1 + n by omega]
    exact h1
theorem pu_for20 {α β : Type} {f : Nat → α → α} {g : Nat → β → β} (P : Nat → α → β → Prop) (n : Nat) (a : α) (b : β) (h : P 0 a b) (hs : ∀ j x y, j < n → P j x y → P (j + 1) (f j x) (g j y)) : P n (am_for f n 0 a) (am_for g n 0 b) := by
  have := pu_for2 P n 0 a b h (fun j x y _ h2 => hs j x y (by omega))
  rwa [Nat.zero_add] at this
theorem pu_forC {α : Type} {f g : Nat → α → α} (n : Nat) (a : α) (hs : ∀ j x, j < n → f j x = g j x) : am_for f n 0 a = am_for g n 0 a :=
  pu_for20 (fun _ x y => x = y) n a a rfl (fun j x y hj h => by subst h; exact hs j x hj)
/-- a loop that may break off or answer: P along the way, Q at a break, R at an answer -/
theorem pu_forX {α β : Type} {f : Nat → α → α ⊕ (α ⊕ β)} (P : Nat → α → Prop) (Q : α ⊕ β → Prop) : ∀ (n i : Nat) (a : α), P i a → (∀ j x, i ≤ j → j < i + n → P j x → (∃ y, f j x = .inl y ∧ P (j + 1) y) ∨ (∃ z, f j x = .inr z ∧ Q z)) → (∀ x, P (i + n) x → Q (.inl x)) → Q (am_forX f n i a) := by
  intro n
  induction n with
  | zero => intro i a h _ he; exact he a h
  | succ n ih =>
    intro i a h hs he
    rw [am_forX_s]
    rcases hs i a (Nat.le_refl _) (by omega) h with ⟨y, h1, h2⟩ | ⟨z, h1, h2⟩
    · rw [h1]
      exact ih (i + 1) y h2 (fun j x h1 h2 => hs j x (by omega) (by omega)) (fun x hx => he x (by rwa [show i + (n + 1) = i + 1 + n by omega]))
    · rw [h1]
      exact h2
theorem pu_forX0 {α β : Type} {f : Nat → α → α ⊕ (α ⊕ β)} (P : Nat → α → Prop) (Q : α ⊕ β → Prop) (n : Nat) (a : α) (h : P 0 a) (hs : ∀ j x, j < n → P j x → (∃ y, f j x = .inl y ∧ P (j + 1) y) ∨ (∃ z, f j x = .inr z ∧ Q z)) (he : ∀ x, P n x → Q (.inl x)) : Q (am_forX f n 0 a) :=
  pu_forX P Q n 0 a h (fun j x _ h2 => hs j x (by omega)) (fun x hx => he x (by rwa [Nat.zero_add] at hx))
theorem pu_forXC {α β : Type} {f g : Nat → α → α ⊕ (α ⊕ β)} : ∀ (n i : Nat) (a : α), (∀ j x, i ≤ j → j < i + n → f j x = g j x) → am_forX f n i a = am_forX g n i a := by
  intro n
  induction n with
  | zero => intro i a _; rfl
  | succ n ih =>
    intro i a h
    rw [am_forX_s, am_forX_s, h i a (Nat.le_refl _) (by omega)]
    cases g i a with
    | inl y => exact ih (i + 1) y (fun j x h1 h2 => h j x (by omega) (by omega))
    | inr z => rfl
/-- with checks: it goes through -/
theorem pu_forO {α β : Type} {f : Nat → α → Option (α ⊕ (α ⊕ β))} (P : Nat → α → Prop) (Q : α ⊕ β → Prop) : ∀ (n i : Nat) (a : α), P i a → (∀ j x, i ≤ j → j < i + n → P j x → (∃ y, f j x = some (.inl y) ∧ P (j + 1) y) ∨ (∃ z, f j x = some (.inr z) ∧ Q z)) → (∀ x, P (i + n) x → Q (.inl x)) → ∃ z, am_forO f n i a = some z ∧ Q z := by
  intro n
  induction n with
  | zero => intro i a h _ he; exact ⟨_, rfl, he a h⟩
  | succ n ih =>
    intro i a h hs he
    rw [am_forO_s]
    rcases hs i a (Nat.le_refl _) (by omega) h with ⟨y, h1, h2⟩ | ⟨z, h1, h2⟩
    · rw [h1]
      exact ih (i + 1) y h2 (fun j x h1 h2 => hs j x (by omega) (by omega)) (fun x hx => he x (by rwa [show i + (n + 1) = i + 1 + n by omega]))
    · rw [h1]
      exact ⟨z, rfl, h2⟩
theorem pu_forO0 {α β : Type} {f : Nat → α → Option (α ⊕ (α ⊕ β))} (P : Nat → α → Prop) (Q : α ⊕ β → Prop) (n : Nat) (a : α) (h : P 0 a) (hs : ∀ j x, j < n → P j x → (∃ y, f j x = some (.inl y) ∧ P (j + 1) y) ∨ (∃ z, f j x = some (.inr z) ∧ Q z)) (he : ∀ x, P n x → Q (.inl x)) : ∃ z, am_forO f n 0 a = some z ∧ Q z :=
  pu_forO P Q n 0 a h (fun j x _ h2 => hs j x (by omega)) (fun x hx => he x (by rwa [Nat.zero_add] at hx))
/-- a while loop: by a measure that falls -/
theorem pu_while {α β : Type} {st : α → Option (α ⊕ (α ⊕ β))} (P : α → Prop) (μ : α → Nat) (Q : α ⊕ β → Prop) (hs : ∀ x, P x → (∃ y, st x = some (.inl y) ∧ P y ∧ μ y < μ x) ∨ (∃ z, st x = some (.inr z) ∧ Q z)) (a : α) (h : P a) : ∃ z, am_while st a = some z ∧ Q z := by
  have key : ∀ (m : Nat) (x : α), μ x ≤ m → P x → ∃ n z, am_wh st n x = some z ∧ Q z := by
    intro m
    induction m with
    | zero =>
      intro x hm hx
      rcases hs x hx with ⟨y, _, _, h3⟩ | ⟨z, h1, h2⟩
      · omega
      · exact ⟨1, z, by rw [am_wh_s, h1]; rfl, h2⟩
    | succ m ih =>
      intro x hm hx
      rcases hs x hx with ⟨y, h1, h2, h3⟩ | ⟨z, h1, h2⟩
      · obtain ⟨n, z, g1, g2⟩ := ih y (by omega) h2
        exact ⟨n + 1, z, by rw [am_wh_s, h1]; exact g1, g2⟩
      · exact ⟨1, z, by rw [am_wh_s, h1]; rfl, h2⟩
  obtain ⟨n, z, h1, h2⟩ := key (μ a) a (Nat.le_refl _) h
  exact ⟨z, am_while_of h1, h2⟩
/-- a bit gathered by a loop -/
theorem pu_gather {p : Nat → Bool} {v : Nat → Int32} (f : Nat → Int32 → Int32) (n : Nat) (a : Int32) (hf : ∀ j x, j < n → f j x = if p j then x ||| v j else x) (i : Nat) : pu_bt (am_for f n 0 a) i = true ↔ pu_bt a i = true ∨ ∃ j, j < n ∧ p j = true ∧ pu_bt (v j) i = true := by
  refine pu_for0 (fun k x => pu_bt x i = true ↔ pu_bt a i = true ∨ ∃ j, j < k ∧ p j = true ∧ pu_bt (v j) i = true) n a ?_ ?_
  · constructor
    · exact fun h => .inl h
    · rintro (h | ⟨j, hj, _⟩)
      · exact h
      · omega
  · intro k x hk ih
    rw [hf k x hk]
    have step : (∃ j, j < k + 1 ∧ p j = true ∧ pu_bt (v j) i = true) ↔ (∃ j, j < k ∧ p j = true ∧ pu_bt (v j) i = true) ∨ (p k = true ∧ pu_bt (v k) i = true) := by
      constructor
      · rintro ⟨j, h1, h2⟩
        rcases Nat.lt_succ_iff_lt_or_eq.mp h1 with h | h
        · exact .inl ⟨j, h, h2⟩
        · subst h; exact .inr h2
      · rintro (⟨j, h1, h2⟩ | h)
        · exact ⟨j, by omega, h2⟩
        · exact ⟨k, by omega, h⟩
    rw [step, ← or_assoc, ← ih]
    cases hp : p k with
    | true =>
      rw [if_pos rfl, pu_or, Bool.or_eq_true]
      simp
    | false =>
      rw [if_neg (by simp)]
      simp
