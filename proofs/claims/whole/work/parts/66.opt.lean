/-! rules for methods that are walked with checks -/
noncomputable def am_chk {α : Type} (P : Prop) (a : Option α) : Option α := @ite _ P (Classical.propDecidable P) a none
theorem am_chk_p {α : Type} {P : Prop} {a : Option α} (h : P) : am_chk P a = a := by unfold am_chk; exact if_pos h
theorem am_chk_n {α : Type} {P : Prop} {a : Option α} (h : ¬ P) : am_chk P a = none := by unfold am_chk; exact if_neg h
theorem am_chk_e {α : Type} {K : Option α → Prop} {P : Prop} {a : Option α} (hKn : ¬ K none) (hK : K (am_chk P a)) : P ∧ K a := by
  by_cases h : P
  · rw [am_chk_p h] at hK; exact ⟨h, hK⟩
  · rw [am_chk_n h] at hK; exact absurd hK hKn
def am_ob {α β : Type} (x : Option α) (k : α → Option β) : Option β := match x with
  | none => none
  | some a => k a
theorem am_ob_s {α β : Type} (a : α) (k : α → Option β) : am_ob (some a) k = k a := rfl
theorem am_ob_e {α β : Type} {K : Option β → Prop} {x : Option α} {k : α → Option β} (hKn : ¬ K none) (hK : K (am_ob x k)) : ∃ y, x = some y ∧ K (k y) := by
  cases x with
  | none => exact absurd hK hKn
  | some y => exact ⟨y, rfl, hK⟩
def am_KO {α : Type} (P : α → Prop) : Option α → Prop
  | none => False
  | some z => P z
theorem am_KO_s {α : Type} {P : α → Prop} {z : α} (h : am_KO P (some z)) : P z := h
def am_whn {α β : Type} (k : α → Option (α ⊕ β)) : Option (α ⊕ (α ⊕ β)) → Option (α ⊕ β)
  | none => none
  | some (.inl a) => k a
  | some (.inr z) => some z
theorem am_KO_r {α β : Type} {A : α → Prop} {B : β → Prop} {k : α → Option (α ⊕ β)} {z : β} (h : am_KO (am_KX A B) (am_whn k (some (.inr (.inr z))))) : B z := h
def am_wh {α β : Type} (st : α → Option (α ⊕ (α ⊕ β))) : Nat → α → Option (α ⊕ β)
  | 0, _ => none
  | n + 1, a => am_whn (am_wh st n) (st a)
theorem am_wh_s {α β : Type} (st : α → Option (α ⊕ (α ⊕ β))) (n : Nat) (a : α) : am_wh st (n + 1) a = am_whn (am_wh st n) (st a) := rfl
theorem am_wh_le {α β : Type} {st : α → Option (α ⊕ (α ⊕ β))} : ∀ (n m : Nat) (a : α) (z : α ⊕ β), n ≤ m → am_wh st n a = some z → am_wh st m a = some z := by
  intro n
  induction n with
  | zero => intro m a z _ h; cases h
  | succ n ih =>
    intro m a z hm h
    obtain ⟨k, rfl⟩ : ∃ k, m = k + 1 := ⟨m - 1, by omega⟩
    rw [am_wh_s] at h ⊢
    cases h1 : st a with
    | none => rw [h1] at h; cases h
    | some y =>
      rw [h1] at h
      cases y with
      | inl a' => exact ih k a' z (by omega) h
      | inr z' => exact h
noncomputable def am_while {α β : Type} (st : α → Option (α ⊕ (α ⊕ β))) (a : α) : Option (α ⊕ β) := @dite _ (∃ z, ∃ n, am_wh st n a = some z) (Classical.propDecidable _) (fun h => some (Classical.choose h)) (fun _ => none)
theorem am_while_s {α β : Type} {st : α → Option (α ⊕ (α ⊕ β))} {a : α} {z : α ⊕ β} (h : am_while st a = some z) : ∃ n, am_wh st n a = some z := by
  unfold am_while at h
  by_cases c : ∃ z, ∃ n, am_wh st n a = some z
  · rw [dif_pos c] at h
    cases h
    exact Classical.choose_spec c
  · rw [dif_neg c] at h; cases h
theorem am_while_of {α β : Type} {st : α → Option (α ⊕ (α ⊕ β))} {a : α} {z : α ⊕ β} {n : Nat} (h : am_wh st n a = some z) : am_while st a = some z := by
  have c : ∃ z, ∃ n, am_wh st n a = some z := ⟨z, n, h⟩
  unfold am_while
  rw [dif_pos c]
  obtain ⟨m, hm⟩ := Classical.choose_spec c
  have h1 := am_wh_le n (max n m) a z (Nat.le_max_left _ _) h
  have h2 := am_wh_le m (max n m) a _ (Nat.le_max_right _ _) hm
  rw [h1] at h2
  exact h2.symm
def am_forO {α β : Type} (f : Nat → α → Option (α ⊕ (α ⊕ β))) : Nat → Nat → α → Option (α ⊕ β)
  | 0, _, a => some (.inl a)
  | n + 1, i, a => am_whn (fun z => am_forO f n (i + 1) z) (f i a)
theorem am_forO_s {α β : Type} (f : Nat → α → Option (α ⊕ (α ⊕ β))) (n i : Nat) (a : α) : am_forO f (n + 1) i a = am_whn (fun z => am_forO f n (i + 1) z) (f i a) := rfl
/-- the reference's row of numbers: what each of its methods that looks at loans asks of it -/
def am_mOK (s : Nat → Int32) : Prop := s 201 = nI (s 201).toNatClampNeg ∧ (s 201).toNatClampNeg ≤ 40 ∧ s 202 = nI (s 202).toNatClampNeg ∧ (s 202).toNatClampNeg ≤ 30 ∧ (∀ i, i < (s 201).toNatClampNeg → am_inb (s (210 + 7 * i + 0)) 16 = true) ∧ (∀ i, i < (s 201).toNatClampNeg → ¬ s (210 + 7 * i + 5) < 0 → am_inb (s (210 + 7 * i + 5)) 40 = true) ∧ (∀ i, i < (s 201).toNatClampNeg → am_inb (s (210 + 7 * i + 2)) 20 = true)
theorem am_mOK_e {f : Nat → Nat → Int32} (h : am_mOK (f 89)) : f 89 201 = nI (f 89 201).toNatClampNeg ∧ (f 89 201).toNatClampNeg ≤ 40 ∧ f 89 202 = nI (f 89 202).toNatClampNeg ∧ (f 89 202).toNatClampNeg ≤ 30 ∧ (∀ i, i < (f 89 201).toNatClampNeg → am_inb (fn_m_loanAt i 0 f) 16 = true) ∧ (∀ i, i < (f 89 201).toNatClampNeg → ¬ fn_m_loanAt i 5 f < 0 → am_inb (fn_m_loanAt i 5 f) 40 = true) ∧ (∀ i, i < (f 89 201).toNatClampNeg → am_inb (fn_m_loanAt i 2 f) 20 = true) := h
theorem am_D.args {d j nL : Nat} {vs vs' : List Value} {μ : am_M} {res : Option Value × am_M} (e : vs' = vs) (h : am_D d j nL vs μ res) : am_D d j nL vs' μ res := e ▸ h
theorem am_inbQ {x : Int32} {n : Nat} (h : am_inb x n = true) : x = nI x.toNatClampNeg ∧ x.toNatClampNeg < n := by
  obtain ⟨h1, h2⟩ := (by simpa [am_inb] using h : ¬ x < 0 ∧ x.toNatClampNeg < n)
  obtain ⟨j, h3, h4⟩ := nI_of h1
  refine ⟨?_, h2⟩
  rw [h4, nI_clamp h3]
