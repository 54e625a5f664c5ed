/-! THE PURE LAYER: the reference's closure -/
set_option linter.unusedVariables false
def pu_M (r : Nat → Int32) : Nat → Nat
  | 0 => 0
  | n + 1 => pu_M r n + (4294967296 - (r n).toBitVec.toNat)
theorem pu_M_congr {r x : Nat → Int32} : ∀ n, (∀ i, i < n → x i = r i) → pu_M x n = pu_M r n := by
  intro n
  induction n with
  | zero => intro _; rfl
  | succ n ih =>
    intro h
    show pu_M x n + _ = pu_M r n + _
    rw [ih (fun i hi => h i (by omega)), h n (by omega)]
theorem pu_M_lt {r : Nat → Int32} {k : Nat} {v : Int32} (h : (r k).toBitVec.toNat < v.toBitVec.toNat) : ∀ n, k < n → pu_M (upd r k v) n < pu_M r n := by
  intro n
  induction n with
  | zero => intro h; omega
  | succ n ih =>
    intro hk
    show pu_M (upd r k v) n + _ < pu_M r n + _
    have hv := v.toBitVec.isLt
    by_cases e : n = k
    · subst e
      have e9 := pu_M_congr (r := r) (x := upd r n v) n (fun i hi => pu_un (by omega))
      rw [pu_us, e9]
      omega
    · rw [pu_un e]
      have := ih (by omega)
      omega
theorem pu_sup {x y : Int32} (h : ∀ q, q < 32 → pu_bt x q = true → pu_bt y q = true) (n : y ≠ x) : x.toBitVec.toNat < y.toBitVec.toNat := by
  have e : y = x ||| y := pu_ext fun i hi => by
    rw [pu_or]
    cases c : pu_bt x i with
    | false => simp
    | true => simp [h i hi c]
  have h1 : x.toBitVec.toNat ≤ y.toBitVec.toNat := by
    have h2 : (x ||| y).toBitVec.toNat = x.toBitVec.toNat ||| y.toBitVec.toNat := by rw [Int32.toBitVec_or, BitVec.toNat_or]
    rw [e, h2]
    exact Nat.left_le_or
  refine Nat.lt_of_le_of_ne h1 fun hh => n ?_
  exact (Int32.toBitVec_inj.mp (BitVec.eq_of_toNat_eq hh)).symm
theorem pu_lat60 (r : Nat → Int32) {k : Nat} (hk : k < 20) (q : Nat) : pu_bt (lf_m_lattice_60 k r) q = true ↔ pu_bt (r k) q = true ∨ ∃ j, j < 20 ∧ pu_bt (r k) j = true ∧ pu_bt (r j) q = true := by
  unfold lf_m_lattice_60
  refine pu_gather (p := fun j => pu_bt (r k) j) (v := r) (st_m_lattice_60 k r) 20 (r k) (fun j x hj => ?_) q
  unfold st_m_lattice_60
  rw [pu_mhas _ (by omega : j < 32)]
  cases pu_bt (r k) j with
  | true => rfl
  | false =>
    refine pu_ext fun i hi => ?_
    rw [pu_or]
    show (pu_bt x i || pu_bt 0 i) = _
    rw [pu_0, Bool.or_false]; rfl
def pu_LP (d r : Nat → Int32) : Prop := (∀ i, i < 20 → ∀ q, q < 32 → pu_bt (r i) q = true → pu_R d i q) ∧ (∀ i, i < 20 → pu_bt (r i) i = true) ∧ (∀ i q, pu_E d i q → pu_bt (r i) q = true)
def pu_LC (r : Nat → Int32) (k : Nat) : Prop := ∀ i, i < k → ∀ j, j < 20 → pu_bt (r i) j = true → ∀ q, q < 32 → pu_bt (r j) q = true → pu_bt (r i) q = true
theorem pu_LC_of {r x : Nat → Int32} (h : ∀ i, i < 20 → x i = r i) {k : Nat} (hk : k ≤ 20) (hc : pu_LC r k) : pu_LC x k := by
  intro i hi j hj h1 q hq h2
  rw [h i (by omega)] at h1 ⊢
  rw [h j hj] at h2
  exact hc i hi j hj h1 q hq h2
theorem pu_orb (a : Int32) : ∀ b : Bool, a ||| am_b b = 0 ↔ a = 0 ∧ b = false := by
  intro b
  cases b with
  | false =>
    have : a ||| am_b false = a := pu_ext fun i hi => by rw [pu_or, show am_b false = 0 from rfl, pu_0, Bool.or_false]
    rw [this]; simp
  | true =>
    constructor
    · intro h
      have := congrArg (fun x => pu_bt x 0) h
      simp only [pu_or, pu_0] at this
      rw [show am_b true = 1 from rfl, pu_1] at this
      simp at this
    · rintro ⟨_, h⟩; cases h
theorem pu_lat44 {d : Nat → Int32} (hd : pu_ok d) (r : Nat → Int32) (hP : pu_LP d r) : pu_LP d (lf_m_lattice_44 r).2 ∧ (((lf_m_lattice_44 r).1 = 0 ∧ (∀ i, i < 20 → (lf_m_lattice_44 r).2 i = r i) ∧ pu_LC r 20) ∨ ((lf_m_lattice_44 r).1 ≠ 0 ∧ pu_M (lf_m_lattice_44 r).2 20 < pu_M r 20)) := by
  unfold lf_m_lattice_44
  have h := pu_for0 (f := st_m_lattice_44) (fun k z => pu_LP d z.2 ∧ (∀ i, k ≤ i → i < 20 → z.2 i = r i) ∧ ((z.1 = 0 ∧ (∀ i, i < 20 → z.2 i = r i) ∧ pu_LC r k) ∨ (z.1 ≠ 0 ∧ pu_M z.2 20 < pu_M r 20))) 20 (0, r) ⟨hP, fun _ _ _ => rfl, .inl ⟨rfl, fun _ _ => rfl, fun i hi => by omega⟩⟩ (fun k z hk ⟨h1, h2, h3⟩ => by
    obtain ⟨a, x⟩ := z
    unfold st_m_lattice_44
    simp only at h1 h2 h3 ⊢
    have hl := pu_lat60 x hk
    generalize lf_m_lattice_60 k x = v at hl
    have hsup : ∀ q, q < 32 → pu_bt (x k) q = true → pu_bt v q = true := fun q _ h => (hl q).mpr (.inl h)
    refine ⟨⟨fun i hi q hq h => ?_, fun i hi => ?_, fun i q e => ?_⟩, fun i hi h20 => ?_, ?_⟩
    · by_cases e : i = k
      · subst e
        rw [pu_us] at h
        rcases (hl q).mp h with h | ⟨j, j1, j2, j3⟩
        · exact h1.1 i hi q hq h
        · exact pu_R_t hd (h1.1 i hi j (by omega) j2) (h1.1 j j1 q hq j3)
      · rw [pu_un e] at h; exact h1.1 i hi q hq h
    · by_cases e : i = k
      · subst e; rw [pu_us]; exact hsup i (by omega) (h1.2.1 i hi)
      · rw [pu_un e]; exact h1.2.1 i hi
    · by_cases e' : i = k
      · subst e'; rw [pu_us]; exact hsup q (by have := pu_E_lt hd e; omega) (h1.2.2 i q e)
      · rw [pu_un e']; exact h1.2.2 i q e
    · rw [pu_un (by omega)]; exact h2 i (by omega) h20
    · by_cases e : v = x k
      · rw [if_pos e, e, pu_uid]
        rcases h3 with ⟨g1, g2, g3⟩ | ⟨g1, g2⟩
        · refine .inl ⟨(pu_orb a false).mpr ⟨g1, rfl⟩, g2, fun i hi j hj b1 q hq b2 => ?_⟩
          rcases Nat.lt_succ_iff_lt_or_eq.mp hi with h | h
          · exact g3 i h j hj b1 q hq b2
          · subst h
            rw [← g2 i hk] at b1 ⊢
            rw [← g2 j hj] at b2
            rw [← e]
            exact (hl q).mpr (.inr ⟨j, hj, b1, b2⟩)
        · exact .inr ⟨fun z => g1 ((pu_orb a false).mp z).1, g2⟩
      · rw [if_neg e]
        have hM := pu_M_lt (r := x) (k := k) (v := v) (pu_sup hsup e) 20 hk
        refine .inr ⟨fun z => absurd ((pu_orb a true).mp z).2 (by decide), ?_⟩
        rcases h3 with ⟨g1, g2, g3⟩ | ⟨g1, g2⟩
        · rw [pu_M_congr (r := r) (x := x) 20 g2] at hM; exact hM
        · omega)
  exact ⟨h.1, h.2.2⟩
theorem pu_lattice (f : Nat → Nat → Int32) (hd : pu_ok (fun r => f 89 (144 + r))) : ∃ c, fn_m_lattice f = some c ∧ pu_CL (fun r => f 89 (144 + r)) c := by
  have h0 : ∀ i, i < 20 → lf_m_lattice_2 f i = (1 <<< ((nI i) &&& 31)) ||| (f 89 (144 + i)) := by
    unfold lf_m_lattice_2
    have h := pu_for0 (f := st_m_lattice_2 f) (fun K z => ∀ i, i < K → z i = (1 <<< ((nI i) &&& 31)) ||| (f 89 (144 + i))) 20 (f 92) (fun i hi => by omega) (fun K z hK h1 i hi => by
      unfold st_m_lattice_2
      by_cases e : i = K
      · subst e; exact pu_us
      · rw [pu_un e]; exact h1 i (by omega))
    exact h
  obtain ⟨z, hz, hQ⟩ := pu_while (st := st_m_lattice_36) (fun z => pu_LP (fun r => f 89 (144 + r)) z.2 ∧ (z.1 = 0 → pu_LC z.2 20)) (fun z => 2 * pu_M z.2 20 + if z.1 = 0 then 0 else 1) (fun z => match z with | .inl z => pu_LP (fun r => f 89 (144 + r)) z.2 ∧ pu_LC z.2 20 | .inr z => False) (fun x hx => by
    obtain ⟨a, r⟩ := x
    obtain ⟨h1, h2⟩ := hx
    simp only at h1 h2
    unfold st_m_lattice_36
    simp only
    by_cases c : a = 0
    · rw [if_pos c]; exact .inr ⟨_, rfl, h1, h2 c⟩
    · rw [if_neg c]
      obtain ⟨g1, g2⟩ := pu_lat44 hd r h1
      refine .inl ⟨_, rfl, ⟨g1, fun z => ?_⟩, ?_⟩
      · rcases g2 with ⟨_, b2, b3⟩ | ⟨b1, _⟩
        · exact pu_LC_of b2 (Nat.le_refl _) b3
        · exact absurd z b1
      · simp only
        rw [if_neg c]
        rcases g2 with ⟨b1, b2, b3⟩ | ⟨b1, b2⟩
        · rw [if_pos b1, pu_M_congr (r := r) 20 b2]; omega
        · rw [if_neg b1]; omega) (1, lf_m_lattice_2 f) ⟨⟨fun i hi q hq h => by
      simp only at h
      rw [h0 i hi, pu_or, pu_one i (by omega), Bool.or_eq_true, decide_eq_true_eq] at h
      rcases h with h | h
      · subst h; exact pu_R_r _ _
      · exact pu_R_e ⟨hi, h⟩, fun i hi => by
      show pu_bt (lf_m_lattice_2 f i) i = true
      rw [h0 i hi, pu_or, pu_one i (by omega)]; simp, fun i q e => by
      show pu_bt (lf_m_lattice_2 f i) q = true
      rw [h0 i e.1, pu_or, e.2, Bool.or_true]⟩, fun z => by cases z⟩
  rcases z with z | z
  · refine ⟨z.2, ?_, fun r hr q hq => ⟨fun h => hQ.1.1 r hr q hq h, fun h => ?_⟩⟩
    · unfold fn_m_lattice
      rw [show lf_m_lattice_36 (lf_m_lattice_2 f) = some (.inl z) from hz]
      rfl
    · have key := pu_W_le (E := pu_E (fun r => f 89 (144 + r))) (T := fun i q => i = q ∨ (i < 20 ∧ q < 20 ∧ pu_bt (z.2 i) q = true)) (fun i => .inl rfl) (fun i q e => .inr ⟨(pu_E_lt hd e).1, (pu_E_lt hd e).2, hQ.1.2.2 i q e⟩) (fun i j q h1 h2 => by
        rcases h1 with h1 | ⟨a1, a2, a3⟩
        · subst h1; exact h2
        · rcases h2 with h2 | ⟨b1, b2, b3⟩
          · subst h2; exact .inr ⟨a1, a2, a3⟩
          · exact .inr ⟨a1, b2, hQ.2 i a1 j b1 a3 q (by omega) b3⟩) 20 r q h
      rcases key with key | key
      · subst key; exact hQ.1.2.1 r hr
      · exact key.2.2
  · exact hQ.elim
