/-! THE PURE LAYER: the book -/
set_option linter.unusedVariables false
def mg_E (T u a t v r : Int32) (i : Nat) : Int32 := if i = 0 then T else if i = 1 then u else if i = 2 then a else if i = 3 then t else if i = 4 then v else r
def mg_W (s : Nat → Int32) (B : Nat) (T u a t v r : Int32) : Nat → Int32 := upd (upd (upd (upd (upd (upd s B T) (B + 1) u) (B + 2) a) (B + 3) t) (B + 4) v) (B + 5) r
theorem mg_W_in (s : Nat → Int32) (B : Nat) (T u a t v r : Int32) {i : Nat} (hi : i < 6) : mg_W s B T u a t v r (B + i) = mg_E T u a t v r i := by
  unfold mg_W mg_E
  rcases (show i = 0 ∨ i = 1 ∨ i = 2 ∨ i = 3 ∨ i = 4 ∨ i = 5 by omega) with e | e | e | e | e | e <;> subst e
  · rw [pu_un (by omega), pu_un (by omega), pu_un (by omega), pu_un (by omega), pu_un (by omega), Nat.add_zero, pu_us]; rfl
  · rw [pu_un (by omega), pu_un (by omega), pu_un (by omega), pu_un (by omega), pu_us]; rfl
  · rw [pu_un (by omega), pu_un (by omega), pu_un (by omega), pu_us]; rfl
  · rw [pu_un (by omega), pu_un (by omega), pu_us]; rfl
  · rw [pu_un (by omega), pu_us]; rfl
  · rw [pu_us]; rfl
theorem mg_W_out (s : Nat → Int32) (B : Nat) (T u a t v r : Int32) {j : Nat} (hj : j < B ∨ B + 6 ≤ j) : mg_W s B T u a t v r j = s j := by
  unfold mg_W
  rw [pu_un (by omega), pu_un (by omega), pu_un (by omega), pu_un (by omega), pu_un (by omega), pu_un (by omega)]
def mg_b (b : Nat) : Nat := if b = 30 then 29 else b
def mg_R (x : Nat → Int32) (b : Nat) (E : Nat → Int32) (j : Nat) : Int32 := if 6 * mg_b b ≤ j ∧ j < 6 * mg_b b + 6 then E (j - 6 * mg_b b) else if b = 30 ∧ j < 174 then x (j + 6) else x j
theorem mg_shift (F : Nat → Nat → Int32) : (∀ i, i < 174 → lf_m_books_16 F (3160 + i) = F 89 (3160 + i + 6)) ∧ ∀ j, ¬ (3160 ≤ j ∧ j < 3334) → lf_m_books_16 F j = F 89 j := by
  have h := pu_for0 (f := st_m_books_16) (fun k z => (∀ i, i < k → z (3160 + i) = F 89 (3160 + i + 6)) ∧ ∀ j, ¬ (3160 ≤ j ∧ j < 3160 + k) → z j = F 89 j) 174 (F 89) ⟨fun i hi => absurd hi (Nat.not_lt_zero _), fun _ _ => rfl⟩ (by
    rintro k z hk ⟨h1, h2⟩
    unfold st_m_books_16
    refine ⟨fun i hi => ?_, fun j hj => ?_⟩
    · by_cases e : i = k
      · subst e
        rw [pu_us]
        exact h2 _ (by omega)
      · rw [pu_un (by omega)]; exact h1 i (by omega)
    · rw [pu_un (by omega)]; exact h2 j (by omega))
  exact ⟨h.1, fun j hj => h.2 j (by omega)⟩
theorem mg_end {s0 : Nat → Int32} {B v c : Nat} {T u a t v' r : Int32} (hv : v < 3) (hB : 3160 ≤ B) (hB2 : B + 6 ≤ 3340) (h208 : s0 208 = nI c) : upd (upd (mg_W s0 B T u a t v' r) 208 ((mg_W s0 B T u a t v' r 208) + 1)) (205 + v) (((upd (mg_W s0 B T u a t v' r) 208 ((mg_W s0 B T u a t v' r 208) + 1)) (205 + v)) + 1) 208 = nI (c + 1) ∧ upd (upd (mg_W s0 B T u a t v' r) 208 ((mg_W s0 B T u a t v' r 208) + 1)) (205 + v) (((upd (mg_W s0 B T u a t v' r) 208 ((mg_W s0 B T u a t v' r 208) + 1)) (205 + v)) + 1) (205 + v) = s0 (205 + v) + 1 ∧ ∀ j, j ≠ 208 → j ≠ 205 + v → upd (upd (mg_W s0 B T u a t v' r) 208 ((mg_W s0 B T u a t v' r 208) + 1)) (205 + v) (((upd (mg_W s0 B T u a t v' r) 208 ((mg_W s0 B T u a t v' r 208) + 1)) (205 + v)) + 1) j = mg_W s0 B T u a t v' r j := by
  refine ⟨?_, ?_, fun j h1 h2 => ?_⟩
  · rw [pu_un (by omega), pu_us, mg_W_out _ _ _ _ _ _ _ _ (by omega), h208, nI_1]
  · rw [pu_us, pu_un (by omega), mg_W_out _ _ _ _ _ _ _ _ (by omega)]
  · rw [pu_un h2, pu_un h1]
theorem mg_books {F : Nat → Nat → Int32} {b u a t v : Nat} (hb : b ≤ 30) (h208 : F 89 208 = nI b) (hv : v < 3) : ∃ s', fn_m_books (nI u) (nI a) (nI t) (nI v) F = some s' ∧ s' 208 = nI (mg_b b + 1) ∧ s' (205 + v) = F 89 (205 + v) + 1 ∧ (∀ j, j < 180 → s' (3160 + j) = mg_R (fun j => F 89 (3160 + j)) b (mg_E (F 89 200) (nI u) (nI a) (nI t) (nI v) (F 88 24)) j) ∧ ∀ j, j ≠ 208 → j ≠ 205 + v → (j < 3160 ∨ 3340 ≤ j) → s' j = F 89 j := by
  obtain ⟨S1, S2⟩ := mg_shift F
  unfold fn_m_books
  have e205 : (205 : Int32) + nI v = nI (205 + v) := by rw [show (205 : Int32) = nI 205 from rfl, nI_add]
  have cl : ∀ n, n < 4000 → (nI n).toNatClampNeg = n := fun n hn => nI_clamp (by omega)
  have ad : ∀ (c : Nat) k, nI c + nI k = nI (c + k) := fun c k => nI_add c k
  rw [e205]
  by_cases c : b = 30
  · subst c
    rw [if_pos (by rw [h208]; rfl)]
    have e208 : lf_m_books_16 F 208 = nI 30 := (S2 208 (by omega)).trans h208
    generalize lf_m_books_16 F = S at S1 S2 e208 ⊢
    have eb : (3160 : Int32) + 6 * ((S 208) - 1) = nI 3334 := by rw [e208]; decide
    rw [eb, show (1 : Int32) = nI 1 from rfl, show (2 : Int32) = nI 2 from rfl, show (3 : Int32) = nI 3 from rfl, show (4 : Int32) = nI 4 from rfl, show (5 : Int32) = nI 5 from rfl, ad, ad, ad, ad, ad, cl _ (by omega), cl _ (by omega), cl _ (by omega), cl _ (by omega), cl _ (by omega), cl _ (by omega), cl _ (by omega), am_chk_p (am_inbN (by omega) (by decide)), am_chk_p (am_inbN (by omega) (by decide)), am_chk_p (am_inbN (by omega) (by decide)), am_chk_p (am_inbN (by omega) (by decide)), am_chk_p (am_inbN (by omega) (by decide)), am_chk_p (am_inbN (by omega) (by decide)), am_chk_p (am_inbN (by omega) (by decide))]
    have hE := mg_end (s0 := upd S 208 (S 208 - nI 1)) (B := 3334) (v := v) (c := 29) (T := S 200) (u := nI u) (a := nI a) (t := nI t) (v' := nI v) (r := F 88 24) hv (by omega) (by omega) (by rw [pu_us, e208]; decide)
    obtain ⟨h1, h2, h3⟩ := hE
    refine ⟨_, rfl, h1, ?_, fun j hj => ?_, fun j j1 j2 j3 => ?_⟩
    · refine h2.trans ?_
      rw [pu_un (by omega), S2 _ (by omega)]
      rfl
    · refine (h3 _ (by omega) (by omega)).trans ?_
      have e29 : mg_b 30 = 29 := rfl
      unfold mg_R
      rw [e29]
      by_cases d : 6 * 29 ≤ j ∧ j < 6 * 29 + 6
      · rw [if_pos d]
        have := mg_W_in (upd S 208 (S 208 - nI 1)) 3334 (S 200) (nI u) (nI a) (nI t) (nI v) (F 88 24) (i := j - 6 * 29) (by omega)
        rw [show 3334 + (j - 6 * 29) = 3160 + j by omega, S2 200 (by omega)] at this
        rw [S2 200 (by omega)]
        exact this
      · rw [if_neg d, if_pos ⟨rfl, by omega⟩, mg_W_out _ _ _ _ _ _ _ _ (by omega), pu_un (by omega), S1 j (by omega)]
        exact congrArg (F 89) (by omega)
    · refine (h3 _ j1 j2).trans ?_
      rw [mg_W_out _ _ _ _ _ _ _ _ (by omega), pu_un j1, S2 _ (by omega)]
  · have hne : ¬ F 89 208 = 30 := by rw [h208]; exact fun z => c ((nI_eq (b := 30) (by omega) (by omega)).mp z)
    rw [if_neg hne]
    have eb : (3160 : Int32) + 6 * (F 89 208) = nI (3160 + 6 * b) := by rw [h208, show (6 : Int32) = nI 6 from rfl, pk_mul, show (3160 : Int32) = nI 3160 from rfl, nI_add]
    rw [eb, show (1 : Int32) = nI 1 from rfl, show (2 : Int32) = nI 2 from rfl, show (3 : Int32) = nI 3 from rfl, show (4 : Int32) = nI 4 from rfl, show (5 : Int32) = nI 5 from rfl, ad, ad, ad, ad, ad, cl _ (by omega), cl _ (by omega), cl _ (by omega), cl _ (by omega), cl _ (by omega), cl _ (by omega), cl _ (by omega), am_chk_p (am_inbN (by omega) (by decide)), am_chk_p (am_inbN (by omega) (by decide)), am_chk_p (am_inbN (by omega) (by decide)), am_chk_p (am_inbN (by omega) (by decide)), am_chk_p (am_inbN (by omega) (by decide)), am_chk_p (am_inbN (by omega) (by decide)), am_chk_p (am_inbN (by omega) (by decide))]
    have hE := mg_end (s0 := F 89) (B := 3160 + 6 * b) (v := v) (c := b) (T := F 89 200) (u := nI u) (a := nI a) (t := nI t) (v' := nI v) (r := F 88 24) hv (by omega) (by omega) h208
    obtain ⟨h1, h2, h3⟩ := hE
    have eb' : mg_b b = b := if_neg c
    refine ⟨_, rfl, ?_, h2, fun j hj => ?_, fun j j1 j2 j3 => ?_⟩
    · rw [eb']; exact h1
    · refine (h3 _ (by omega) (by omega)).trans ?_
      unfold mg_R
      rw [eb']
      by_cases d : 6 * b ≤ j ∧ j < 6 * b + 6
      · rw [if_pos d]
        have := mg_W_in (F 89) (3160 + 6 * b) (F 89 200) (nI u) (nI a) (nI t) (nI v) (F 88 24) (i := j - 6 * b) (by omega)
        rw [show 3160 + 6 * b + (j - 6 * b) = 3160 + j by omega] at this
        exact this
      · rw [if_neg d, if_neg (fun h => c h.1), mg_W_out _ _ _ _ _ _ _ _ (by omega)]
    · refine (h3 _ j1 j2).trans ?_
      rw [mg_W_out _ _ _ _ _ _ _ _ (by omega)]
theorem mg_note {F : Nat → Nat → Int32} {b v : Nat} {u a t r : Int32} (hb : b ≤ 30) (h11 : F 2 11 = nI b) (hv : v < 3) : (fn_note u a t v r F).1 11 = nI (mg_b b + 1) ∧ (∀ j, j ≠ 11 → (fn_note u a t v r F).1 j = F 2 j) ∧ (∀ j, j < 180 → (fn_note u a t v r F).2.1 j = mg_R (F 32) b (mg_E (F 2 12) u a t (nI v) r) j) ∧ (fn_note u a t v r F).2.2 v = F 33 v + 1 ∧ ∀ j, j ≠ v → (fn_note u a t v r F).2.2 j = F 33 j := by
  unfold fn_note
  by_cases c : b = 30
  · subst c
    rw [if_neg (by rw [h11]; decide)]
    refine ⟨(show upd (upd (F 2) 11 29) 11 (29 + 1) 11 = _ from pu_us), (fun j hj => (show upd (upd (F 2) 11 29) 11 (29 + 1) j = _ from (pu_un hj).trans (pu_un hj))), fun j hj => ?_, (show upd (F 33) v (F 33 v + 1) v = _ from pu_us), (fun j hj => (show upd (F 33) v (F 33 v + 1) j = _ from pu_un hj))⟩
    have e29 : mg_b 30 = 29 := rfl
    show mg_W (va_cpy (F 32) (F 32) 6 0 174) 174 (F 2 12) u a t (nI v) r j = _
    unfold mg_R
    rw [e29]
    by_cases d : 6 * 29 ≤ j ∧ j < 6 * 29 + 6
    · rw [if_pos d]
      have := mg_W_in (va_cpy (F 32) (F 32) 6 0 174) 174 (F 2 12) u a t (nI v) r (i := j - 6 * 29) (by omega)
      rw [show 174 + (j - 6 * 29) = j by omega] at this
      exact this
    · rw [if_neg d, if_pos ⟨rfl, by omega⟩, mg_W_out _ _ _ _ _ _ _ _ (by omega), pk_cpy_in (by omega) (by omega)]
      exact congrArg (F 32) (by omega)
  · have eb' : mg_b b = b := if_neg c
    rw [if_pos (by rw [h11]; exact nI_lt (b := 30) (by omega) (by omega)), h11, nI_1, nI_clamp (by omega)]
    refine ⟨(by rw [eb']; show upd (F 2) 11 (nI (b + 1)) 11 = _; exact pu_us), (fun j hj => (show upd (F 2) 11 (nI (b + 1)) j = _ from pu_un hj)), fun j hj => ?_, (show upd (F 33) v (F 33 v + 1) v = _ from pu_us), (fun j hj => (show upd (F 33) v (F 33 v + 1) j = _ from pu_un hj))⟩
    show mg_W (F 32) (b * 6) (F 2 12) u a t (nI v) r j = _
    unfold mg_R
    rw [eb']
    by_cases d : 6 * b ≤ j ∧ j < 6 * b + 6
    · rw [if_pos d]
      have := mg_W_in (F 32) (b * 6) (F 2 12) u a t (nI v) r (i := j - 6 * b) (by omega)
      rw [show b * 6 + (j - 6 * b) = j by omega] at this
      exact this
    · rw [if_neg d, if_neg (fun h => c h.1), mg_W_out _ _ _ _ _ _ _ _ (by omega)]
