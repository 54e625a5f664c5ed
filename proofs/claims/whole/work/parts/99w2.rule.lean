/-! RULE: marks and code of a condition have one value -/
set_option linter.unusedVariables false
def ap_at (w : Nat → Int32) : Nat → List Nat → Prop
  | _, [] => True
  | i, x :: xs => w i = nI x ∧ ap_at w (i + 1) xs
theorem ap_at_app {w : Nat → Int32} : ∀ (xs ys : List Nat) (i : Nat), ap_at w i (xs ++ ys) → ap_at w i xs ∧ ap_at w (i + xs.length) ys := by
  intro xs
  induction xs with
  | nil => intro ys i h; exact ⟨trivial, h⟩
  | cons x xs ih =>
    intro ys i h
    have h2 : w i = nI x ∧ ap_at w (i + 1) (xs ++ ys) := h
    obtain ⟨g1, g2⟩ := ih ys (i + 1) h2.2
    refine ⟨⟨h2.1, g1⟩, ?_⟩
    rw [List.length_cons, show i + (xs.length + 1) = i + 1 + xs.length by omega]
    exact g2
def ap_pre (ms : List Nat) (V : (Nat → Int32) → Int32) : Prop := ∀ m i, ap_at m i ms → pu_Pre m i ms.length V
def ap_post (cs : List Nat) (V : (Nat → Int32) → Int32) : Prop := ∀ c i, ap_at c i cs → pu_Post c i cs.length V
theorem ap_joined {o : Nat} (ho : ma_rank o ≠ 0) (a b : Int32) : fn_m_joined (nI (2000 + o) - 2000) a b = fn_combined (nI o) a b ∧ o ≠ 33 ∧ o ≠ 126 ∧ o < 256 := by
  have h : o = 38 ∨ o = 42 ∨ o = 43 ∨ o = 45 ∨ o = 60 ∨ o = 61 ∨ o = 62 ∨ o = 124 := by
    unfold ma_rank at ho
    by_cases h1 : o = 38; exact .inl h1
    by_cases h2 : o = 42; exact .inr (.inl h2)
    by_cases h3 : o = 43; exact .inr (.inr (.inl h3))
    by_cases h4 : o = 45; exact .inr (.inr (.inr (.inl h4)))
    by_cases h5 : o = 60; exact .inr (.inr (.inr (.inr (.inl h5))))
    by_cases h6 : o = 61; exact .inr (.inr (.inr (.inr (.inr (.inl h6)))))
    by_cases h7 : o = 62; exact .inr (.inr (.inr (.inr (.inr (.inr (.inl h7))))))
    by_cases h8 : o = 124; exact .inr (.inr (.inr (.inr (.inr (.inr (.inr h8))))))
    rw [if_neg h1, if_neg h2, if_neg h3, if_neg h4, if_neg h5, if_neg h6, if_neg h7, if_neg h8] at ho
    exact absurd rfl ho
  rw [show (2000 : Int32) = nI 2000 from rfl, pk_sub (by omega), show 2000 + o - 2000 = o by omega]
  refine ⟨?_, by omega, by omega, by omega⟩
  rcases h with h | h | h | h | h | h | h | h <;> subst h <;> rfl
theorem ap_pre_bin {ms m2 : List Nat} {V W : (Nat → Int32) → Int32} {o : Nat} (ho : ma_rank o ≠ 0) (h1 : ap_pre ms V) (h2 : ap_pre m2 W) : ap_pre ((2000 + o) :: (ms ++ m2)) (fun G => fn_combined (nI o) (V G) (W G)) := by
  intro m i h
  have hj := ap_joined ho
  obtain ⟨o33, o126, o256⟩ := (hj 0 0).2
  have ha : m i = nI (2000 + o) := h.1
  obtain ⟨hb, hc⟩ := ap_at_app ms m2 (i + 1) h.2
  obtain ⟨p1, p2⟩ := h1 m (i + 1) hb
  obtain ⟨q1, q2⟩ := h2 m (i + 1 + ms.length) hc
  rw [List.length_cons, List.length_append]
  refine ⟨fun j hj => ?_, fun ρ k hk => ?_⟩
  · by_cases c0 : j = 0
    · subst c0
      exact .inr (.inr (.inr (.inr ⟨o, o256, ha⟩)))
    · by_cases c1 : j - 1 < ms.length
      · have := p1 (j - 1) c1
        rw [show i + 1 + (j - 1) = i + j by omega] at this
        exact this
      · have := q1 (j - 1 - ms.length) (by omega)
        rw [show i + 1 + ms.length + (j - 1 - ms.length) = i + j by omega] at this
        exact this
  · obtain ⟨k, rfl⟩ : ∃ k', k = k' + 1 := ⟨k - 1, by omega⟩
    have e1 := p2 ρ k (by omega)
    have e2 := q2 ρ k (by omega)
    unfold pu_pe
    rw [ha, if_pos (show (1000 : Int32) ≤ nI (2000 + o) from nI_le (a := 1000) (by omega) (by omega)), if_pos (show (2000 : Int32) ≤ nI (2000 + o) from nI_le (a := 2000) (by omega) (by omega)), e1]
    simp only
    rw [if_neg (show ¬ nI (2000 + o) = 2126 by rw [show (2126 : Int32) = nI 2126 from rfl, nI_eq (by omega) (by omega)]; omega), if_neg (show ¬ nI (2000 + o) = 2033 by rw [show (2033 : Int32) = nI 2033 from rfl, nI_eq (by omega) (by omega)]; omega), e2]
    simp only
    rw [(hj _ _).1, show i + 1 + ms.length + m2.length = i + (ms.length + m2.length + 1) by omega]
theorem ap_post_bin {cs c2 : List Nat} {V W : (Nat → Int32) → Int32} {o : Nat} (ho : ma_rank o ≠ 0) (h1 : ap_post cs V) (h2 : ap_post c2 W) (hl : 0 < c2.length) : ap_post (cs ++ c2 ++ [2000 + o]) (fun G => fn_combined (nI o) (V G) (W G)) := by
  intro c i h
  obtain ⟨ha, hb⟩ := ap_at_app (cs ++ c2) [2000 + o] i h
  obtain ⟨hc, hd⟩ := ap_at_app cs c2 i ha
  have he : c (i + (cs ++ c2).length) = nI (2000 + o) := hb.1
  rw [List.length_append] at he
  rw [List.length_append, List.length_append]
  exact pu_Post_bin (h1 c i hc) (h2 c _ hd) (ap_joined ho 0 0).2 (by rw [show i + cs.length + c2.length = i + (cs.length + c2.length) by omega]; exact he) hl
theorem ap_pre_un {ms : List Nat} {V : (Nat → Int32) → Int32} {o : Nat} (ho : o = 33 ∨ o = 126) (h1 : ap_pre ms V) : ap_pre ((2000 + o) :: ms) (fun G => if o = 126 then -(V G) else am_b (if V G = 0 then true else false)) := by
  intro m i h
  have ha : m i = nI (2000 + o) := h.1
  obtain ⟨p1, p2⟩ := h1 m (i + 1) h.2
  rw [List.length_cons]
  refine ⟨fun j hj => ?_, fun ρ k hk => ?_⟩
  · by_cases c0 : j = 0
    · subst c0
      exact .inr (.inr (.inr (.inr ⟨o, by omega, ha⟩)))
    · have := p1 (j - 1) (by omega)
      rw [show i + 1 + (j - 1) = i + j by omega] at this
      exact this
  · obtain ⟨k, rfl⟩ : ∃ k', k = k' + 1 := ⟨k - 1, by omega⟩
    have e1 := p2 ρ k (by omega)
    unfold pu_pe
    rw [ha, if_pos (show (1000 : Int32) ≤ nI (2000 + o) from nI_le (a := 1000) (by omega) (by omega)), if_pos (show (2000 : Int32) ≤ nI (2000 + o) from nI_le (a := 2000) (by omega) (by omega)), e1]
    simp only
    rcases ho with ho | ho
    · subst ho
      rw [if_neg (show ¬ nI (2000 + 33) = 2126 by decide), if_pos (show nI (2000 + 33) = 2033 from rfl), show i + 1 + ms.length = i + (ms.length + 1) by omega]
      rfl
    · subst ho
      rw [if_pos (show nI (2000 + 126) = 2126 from rfl), show i + 1 + ms.length = i + (ms.length + 1) by omega]
      rfl
theorem ap_post_un {cs : List Nat} {V : (Nat → Int32) → Int32} {o : Nat} (ho : o = 33 ∨ o = 126) (h1 : ap_post cs V) : ap_post (cs ++ [2000 + o]) (fun G => if o = 126 then -(V G) else am_b (if V G = 0 then true else false)) := by
  intro c i h
  obtain ⟨ha, hb⟩ := ap_at_app cs [2000 + o] i h
  rw [List.length_append]
  exact pu_Post_un (h1 c i ha) ho hb.1
theorem ap_pre_num {n : Nat} (hn : n < 1000) : ap_pre [n] (fun _ => nI n) := by
  intro m i h
  have ha : m i = nI n := h.1
  refine ⟨fun j hj => ?_, fun ρ k hk => ?_⟩
  · have hj2 : j < 1 := hj
    obtain rfl : j = 0 := by omega
    exact .inl ⟨n, hn, ha⟩
  · have hk2 : 1 ≤ k := hk
    obtain ⟨k, rfl⟩ : ∃ k', k = k' + 1 := ⟨k - 1, by omega⟩
    unfold pu_pe
    rw [ha, if_neg (show ¬ (1000 : Int32) ≤ nI n from nI_ge (b := 1000) (by omega) (by omega))]
    rfl
theorem ap_pre_leaf {n g : Nat} (hn : (∃ k, k < 4 ∧ n = 1000 + k ∧ g = k) ∨ (∃ k, k < 4 ∧ n = 1010 + k ∧ g = 4 + k) ∨ (∃ k, k < 3 ∧ n = 1020 + k ∧ g = 8 + k)) : ap_pre [n] (fun G => G g) := by
  have h1 : 1000 ≤ n ∧ n < 2000 := by
    rcases hn with ⟨k, a, b, c⟩ | ⟨k, a, b, c⟩ | ⟨k, a, b, c⟩ <;> omega
  have h2 : pu_lf (nI n) = g := by
    unfold pu_lf
    rcases hn with ⟨k, a, b, c⟩ | ⟨k, a, b, c⟩ | ⟨k, a, b, c⟩
    · rw [if_neg (show ¬ (1010 : Int32) ≤ nI n from nI_ge (b := 1010) (by omega) (by omega)), show (1000 : Int32) = nI 1000 from rfl, pk_sub (by omega), nI_clamp (by omega)]; omega
    · rw [if_pos (show (1010 : Int32) ≤ nI n from nI_le (a := 1010) (by omega) (by omega)), if_neg (show ¬ (1020 : Int32) ≤ nI n from nI_ge (b := 1020) (by omega) (by omega)), show (1010 : Int32) = nI 1010 from rfl, pk_sub (by omega), nI_clamp (by omega)]; omega
    · rw [if_pos (show (1010 : Int32) ≤ nI n from nI_le (a := 1010) (by omega) (by omega)), if_pos (show (1020 : Int32) ≤ nI n from nI_le (a := 1020) (by omega) (by omega))]
      have hk : k = 0 ∨ k = 1 ∨ k = 2 := by omega
      subst b; subst c
      rcases hk with h | h | h <;> subst h <;> decide
  intro m i h
  have ha : m i = nI n := h.1
  refine ⟨fun j hj => ?_, fun ρ k hk => ?_⟩
  · have hj2 : j < 1 := hj
    obtain rfl : j = 0 := by omega
    rcases hn with ⟨k, a, b, c⟩ | ⟨k, a, b, c⟩ | ⟨k, a, b, c⟩
    · exact .inr (.inl ⟨k, a, by rw [← b]; exact ha⟩)
    · exact .inr (.inr (.inl ⟨k, a, by rw [← b]; exact ha⟩))
    · exact .inr (.inr (.inr (.inl ⟨k, a, by rw [← b]; exact ha⟩)))
  · have hk2 : 1 ≤ k := hk
    obtain ⟨k, rfl⟩ : ∃ k', k = k' + 1 := ⟨k - 1, by omega⟩
    unfold pu_pe
    rw [ha, if_pos (show (1000 : Int32) ≤ nI n from nI_le (a := 1000) (by omega) (by omega)), if_neg (show ¬ (2000 : Int32) ≤ nI n from nI_ge (b := 2000) (by omega) (by omega)), h2]
    rfl
theorem ap_post_num {n : Nat} (hn : n < 1000) : ap_post [n] (fun _ => nI n) := by
  intro c i h
  exact pu_Post_leaf (n := n) (by omega) h.1 (fun G => by rw [if_neg (by omega)])
theorem ap_post_leaf {n g : Nat} (hg : g ≤ 10) (hn : n = 1000 + g) : ap_post [n] (fun G => G g) := by
  intro c i h
  exact pu_Post_leaf (n := n) (by omega) h.1 (fun G => by rw [if_pos (by omega), show n - 1000 = g by omega])
/-- one value, as many marks as code, no more than bytes -/
def ap_w (N p : Nat) (z : ap_Z) : Prop := match z with
  | .inl x => True
  | .inr (q, ms, cs) => p < q ∧ q ≤ N ∧ ms.length = cs.length ∧ ms.length ≤ q - p ∧ 0 < ms.length ∧ ∃ V, ap_pre ms V ∧ ap_post cs V
section
variable {t : Nat → Nat} {N : Nat}
theorem ap_w_lp {L : Nat} {sub : Nat → ap_Z} (hL : 1 ≤ L) (hs : ∀ p, p ≤ N → ap_w N p (sub p)) : ∀ (n p q : Nat) (ms cs : List Nat), ap_w N p (.inr (q, ms, cs)) → ap_w N p (ap_loop t N L sub n q ms cs) := by
  intro n
  induction n with
  | zero => intro p q ms cs h; exact h
  | succ n ih =>
    intro p q ms cs h
    unfold ap_loop
    by_cases c : q < N ∧ ma_rank (t q) = L
    · rw [if_pos c]
      have h2 := hs (q + 1) (by omega)
      cases hz : sub (q + 1) with
      | inl x => exact trivial
      | inr z =>
        obtain ⟨q2, m2, c2⟩ := z
        rw [hz] at h2
        obtain ⟨a1, a2, a3, a4, a5, V, a6, a7⟩ := h
        obtain ⟨b1, b2, b3, b4, b5, W, b6, b7⟩ := h2
        refine ih p q2 _ _ ⟨by omega, b2, ?_, ?_, ?_, fun G => fn_combined (nI (t q)) (V G) (W G), ap_pre_bin (by omega) a6 b6, ap_post_bin (by omega) a7 b7 (by omega)⟩
        · simp only [List.length_cons, List.length_append, List.length_nil]; omega
        · simp only [List.length_cons, List.length_append]; omega
        · simp only [List.length_cons, List.length_append]; omega
    · rw [if_neg c]; exact h
theorem ap_w_lv {L : Nat} {sub : Nat → ap_Z} (hL : 1 ≤ L) (hs : ∀ p, p ≤ N → ap_w N p (sub p)) (p : Nat) (hp : p ≤ N) : ap_w N p (ap_lv t N L sub p) := by
  have h := hs p hp
  unfold ap_lv
  cases hz : sub p with
  | inl x => exact trivial
  | inr z =>
    obtain ⟨q, ms, cs⟩ := z
    rw [hz] at h
    exact ap_w_lp hL hs (N + 1) p q ms cs h
theorem ap_w_cmp {sub : Nat → ap_Z} (hs : ∀ p, p ≤ N → ap_w N p (sub p)) (p : Nat) (hp : p ≤ N) : ap_w N p (ap_cmp t N sub p) := by
  have h := hs p hp
  unfold ap_cmp
  cases hz : sub p with
  | inl x => exact trivial
  | inr z =>
    obtain ⟨q, ms, cs⟩ := z
    rw [hz] at h
    simp only
    by_cases c : q < N ∧ ma_rank (t q) = 3
    · rw [if_pos c]
      have h2 := hs (q + 1) (by omega)
      cases hy : sub (q + 1) with
      | inl x => exact trivial
      | inr z =>
        obtain ⟨q2, m2, c2⟩ := z
        rw [hy] at h2
        obtain ⟨a1, a2, a3, a4, a5, V, a6, a7⟩ := h
        obtain ⟨b1, b2, b3, b4, b5, W, b6, b7⟩ := h2
        refine ⟨by omega, b2, ?_, ?_, ?_, fun G => fn_combined (nI (t q)) (V G) (W G), ap_pre_bin (by omega) a6 b6, ap_post_bin (by omega) a7 b7 (by omega)⟩
        · simp only [List.length_cons, List.length_append, List.length_nil]; omega
        · simp only [List.length_cons, List.length_append]; omega
        · simp only [List.length_cons, List.length_append]; omega
    · rw [if_neg c]; exact h
theorem ap_w_either {U : Nat → ap_Z} (hU : ∀ p, p ≤ N → ap_w N p (U p)) : ∀ p, p ≤ N → ap_w N p (ap_either t N U p) :=
  ap_w_lv (by omega) (ap_w_lv (by omega) (ap_w_cmp (ap_w_lv (by omega) (ap_w_lv (by omega) hU))))
theorem ap_w_leaf {p b m c : Nat} (hp : p < N) (h : ma_leaf t N p = .inr (b, m, c)) : ap_w N p (.inr (p + b, [m], [c])) := by
  have hb := ma_leaf_lt hp h
  refine ⟨by omega, hb.2, rfl, by show 1 ≤ p + b - p; omega, Nat.one_pos, ?_⟩
  unfold ma_leaf at h
  split at h
  · next h1 =>
    split at h
    · next h2 =>
      cases h
      obtain ⟨j, hj, e⟩ : ∃ j, j < 4 ∧ t (p + 1) - 48 = j := ⟨_, by omega, rfl⟩
      rw [e]
      by_cases c : t p = 117
      · rw [if_pos c, if_pos c]
        exact ⟨fun G => G j, ap_pre_leaf (.inl ⟨j, hj, rfl, rfl⟩), ap_post_leaf (by omega) rfl⟩
      · rw [if_neg c, if_neg c]
        exact ⟨fun G => G (4 + j), ap_pre_leaf (.inr (.inl ⟨j, hj, rfl, rfl⟩)), ap_post_leaf (by omega) (by omega)⟩
    · cases h
  · split at h
    · cases h
      exact ⟨fun G => G 8, ap_pre_leaf (.inr (.inr ⟨0, by omega, rfl, rfl⟩)), ap_post_leaf (by omega) rfl⟩
    · split at h
      · cases h
        exact ⟨fun G => G 9, ap_pre_leaf (.inr (.inr ⟨1, by omega, rfl, rfl⟩)), ap_post_leaf (by omega) rfl⟩
      · split at h
        · cases h
          exact ⟨fun G => G 10, ap_pre_leaf (.inr (.inr ⟨2, by omega, rfl, rfl⟩)), ap_post_leaf (by omega) rfl⟩
        · split at h
          · next v b' hn =>
            cases h
            have hv : m < 1000 := by
              unfold ma_num at hn
              split at hn
              · next d0 =>
                have e0 := sn_dgF d0
                split at hn
                · next d1 =>
                  have e1 := sn_dgF d1
                  split at hn
                  · next d2 =>
                    have e2 := sn_dgF d2
                    cases hn; omega
                  · cases hn; omega
                · cases hn; omega
              · cases hn
            exact ⟨fun _ => nI m, ap_pre_num hv, ap_post_num hv⟩
          · cases h
theorem ap_w_unit : ∀ (n k p : Nat), p ≤ N → ap_w N p (ap_unit t N n k p) := by
  intro n
  induction n with
  | zero => intro k p hp; exact trivial
  | succ n ih =>
    intro k p hp
    unfold ap_unit
    by_cases c0 : N ≤ p
    · rw [if_pos c0]; exact trivial
    rw [if_neg c0]
    by_cases c1 : t p = 33 ∨ t p = 45 ∨ t p = 40
    · rw [if_pos c1]
      by_cases c2 : 6 ≤ k
      · rw [if_pos c2]; exact trivial
      rw [if_neg c2]
      by_cases c3 : t p = 40
      · rw [if_pos c3]
        have h := ap_w_either (t := t) (ih (k + 1)) (p + 1) (by omega)
        cases hz : ap_either t N (ap_unit t N n (k + 1)) (p + 1) with
        | inl x => exact trivial
        | inr z =>
          obtain ⟨q, ms, cs⟩ := z
          rw [hz] at h
          simp only
          by_cases c4 : q < N ∧ t q = 41
          · rw [if_pos c4]
            obtain ⟨a1, a2, a3, a4, a5, a6⟩ := h
            exact ⟨by omega, by omega, a3, by omega, a5, a6⟩
          · rw [if_neg c4]; exact trivial
      · rw [if_neg c3]
        have h := ih (k + 1) (p + 1) (by omega)
        have hm : ma_mark (t p) = 33 ∨ ma_mark (t p) = 126 := by
          unfold ma_mark
          rcases c1 with h | h | h
          · rw [if_neg (by omega)]; exact .inl h
          · rw [if_pos h]; exact .inr rfl
          · exact absurd h c3
        cases hz : ap_unit t N n (k + 1) (p + 1) with
        | inl x => exact trivial
        | inr z =>
          obtain ⟨q, ms, cs⟩ := z
          rw [hz] at h
          obtain ⟨a1, a2, a3, a4, a5, V, a6, a7⟩ := h
          refine ⟨by omega, a2, ?_, ?_, ?_, _, ap_pre_un hm a6, ap_post_un hm a7⟩
          · simp only [List.length_cons, List.length_append, List.length_nil]; omega
          · simp only [List.length_cons]; omega
          · simp only [List.length_cons]; omega
    · rw [if_neg c1]
      cases hz : ma_leaf t N p with
      | inl x => exact trivial
      | inr z =>
        obtain ⟨b, m, c⟩ := z
        exact ap_w_leaf (by omega) hz
theorem ap_w_all : ap_w N 0 (ap_all t N) := by
  have h := ap_w_either (t := t) (ap_w_unit (t := t) (N := N) 9 0) 0 (by omega)
  unfold ap_all
  cases hz : ap_either t N (ap_unit t N 9 0) 0 with
  | inl x => exact trivial
  | inr z =>
    obtain ⟨q, ms, cs⟩ := z
    rw [hz] at h
    simp only
    by_cases c : q < N
    · rw [if_pos c]; exact trivial
    · rw [if_neg c]; exact h
end
