/-! PHASE 2: rules for runs of the abstract machine; the fixed object graph -/
theorem am_run_le {cs : List am_K} : ∀ (n n' d : Nat) (code : am_K) (pc : Nat) (L S : List Value) (μ : am_M) (v : Option Value × am_M), n ≤ n' → am_run cs n d code pc L S μ = some v → am_run cs n' d code pc L S μ = some v := by
  intro n
  induction n with
  | zero => intro n' d code pc L S μ v _ h; cases h
  | succ n ih =>
    intro n' d code pc L S μ v hle h
    obtain ⟨m, rfl⟩ : ∃ m, n' = m + 1 := ⟨n' - 1, by omega⟩
    have hle' : n ≤ m := by omega
    unfold am_run at h ⊢
    split at h
    · cases h
    · split at h
      · cases h
      · next hs => (try rw [hs]); exact ih m d code _ _ _ _ v hle' h
    · split at h
      · cases h
      · split at h
        · cases h
        · next hv =>
          (try rw [hv])
          (try simp only)
          split at h
          · cases h
          · next hc =>
            (try rw [hc])
            (try simp only)
            split at h
            · cases h
            · next hL =>
              (try rw [hL])
              (try simp only)
              split at h
              · cases h
              · next hr =>
                (try simp only)
                rw [ih m _ _ _ _ _ _ _ hle' hr]
                exact ih m _ _ _ _ _ _ v hle' h
    · exact h
theorem am_run_dle {cs : List am_K} : ∀ (n d d' : Nat) (code : am_K) (pc : Nat) (L S : List Value) (μ : am_M) (v : Option Value × am_M), d ≤ d' → am_run cs n d code pc L S μ = some v → am_run cs n d' code pc L S μ = some v := by
  intro n
  induction n with
  | zero => intro d d' code pc L S μ v _ h; cases h
  | succ n ih =>
    intro d d' code pc L S μ v hle h
    unfold am_run at h ⊢
    split at h
    · cases h
    · split at h
      · cases h
      · next hs => (try rw [hs]); exact ih d d' code _ _ _ _ v hle h
    · split at h
      · cases h
      · next d0 =>
        obtain ⟨d1, rfl⟩ : ∃ d1, d' = d1 + 1 := ⟨d' - 1, by omega⟩
        split at h
        · cases h
        · next hv =>
          (try simp only)
          (try rw [hv])
          split at h
          · cases h
          · next hc =>
            (try rw [hc])
            (try simp only)
            split at h
            · cases h
            · next hL =>
              (try rw [hL])
              (try simp only)
              split at h
              · cases h
              · next hr =>
                (try simp only)
                rw [ih d0 d1 _ _ _ _ _ _ (by omega) hr]
                exact ih (d0 + 1) (d1 + 1) _ _ _ _ _ v (by omega) h
    · exact h
def am_F (d : Nat) (code : am_K) (pc : Nat) (L S : List Value) (μ : am_M) (res : Option Value × am_M) : Prop := ∃ n, am_run am_codes n d code pc L S μ = some res
def am_D (d j nL : Nat) (vs : List Value) (μ : am_M) (res : Option Value × am_M) : Prop := ∃ (code : am_K) (L0 : List Value), am_codes[j]? = some code ∧ am_locs vs nL = some L0 ∧ am_F d code 0 L0 [] μ res
def am_ops : Nat → am_K → Nat → List Value → List Value → am_M → Option (Nat × List Value × List Value × am_M)
  | 0, _, pc, L, S, μ => some (pc, L, S, μ)
  | k + 1, code, pc, L, S, μ => match am_look pc code with
    | some (.inl f) => match f L S μ with
      | some (pc', L', S', μ') => am_ops k code pc' L' S' μ'
      | none => none
    | _ => none
section
variable {d d' pc pc' k : Nat} {code : am_K} {L S L' S' : List Value} {μ μ' : am_M} {res : Option Value × am_M}
theorem am_F.ops (k : Nat) (h : am_ops k code pc L S μ = some (pc', L', S', μ')) (g : am_F d code pc' L' S' μ' res) : am_F d code pc L S μ res := by
  induction k generalizing pc L S μ with
  | zero => cases h; exact g
  | succ k ih =>
    unfold am_ops at h
    split at h
    · next f hf =>
      split at h
      · next hs =>
        obtain ⟨n, hn⟩ := ih h
        refine ⟨n + 1, ?_⟩
        unfold am_run
        rw [hf]
        simp only
        rw [hs]
        exact hn
      · cases h
    · cases h
theorem am_F.ret {k : Nat} (h : am_look pc code = some (.inr (.inr k))) (h2 : am_ret k S μ = some res) : am_F d code pc L S μ res := by
  refine ⟨1, ?_⟩
  unfold am_run
  rw [h]
  exact h2
theorem am_F.call {j na rc nxt nL : Nat} {vs rest : List Value} {r : Option Value} (h : am_look pc code = some (.inr (.inl (j, na, rc, nxt, nL)))) (hc : am_call na rc S μ = some (vs, rest)) (hD : am_D d' j nL vs μ (r, μ')) (hd : d' ≤ d) (g : am_F (d + 1) code nxt L (r.toList ++ rest) μ' res) : am_F (d + 1) code pc L S μ res := by
  obtain ⟨code', L0, h1, h2, n1, h3⟩ := hD
  obtain ⟨n2, h4⟩ := g
  refine ⟨max n1 n2 + 1, ?_⟩
  unfold am_run
  rw [h]
  simp only
  rw [hc]
  simp only
  rw [h1]
  simp only
  rw [h2]
  simp only
  rw [am_run_le n1 (max n1 n2) d _ _ _ _ _ _ (Nat.le_max_left _ _) (am_run_dle n1 d' d _ _ _ _ _ _ hd h3)]
  exact am_run_le n2 (max n1 n2) _ _ _ _ _ _ _ (Nat.le_max_right _ _) h4
theorem am_D.of {j nL : Nat} {vs L0 : List Value} (h1 : am_codes[j]? = some code) (h2 : am_locs vs nL = some L0) (g : am_F d code 0 L0 [] μ res) : am_D d j nL vs μ res := ⟨code, L0, h1, h2, g⟩
theorem am_D.le {j nL : Nat} {vs : List Value} (h : am_D d j nL vs μ res) (hd : d ≤ d') : am_D d' j nL vs μ res := by
  obtain ⟨code', L0, h1, h2, n1, h3⟩ := h
  exact ⟨code', L0, h1, h2, n1, am_run_dle n1 d d' _ _ _ _ _ _ hd h3⟩
theorem am_F.ite {P : Prop} [Decidable P] {t n : Nat} (k : Nat) (h : am_ops k code pc L S μ = some ((if P then t else n), L', S', μ')) (kt : P → am_F d code t L' S' μ' res) (kf : ¬ P → am_F d code n L' S' μ' res) : am_F d code pc L S μ res := by
  refine am_F.ops k h ?_
  by_cases c : P
  · rw [if_pos c]; exact kt c
  · rw [if_neg c]; exact kf c
theorem am_F.iteR {α : Type} {P : Prop} [Decidable P] {t n : Nat} (k : Nat) (h : am_ops k code pc L S μ = some ((if P then t else n), L', S', μ')) (R : α → Option Value × am_M) {a b : α} (kt : P → am_F d code t L' S' μ' (R a)) (kf : ¬ P → am_F d code n L' S' μ' (R b)) : am_F d code pc L S μ (R (if P then a else b)) := by
  by_cases c : P
  · rw [if_pos c]
    refine am_F.ops k h ?_
    rw [if_pos c]; exact kt c
  · rw [if_neg c]
    refine am_F.ops k h ?_
    rw [if_neg c]; exact kf c
theorem am_F.pos {P : Prop} [Decidable P] {t n : Nat} (k : Nat) (h : am_ops k code pc L S μ = some ((if P then t else n), L', S', μ')) (c : P) (g : am_F d code t L' S' μ' res) : am_F d code pc L S μ res := am_F.ite k h (fun _ => g) (fun z => absurd c z)
theorem am_F.neg {P : Prop} [Decidable P] {t n : Nat} (k : Nat) (h : am_ops k code pc L S μ = some ((if P then t else n), L', S', μ')) (c : ¬ P) (g : am_F d code n L' S' μ' res) : am_F d code pc L S μ res := am_F.ite k h (fun z => absurd z c) (fun _ => g)
theorem am_F.eq {res' : Option Value × am_M} (g : am_F d code pc L S μ res') (e : res' = res) : am_F d code pc L S μ res := e ▸ g
theorem am_F.st {L' S' : List Value} {μ' : am_M} (g : am_F d code pc L' S' μ' res) (e1 : L = L') (e2 : S = S') (e3 : μ = μ') : am_F d code pc L S μ res := by subst e1; subst e2; subst e3; exact g
end
/-! the object graph after both constructors: kinds and lengths; references -/
def am_nth {α : Type} : List α → Nat → α → α
  | [], _, x => x
  | y :: _, 0, _ => y
  | _ :: l, k + 1, x => am_nth l k x
def am_kdl : List (Nat × Nat) := [(11, 0), (10, 0), (8, 0), (5, 0), (0, 20), (0, 20), (0, 20), (0, 20), (0, 20), (0, 20), (0, 20), (3, 0), (0, 40), (0, 40), (0, 40), (0, 40), (0, 40), (0, 40), (6, 0), (0, 30), (0, 30), (0, 30), (0, 30), (0, 30), (0, 30), (0, 30), (0, 2400), (0, 64), (0, 64), (0, 16), (0, 16), (0, 20), (0, 180), (0, 3), (0, 16), (0, 16), (0, 11), (0, 80), (10, 0), (8, 0), (5, 0), (0, 20), (0, 20), (0, 20), (0, 20), (0, 20), (0, 20), (0, 20), (3, 0), (0, 40), (0, 40), (0, 40), (0, 40), (0, 40), (0, 40), (6, 0), (0, 30), (0, 30), (0, 30), (0, 30), (0, 30), (0, 30), (0, 30), (0, 2400), (0, 64), (0, 64), (0, 16), (0, 16), (0, 20), (0, 180), (0, 3), (0, 16), (0, 16), (0, 11), (0, 80), (9, 0), (0, 80), (4, 0), (0, 80), (0, 80), (7, 0), (0, 90), (0, 3), (2, 0), (0, 62), (0, 62), (0, 20), (0, 20), (12, 0), (0, 3340), (0, 3340), (0, 3340), (0, 20), (0, 16), (0, 16), (0, 20), (1, 40), (0, 80), (0, 81), (0, 64), (0, 64), (0, 90), (0, 3), (0, 2048), (0, 201)]
def am_mrl : List (List (Option Nat)) := [[some 1, some 38, some 2, some 75, some 77, some 80, some 83, some 86, some 87], [some 2, some 34, some 35, some 36, some 37], [some 3, some 11, some 18, some 27, some 28, some 29, some 30, some 31, some 32, some 33], [some 4, some 5, some 6, some 7, some 8, some 9, some 10], [], [], [], [], [], [], [], [some 12, some 13, some 14, some 15, some 16, some 17], [], [], [], [], [], [], [some 19, some 20, some 21, some 22, some 23, some 24, some 25, some 26], [], [], [], [], [], [], [], [], [], [], [], [], [], [], [], [], [], [], [], [some 39, some 71, some 72, some 73, some 74], [some 40, some 48, some 55, some 64, some 65, some 66, some 67, some 68, some 69, some 70], [some 41, some 42, some 43, some 44, some 45, some 46, some 47], [], [], [], [], [], [], [], [some 49, some 50, some 51, some 52, some 53, some 54], [], [], [], [], [], [], [some 56, some 57, some 58, some 59, some 60, some 61, some 62, some 63], [], [], [], [], [], [], [], [], [], [], [], [], [], [], [], [], [], [], [], [some 76], [], [some 78, some 79], [], [], [some 81, some 82], [], [], [some 84, some 85], [], [], [], [], [some 89, some 90, some 91, none, some 92, some 93, some 94, some 95, some 96, some 97, some 98, none, none, none, none, none, none, none, none, none, none, some 99, some 100, none, none, some 101, some 102, none, none, none, some 103, some 104], [], [], [], [], [], [], [], [], [], [], [], [], [], [], [], []]
def am_kd0 (k : Nat) : Nat × Nat := am_nth am_kdl k (0, 0)
def am_mr0 (k j : Nat) : Option Nat := am_nth (am_nth am_mrl k []) j none
/-- a memory behind the constructors: its numbers and its longs -/
def am_S (f : Nat → Nat → Int32) (g : Nat → Nat → Int64) : am_M := (f, g, am_mr0, am_kd0, 105, 20371)
def am_b (p : Bool) : Int32 := bif p then 1 else 0
