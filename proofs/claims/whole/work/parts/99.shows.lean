/-! THE PURE LAYER: what is shown at the ticks to come; pairs of calls: until, changes -/
set_option linter.unusedVariables false
theorem pu_same {F F' M : Nat → Nat → Int32} (h : pu_A F M) (h' : pu_A F' M) {u a t : Nat} (hu : u < 16) (ha : a < 8) (ht : t < 16) : pu_av F M u a t = pu_av F' M u a t := by
  obtain ⟨w, w1, -⟩ := pu_avM h (M' := M) rfl rfl hu ha ht
  obtain ⟨w', w1', -⟩ := pu_avM h' (M' := M) rfl rfl hu ha ht
  rw [w1] at w1'
  exact congrArg Prod.fst (Option.some.inj w1')
theorem pu_avM1 {F M M' : Nat → Nat → Int32} {u : Nat} (h : pu_A F M) (e1 : M' 89 = M 89) (e2 : M' 94 u = M 94 u) {a t : Nat} (hu : u < 16) (ha : a < 8) (ht : t < 16) : ∃ w, fn_m_answer (nI u) (nI a) (nI t) M' = some (pu_av F M u a t, w) ∧ pu_K8 (M' 88) w := by
  obtain ⟨h1, h2, h3, h4, h5, h6, h7, h8⟩ := h
  obtain ⟨w, w1, w2, w3⟩ := pu_answer (F := F) (f' := M') (by rw [e1]; exact h1) (by rw [e1]; exact h2) (by rw [e1]; exact h3) (by rw [e1]; exact h4) (by rw [e1]; exact h5) (by rw [e1]; exact h6) hu ha ht
  unfold pu_av
  unfold pu_app at w1 w2 ⊢
  rw [e1, e2] at w1 w2
  exact ⟨w, w1, w3⟩
theorem pu_ahead {f : Nat → Nat → Int32} {g : Nat → Nat → Int64} (hI : pu_I f g) {F1 : Nat → Nat → Int32} (e1 : F1 89 = f 89) (e2 : F1 92 = f 92) {u a t : Nat} (hu : u < 16) (ha : a < 8) (ht : t < 16) : ∃ v : Nat → Int32, (∀ (j : Nat) (r1 r35 r36 r37 : Nat → Int32) (l1 : Nat → Int64), (fn_answer u (nI a) t (am_row (am_row (am_row (am_row (am_row f 1 (fn_turnTo (f 2 12 + nI j) (am_row (am_row (am_row (am_row (am_row f 1 r1) 34 (fn_settle (f 2 12) f g).2.1) 35 r35) 36 r36) 37 r37) (am_row g 1 l1)).1) 34 (fn_settle (f 2 12) f g).2.1) 35 (fn_turnTo (f 2 12 + nI j) (am_row (am_row (am_row (am_row (am_row f 1 r1) 34 (fn_settle (f 2 12) f g).2.1) 35 r35) 36 r36) 37 r37) (am_row g 1 l1)).2.1) 36 r36) 37 r37)).1 = v j) ∧ (fn_answer u (nI a) t (pu_sF (f 2 12) f g)).1 = v 0 ∧ ∀ (j : Nat) (s r88 r93 r94 r96 : Nat → Int32), (∀ i, i ≠ 200 → s i = f 89 i) → s 200 = f 2 12 + nI j → ∀ M' : Nat → Nat → Int32, M' 89 = s → M' 94 u = pu_sM (am_row (am_row (am_row (am_row (am_row F1 88 r88) 89 s) 93 r93) 94 r94) 96 r96) 94 u → ∃ w, fn_m_answer (nI u) (nI a) (nI t) M' = some (v j, w) ∧ pu_K8 (M' 88) w := by
  have v6 : f 2 12 = f 89 200 := hI.2.1.2.2.2.2.2.1
  have cA : ∀ (j : Nat) (s r88 r93 r94 r96 r1 r35 r36 r37 : Nat → Int32) (l1 : Nat → Int64), (∀ i, i ≠ 200 → s i = f 89 i) → s 200 = f 2 12 + nI j → pu_A (am_row (am_row (am_row (am_row (am_row f 1 (fn_turnTo (f 2 12 + nI j) (am_row (am_row (am_row (am_row (am_row f 1 r1) 34 (fn_settle (f 2 12) f g).2.1) 35 r35) 36 r36) 37 r37) (am_row g 1 l1)).1) 34 (fn_settle (f 2 12) f g).2.1) 35 (fn_turnTo (f 2 12 + nI j) (am_row (am_row (am_row (am_row (am_row f 1 r1) 34 (fn_settle (f 2 12) f g).2.1) 35 r35) 36 r36) 37 r37) (am_row g 1 l1)).2.1) 36 r36) 37 r37) (pu_sM (am_row (am_row (am_row (am_row (am_row F1 88 r88) 89 s) 93 r93) 94 r94) 96 r96)) := fun j s r88 r93 r94 r96 r1 r35 r36 r37 l1 h1 h2 => pu_A_at hI e1 e2 (f 2 12 + nI j) h1 h2 r1 r35 r36 r37 r88 r93 r94 r96 l1 _ rfl
  have eqv : ∀ (j : Nat) (s r88 r93 r94 r96 r1 r35 r36 r37 : Nat → Int32) (l1 : Nat → Int64), (∀ i, i ≠ 200 → s i = f 89 i) → s 200 = f 2 12 + nI j → (fn_answer u (nI a) t (am_row (am_row (am_row (am_row (am_row f 1 (fn_turnTo (f 2 12 + nI j) (am_row (am_row (am_row (am_row (am_row f 1 r1) 34 (fn_settle (f 2 12) f g).2.1) 35 r35) 36 r36) 37 r37) (am_row g 1 l1)).1) 34 (fn_settle (f 2 12) f g).2.1) 35 (fn_turnTo (f 2 12 + nI j) (am_row (am_row (am_row (am_row (am_row f 1 r1) 34 (fn_settle (f 2 12) f g).2.1) 35 r35) 36 r36) 37 r37) (am_row g 1 l1)).2.1) 36 r36) 37 r37)).1 = pu_av (am_row (am_row (am_row (am_row (am_row f 1 (fn_turnTo (f 2 12 + nI j) (am_row (am_row (am_row (am_row (am_row f 1 r1) 34 (fn_settle (f 2 12) f g).2.1) 35 r35) 36 r36) 37 r37) (am_row g 1 l1)).1) 34 (fn_settle (f 2 12) f g).2.1) 35 (fn_turnTo (f 2 12 + nI j) (am_row (am_row (am_row (am_row (am_row f 1 r1) 34 (fn_settle (f 2 12) f g).2.1) 35 r35) 36 r36) 37 r37) (am_row g 1 l1)).2.1) 36 r36) 37 r37) (pu_sM (am_row (am_row (am_row (am_row (am_row F1 88 r88) 89 s) 93 r93) 94 r94) 96 r96)) u a t := fun j s r88 r93 r94 r96 r1 r35 r36 r37 l1 h1 h2 => pu_avC (cA j s r88 r93 r94 r96 r1 r35 r36 r37 l1 h1 h2) r36 r37 hu ha ht
  refine ⟨fun j => (fn_answer u (nI a) t (am_row (am_row (am_row (am_row (am_row f 1 (fn_turnTo (f 2 12 + nI j) (am_row (am_row (am_row (am_row (am_row f 1 (f 1)) 34 (fn_settle (f 2 12) f g).2.1) 35 (f 35)) 36 (f 36)) 37 (f 37)) (am_row g 1 (g 1))).1) 34 (fn_settle (f 2 12) f g).2.1) 35 (fn_turnTo (f 2 12 + nI j) (am_row (am_row (am_row (am_row (am_row f 1 (f 1)) 34 (fn_settle (f 2 12) f g).2.1) 35 (f 35)) 36 (f 36)) 37 (f 37)) (am_row g 1 (g 1))).2.1) 36 (f 36)) 37 (f 37))).1, fun j r1 r35 r36 r37 l1 => ?_, ?_, fun j s r88 r93 r94 r96 h1 h2 M' m1 m2 => ?_⟩
  · obtain ⟨s, hs⟩ : ∃ s, s = upd (f 89) 200 (f 2 12 + nI j) := ⟨_, rfl⟩
    have h1 : ∀ i, i ≠ 200 → s i = f 89 i := fun i hi => by rw [hs]; exact pu_un hi
    have h2 : s 200 = f 2 12 + nI j := by rw [hs]; exact pu_us
    rw [eqv j s (F1 88) (F1 93) (F1 94) (F1 96) r1 r35 r36 r37 l1 h1 h2]
    dsimp only
    rw [eqv j s (F1 88) (F1 93) (F1 94) (F1 96) (f 1) (f 35) (f 36) (f 37) (g 1) h1 h2]
    exact pu_same (cA j s (F1 88) (F1 93) (F1 94) (F1 96) r1 r35 r36 r37 l1 h1 h2) (cA j s (F1 88) (F1 93) (F1 94) (F1 96) (f 1) (f 35) (f 36) (f 37) (g 1) h1 h2) hu ha ht
  · have h1 : ∀ i, i ≠ 200 → F1 89 i = f 89 i := fun i _ => congrFun e1 i
    have h2 : F1 89 200 = f 2 12 + nI 0 := by
      rw [e1, v6]
      show f 89 200 = f 89 200 + 0
      rw [Int32.add_zero]
    dsimp only
    rw [eqv 0 (F1 89) (F1 88) (F1 93) (F1 94) (F1 96) (f 1) (f 35) (f 36) (f 37) (g 1) h1 h2]
    have hA := cA 0 (F1 89) (F1 88) (F1 93) (F1 94) (F1 96) (f 1) (f 35) (f 36) (f 37) (g 1) h1 h2
    rw [am_row_id, am_row_id, am_row_id, am_row_id, am_row_id] at hA ⊢
    have hA0 := pu_A_mk hI e1 e2
    have e : (fn_answer u (nI a) t (pu_sF (f 2 12) f g)).1 = pu_av (pu_sF (f 2 12) f g) (pu_sM F1) u a t := by
      have := pu_avC hA0 (pu_sF (f 2 12) f g 36) (pu_sF (f 2 12) f g 37) hu ha ht
      rw [am_row_id, am_row_id] at this
      exact this
    rw [e]
    exact pu_same hA0 hA hu ha ht
  · dsimp only
    have hA := cA j s r88 r93 r94 r96 (f 1) (f 35) (f 36) (f 37) (g 1) h1 h2
    rw [eqv j s r88 r93 r94 r96 (f 1) (f 35) (f 36) (f 37) (g 1) h1 h2]
    exact pu_avM1 hA m1 m2 hu ha ht
theorem pu_shows {f : Nat → Nat → Int32} {g : Nat → Nat → Int64} (hI : pu_I f g) {F1 : Nat → Nat → Int32} (e1 : F1 89 = f 89) (e2 : F1 92 = f 92) {u a t : Nat} (hu : u < 16) (ha : a < 8) (ht : t < 16) : ∃ v : Nat → Int32, (∀ (j : Nat) (r1 r35 r36 r37 : Nat → Int32) (l1 : Nat → Int64), (fn_answer u (nI a) t (am_row (am_row (am_row (am_row (am_row f 1 (fn_turnTo (f 2 12 + nI j) (am_row (am_row (am_row (am_row (am_row f 1 r1) 34 (fn_settle (f 2 12) f g).2.1) 35 r35) 36 r36) 37 r37) (am_row g 1 l1)).1) 34 (fn_settle (f 2 12) f g).2.1) 35 (fn_turnTo (f 2 12 + nI j) (am_row (am_row (am_row (am_row (am_row f 1 r1) 34 (fn_settle (f 2 12) f g).2.1) 35 r35) 36 r36) 37 r37) (am_row g 1 l1)).2.1) 36 r36) 37 r37)).1 = v j) ∧ (fn_answer u (nI a) t (pu_sF (f 2 12) f g)).1 = v 0 ∧ ∃ z, fn_m_shows (nI u) (nI a) (nI t) F1 = some z ∧ pu_K8 (F1 88) z.1 ∧ z.2.1 = f 89 ∧ ∀ j, j < 201 → z.2.2.2.2.2 j = v j := by
  obtain ⟨v, k1, k2, k3⟩ := pu_ahead hI e1 e2 hu ha ht
  refine ⟨v, k1, k2, ?_⟩
  obtain ⟨hc, hv, hd, hk, ht', hg⟩ := hI
  obtain ⟨c1, c2, c3, c4, c5, c6, c7, c8⟩ := id hc
  have e6 : f 2 12 = F1 89 200 := by rw [e1]; exact hv.2.2.2.2.2.1
  obtain ⟨z, z1, z2⟩ := pu_forO0 (f := st_m_shows_13 (nI u) (nI a) (nI t) F1) (fun k y => pu_K8 (F1 88) y.1 ∧ (∀ j, j ≠ 200 → y.2.1 j = f 89 j) ∧ ∀ j, j < k → y.2.2.2.2.2 j = v j) (fun z => match z with
    | .inl y => pu_K8 (F1 88) y.1 ∧ (∀ j, j ≠ 200 → y.2.1 j = f 89 j) ∧ ∀ j, j < 201 → y.2.2.2.2.2 j = v j
    | .inr e => False) (200 + 1) (F1 88, F1 89, F1 93, F1 94, F1 96, F1 104) ⟨fun _ _ _ => rfl, fun j _ => congrFun e1 j, fun j hj => absurd hj (Nat.not_lt_zero _)⟩ (by
    rintro j ⟨r88, r89, r93, r94, r96, r104⟩ hj ⟨hr8, hr9, hv⟩
    simp only at hr8 hr9 hv
    obtain ⟨s, hs⟩ : ∃ s, s = upd r89 200 (F1 89 200 + nI j) := ⟨_, rfl⟩
    have hs1 : ∀ j, j ≠ 200 → s j = f 89 j := fun j hj => by rw [hs]; exact (pu_un hj).trans (hr9 j hj)
    have hs2 : s 200 = f 2 12 + nI j := by rw [hs, e6]; exact pu_us
    have hok : am_mOK s := pu_mOK (pu_Cln_c (hs1 _ (by omega)) (fun j h1 h2 => hs1 j (by omega)) c6) (pu_Crl_c (hs1 _ (by omega)) (fun j h1 h2 => hs1 j (by omega)) c7)
    obtain ⟨-, -, o3⟩ := pu_holders (f' := (am_row (am_row (am_row (am_row (am_row F1 88 r88) 89 s) 93 r93) 94 r94) 96 r96))
    obtain ⟨w, w1, w2⟩ := k3 j s r88 r93 r94 r96 hs1 hs2 (am_row (am_row (am_row (am_row (am_row (am_row F1 88 r88) 89 s) 93 (fn_m_stand_155 (am_row (am_row (am_row (am_row (am_row (am_row F1 88 r88) 89 s) 93 r93) 94 r94) 96 r96) 104 r104)).1) 94 (upd r94 u (fn_m_heldBy_159 u (am_row (am_row (am_row (am_row (am_row (am_row F1 88 r88) 89 s) 93 (fn_m_stand_155 (am_row (am_row (am_row (am_row (am_row (am_row F1 88 r88) 89 s) 93 r93) 94 r94) 96 r96) 104 r104)).1) 94 r94) 96 (fn_m_stand_155 (am_row (am_row (am_row (am_row (am_row (am_row F1 88 r88) 89 s) 93 r93) 94 r94) 96 r96) 104 r104)).2) 104 r104)))) 96 (fn_m_stand_155 (am_row (am_row (am_row (am_row (am_row (am_row F1 88 r88) 89 s) 93 r93) 94 r94) 96 r96) 104 r104)).2) 104 r104) rfl (pu_us.trans (o3 u hu).symm)
    refine .inl ⟨(w, s, (am_row (am_row (am_row (am_row (am_row (am_row F1 88 r88) 89 s) 93 (fn_m_stand_155 (am_row (am_row (am_row (am_row (am_row (am_row F1 88 r88) 89 s) 93 r93) 94 r94) 96 r96) 104 r104)).1) 94 (upd r94 u (fn_m_heldBy_159 u (am_row (am_row (am_row (am_row (am_row (am_row F1 88 r88) 89 s) 93 (fn_m_stand_155 (am_row (am_row (am_row (am_row (am_row (am_row F1 88 r88) 89 s) 93 r93) 94 r94) 96 r96) 104 r104)).1) 94 r94) 96 (fn_m_stand_155 (am_row (am_row (am_row (am_row (am_row (am_row F1 88 r88) 89 s) 93 r93) 94 r94) 96 r96) 104 r104)).2) 104 r104)))) 96 (fn_m_stand_155 (am_row (am_row (am_row (am_row (am_row (am_row F1 88 r88) 89 s) 93 r93) 94 r94) 96 r96) 104 r104)).2) 104 r104) 93, (am_row (am_row (am_row (am_row (am_row (am_row F1 88 r88) 89 s) 93 (fn_m_stand_155 (am_row (am_row (am_row (am_row (am_row (am_row F1 88 r88) 89 s) 93 r93) 94 r94) 96 r96) 104 r104)).1) 94 (upd r94 u (fn_m_heldBy_159 u (am_row (am_row (am_row (am_row (am_row (am_row F1 88 r88) 89 s) 93 (fn_m_stand_155 (am_row (am_row (am_row (am_row (am_row (am_row F1 88 r88) 89 s) 93 r93) 94 r94) 96 r96) 104 r104)).1) 94 r94) 96 (fn_m_stand_155 (am_row (am_row (am_row (am_row (am_row (am_row F1 88 r88) 89 s) 93 r93) 94 r94) 96 r96) 104 r104)).2) 104 r104)))) 96 (fn_m_stand_155 (am_row (am_row (am_row (am_row (am_row (am_row F1 88 r88) 89 s) 93 r93) 94 r94) 96 r96) 104 r104)).2) 104 r104) 94, (am_row (am_row (am_row (am_row (am_row (am_row F1 88 r88) 89 s) 93 (fn_m_stand_155 (am_row (am_row (am_row (am_row (am_row (am_row F1 88 r88) 89 s) 93 r93) 94 r94) 96 r96) 104 r104)).1) 94 (upd r94 u (fn_m_heldBy_159 u (am_row (am_row (am_row (am_row (am_row (am_row F1 88 r88) 89 s) 93 (fn_m_stand_155 (am_row (am_row (am_row (am_row (am_row (am_row F1 88 r88) 89 s) 93 r93) 94 r94) 96 r96) 104 r104)).1) 94 r94) 96 (fn_m_stand_155 (am_row (am_row (am_row (am_row (am_row (am_row F1 88 r88) 89 s) 93 r93) 94 r94) 96 r96) 104 r104)).2) 104 r104)))) 96 (fn_m_stand_155 (am_row (am_row (am_row (am_row (am_row (am_row F1 88 r88) 89 s) 93 r93) 94 r94) 96 r96) 104 r104)).2) 104 r104) 96, upd r104 j (v j)), ?_, fun i i1 i2 => (w2 i i1 i2).trans (hr8 i i1 i2), hs1, fun i hi => ?_⟩
    · unfold st_m_shows_13
      simp only
      rw [← hs, am_chk_p hok, am_chk_p (am_inbN hu (by decide)), nI_clamp (show u < 2147483648 by omega), w1, am_ob_s, am_chk_p hj] <;> rfl
    · dsimp only
      by_cases e : i = j
      · subst e; exact pu_us
      · exact (pu_un e).trans (hv i (by omega))) (fun x hx => hx)
  rcases z with y | y
  · obtain ⟨y1, y2, y3⟩ := z2
    refine ⟨(y.1, upd y.2.1 200 (F1 89 200), y.2.2.1, y.2.2.2.1, y.2.2.2.2.1, y.2.2.2.2.2), ?_, y1, ?_, y3⟩
    · unfold fn_m_shows lf_m_shows_13
      rw [z1, am_ob_s]
      rfl
    · dsimp only
      rw [e1]
      exact pu_restore y2
  · exact z2.elim
theorem pu_I_q104 {f : Nat → Nat → Int32} {g : Nat → Nat → Int64} (hI : pu_I f g) {z : Nat → Int32} (h : pu_K8 (f 88) z) {s : Nat → Int32} (e : s = f 89) (y1 y34 y35 y36 y37 m93 m94 m96 m104 : Nat → Int32) (G1 : Nat → Int64) : pu_I (am_row (am_row (am_row (am_row (am_row (am_row (am_row (am_row (am_row (am_row (am_row f 1 y1) 34 y34) 35 y35) 36 y36) 37 y37) 88 z) 89 s) 93 m93) 94 m94) 96 m96) 104 m104) (am_row g 1 G1) := by
  obtain ⟨hc, hv, hd, hk, ht, hg⟩ := pu_I_q9 hI h e y1 y34 y35 y36 y37 m93 m94 m96 G1
  exact ⟨hc, hv, hd, hk, ht, hg⟩
theorem pu_ask {x y w : Int32} (h : fn_m_isAsk x y w = true) : ∃ u a t : Nat, u < 16 ∧ a < 8 ∧ t < 16 ∧ x = nI u ∧ y = nI a ∧ w = nI t := by
  unfold fn_m_isAsk at h
  cases h1 : fn_m_isOne x with
  | false => rw [h1] at h; cases h
  | true =>
    cases h2 : fn_m_isAct y with
    | false => rw [h1, h2] at h; cases h
    | true =>
      cases h3 : fn_m_isOne w with
      | false => rw [h1, h2, h3] at h; cases h
      | true =>
        obtain ⟨u, u1, u2⟩ := am_mOne h1
        obtain ⟨a, a1, a2⟩ := am_mInN (N := 8) (show fn_m_isIn y 0 7 = true from h2) (by decide)
        obtain ⟨t, t1, t2⟩ := am_mOne h3
        exact ⟨u, a, t, u1, a1, t1, u2, a2, t2⟩
theorem pp_until : am_Pair pu_Inv 111 6 223 5 3 := pu_P3 fun f g hI x y w => by
  have hI' := hI
  obtain ⟨hc, hv, hd, hk, ht, hg⟩ := hI
  obtain ⟨c1, c2, c3, c4, c5, c6, c7, c8⟩ := id hc
  obtain ⟨v1, v2, v3, v4, v5, v6, v7, v8, v9⟩ := id hv
  have hp := pu_pl c6 v7
  have hr := pu_pr c7 v8
  have hm := pu_mOK c6 c7
  have key : ∀ F1 : Nat → Nat → Int32, F1 89 = f 89 → F1 92 = f 92 → ∃ z, fn_m_until x y w F1 = some z ∧ (fn_until x y w f g).1 = z.1 ∧ pu_K8 (F1 88) z.2.1 ∧ z.2.2.1 = f 89 := by
    intro F1 e1 e2
    have e6 : f 2 12 = f 89 200 := v6
    unfold fn_until fn_m_until
    rw [show fn_isAsked x y w = fn_m_isAsk x y w from rfl]
    cases h1 : fn_m_isAsk x y w with
    | false => simp only [cond_false]; exact ⟨_, rfl, rfl, fun _ _ _ => rfl, e1⟩
    | true =>
      rw [cond_true, cond_true]
      obtain ⟨u, a, t, u1, a1, t1, u2, a2, t2⟩ := pu_ask h1
      subst u2 a2 t2
      rw [nI_clamp (by omega), nI_clamp (by omega), nI_clamp (by omega)]
      obtain ⟨v, k1, k2, z, z1, z2, z3, z4⟩ := pu_shows hI' e1 e2 u1 a1 t1
      have k2' : (fn_answer u (nI a) t (am_row (am_row (am_row f 1 (fn_settle (f 2 12) f g).1) 34 (fn_settle (f 2 12) f g).2.1) 35 (fn_settle (f 2 12) f g).2.2.1)).1 = v 0 := k2
      obtain ⟨A, hA⟩ : ∃ A, A = fn_answer u (nI a) t (am_row (am_row (am_row f 1 (fn_settle (f 2 12) f g).1) 34 (fn_settle (f 2 12) f g).2.1) 35 (fn_settle (f 2 12) f g).2.2.1) := ⟨_, rfl⟩
      rw [← hA] at k2' ⊢
      rw [z1, am_ob_s]
      have L := pu_lockX (f := st_until_40 u a t f g (fn_settle (f 2 12) f g) A) (st := st_m_until_21 z) (fun _ _ => True) (fun x y => x.1 = y.1 ∧ pu_K8 (F1 88) y.2.1 ∧ y.2.2.1 = f 89) ((200 + 1) - 1) 1 ((fn_settle (f 2 12) f g).1, (fn_settle (f 2 12) f g).2.2.1, A.2.1, A.2.2, (fn_settle (f 2 12) f g).2.2.2) () trivial (by
        rintro j ⟨r1, r35, r36, r37, l1⟩ y hj1 hj2 -
        have hj : j < 201 := by omega
        have hv := k1 j r1 r35 r36 r37 l1
        unfold st_until_40 st_m_until_21
        simp only
        rw [hv, k2', am_chk_p hj, z4 j hj, z4 0 (by decide)]
        by_cases c : v j = v 0
        · rw [if_pos c, if_pos c]
          exact .inl ⟨_, _, rfl, rfl, trivial⟩
        · rw [if_neg c, if_neg c]
          refine .inr ⟨_, _, rfl, rfl, ?_, z2, z3⟩
          dsimp only
          rw [z3, e6])
      unfold lf_until_40 lf_m_until_21
      rcases L with ⟨x', y', g1, g2, -⟩ | ⟨x', y', g1, g2, g3, g4, g5⟩
      · rw [g1, g2, am_ob_s]
        exact ⟨_, rfl, rfl, z2, z3⟩
      · rw [g1, g2, am_ob_s]
        exact ⟨_, rfl, g3, g4, g5⟩
  have key2 := key (am_row (am_row (am_row (am_row (am_row f 1 (fn_until x y w f g).2.1) 34 (fn_until x y w f g).2.2.1) 35 (fn_until x y w f g).2.2.2.1) 36 (fn_until x y w f g).2.2.2.2.1) 37 (fn_until x y w f g).2.2.2.2.2.1) rfl rfl
  have hx := x_until x y w f g hp.1 hp.2.1 hp.2.2.1 hp.2.2.2.1 hp.2.2.2.2 hr.1 hr.2.1 hr.2.2.1 (pu_pp c1 v2) hr.2.2.2.1
  clear key
  generalize fn_until x y w f g = Y at key2 hx
  obtain ⟨z, k1, k2, k3, k4⟩ := key2
  have hy := x_m_until x y w (am_row (am_row (am_row (am_row (am_row f 1 Y.2.1) 34 Y.2.2.1) 35 Y.2.2.2.1) 36 Y.2.2.2.2.1) 37 Y.2.2.2.2.2.1) (am_row g 1 Y.2.2.2.2.2.2) hm z k1
  exact ⟨_, _, _, _, _, pu_res hx (by decide) k2, pu_res hy (by decide) rfl, pu_I_q104 hI' k3 k4 _ _ _ _ _ _ _ _ _ _⟩
theorem pu_lockXi {α β γ δ : Type} {f : Nat → α → α ⊕ (α ⊕ γ)} {st : Nat → β → Option (β ⊕ (β ⊕ δ))} (P : Nat → α → β → Prop) (Q : γ → δ → Prop) : ∀ (n i : Nat) (a : α) (b : β), P i a b → (∀ j x y, i ≤ j → j < i + n → P j x y → (∃ x' y', f j x = .inl x' ∧ st j y = some (.inl y') ∧ P (j + 1) x' y') ∨ (∃ u v, f j x = .inr (.inr u) ∧ st j y = some (.inr (.inr v)) ∧ Q u v)) → (∃ x' y', am_forX f n i a = .inl x' ∧ am_forO st n i b = some (.inl y') ∧ P (i + n) x' y') ∨ (∃ u v, am_forX f n i a = .inr u ∧ am_forO st n i b = some (.inr v) ∧ Q u v) := by
  intro n
  induction n with
  | zero => intro i a b h _; exact .inl ⟨a, b, rfl, rfl, h⟩
  | succ n ih =>
    intro i a b h hs
    rw [am_forX_s, am_forO_s]
    rcases hs i a b (Nat.le_refl _) (by omega) h with ⟨x, y, y1, y2, y3⟩ | ⟨x, y, y1, y2, y3⟩
    · rw [y1, y2]
      have := ih (i + 1) x y y3 (fun j x y h1 h2 => hs j x y (by omega) (by omega))
      rw [show i + 1 + n = i + (n + 1) by omega] at this
      exact this
    · rw [y1, y2]
      exact .inr ⟨x, y, rfl, rfl, y3⟩

theorem pp_changes : am_Pair pu_Inv 115 9 225 7 4 := pu_P4 fun f g hI x y w k => by
  have hI' := hI
  obtain ⟨hc, hv, hd, hk, ht, hg⟩ := hI
  obtain ⟨c1, c2, c3, c4, c5, c6, c7, c8⟩ := id hc
  obtain ⟨v1, v2, v3, v4, v5, v6, v7, v8, v9⟩ := id hv
  have hp := pu_pl c6 v7
  have hr := pu_pr c7 v8
  have hm := pu_mOK c6 c7
  have key : ∀ F1 : Nat → Nat → Int32, F1 89 = f 89 → F1 92 = f 92 → ∃ z, fn_m_changes x y w k F1 = some z ∧ (fn_changes x y w k f g).1 = z.1 ∧ pu_K8 (F1 88) z.2.1 ∧ z.2.2.1 = f 89 := by
    intro F1 e1 e2
    have e6 : f 2 12 = f 89 200 := v6
    unfold fn_changes fn_m_changes
    rw [show fn_isAsked x y w = fn_m_isAsk x y w from rfl]
    cases h1 : fn_m_isAsk x y w with
    | false => simp only [cond_false]; exact ⟨_, rfl, rfl, fun _ _ _ => rfl, e1⟩
    | true =>
      rw [cond_true, cond_true]
      by_cases h3 : -1 ≤ k
      · rw [if_pos h3, if_pos h3]
        obtain ⟨u, a, t, u1, a1, t1, u2, a2, t2⟩ := pu_ask h1
        subst u2 a2 t2
        rw [nI_clamp (by omega), nI_clamp (by omega), nI_clamp (by omega)]
        obtain ⟨v, k1, k2, z, z1, z2, z3, z4⟩ := pu_shows hI' e1 e2 u1 a1 t1
        have k2' : (fn_answer u (nI a) t (am_row (am_row (am_row f 1 (fn_settle (f 2 12) f g).1) 34 (fn_settle (f 2 12) f g).2.1) 35 (fn_settle (f 2 12) f g).2.2.1)).1 = v 0 := k2
        obtain ⟨A, hA⟩ : ∃ A, A = fn_answer u (nI a) t (am_row (am_row (am_row f 1 (fn_settle (f 2 12) f g).1) 34 (fn_settle (f 2 12) f g).2.1) 35 (fn_settle (f 2 12) f g).2.2.1) := ⟨_, rfl⟩
        rw [← hA] at k2' ⊢
        rw [z1, am_ob_s]
        have L := pu_lockXi (f := st_changes_49 u a t k f g (fn_settle (f 2 12) f g)) (st := st_m_changes_30 k z) (fun j x y => x.1 = v (j - 1) ∧ x.2.1 = y) (fun x y => x.1 = y.1 ∧ pu_K8 (F1 88) y.2.1 ∧ y.2.2.1 = f 89) ((200 + 1) - 1) 1 (A.1, 0, (fn_settle (f 2 12) f g).1, (fn_settle (f 2 12) f g).2.2.1, A.2.1, A.2.2, (fn_settle (f 2 12) f g).2.2.2) 0 ⟨k2', rfl⟩ (by
          rintro j ⟨b, n, r1, r35, r36, r37, l1⟩ y hj1 hj2 ⟨hb, hn⟩
          simp only at hb hn
          subst hb hn
          obtain ⟨i, rfl⟩ : ∃ i, j = i + 1 := ⟨j - 1, by omega⟩
          have hj : i + 1 < 201 := by omega
          have hv := k1 (i + 1) r1 r35 r36 r37 l1
          unfold st_changes_49 st_m_changes_30
          simp only
          rw [hv, am_chk_p hj, nI_pred i, am_chk_p (am_inbN (show i < 201 by omega) (by decide)), nI_clamp (by omega), z4 (i + 1) hj, z4 i (by omega), Nat.add_sub_cancel]
          by_cases c : v (i + 1) = v i
          · rw [if_pos c, if_pos c]
            exact .inl ⟨_, _, rfl, rfl, rfl, rfl⟩
          · rw [if_neg c, if_neg c]
            by_cases d : n = k
            · rw [if_pos d, if_pos d]
              refine .inr ⟨_, _, rfl, rfl, ?_, z2, z3⟩
              dsimp only
              rw [z3, e6]
            · rw [if_neg d, if_neg d]
              exact .inl ⟨_, _, rfl, rfl, rfl, rfl⟩)
        unfold lf_changes_49 lf_m_changes_30
        rcases L with ⟨x', y', g1, g2, -, g3⟩ | ⟨x', y', g1, g2, g3, g4, g5⟩
        · rw [g1, g2, am_ob_s]
          refine ⟨_, rfl, ?_, z2, z3⟩
          dsimp only [Sum.elim_inl]
          rw [g3]
        · rw [g1, g2, am_ob_s]
          exact ⟨_, rfl, g3, g4, g5⟩
      · rw [if_neg h3, if_neg h3]
        exact ⟨_, rfl, rfl, fun _ _ _ => rfl, e1⟩
  have key2 := key (am_row (am_row (am_row (am_row (am_row f 1 (fn_changes x y w k f g).2.1) 34 (fn_changes x y w k f g).2.2.1) 35 (fn_changes x y w k f g).2.2.2.1) 36 (fn_changes x y w k f g).2.2.2.2.1) 37 (fn_changes x y w k f g).2.2.2.2.2.1) rfl rfl
  have hx := x_changes x y w k f g hp.1 hp.2.1 hp.2.2.1 hp.2.2.2.1 hp.2.2.2.2 hr.1 hr.2.1 hr.2.2.1 (pu_pp c1 v2) hr.2.2.2.1
  clear key
  generalize fn_changes x y w k f g = Y at key2 hx
  obtain ⟨z, k1, k2, k3, k4⟩ := key2
  have hy := x_m_changes x y w k (am_row (am_row (am_row (am_row (am_row f 1 Y.2.1) 34 Y.2.2.1) 35 Y.2.2.2.1) 36 Y.2.2.2.2.1) 37 Y.2.2.2.2.2.1) (am_row g 1 Y.2.2.2.2.2.2) hm z k1
  exact ⟨_, _, _, _, _, pu_res hx (by decide) k2, pu_res hy (by decide) rfl, pu_I_q104 hI' k3 k4 _ _ _ _ _ _ _ _ _ _⟩
