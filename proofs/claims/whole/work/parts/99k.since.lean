/-! PAIRS OF CALLS: since -/
set_option linter.unusedVariables false
def pu_sh (f : Nat → Nat → Int32) : Nat → Nat → Int32 := fun k => f (k + 37)
def pu_shL (g : Nat → Nat → Int64) : Nat → Nat → Int64 := fun k => g (k + 37)
section
variable (f : Nat → Nat → Int32) (g : Nat → Nat → Int64) (y1 y34 y35 r36 r37 y38 y71 y72 r73 r74 a b c d : Nat → Int32) (l1 : Nat → Int64)
theorem sh_settle (T : Int32) : fn_settleK T (am_row (am_row (am_row f 1 y1) 34 y34) 35 y35) (am_row g 1 l1) = fn_settle T (pu_sh f) (pu_shL g) := rfl
theorem sh_rul (x : Int32) (t : Nat) : fn_rulesOn x t (am_row (am_row (am_row (am_row (am_row (am_row (am_row (am_row (am_row (am_row f 1 y1) 34 y34) 35 y35) 36 r36) 37 r37) 38 y38) 71 y71) 72 y72) 73 r73) 74 r74) = fn_rulesOn x t (am_row (am_row (am_row f 1 y1) 34 y34) 35 y35) := rfl
theorem sh_rulK (x : Int32) (t : Nat) : fn_rulesOnK x t (am_row (am_row (am_row (am_row (am_row (am_row (am_row (am_row (am_row (am_row f 1 y1) 34 y34) 35 y35) 36 r36) 37 r37) 38 y38) 71 y71) 72 y72) 73 r73) 74 r74) = fn_rulesOn x t (am_row (am_row (am_row (pu_sh f) 1 y38) 34 y71) 35 y72) := rfl
theorem sh_dec (u t : Nat) (x q : Int32) : fn_decider u x t q (am_row (am_row (am_row (am_row (am_row (am_row (am_row (am_row (am_row (am_row (am_row (am_row (am_row (am_row f 1 y1) 34 y34) 35 y35) 36 r36) 37 r37) 38 y38) 71 y71) 72 y72) 73 r73) 74 r74) 36 a) 37 b) 73 c) 74 d) = fn_decider u x t q (am_row (am_row (am_row (am_row (am_row f 1 y1) 34 y34) 35 y35) 36 a) 37 b) := rfl
theorem sh_decK (u t : Nat) (x q : Int32) : fn_deciderK u x t q (am_row (am_row (am_row (am_row (am_row (am_row (am_row (am_row (am_row (am_row (am_row (am_row (am_row (am_row f 1 y1) 34 y34) 35 y35) 36 r36) 37 r37) 38 y38) 71 y71) 72 y72) 73 r73) 74 r74) 36 a) 37 b) 73 c) 74 d) = fn_decider u x t q (am_row (am_row (am_row (am_row (am_row (pu_sh f) 1 y38) 34 y71) 35 y72) 36 c) 37 d) := rfl
theorem sh_ans (r : Int32) : fn_answerBy r (am_row (am_row (am_row (am_row (am_row (am_row (am_row (am_row (am_row (am_row (am_row (am_row (am_row (am_row f 1 y1) 34 y34) 35 y35) 36 r36) 37 r37) 38 y38) 71 y71) 72 y72) 73 r73) 74 r74) 36 a) 37 b) 73 c) 74 d) = fn_answerBy r (am_row (am_row (am_row f 1 y1) 34 y34) 35 y35) := rfl
theorem sh_ansK (r : Int32) : fn_answerByK r (am_row (am_row (am_row (am_row (am_row (am_row (am_row (am_row (am_row (am_row (am_row (am_row (am_row (am_row f 1 y1) 34 y34) 35 y35) 36 r36) 37 r37) 38 y38) 71 y71) 72 y72) 73 r73) 74 r74) 36 a) 37 b) 73 c) 74 d) = fn_answerBy r (am_row (am_row (am_row (pu_sh f) 1 y38) 34 y71) 35 y72) := rfl
end
theorem pu_differ {G : Nat → Nat → Int32} {x : Int32} {t lo hi : Nat} {A K D E : Int32 → Int32} {dv dK : Nat → Int32} (ht : t < 16) (hh : hi < 16) (hl : lo ≤ hi + 1)
    (h1 : ∀ u, u < 16 → ∀ a b c d, (fn_decider u x t (fn_rulesOn x t G) (am_row (am_row (am_row (am_row G 36 a) 37 b) 73 c) 74 d)).1 = dv u)
    (h2 : ∀ u, u < 16 → ∀ a b c d, (fn_deciderK u x t (fn_rulesOnK x t G) (am_row (am_row (am_row (am_row G 36 a) 37 b) 73 c) 74 d)).1 = dK u)
    (h3 : ∀ r a b c d, fn_answerBy r (am_row (am_row (am_row (am_row G 36 a) 37 b) 73 c) 74 d) = A r)
    (h4 : ∀ r a b c d, fn_answerByK r (am_row (am_row (am_row (am_row G 36 a) 37 b) 73 c) 74 d) = K r) : ∃ z, fn_differing x (nI t) (nI lo) (nI hi) G = some z ∧ z.1 = nI (pu_sum (fun u => if (lo ≤ u ∧ u ≤ hi) ∧ A (dv u) ≠ K (dK u) then 1 else 0) 16) := by
  obtain ⟨z, z1, w, z2, z3⟩ := pu_while (st := st_differing_28 x (nI t) (nI hi) G) (fun y => ∃ u, lo ≤ u ∧ u ≤ hi + 1 ∧ y.2.1 = nI u ∧ y.1 = nI (pu_sum (fun u => if (lo ≤ u ∧ u ≤ hi) ∧ A (dv u) ≠ K (dK u) then 1 else 0) u)) (fun y => 17 - y.2.1.toNatClampNeg) (fun z => ∃ w, z = .inl w ∧ w.1 = nI (pu_sum (fun u => if (lo ≤ u ∧ u ≤ hi) ∧ A (dv u) ≠ K (dK u) then 1 else 0) 16)) (by
    rintro ⟨n, u', r36, r37, r73, r74⟩ ⟨u, u1, u2, u3, u4⟩
    simp only at u3 u4
    subst u3 u4
    unfold st_differing_28
    simp only
    by_cases c : u = hi + 1
    · rw [if_pos (show nI hi < nI u from nI_lt (by omega) (by omega))]
      refine .inr ⟨_, rfl, _, rfl, ?_⟩
      simp only
      rw [pu_sum_z (m := u) (fun i hi' => if_neg (fun h => by omega)) 16 (by omega)]
    · rw [if_neg (show ¬ nI hi < nI u from nI_nlt (by omega) (by omega)), am_chk_p (am_inbN (show u < 16 by omega) (by decide)), am_chk_p (am_inbN ht (by decide)), nI_clamp (show u < 2147483648 by omega), nI_clamp (show t < 2147483648 by omega)]
      have hD := h1 u (by omega) r36 r37 r73 r74
      generalize fn_decider u x t (fn_rulesOn x t G) (am_row (am_row (am_row (am_row G 36 r36) 37 r37) 73 r73) 74 r74) = D at hD ⊢
      have hK := h2 u (by omega) D.2.1 D.2.2 r73 r74
      generalize fn_deciderK u x t (fn_rulesOnK x t G) (am_row (am_row (am_row (am_row G 36 D.2.1) 37 D.2.2) 73 r73) 74 r74) = E at hK ⊢
      rw [hD, hK, h3, h4]
      have hs : pu_sum (fun u => if (lo ≤ u ∧ u ≤ hi) ∧ A (dv u) ≠ K (dK u) then 1 else 0) (u + 1) = pu_sum (fun u => if (lo ≤ u ∧ u ≤ hi) ∧ A (dv u) ≠ K (dK u) then 1 else 0) u + (if (lo ≤ u ∧ u ≤ hi) ∧ A (dv u) ≠ K (dK u) then 1 else 0) := rfl
      by_cases e : A (dv u) = K (dK u)
      · rw [if_pos e]
        refine .inl ⟨_, rfl, ⟨u + 1, by omega, by omega, nI_1 u, ?_⟩, ?_⟩
        · simp only
          rw [hs, if_neg (fun h => h.2 e), Nat.add_zero]
        · simp only
          rw [nI_1, nI_clamp (by omega)]; omega
      · rw [if_neg e]
        refine .inl ⟨_, rfl, ⟨u + 1, by omega, by omega, nI_1 u, ?_⟩, ?_⟩
        · simp only
          rw [hs, if_pos ⟨⟨u1, by omega⟩, e⟩, nI_1]
        · simp only
          rw [nI_1, nI_clamp (by omega)]; omega) (0, nI lo, G 36, G 37, G 73, G 74) ⟨lo, Nat.le_refl _, hl, rfl, by
      simp only
      rw [pu_sum_c (g := fun _ => 0) lo (fun i hi' => if_neg (fun h => by omega)), pu_sum_0]; rfl⟩
  subst z2
  unfold fn_differing lf_differing_28
  rw [am_chk_p (am_inbN ht (by decide)), z1]
  exact ⟨_, rfl, z3⟩
theorem pu_CV_c {F : Nat → Nat → Int32} {tk : Int64} {s s' : Nat → Int32} (H : ∀ j, j < 3340 → s' j = s j) (hc : pu_C s) (hv : pu_V F tk s) : pu_C s' ∧ pu_V F tk s' := by
  obtain ⟨c1, c2, c3, c4, c5, c6, c7, c8⟩ := id hc
  obtain ⟨v1, v2, v3, v4, v5, v6, v7, v8, v9⟩ := id hv
  exact ⟨⟨pu_Cpar_c (fun j h1 h2 => H j (by omega)) c1, pu_Crol_c (fun j h1 h2 => H j (by omega)) (H _ (by omega)) c2, pu_Cunl_c (fun j h1 h2 => H j (by omega)) (H _ (by omega)) c3, pu_Cass_c (fun j h1 h2 => H j (by omega)) c4, pu_Ctick_c (H _ (by omega)) c5, pu_Cln_c (H _ (by omega)) (fun j h1 h2 => H j (by omega)) c6, pu_Crl_c (H _ (by omega)) (fun j h1 h2 => H j (by omega)) c7, pu_Cbk_c (H _ (by omega)) c8⟩, ⟨pu_Vatt_c (fun j h1 => H j (by omega)) v1, pu_Vpar_c (fun j h1 h2 => H j (by omega)) v2, pu_Vrol_c (fun j h1 h2 => H j (by omega)) (H _ (by omega)) v3, pu_Vbar_c (fun j h1 h2 => H j (by omega)) (H _ (by omega)) v4, pu_Vass_c (fun j h1 h2 => H j (by omega)) v5, pu_Vtick_c (H _ (by omega)) v6, pu_Vln_c (H _ (by omega)) (fun j h1 h2 => H j (by omega)) v7, pu_Vrl_c (H _ (by omega)) c7 (fun j h1 h2 => H j (by omega)) v8, pu_Vbk_c (fun j h1 h2 => H j (by omega)) (fun j h1 h2 => H j (by omega)) v9⟩⟩
/-- one settled moment, from its pieces -/
theorem pu_A_st {f F1 : Nat → Nat → Int32} {g : Nat → Nat → Int64} {s : Nat → Int32} (e1 : F1 89 = s) (hc : pu_C s) (hv : pu_V f (g 11 6) s) (hd : pu_CL (fun r => s (144 + r)) (F1 92)) : pu_A (pu_sF (f 2 12) f g) (pu_sM F1) := by
  subst e1
  obtain ⟨c1, c2, c3, c4, c5, c6, c7, c8⟩ := id hc
  obtain ⟨v1, v2, v3, v4, v5, v6, v7, v8, v9⟩ := id hv
  rw [show f 2 12 = F1 89 200 from v6]
  obtain ⟨y, hy⟩ : ∃ y, y = fn_settle (F1 89 200) f g := ⟨_, rfl⟩
  obtain ⟨w, hw⟩ : ∃ w, w = fn_m_stand_155 F1 := ⟨_, rfl⟩
  obtain ⟨o, ho⟩ : ∃ o, o = fn_m_holders_154 F1 := ⟨_, rfl⟩
  obtain ⟨s1, s2, s3, s4, s5, s6, s7⟩ := pu_settle (f := f) (g := g) (f' := F1) v7 c6 v5 (pu_dn v3 hd) y hy w hw
  obtain ⟨-, -, o3⟩ := pu_holders (f' := F1)
  rw [← ho, ← hw] at o3
  unfold pu_sF pu_sM
  rw [← hy, ← ho]
  clear hy hw ho
  have d6 : y.1 7 = F1 89 200 := s6
  have d7 : y.1 6 = fn_timely (F1 89 200) (am_row (am_row (am_row f 1 y.1) 34 y.2.1) 35 y.2.2.1) := s7
  rw [← d6] at d7
  exact ⟨c1, c7, v1, v2, v8, d6, d7, fun u hu => (s3 u hu).trans (o3 u hu).symm⟩
def pu_sg (F M FK MK : Nat → Nat → Int32) (n u p : Nat) : Nat := if (n = 16 ∨ n = u) ∧ pu_av F M u (p / 16) (p % 16) ≠ pu_av FK MK u (p / 16) (p % 16) then 1 else 0
/-- the class -/
theorem pu_sinceC {f M MK : Nat → Nat → Int32} {y4 y5 : (Nat → Int32) × (Nat → Int32) × (Nat → Int32) × (Nat → Int64)} (hA : pu_A (am_row (am_row (am_row f 1 y4.1) 34 y4.2.1) 35 y4.2.2.1) M) (hK : pu_A (am_row (am_row (am_row (pu_sh f) 1 y5.1) 34 y5.2.1) 35 y5.2.2.1) MK) {n : Nat} (hn : n ≤ 16) : ∃ z, lf_since_84 n f y4 y5 = some (.inl z) ∧ z.1 = nI (pu_sum (fun p => pu_sum (fun u => pu_sg (am_row (am_row (am_row f 1 y4.1) 34 y4.2.1) 35 y4.2.2.1) M (am_row (am_row (am_row (pu_sh f) 1 y5.1) 34 y5.2.1) 35 y5.2.2.1) MK n u p) 16) 128) := by
  obtain ⟨lo, hi, l1, l2, l3, l4, l5⟩ : ∃ lo hi : Nat, (if nI n = 16 then 0 else nI n) = nI lo ∧ (if nI n = 16 then 15 else nI n) = nI hi ∧ lo ≤ hi + 1 ∧ hi < 16 ∧ ∀ u, u < 16 → ((lo ≤ u ∧ u ≤ hi) ↔ (n = 16 ∨ n = u)) := by
    by_cases c : n = 16
    · subst c
      exact ⟨0, 15, rfl, rfl, by omega, by omega, fun u hu => by omega⟩
    · have : ¬ nI n = 16 := fun h => c ((nI_eq (b := 16) (by omega) (by omega)).mp h)
      exact ⟨n, n, if_neg this, if_neg this, by omega, by omega, fun u hu => by omega⟩
  generalize hF : (am_row (am_row (am_row f 1 y4.1) 34 y4.2.1) 35 y4.2.2.1) = F at hA ⊢
  generalize hFK : (am_row (am_row (am_row (pu_sh f) 1 y5.1) 34 y5.2.1) 35 y5.2.2.1) = FK at hK ⊢
  obtain ⟨z, z1, z2⟩ := pu_forO0 (f := st_since_84 n f y4 y5) (fun k z => z.1 = nI (pu_sum (fun p => pu_sum (fun u => pu_sg F M FK MK n u p) 16) k)) (fun z => match z with
    | .inl z => z.1 = nI (pu_sum (fun p => pu_sum (fun u => pu_sg F M FK MK n u p) 16) 128)
    | .inr _ => False) 128 (0, f 36, f 37, f 73, f 74) rfl (by
    rintro k ⟨b, r36, r37, r73, r74⟩ hk hb
    simp only at hb
    subst hb
    obtain ⟨d1, d2⟩ := pu_div k hk
    have k8 : k / 16 < 8 := by omega
    have k6 : k % 16 < 16 := by omega
    unfold st_since_84
    simp only
    rw [d1, d2, l1, l2]
    obtain ⟨w, w1, w2⟩ := pu_differ (G := am_row (am_row (am_row (am_row (am_row (am_row (am_row (am_row (am_row (am_row f 1 y4.1) 34 y4.2.1) 35 y4.2.2.1) 36 r36) 37 r37) 38 y5.1) 71 y5.2.1) 72 y5.2.2.1) 73 r73) 74 r74) (x := nI (k / 16)) (t := k % 16) (lo := lo) (hi := hi) (A := fun r => fn_answerBy r F) (K := fun r => fn_answerBy r FK) (D := id) (E := id) (dv := fun u => pu_dv F M u (k / 16) (k % 16)) (dK := fun u => pu_dv FK MK u (k / 16) (k % 16)) k6 l4 l3 (fun u hu a b c d => by
        rw [sh_rul, sh_dec, hF]
        exact pu_dvX hA a b hu k8 k6) (fun u hu a b c d => by
        rw [sh_rulK, sh_decK, hFK]
        exact pu_dvX hK c d hu k8 k6) (fun r a b c d => by rw [sh_ans, hF]) (fun r a b c d => by rw [sh_ansK, hFK])
    rw [w1, am_ob_s]
    refine .inl ⟨_, rfl, ?_⟩
    simp only
    rw [w2, nI_add]
    refine congrArg nI (congrArg (HAdd.hAdd _) (pu_sum_c 16 fun u hu => ?_))
    show (if (lo ≤ u ∧ u ≤ hi) ∧ fn_answerBy (pu_dv F M u (k / 16) (k % 16)) F ≠ fn_answerBy (pu_dv FK MK u (k / 16) (k % 16)) FK then 1 else 0) = pu_sg F M FK MK n u k
    unfold pu_sg
    rw [pu_avD hA, pu_avD hK]
    by_cases c : n = 16 ∨ n = u
    · by_cases c2 : pu_av F M u (k / 16) (k % 16) ≠ pu_av FK MK u (k / 16) (k % 16)
      · rw [if_pos ⟨(l5 u hu).mpr c, c2⟩, if_pos ⟨c, c2⟩]
      · rw [if_neg (fun h => c2 h.2), if_neg (fun h => c2 h.2)]
    · rw [if_neg (fun h => c ((l5 u hu).mp h.1)), if_neg (fun h => c h.1)]) (fun x hx => hx)
  unfold lf_since_84
  rw [z1]
  rcases z with z | z
  · exact ⟨z, rfl, z2⟩
  · exact z2.elim
theorem pu_since54 {FK MK : Nat → Nat → Int32} {F1 : Nat → Nat → Int32} {c s y6 : Nat → Int32} {o : (Nat → Int32) × (Nat → Int32) × (Nat → Int32)} (m1 : am_mOK s)
    (aK : ∀ M' : Nat → Nat → Int32, M' 89 = s → M' 94 = o.2.1 → ∀ u a t, u < 16 → a < 8 → t < 16 → ∃ w, fn_m_answer (nI u) (nI a) (nI t) M' = some (pu_av FK MK u a t, w) ∧ pu_K8 (M' 88) w) : ∃ z, lf_m_since_54 F1 c s y6 o = some (.inl z) ∧ pu_K8 (F1 88) z.1 ∧ ∀ i, i < 2048 → z.2 i = pu_av FK MK (i / 128) (i % 128 / 16) (i % 128 % 16) := by
  obtain ⟨z, z1, z2⟩ := pu_forO0 (f := st_m_since_54 F1 c s y6 o) (fun k z => pu_K8 (F1 88) z.1 ∧ ∀ i, i < k → z.2 i = pu_av FK MK (i / 128) (i % 128 / 16) (i % 128 % 16)) (fun z => match z with
    | .inl z => pu_K8 (F1 88) z.1 ∧ ∀ i, i < 2048 → z.2 i = pu_av FK MK (i / 128) (i % 128 / 16) (i % 128 % 16)
    | .inr _ => False) 2048 (F1 88, F1 103) ⟨fun _ _ _ => rfl, fun i hi => absurd hi (Nat.not_lt_zero _)⟩ (by
    rintro k ⟨r88, r103⟩ hk ⟨q1, q2⟩
    simp only at q1 q2
    obtain ⟨d1, d2, d3⟩ := pu_div2 hk
    obtain ⟨w, w1, w2⟩ := aK (am_row (am_row (am_row (am_row (am_row (am_row (am_row (am_row F1 88 r88) 89 s) 91 c) 92 y6) 93 o.1) 94 o.2.1) 96 o.2.2) 103 r103) rfl rfl (k / 128) (k % 128 / 16) (k % 128 % 16) (by omega) (by omega) (by omega)
    unfold st_m_since_54
    simp only
    rw [am_chk_p m1, d1, d2, d3, w1, am_ob_s]
    refine .inl ⟨_, rfl, fun i i1 i2 => (w2 i i1 i2).trans (q1 i i1 i2), fun i hi => ?_⟩
    simp only
    by_cases e : i = k
    · subst e; exact pu_us
    · rw [pu_un e]; exact q2 i (by omega)) (fun x hx => hx)
  unfold lf_m_since_54
  rw [z1]
  rcases z with z | z
  · exact ⟨z, rfl, z2.1, z2.2⟩
  · exact z2.elim
theorem pu_since118 {F M FK MK : Nat → Nat → Int32} {F1 : Nat → Nat → Int32} {c s' y14 r8 : Nat → Int32} {o2 : (Nat → Int32) × (Nat → Int32) × (Nat → Int32)} {z : (Nat → Int32) × (Nat → Int32)} {n : Nat} (hn : n ≤ 16) (m2 : am_mOK s')
    (aL : ∀ M' : Nat → Nat → Int32, M' 89 = s' → M' 94 = o2.2.1 → ∀ u a t, u < 16 → a < 8 → t < 16 → ∃ w, fn_m_answer (nI u) (nI a) (nI t) M' = some (pu_av F M u a t, w) ∧ pu_K8 (M' 88) w)
    (z3 : pu_K8 r8 z.1) (z4 : ∀ i, i < 2048 → z.2 i = pu_av FK MK (i / 128) (i % 128 / 16) (i % 128 % 16)) : ∃ y, lf_m_since_118 n F1 c z s' y14 o2 = some (.inl y) ∧ y.1 = nI (pu_sum (fun p => pu_sum (fun u => pu_sg F M FK MK n u p) 16) 128) ∧ pu_K8 r8 y.2 := by
  obtain ⟨y, y1, y2⟩ := pu_forO0 (f := st_m_since_118 n F1 c z s' y14 o2) (fun k y => y.1 = nI (pu_sum (fun k => pu_sg F M FK MK n (k / 128) (k % 128)) k) ∧ pu_K8 r8 y.2) (fun y => match y with
    | .inl y => y.1 = nI (pu_sum (fun k => pu_sg F M FK MK n (k / 128) (k % 128)) 2048) ∧ pu_K8 r8 y.2
    | .inr _ => False) 2048 (0, z.1) ⟨rfl, z3⟩ (by
    rintro k ⟨b, r88⟩ hk ⟨q1, q2⟩
    simp only at q1 q2
    subst q1
    obtain ⟨d1, d2, d3⟩ := pu_div2 hk
    have hs : pu_sum (fun k => pu_sg F M FK MK n (k / 128) (k % 128)) (k + 1) = pu_sum (fun k => pu_sg F M FK MK n (k / 128) (k % 128)) k + pu_sg F M FK MK n (k / 128) (k % 128) := rfl
    rw [hs]
    obtain ⟨w, w1, w2⟩ := aL (am_row (am_row (am_row (am_row (am_row (am_row (am_row (am_row F1 88 r88) 89 s') 91 c) 92 y14) 93 o2.1) 94 o2.2.1) 96 o2.2.2) 103 z.2) rfl rfl (k / 128) (k % 128 / 16) (k % 128 % 16) (by omega) (by omega) (by omega)
    have K : pu_K8 r8 w := fun i i1 i2 => (w2 i i1 i2).trans (q2 i i1 i2)
    have hv : (n = 16 ∨ n = k / 128) → nI (pu_sum (fun k => pu_sg F M FK MK n (k / 128) (k % 128)) k) + am_b (if z.2 k = pu_av F M (k / 128) (k % 128 / 16) (k % 128 % 16) then false else true) = nI (pu_sum (fun k => pu_sg F M FK MK n (k / 128) (k % 128)) k + pu_sg F M FK MK n (k / 128) (k % 128)) := fun hc => by
      rw [← nI_add]
      refine congrArg (HAdd.hAdd _) ?_
      unfold pu_sg
      rw [z4 k hk]
      by_cases e : pu_av FK MK (k / 128) (k % 128 / 16) (k % 128 % 16) = pu_av F M (k / 128) (k % 128 / 16) (k % 128 % 16)
      · rw [if_pos e, if_neg (fun h => h.2 e.symm)]; rfl
      · rw [if_neg e, if_pos ⟨hc, fun h => e h.symm⟩]; rfl
    unfold st_m_since_118
    simp only
    rw [am_chk_p m2, d1, d2, d3, w1, am_ob_s]
    by_cases c1 : n = 16
    · rw [if_pos (show nI n = 16 by rw [c1]; rfl)]
      exact .inl ⟨_, rfl, hv (.inl c1), K⟩
    · rw [if_neg (show ¬ nI n = 16 from fun h => c1 ((nI_eq (b := 16) (by omega) (by omega)).mp h))]
      by_cases c2 : n = k / 128
      · rw [if_pos (congrArg nI c2)]
        exact .inl ⟨_, rfl, hv (.inr c2), K⟩
      · rw [if_neg (fun h => c2 ((nI_eq (by omega) (by omega)).mp h)), show pu_sg F M FK MK n (k / 128) (k % 128) = 0 from if_neg (fun h => h.1.elim c1 c2), Nat.add_zero]
        exact .inl ⟨_, rfl, Int32.add_zero _, q2⟩) (fun x hx => hx)
  unfold lf_m_since_118
  rw [y1]
  rcases y with y | y
  · refine ⟨y, rfl, ?_, y2.2⟩
    rw [y2.1, pu_gi_sum (pu_sg F M FK MK n)]
  · exact y2.elim
set_option maxHeartbeats 4000000 in
theorem pp_since : am_Pair pu_Inv 134 6 243 5 1 := pu_P1 fun f g hI x => by
  have hI' := hI
  obtain ⟨hc, hv, hd, hk, ht, hg⟩ := hI
  obtain ⟨c1, c2, c3, c4, c5, c6, c7, c8⟩ := id hc
  obtain ⟨v1, v2, v3, v4, v5, v6, v7, v8, v9⟩ := id hv
  obtain ⟨i1, i2, sk, i3, i4, i5⟩ := id hk
  have hp := pu_pl c6 v7
  have hr := pu_pr c7 v8
  have hpK := pu_pl i3.2.2.2.2.2.1 i4.2.2.2.2.2.2.1
  have hrK := pu_pr i3.2.2.2.2.2.2.1 i4.2.2.2.2.2.2.2.1
  have hm := pu_mOK c6 c7
  have key : ∀ F1 : Nat → Nat → Int32, F1 88 = f 88 → F1 89 = f 89 → F1 90 = f 90 → F1 92 = f 92 → ∃ z, fn_since x f g = some z ∧ ∃ z', fn_m_since x F1 = some z' ∧ z.1 = z'.1 ∧ pu_K8 (f 88) z'.2.1 ∧ (∀ j, j < 3340 → z'.2.2.1 j = f 89 j) ∧ pu_CL (fun r => z'.2.2.1 (144 + r)) z'.2.2.2.2.1 := by
    intro F1 e88 e89 e90 e92
    unfold fn_since fn_m_since
    rw [show fn_between x 0 16 = fn_m_isIn x 0 16 from rfl]
    cases h1 : fn_m_isIn x 0 16 with
    | false =>
      refine ⟨_, rfl, _, rfl, rfl, by rw [e88]; exact pu_K8_r _, fun j _ => by rw [e89], ?_⟩
      show pu_CL (fun r => F1 89 (144 + r)) (F1 92)
      rw [e89, e92]; exact hd
    | true =>
      rw [cond_true, cond_true, e88, ← i1]
      by_cases hz : f 0 9 = 0
      · rw [if_pos hz, if_pos hz]
        refine ⟨_, rfl, _, rfl, rfl, pu_K8_r _, fun j _ => by rw [e89], ?_⟩
        show pu_CL (fun r => F1 89 (144 + r)) (F1 92)
        rw [e89, e92]; exact hd
      · rw [if_neg hz, if_neg hz]
        have hz1 : f 0 9 = 1 := i2.resolve_left hz
        obtain ⟨n, n1, n2⟩ := am_mInN (N := 17) h1 (by decide)
        subst n2
        rw [nI_clamp (by omega)]
        -- the rows laid aside
        have q1 : ∀ j, j < 3340 → fn_m_copiesSM F1 j = f 89 j := fun j hj => by
          have := (pu_fill (v := fun j => F1 89 j) (g := st_m_copiesSM_2 F1) 3340 (F1 91) (fun _ _ _ => rfl)).1 j hj
          unfold fn_m_copiesSM lf_m_copiesSM_2
          rw [this, e89]
        generalize fn_m_copiesSM F1 = c at q1 ⊢
        have q2 : ∀ j, j < 3340 → fn_m_copiesIS (am_row F1 91 c) j = sk j := fun j hj => by
          have := (pu_fill (v := fun j => F1 90 j) (g := st_m_copiesIS_2 (am_row F1 91 c)) 3340 (am_row F1 91 c 89) (fun _ _ _ => rfl)).1 j hj
          unfold fn_m_copiesIS lf_m_copiesIS_2
          rw [this, e90]
          exact i5 hz1 j hj
        generalize fn_m_copiesIS (am_row F1 91 c) = s at q2 ⊢
        obtain ⟨kC, kV⟩ := pu_CV_c q2 i3 i4
        obtain ⟨y6, l1, l2⟩ := pu_lattice (am_row (am_row F1 89 s) 91 c) kC.2.1.1
        have l2' : pu_CL (fun r => s (144 + r)) y6 := l2
        have mK : am_mOK s := pu_mOK kC.2.2.2.2.2.1 kC.2.2.2.2.2.2.1
        have hK : pu_A (pu_sF (pu_sh f 2 12) (pu_sh f) (pu_shL g)) (pu_sM (am_row (am_row (am_row F1 89 s) 91 c) 92 y6)) := pu_A_st (F1 := am_row (am_row (am_row F1 89 s) 91 c) 92 y6) (s := s) rfl kC kV l2'
        rw [l1, am_ob_s, am_chk_p mK]
        have aK : ∀ M' : Nat → Nat → Int32, M' 89 = s → M' 94 = (fn_m_holders_154 (am_row (am_row (am_row F1 89 s) 91 c) 92 y6)).2.1 → ∀ u a t, u < 16 → a < 8 → t < 16 → ∃ w, fn_m_answer (nI u) (nI a) (nI t) M' = some (pu_av (pu_sF (pu_sh f 2 12) (pu_sh f) (pu_shL g)) (pu_sM (am_row (am_row (am_row F1 89 s) 91 c) 92 y6)) u a t, w) ∧ pu_K8 (M' 88) w := fun M' k1 k2 u a t hu ha ht => by
          obtain ⟨w, w1, -, w3⟩ := pu_avM hK (M' := M') k1 k2 hu ha ht
          exact ⟨w, w1, w3⟩
        generalize pu_sM (am_row (am_row (am_row F1 89 s) 91 c) 92 y6) = MK at hK aK
        generalize fn_m_holders_154 (am_row (am_row (am_row F1 89 s) 91 c) 92 y6) = o at aK ⊢
        obtain ⟨z, p1, p2, p3⟩ := pu_since54 (F1 := F1) (c := c) (y6 := y6) mK aK
        rw [p1, am_ob_s]
        simp only [Sum.elim_inl]
        have q3 : ∀ j, j < 3340 → fn_m_copiesMS (am_row (am_row (am_row (am_row (am_row (am_row (am_row (am_row F1 88 z.1) 89 s) 91 c) 92 y6) 93 o.1) 94 o.2.1) 96 o.2.2) 103 z.2) j = f 89 j := fun j hj => by
          have := (pu_fill (v := fun j => c j) (g := st_m_copiesMS_2 (am_row (am_row (am_row (am_row (am_row (am_row (am_row (am_row F1 88 z.1) 89 s) 91 c) 92 y6) 93 o.1) 94 o.2.1) 96 o.2.2) 103 z.2)) 3340 s (fun _ _ _ => rfl)).1 j hj
          unfold fn_m_copiesMS lf_m_copiesMS_2
          exact this.trans (q1 j hj)
        generalize fn_m_copiesMS (am_row (am_row (am_row (am_row (am_row (am_row (am_row (am_row F1 88 z.1) 89 s) 91 c) 92 y6) 93 o.1) 94 o.2.1) 96 o.2.2) 103 z.2) = s' at q3 ⊢
        obtain ⟨lC, lV⟩ := pu_CV_c q3 hc hv
        obtain ⟨y14, l3, l4⟩ := pu_lattice (am_row (am_row (am_row (am_row (am_row (am_row (am_row (am_row F1 88 z.1) 89 s') 91 c) 92 y6) 93 o.1) 94 o.2.1) 96 o.2.2) 103 z.2) lC.2.1.1
        have l4' : pu_CL (fun r => s' (144 + r)) y14 := l4
        have mL : am_mOK s' := pu_mOK lC.2.2.2.2.2.1 lC.2.2.2.2.2.2.1
        have hL : pu_A (pu_sF (f 2 12) f g) (pu_sM (am_row (am_row (am_row (am_row (am_row (am_row (am_row (am_row F1 88 z.1) 89 s') 91 c) 92 y14) 93 o.1) 94 o.2.1) 96 o.2.2) 103 z.2)) := pu_A_st (F1 := am_row (am_row (am_row (am_row (am_row (am_row (am_row (am_row F1 88 z.1) 89 s') 91 c) 92 y14) 93 o.1) 94 o.2.1) 96 o.2.2) 103 z.2) (s := s') rfl lC lV l4'
        rw [l3, am_ob_s, am_chk_p mL]
        have aL : ∀ M' : Nat → Nat → Int32, M' 89 = s' → M' 94 = (fn_m_holders_154 (am_row (am_row (am_row (am_row (am_row (am_row (am_row (am_row F1 88 z.1) 89 s') 91 c) 92 y14) 93 o.1) 94 o.2.1) 96 o.2.2) 103 z.2)).2.1 → ∀ u a t, u < 16 → a < 8 → t < 16 → ∃ w, fn_m_answer (nI u) (nI a) (nI t) M' = some (pu_av (pu_sF (f 2 12) f g) (pu_sM (am_row (am_row (am_row (am_row (am_row (am_row (am_row (am_row F1 88 z.1) 89 s') 91 c) 92 y14) 93 o.1) 94 o.2.1) 96 o.2.2) 103 z.2)) u a t, w) ∧ pu_K8 (M' 88) w := fun M' k1 k2 u a t hu ha ht => by
          obtain ⟨w, w1, -, w3⟩ := pu_avM hL (M' := M') k1 k2 hu ha ht
          exact ⟨w, w1, w3⟩
        generalize pu_sM (am_row (am_row (am_row (am_row (am_row (am_row (am_row (am_row F1 88 z.1) 89 s') 91 c) 92 y14) 93 o.1) 94 o.2.1) 96 o.2.2) 103 z.2) = M at hL aL
        generalize fn_m_holders_154 (am_row (am_row (am_row (am_row (am_row (am_row (am_row (am_row F1 88 z.1) 89 s') 91 c) 92 y14) 93 o.1) 94 o.2.1) 96 o.2.2) 103 z.2) = o2 at aL ⊢
        obtain ⟨y, t1, t2, t3⟩ := pu_since118 (F1 := F1) (c := c) (y14 := y14) (n := n) (by omega) mL aL p2 p3
        rw [t1, am_ob_s]
        have hset : fn_settleK (f 39 12) (am_row (am_row (am_row f 1 (fn_settle (f 2 12) f g).1) 34 (fn_settle (f 2 12) f g).2.1) 35 (fn_settle (f 2 12) f g).2.2.1) (am_row g 1 (fn_settle (f 2 12) f g).2.2.2) = fn_settle (pu_sh f 2 12) (pu_sh f) (pu_shL g) := sh_settle f g _ _ _ _ _
        rw [hset]
        unfold pu_sF at hL hK t2
        generalize fn_settle (pu_sh f 2 12) (pu_sh f) (pu_shL g) = Y5 at hK t2 ⊢
        generalize fn_settle (f 2 12) f g = Y4 at hL t2 ⊢
        obtain ⟨w, w1, w2⟩ := pu_sinceC (y4 := Y4) (y5 := Y5) hL hK (n := n) (by omega)
        rw [w1, am_ob_s]
        refine ⟨_, rfl, _, rfl, ?_, ?_, q3, l4'⟩
        · exact w2.trans t2.symm
        · rw [e88] at t3; exact t3
  obtain ⟨z, hz, -⟩ := key f rfl rfl rfl rfl
  have hx := x_since x f g hp.1 hp.2.1 hp.2.2.1 hp.2.2.2.1 hp.2.2.2.2 hr.1 hr.2.1 hr.2.2.1 (pu_pp c1 v2) hr.2.2.2.1 hpK.1 hpK.2.1 hpK.2.2.1 hpK.2.2.2.1 hpK.2.2.2.2 hrK.1 hrK.2.1 hrK.2.2.1 (pu_pp i3.1 i4.2.1) hrK.2.2.2.1 z hz
  obtain ⟨z0, hz0, z', k1, k2, k3, k4, k5⟩ := key (am_row (am_row (am_row (am_row (am_row (am_row (am_row (am_row (am_row (am_row f 1 z.2.1) 34 z.2.2.1) 35 z.2.2.2.1) 36 z.2.2.2.2.1) 37 z.2.2.2.2.2.1) 38 z.2.2.2.2.2.2.1) 71 z.2.2.2.2.2.2.2.1) 72 z.2.2.2.2.2.2.2.2.1) 73 z.2.2.2.2.2.2.2.2.2.1) 74 z.2.2.2.2.2.2.2.2.2.2.1) rfl rfl rfl rfl
  have ez : z0 = z := Option.some.inj (hz0.symm.trans hz)
  subst ez
  clear key hz hz0
  have hy := x_m_since x (am_row (am_row (am_row (am_row (am_row (am_row (am_row (am_row (am_row (am_row f 1 z0.2.1) 34 z0.2.2.1) 35 z0.2.2.2.1) 36 z0.2.2.2.2.1) 37 z0.2.2.2.2.2.1) 38 z0.2.2.2.2.2.2.1) 71 z0.2.2.2.2.2.2.2.1) 72 z0.2.2.2.2.2.2.2.2.1) 73 z0.2.2.2.2.2.2.2.2.2.1) 74 z0.2.2.2.2.2.2.2.2.2.2.1) (am_row (am_row g 1 z0.2.2.2.2.2.2.2.2.2.2.2.1) 38 z0.2.2.2.2.2.2.2.2.2.2.2.2) hm z' k1
  obtain ⟨dC, dV⟩ := pu_CV_c k4 hc hv
  refine ⟨_, _, _, _, _, pu_res hx (by decide) k2, pu_res hy (by decide) rfl, dC, pu_V_eq dC.2.2.2.2.2.2.1 dV ⟨rfl, rfl, rfl, rfl, rfl, rfl, rfl, rfl, rfl, fun _ _ => rfl, fun _ _ => rfl, fun _ _ => rfl, fun _ _ => rfl, fun _ _ => rfl, fun _ _ => rfl, fun _ _ => rfl, fun _ _ => rfl, fun _ _ => rfl, fun _ _ => rfl, fun _ _ => rfl, fun _ _ => rfl, fun _ _ => rfl, fun _ _ => rfl, fun _ _ => rfl, fun _ _ => rfl, fun _ _ => rfl, fun _ _ => rfl, fun _ _ => rfl, fun _ _ => rfl, fun _ _ => rfl, fun _ _ => rfl, fun _ _ => rfl, fun _ _ => rfl, fun _ _ => rfl, rfl⟩, k5, ?_, ?_, ?_⟩
  · exact ⟨i1.trans (k3 3 (by decide) (by decide)).symm, i2, sk, i3, pu_V_eq i3.2.2.2.2.2.2.1 i4 ⟨rfl, rfl, rfl, rfl, rfl, rfl, rfl, rfl, rfl, fun _ _ => rfl, fun _ _ => rfl, fun _ _ => rfl, fun _ _ => rfl, fun _ _ => rfl, fun _ _ => rfl, fun _ _ => rfl, fun _ _ => rfl, fun _ _ => rfl, fun _ _ => rfl, fun _ _ => rfl, fun _ _ => rfl, fun _ _ => rfl, fun _ _ => rfl, fun _ _ => rfl, fun _ _ => rfl, fun _ _ => rfl, fun _ _ => rfl, fun _ _ => rfl, fun _ _ => rfl, fun _ _ => rfl, fun _ _ => rfl, fun _ _ => rfl, fun _ _ => rfl, fun _ _ => rfl, rfl⟩, i5⟩
  · obtain ⟨n, n1, n2, n3, n4⟩ := ht
    exact ⟨n, n1, n2, (k3 11 (by decide) (by decide)).trans n3, n4⟩
  · obtain ⟨n, n1, n2, n3, n4⟩ := hg
    exact ⟨n, n1, n2, (k3 23 (by decide) (by decide)).trans n3, n4⟩
