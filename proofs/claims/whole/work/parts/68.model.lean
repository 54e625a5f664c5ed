/-! the reference: recursion (wip/whole/n2.py) -/
set_option linter.constructorNameAsVariable false
set_option linter.unusedVariables false
/-- AccessLatticeModel.times, with checks -/
noncomputable def st_m_times_9 (U : (Nat → Nat → Int32) → Option ((Nat → Int32) × (Nat → Int32))) (f : Nat → Nat → Int32) : (Nat → Int32) × (Nat → Int32) → Option ((Nat → Int32) × (Nat → Int32) ⊕ ((Nat → Int32) × (Nat → Int32) ⊕ Empty)) := fun z => match z with
  | (r9_88, r9_98) => (am_chk (¬ (am_row (am_row f 88 r9_88) 98 r9_98) 88 11 ≤ (am_row (am_row f 88 r9_88) 98 r9_98) 88 12 → am_inb ((am_row (am_row f 88 r9_88) 98 r9_98) 88 12) 80 = true) (bif (fn_m_sees 42 (am_row (am_row f 88 r9_88) 98 r9_98)) then (am_ob (fn_m_joins (f 88 15) (am_row (am_row f 88 r9_88) 98 r9_98)) (fun (y10 : (Nat → Int32) × (Nat → Int32)) => (am_ob (U (am_row (am_row f 88 y10.1) 98 y10.2)) (fun (y11 : (Nat → Int32) × (Nat → Int32)) => (some (.inl (y11.1, y11.2))))))) else (some (.inr (.inl (r9_88, r9_98))))))
noncomputable def lf_m_times_9 (U : (Nat → Nat → Int32) → Option ((Nat → Int32) × (Nat → Int32))) (f : Nat → Nat → Int32) (y1 : (Nat → Int32) × (Nat → Int32)) : Option ((Nat → Int32) × (Nat → Int32) ⊕ Empty) := am_while (st_m_times_9 U f) (y1.1, y1.2)
noncomputable def fn_m_times (U : (Nat → Nat → Int32) → Option ((Nat → Int32) × (Nat → Int32))) (f : Nat → Nat → Int32) : Option ((Nat → Int32) × (Nat → Int32)) := (am_ob (U f) (fun (y1 : (Nat → Int32) × (Nat → Int32)) => (am_ob (lf_m_times_9 U f y1) (fun zz => Sum.elim (fun (z9 : (Nat → Int32) × (Nat → Int32)) => (some (z9.1, z9.2))) (fun (z : Empty) => z.elim) zz))))
theorem lp_m_times_9 (U : (Nat → Nat → Int32) → Option ((Nat → Int32) × (Nat → Int32))) (dU : Nat) (f : Nat → Nat → Int32) (g : Nat → Nat → Int64) (y1 : (Nat → Int32) × (Nat → Int32)) (hU : ∀  (f : Nat → Nat → Int32) (g : Nat → Nat → Int64) (z : (Nat → Int32) × (Nat → Int32)), U f = some z → am_D dU 180 2 [.ref 88] (am_S f g) ((none : Option Value), am_S (am_row (am_row f 88 z.1) 98 z.2) g)) (res : Option Value × am_M) : ∀ (n : Nat) (r9_88 : Nat → Int32) (r9_98 : Nat → Int32), am_KO (am_KX (fun (z : (Nat → Int32) × (Nat → Int32)) => am_F (dU + 1) am_k_179 30 [.ref 88, .int (f 88 15)] [] (am_S (am_row (am_row f 88 z.1) 98 z.2) g) res) (fun (z : Empty) => True)) (am_wh (st_m_times_9 U f) n (r9_88, r9_98)) → am_F (dU + 1) am_k_179 9 [.ref 88, .int (f 88 15)] [] (am_S (am_row (am_row f 88 r9_88) 98 r9_98) g) res := by
  intro n
  induction n with
  | zero =>
    intro r9_88 r9_98 hK
    exact False.elim hK
  | succ n ih =>
    intro r9_88 r9_98 hK
    obtain ⟨K, hKd⟩ : ∃ K : Option ((Nat → Int32) × (Nat → Int32) ⊕ ((Nat → Int32) × (Nat → Int32) ⊕ Empty)) → Prop, K = fun s => am_KO (am_KX (fun (z : (Nat → Int32) × (Nat → Int32)) => am_F (dU + 1) am_k_179 30 [.ref 88, .int (f 88 15)] [] (am_S (am_row (am_row f 88 z.1) 98 z.2) g) res) (fun (z : Empty) => True)) (am_whn (am_wh (st_m_times_9 U f) n) s) := ⟨_, rfl⟩
    have hK : K ((st_m_times_9 U f) (r9_88, r9_98)) := by rw [am_wh_s] at hK; rw [hKd]; with_reducible exact hK
    have hKn : ¬ K none := by rw [hKd]; exact id
    unfold st_m_times_9 at hK
    simp only at hK
    refine am_F.ops (pc' := 12) (L' := [.ref 88, .int (f 88 15)]) (S' := [.int 42, .ref 88]) (μ' := (am_S (am_row (am_row f 88 r9_88) 98 r9_98) g)) 2 rfl ?_
    obtain ⟨q7, hK⟩ := am_chk_e hKn hK
    refine am_F.call rfl rfl (x_m_sees 42 (am_row (am_row f 88 r9_88) 98 r9_98) g q7) (by first | decide | omega) ?_
    show am_F _ _ 15 [.ref 88, .int (f 88 15)] [.int (am_b (fn_m_sees 42 (am_row (am_row f 88 r9_88) 98 r9_98)))] (am_S (am_row (am_row f 88 r9_88) 98 r9_98) g) _
    refine am_F.bifK 1 rfl K hK (fun c9 hK => ?_) (fun c9 hK => ?_)
    · show am_F _ _ 18 [.ref 88, .int (f 88 15)] [] (am_S (am_row (am_row f 88 r9_88) 98 r9_98) g) _
      refine am_F.ops (pc' := 20) (L' := [.ref 88, .int (f 88 15)]) (S' := [.int (f 88 15), .ref 88]) (μ' := (am_S (am_row (am_row f 88 r9_88) 98 r9_98) g)) 2 rfl ?_
      obtain ⟨y10, hy10, hK⟩ := am_ob_e hKn hK
      refine am_F.call rfl rfl (x_m_joins (f 88 15) (am_row (am_row f 88 r9_88) 98 r9_98) g  y10 hy10) (by first | decide | omega) ?_
      refine am_F.mem (F' := (am_row (am_row f 88 y10.1) 98 y10.2)) (G' := g) ?_ (by first | rfl | (funext a; by_cases z0 : a = 88; (subst z0; rfl); by_cases z1 : a = 98; (subst z1; rfl); simp only [am_ui, am_ul, am_row_ne z0, am_row_ne z1])) (by first | rfl | (funext a; by_cases z0 : a = 88; (subst z0; rfl); by_cases z1 : a = 98; (subst z1; rfl); simp only [am_ui, am_ul, am_row_ne z0, am_row_ne z1]))
      show am_F _ _ 23 [.ref 88, .int (f 88 15)] [] (am_S (am_row (am_row f 88 y10.1) 98 y10.2) g) _
      refine am_F.ops (pc' := 24) (L' := [.ref 88, .int (f 88 15)]) (S' := [.ref 88]) (μ' := (am_S (am_row (am_row f 88 y10.1) 98 y10.2) g)) 1 rfl ?_
      obtain ⟨y11, hy11, hK⟩ := am_ob_e hKn hK
      refine am_F.call rfl rfl (hU  (am_row (am_row f 88 y10.1) 98 y10.2) g  y11 hy11) (by first | decide | omega) ?_
      refine am_F.mem (F' := (am_row (am_row f 88 y11.1) 98 y11.2)) (G' := g) ?_ (by first | rfl | (funext a; by_cases z0 : a = 88; (subst z0; rfl); by_cases z1 : a = 98; (subst z1; rfl); simp only [am_ui, am_ul, am_row_ne z0, am_row_ne z1])) (by first | rfl | (funext a; by_cases z0 : a = 88; (subst z0; rfl); by_cases z1 : a = 98; (subst z1; rfl); simp only [am_ui, am_ul, am_row_ne z0, am_row_ne z1]))
      show am_F _ _ 27 [.ref 88, .int (f 88 15)] [] (am_S (am_row (am_row f 88 y11.1) 98 y11.2) g) _
      refine am_F.ops (pc' := 9) (L' := [.ref 88, .int (f 88 15)]) (S' := []) (μ' := (am_S (am_row (am_row f 88 y11.1) 98 y11.2) g)) 1 rfl ?_
      subst hKd
      exact ih y11.1 y11.2 hK
    · show am_F _ _ 30 [.ref 88, .int (f 88 15)] [] (am_S (am_row (am_row f 88 r9_88) 98 r9_98) g) _
      subst hKd
      exact hK 
theorem x_m_times (U : (Nat → Nat → Int32) → Option ((Nat → Int32) × (Nat → Int32))) (dU : Nat) (f : Nat → Nat → Int32) (g : Nat → Nat → Int64) (hU : ∀  (f : Nat → Nat → Int32) (g : Nat → Nat → Int64) (z : (Nat → Int32) × (Nat → Int32)), U f = some z → am_D dU 180 2 [.ref 88] (am_S f g) ((none : Option Value), am_S (am_row (am_row f 88 z.1) 98 z.2) g)) (z0 : (Nat → Int32) × (Nat → Int32)) (hz0 : (fn_m_times U f) = some z0) : am_D (dU + 1) 179 2 [.ref 88] (am_S f g) ((none : Option Value), am_S (am_row (am_row f 88 z0.1) 98 z0.2) g) := by
  refine am_D.of (code := am_k_179) rfl (L0 := [.ref 88, am_un]) rfl ?_
  generalize hres : ((none : Option Value), am_S (am_row (am_row f 88 z0.1) 98 z0.2) g) = res
  obtain ⟨K, hKd⟩ : ∃ K : Option ((Nat → Int32) × (Nat → Int32)) → Prop, K = am_KO (fun z => ((none : Option Value), am_S (am_row (am_row f 88 z.1) 98 z.2) g) = res) := ⟨_, rfl⟩
  have hK : K (fn_m_times U f) := by rw [hKd, hz0]; exact hres
  have hKn : ¬ K none := by rw [hKd]; exact id
  clear hres hz0
  unfold fn_m_times at hK
  refine am_F.ops (pc' := 6) (L' := [.ref 88, .int (f 88 15)]) (S' := [.ref 88]) (μ' := (am_S f g)) 4 rfl ?_
  obtain ⟨y1, hy1, hK⟩ := am_ob_e hKn hK
  refine am_F.call rfl rfl (hU  f g  y1 hy1) (by first | decide | omega) ?_
  refine am_F.mem (F' := (am_row (am_row f 88 y1.1) 98 y1.2)) (G' := g) ?_ (by first | rfl | (funext a; by_cases z0 : a = 88; (subst z0; rfl); by_cases z1 : a = 98; (subst z1; rfl); simp only [am_ui, am_ul, am_row_ne z0, am_row_ne z1])) (by first | rfl | (funext a; by_cases z0 : a = 88; (subst z0; rfl); by_cases z1 : a = 98; (subst z1; rfl); simp only [am_ui, am_ul, am_row_ne z0, am_row_ne z1]))
  show am_F _ _ 9 [.ref 88, .int (f 88 15)] [] (am_S (am_row (am_row f 88 y1.1) 98 y1.2) g) _
  obtain ⟨z9, hz9, hK⟩ := am_ob_e hKn hK
  obtain ⟨nz9, gz9⟩ := am_while_s (show am_while (st_m_times_9 U f) (y1.1, y1.2) = some z9 from hz9)
  refine lp_m_times_9 U dU f g y1 hU _ nz9 y1.1 y1.2  ?_
  rw [gz9]
  rcases z9 with z9 | z
  · skip
    show am_F _ _ 30 [.ref 88, .int (f 88 15)] [] (am_S (am_row (am_row f 88 z9.1) 98 z9.2) g) _
    (try simp only [Sum.elim_inl] at hK)
    subst hKd
    have hQ := am_KO_s hK
    exact am_F.eq (am_F.ret rfl rfl) hQ
  · exact z.elim
/-- AccessLatticeModel.adds, with checks -/
noncomputable def st_m_adds_9 (U : (Nat → Nat → Int32) → Option ((Nat → Int32) × (Nat → Int32))) (f : Nat → Nat → Int32) : (Nat → Int32) × (Nat → Int32) → Option ((Nat → Int32) × (Nat → Int32) ⊕ ((Nat → Int32) × (Nat → Int32) ⊕ Empty)) := fun z => match z with
  | (r9_88, r9_98) => (am_chk (¬ (am_row (am_row f 88 r9_88) 98 r9_98) 88 11 ≤ (am_row (am_row f 88 r9_88) 98 r9_98) 88 12 → am_inb ((am_row (am_row f 88 r9_88) 98 r9_98) 88 12) 80 = true) (bif (fn_m_sees 43 (am_row (am_row f 88 r9_88) 98 r9_98)) then (am_ob (fn_m_joins (f 88 15) (am_row (am_row f 88 r9_88) 98 r9_98)) (fun (y16 : (Nat → Int32) × (Nat → Int32)) => (am_ob (fn_m_times U (am_row (am_row f 88 y16.1) 98 y16.2)) (fun (y17 : (Nat → Int32) × (Nat → Int32)) => (some (.inl (y17.1, y17.2))))))) else (bif (fn_m_sees 45 (am_row (am_row f 88 r9_88) 98 r9_98)) then (am_ob (fn_m_joins (f 88 15) (am_row (am_row f 88 r9_88) 98 r9_98)) (fun (y20 : (Nat → Int32) × (Nat → Int32)) => (am_ob (fn_m_times U (am_row (am_row f 88 y20.1) 98 y20.2)) (fun (y21 : (Nat → Int32) × (Nat → Int32)) => (some (.inl (y21.1, y21.2))))))) else (some (.inr (.inl (r9_88, r9_98)))))))
noncomputable def lf_m_adds_9 (U : (Nat → Nat → Int32) → Option ((Nat → Int32) × (Nat → Int32))) (f : Nat → Nat → Int32) (y1 : (Nat → Int32) × (Nat → Int32)) : Option ((Nat → Int32) × (Nat → Int32) ⊕ Empty) := am_while (st_m_adds_9 U f) (y1.1, y1.2)
noncomputable def fn_m_adds (U : (Nat → Nat → Int32) → Option ((Nat → Int32) × (Nat → Int32))) (f : Nat → Nat → Int32) : Option ((Nat → Int32) × (Nat → Int32)) := (am_ob (fn_m_times U f) (fun (y1 : (Nat → Int32) × (Nat → Int32)) => (am_ob (lf_m_adds_9 U f y1) (fun zz => Sum.elim (fun (z9 : (Nat → Int32) × (Nat → Int32)) => (some (z9.1, z9.2))) (fun (z : Empty) => z.elim) zz))))
theorem lp_m_adds_9 (U : (Nat → Nat → Int32) → Option ((Nat → Int32) × (Nat → Int32))) (dU : Nat) (f : Nat → Nat → Int32) (g : Nat → Nat → Int64) (y1 : (Nat → Int32) × (Nat → Int32)) (hU : ∀  (f : Nat → Nat → Int32) (g : Nat → Nat → Int64) (z : (Nat → Int32) × (Nat → Int32)), U f = some z → am_D dU 180 2 [.ref 88] (am_S f g) ((none : Option Value), am_S (am_row (am_row f 88 z.1) 98 z.2) g)) (res : Option Value × am_M) : ∀ (n : Nat) (r9_88 : Nat → Int32) (r9_98 : Nat → Int32), am_KO (am_KX (fun (z : (Nat → Int32) × (Nat → Int32)) => am_F (dU + 2) am_k_178 39 [.ref 88, .int (f 88 15)] [] (am_S (am_row (am_row f 88 z.1) 98 z.2) g) res) (fun (z : Empty) => True)) (am_wh (st_m_adds_9 U f) n (r9_88, r9_98)) → am_F (dU + 2) am_k_178 9 [.ref 88, .int (f 88 15)] [] (am_S (am_row (am_row f 88 r9_88) 98 r9_98) g) res := by
  intro n
  induction n with
  | zero =>
    intro r9_88 r9_98 hK
    exact False.elim hK
  | succ n ih =>
    intro r9_88 r9_98 hK
    obtain ⟨K, hKd⟩ : ∃ K : Option ((Nat → Int32) × (Nat → Int32) ⊕ ((Nat → Int32) × (Nat → Int32) ⊕ Empty)) → Prop, K = fun s => am_KO (am_KX (fun (z : (Nat → Int32) × (Nat → Int32)) => am_F (dU + 2) am_k_178 39 [.ref 88, .int (f 88 15)] [] (am_S (am_row (am_row f 88 z.1) 98 z.2) g) res) (fun (z : Empty) => True)) (am_whn (am_wh (st_m_adds_9 U f) n) s) := ⟨_, rfl⟩
    have hK : K ((st_m_adds_9 U f) (r9_88, r9_98)) := by rw [am_wh_s] at hK; rw [hKd]; with_reducible exact hK
    have hKn : ¬ K none := by rw [hKd]; exact id
    unfold st_m_adds_9 at hK
    simp only at hK
    refine am_F.ops (pc' := 12) (L' := [.ref 88, .int (f 88 15)]) (S' := [.int 43, .ref 88]) (μ' := (am_S (am_row (am_row f 88 r9_88) 98 r9_98) g)) 2 rfl ?_
    obtain ⟨q12, hK⟩ := am_chk_e hKn hK
    refine am_F.call rfl rfl (x_m_sees 43 (am_row (am_row f 88 r9_88) 98 r9_98) g q12) (by first | decide | omega) ?_
    show am_F _ _ 15 [.ref 88, .int (f 88 15)] [.int (am_b (fn_m_sees 43 (am_row (am_row f 88 r9_88) 98 r9_98)))] (am_S (am_row (am_row f 88 r9_88) 98 r9_98) g) _
    refine am_F.bifK 1 rfl K hK (fun c15 hK => ?_) (fun c15 hK => ?_)
    · show am_F _ _ 27 [.ref 88, .int (f 88 15)] [] (am_S (am_row (am_row f 88 r9_88) 98 r9_98) g) _
      refine am_F.ops (pc' := 29) (L' := [.ref 88, .int (f 88 15)]) (S' := [.int (f 88 15), .ref 88]) (μ' := (am_S (am_row (am_row f 88 r9_88) 98 r9_98) g)) 2 rfl ?_
      obtain ⟨y16, hy16, hK⟩ := am_ob_e hKn hK
      refine am_F.call rfl rfl (x_m_joins (f 88 15) (am_row (am_row f 88 r9_88) 98 r9_98) g  y16 hy16) (by first | decide | omega) ?_
      refine am_F.mem (F' := (am_row (am_row f 88 y16.1) 98 y16.2)) (G' := g) ?_ (by first | rfl | (funext a; by_cases z0 : a = 88; (subst z0; rfl); by_cases z1 : a = 98; (subst z1; rfl); simp only [am_ui, am_ul, am_row_ne z0, am_row_ne z1])) (by first | rfl | (funext a; by_cases z0 : a = 88; (subst z0; rfl); by_cases z1 : a = 98; (subst z1; rfl); simp only [am_ui, am_ul, am_row_ne z0, am_row_ne z1]))
      show am_F _ _ 32 [.ref 88, .int (f 88 15)] [] (am_S (am_row (am_row f 88 y16.1) 98 y16.2) g) _
      refine am_F.ops (pc' := 33) (L' := [.ref 88, .int (f 88 15)]) (S' := [.ref 88]) (μ' := (am_S (am_row (am_row f 88 y16.1) 98 y16.2) g)) 1 rfl ?_
      obtain ⟨y17, hy17, hK⟩ := am_ob_e hKn hK
      refine am_F.call rfl rfl (x_m_times U dU   (am_row (am_row f 88 y16.1) 98 y16.2) g hU y17 hy17) (by first | decide | omega) ?_
      refine am_F.mem (F' := (am_row (am_row f 88 y17.1) 98 y17.2)) (G' := g) ?_ (by first | rfl | (funext a; by_cases z0 : a = 88; (subst z0; rfl); by_cases z1 : a = 98; (subst z1; rfl); simp only [am_ui, am_ul, am_row_ne z0, am_row_ne z1])) (by first | rfl | (funext a; by_cases z0 : a = 88; (subst z0; rfl); by_cases z1 : a = 98; (subst z1; rfl); simp only [am_ui, am_ul, am_row_ne z0, am_row_ne z1]))
      show am_F _ _ 36 [.ref 88, .int (f 88 15)] [] (am_S (am_row (am_row f 88 y17.1) 98 y17.2) g) _
      refine am_F.ops (pc' := 9) (L' := [.ref 88, .int (f 88 15)]) (S' := []) (μ' := (am_S (am_row (am_row f 88 y17.1) 98 y17.2) g)) 1 rfl ?_
      subst hKd
      exact ih y17.1 y17.2 hK
    · show am_F _ _ 18 [.ref 88, .int (f 88 15)] [] (am_S (am_row (am_row f 88 r9_88) 98 r9_98) g) _
      refine am_F.ops (pc' := 21) (L' := [.ref 88, .int (f 88 15)]) (S' := [.int 45, .ref 88]) (μ' := (am_S (am_row (am_row f 88 r9_88) 98 r9_98) g)) 2 rfl ?_
      refine am_F.call rfl rfl (x_m_sees 45 (am_row (am_row f 88 r9_88) 98 r9_98) g q12) (by first | decide | omega) ?_
      show am_F _ _ 24 [.ref 88, .int (f 88 15)] [.int (am_b (fn_m_sees 45 (am_row (am_row f 88 r9_88) 98 r9_98)))] (am_S (am_row (am_row f 88 r9_88) 98 r9_98) g) _
      refine am_F.bifK 1 rfl K hK (fun c19 hK => ?_) (fun c19 hK => ?_)
      · show am_F _ _ 27 [.ref 88, .int (f 88 15)] [] (am_S (am_row (am_row f 88 r9_88) 98 r9_98) g) _
        refine am_F.ops (pc' := 29) (L' := [.ref 88, .int (f 88 15)]) (S' := [.int (f 88 15), .ref 88]) (μ' := (am_S (am_row (am_row f 88 r9_88) 98 r9_98) g)) 2 rfl ?_
        obtain ⟨y20, hy20, hK⟩ := am_ob_e hKn hK
        refine am_F.call rfl rfl (x_m_joins (f 88 15) (am_row (am_row f 88 r9_88) 98 r9_98) g  y20 hy20) (by first | decide | omega) ?_
        refine am_F.mem (F' := (am_row (am_row f 88 y20.1) 98 y20.2)) (G' := g) ?_ (by first | rfl | (funext a; by_cases z0 : a = 88; (subst z0; rfl); by_cases z1 : a = 98; (subst z1; rfl); simp only [am_ui, am_ul, am_row_ne z0, am_row_ne z1])) (by first | rfl | (funext a; by_cases z0 : a = 88; (subst z0; rfl); by_cases z1 : a = 98; (subst z1; rfl); simp only [am_ui, am_ul, am_row_ne z0, am_row_ne z1]))
        show am_F _ _ 32 [.ref 88, .int (f 88 15)] [] (am_S (am_row (am_row f 88 y20.1) 98 y20.2) g) _
        refine am_F.ops (pc' := 33) (L' := [.ref 88, .int (f 88 15)]) (S' := [.ref 88]) (μ' := (am_S (am_row (am_row f 88 y20.1) 98 y20.2) g)) 1 rfl ?_
        obtain ⟨y21, hy21, hK⟩ := am_ob_e hKn hK
        refine am_F.call rfl rfl (x_m_times U dU   (am_row (am_row f 88 y20.1) 98 y20.2) g hU y21 hy21) (by first | decide | omega) ?_
        refine am_F.mem (F' := (am_row (am_row f 88 y21.1) 98 y21.2)) (G' := g) ?_ (by first | rfl | (funext a; by_cases z0 : a = 88; (subst z0; rfl); by_cases z1 : a = 98; (subst z1; rfl); simp only [am_ui, am_ul, am_row_ne z0, am_row_ne z1])) (by first | rfl | (funext a; by_cases z0 : a = 88; (subst z0; rfl); by_cases z1 : a = 98; (subst z1; rfl); simp only [am_ui, am_ul, am_row_ne z0, am_row_ne z1]))
        show am_F _ _ 36 [.ref 88, .int (f 88 15)] [] (am_S (am_row (am_row f 88 y21.1) 98 y21.2) g) _
        refine am_F.ops (pc' := 9) (L' := [.ref 88, .int (f 88 15)]) (S' := []) (μ' := (am_S (am_row (am_row f 88 y21.1) 98 y21.2) g)) 1 rfl ?_
        subst hKd
        exact ih y21.1 y21.2 hK
      · show am_F _ _ 39 [.ref 88, .int (f 88 15)] [] (am_S (am_row (am_row f 88 r9_88) 98 r9_98) g) _
        subst hKd
        exact hK 
theorem x_m_adds (U : (Nat → Nat → Int32) → Option ((Nat → Int32) × (Nat → Int32))) (dU : Nat) (f : Nat → Nat → Int32) (g : Nat → Nat → Int64) (hU : ∀  (f : Nat → Nat → Int32) (g : Nat → Nat → Int64) (z : (Nat → Int32) × (Nat → Int32)), U f = some z → am_D dU 180 2 [.ref 88] (am_S f g) ((none : Option Value), am_S (am_row (am_row f 88 z.1) 98 z.2) g)) (z0 : (Nat → Int32) × (Nat → Int32)) (hz0 : (fn_m_adds U f) = some z0) : am_D (dU + 2) 178 2 [.ref 88] (am_S f g) ((none : Option Value), am_S (am_row (am_row f 88 z0.1) 98 z0.2) g) := by
  refine am_D.of (code := am_k_178) rfl (L0 := [.ref 88, am_un]) rfl ?_
  generalize hres : ((none : Option Value), am_S (am_row (am_row f 88 z0.1) 98 z0.2) g) = res
  obtain ⟨K, hKd⟩ : ∃ K : Option ((Nat → Int32) × (Nat → Int32)) → Prop, K = am_KO (fun z => ((none : Option Value), am_S (am_row (am_row f 88 z.1) 98 z.2) g) = res) := ⟨_, rfl⟩
  have hK : K (fn_m_adds U f) := by rw [hKd, hz0]; exact hres
  have hKn : ¬ K none := by rw [hKd]; exact id
  clear hres hz0
  unfold fn_m_adds at hK
  refine am_F.ops (pc' := 6) (L' := [.ref 88, .int (f 88 15)]) (S' := [.ref 88]) (μ' := (am_S f g)) 4 rfl ?_
  obtain ⟨y1, hy1, hK⟩ := am_ob_e hKn hK
  refine am_F.call rfl rfl (x_m_times U dU   f g hU y1 hy1) (by first | decide | omega) ?_
  refine am_F.mem (F' := (am_row (am_row f 88 y1.1) 98 y1.2)) (G' := g) ?_ (by first | rfl | (funext a; by_cases z0 : a = 88; (subst z0; rfl); by_cases z1 : a = 98; (subst z1; rfl); simp only [am_ui, am_ul, am_row_ne z0, am_row_ne z1])) (by first | rfl | (funext a; by_cases z0 : a = 88; (subst z0; rfl); by_cases z1 : a = 98; (subst z1; rfl); simp only [am_ui, am_ul, am_row_ne z0, am_row_ne z1]))
  show am_F _ _ 9 [.ref 88, .int (f 88 15)] [] (am_S (am_row (am_row f 88 y1.1) 98 y1.2) g) _
  obtain ⟨z9, hz9, hK⟩ := am_ob_e hKn hK
  obtain ⟨nz9, gz9⟩ := am_while_s (show am_while (st_m_adds_9 U f) (y1.1, y1.2) = some z9 from hz9)
  refine lp_m_adds_9 U dU f g y1 hU _ nz9 y1.1 y1.2  ?_
  rw [gz9]
  rcases z9 with z9 | z
  · skip
    show am_F _ _ 39 [.ref 88, .int (f 88 15)] [] (am_S (am_row (am_row f 88 z9.1) 98 z9.2) g) _
    (try simp only [Sum.elim_inl] at hK)
    subst hKd
    have hQ := am_KO_s hK
    exact am_F.eq (am_F.ret rfl rfl) hQ
  · exact z.elim
/-- AccessLatticeModel.compares, with checks -/
noncomputable def fn_m_compares (U : (Nat → Nat → Int32) → Option ((Nat → Int32) × (Nat → Int32))) (f : Nat → Nat → Int32) : Option ((Nat → Int32) × (Nat → Int32)) := (am_ob (fn_m_adds U f) (fun (y1 : (Nat → Int32) × (Nat → Int32)) => (am_chk (¬ (am_row (am_row f 88 y1.1) 98 y1.2) 88 11 ≤ (am_row (am_row f 88 y1.1) 98 y1.2) 88 12 → am_inb ((am_row (am_row f 88 y1.1) 98 y1.2) 88 12) 80 = true) (bif (fn_m_sees 60 (am_row (am_row f 88 y1.1) 98 y1.2)) then (am_ob (fn_m_joins (f 88 15) (am_row (am_row f 88 y1.1) 98 y1.2)) (fun (y5 : (Nat → Int32) × (Nat → Int32)) => (am_ob (fn_m_adds U (am_row (am_row f 88 y5.1) 98 y5.2)) (fun (y6 : (Nat → Int32) × (Nat → Int32)) => (some (y6.1, y6.2)))))) else (bif (fn_m_sees 61 (am_row (am_row f 88 y1.1) 98 y1.2)) then (am_ob (fn_m_joins (f 88 15) (am_row (am_row f 88 y1.1) 98 y1.2)) (fun (y9 : (Nat → Int32) × (Nat → Int32)) => (am_ob (fn_m_adds U (am_row (am_row f 88 y9.1) 98 y9.2)) (fun (y10 : (Nat → Int32) × (Nat → Int32)) => (some (y10.1, y10.2)))))) else (bif (fn_m_sees 62 (am_row (am_row f 88 y1.1) 98 y1.2)) then (am_ob (fn_m_joins (f 88 15) (am_row (am_row f 88 y1.1) 98 y1.2)) (fun (y13 : (Nat → Int32) × (Nat → Int32)) => (am_ob (fn_m_adds U (am_row (am_row f 88 y13.1) 98 y13.2)) (fun (y14 : (Nat → Int32) × (Nat → Int32)) => (some (y14.1, y14.2)))))) else (some (y1.1, y1.2))))))))
theorem x_m_compares (U : (Nat → Nat → Int32) → Option ((Nat → Int32) × (Nat → Int32))) (dU : Nat) (f : Nat → Nat → Int32) (g : Nat → Nat → Int64) (hU : ∀  (f : Nat → Nat → Int32) (g : Nat → Nat → Int64) (z : (Nat → Int32) × (Nat → Int32)), U f = some z → am_D dU 180 2 [.ref 88] (am_S f g) ((none : Option Value), am_S (am_row (am_row f 88 z.1) 98 z.2) g)) (z0 : (Nat → Int32) × (Nat → Int32)) (hz0 : (fn_m_compares U f) = some z0) : am_D (dU + 3) 177 2 [.ref 88] (am_S f g) ((none : Option Value), am_S (am_row (am_row f 88 z0.1) 98 z0.2) g) := by
  refine am_D.of (code := am_k_177) rfl (L0 := [.ref 88, am_un]) rfl ?_
  generalize hres : ((none : Option Value), am_S (am_row (am_row f 88 z0.1) 98 z0.2) g) = res
  obtain ⟨K, hKd⟩ : ∃ K : Option ((Nat → Int32) × (Nat → Int32)) → Prop, K = am_KO (fun z => ((none : Option Value), am_S (am_row (am_row f 88 z.1) 98 z.2) g) = res) := ⟨_, rfl⟩
  have hK : K (fn_m_compares U f) := by rw [hKd, hz0]; exact hres
  have hKn : ¬ K none := by rw [hKd]; exact id
  clear hres hz0
  unfold fn_m_compares at hK
  refine am_F.ops (pc' := 6) (L' := [.ref 88, .int (f 88 15)]) (S' := [.ref 88]) (μ' := (am_S f g)) 4 rfl ?_
  obtain ⟨y1, hy1, hK⟩ := am_ob_e hKn hK
  refine am_F.call rfl rfl (x_m_adds U dU   f g hU y1 hy1) (by first | decide | omega) ?_
  refine am_F.mem (F' := (am_row (am_row f 88 y1.1) 98 y1.2)) (G' := g) ?_ (by first | rfl | (funext a; by_cases z0 : a = 88; (subst z0; rfl); by_cases z1 : a = 98; (subst z1; rfl); simp only [am_ui, am_ul, am_row_ne z0, am_row_ne z1])) (by first | rfl | (funext a; by_cases z0 : a = 88; (subst z0; rfl); by_cases z1 : a = 98; (subst z1; rfl); simp only [am_ui, am_ul, am_row_ne z0, am_row_ne z1]))
  show am_F _ _ 9 [.ref 88, .int (f 88 15)] [] (am_S (am_row (am_row f 88 y1.1) 98 y1.2) g) _
  refine am_F.ops (pc' := 12) (L' := [.ref 88, .int (f 88 15)]) (S' := [.int 60, .ref 88]) (μ' := (am_S (am_row (am_row f 88 y1.1) 98 y1.2) g)) 2 rfl ?_
  obtain ⟨q2, hK⟩ := am_chk_e hKn hK
  refine am_F.call rfl rfl (x_m_sees 60 (am_row (am_row f 88 y1.1) 98 y1.2) g q2) (by first | decide | omega) ?_
  show am_F _ _ 15 [.ref 88, .int (f 88 15)] [.int (am_b (fn_m_sees 60 (am_row (am_row f 88 y1.1) 98 y1.2)))] (am_S (am_row (am_row f 88 y1.1) 98 y1.2) g) _
  refine am_F.bifK 1 rfl K hK (fun c4 hK => ?_) (fun c4 hK => ?_)
  · show am_F _ _ 37 [.ref 88, .int (f 88 15)] [] (am_S (am_row (am_row f 88 y1.1) 98 y1.2) g) _
    refine am_F.ops (pc' := 39) (L' := [.ref 88, .int (f 88 15)]) (S' := [.int (f 88 15), .ref 88]) (μ' := (am_S (am_row (am_row f 88 y1.1) 98 y1.2) g)) 2 rfl ?_
    obtain ⟨y5, hy5, hK⟩ := am_ob_e hKn hK
    refine am_F.call rfl rfl (x_m_joins (f 88 15) (am_row (am_row f 88 y1.1) 98 y1.2) g  y5 hy5) (by first | decide | omega) ?_
    refine am_F.mem (F' := (am_row (am_row f 88 y5.1) 98 y5.2)) (G' := g) ?_ (by first | rfl | (funext a; by_cases z0 : a = 88; (subst z0; rfl); by_cases z1 : a = 98; (subst z1; rfl); simp only [am_ui, am_ul, am_row_ne z0, am_row_ne z1])) (by first | rfl | (funext a; by_cases z0 : a = 88; (subst z0; rfl); by_cases z1 : a = 98; (subst z1; rfl); simp only [am_ui, am_ul, am_row_ne z0, am_row_ne z1]))
    show am_F _ _ 42 [.ref 88, .int (f 88 15)] [] (am_S (am_row (am_row f 88 y5.1) 98 y5.2) g) _
    refine am_F.ops (pc' := 43) (L' := [.ref 88, .int (f 88 15)]) (S' := [.ref 88]) (μ' := (am_S (am_row (am_row f 88 y5.1) 98 y5.2) g)) 1 rfl ?_
    obtain ⟨y6, hy6, hK⟩ := am_ob_e hKn hK
    refine am_F.call rfl rfl (x_m_adds U dU   (am_row (am_row f 88 y5.1) 98 y5.2) g hU y6 hy6) (by first | decide | omega) ?_
    refine am_F.mem (F' := (am_row (am_row f 88 y6.1) 98 y6.2)) (G' := g) ?_ (by first | rfl | (funext a; by_cases z0 : a = 88; (subst z0; rfl); by_cases z1 : a = 98; (subst z1; rfl); simp only [am_ui, am_ul, am_row_ne z0, am_row_ne z1])) (by first | rfl | (funext a; by_cases z0 : a = 88; (subst z0; rfl); by_cases z1 : a = 98; (subst z1; rfl); simp only [am_ui, am_ul, am_row_ne z0, am_row_ne z1]))
    show am_F _ _ 46 [.ref 88, .int (f 88 15)] [] (am_S (am_row (am_row f 88 y6.1) 98 y6.2) g) _
    subst hKd
    have hQ := am_KO_s hK
    exact am_F.eq (am_F.ret rfl rfl) hQ
  · show am_F _ _ 18 [.ref 88, .int (f 88 15)] [] (am_S (am_row (am_row f 88 y1.1) 98 y1.2) g) _
    refine am_F.ops (pc' := 21) (L' := [.ref 88, .int (f 88 15)]) (S' := [.int 61, .ref 88]) (μ' := (am_S (am_row (am_row f 88 y1.1) 98 y1.2) g)) 2 rfl ?_
    refine am_F.call rfl rfl (x_m_sees 61 (am_row (am_row f 88 y1.1) 98 y1.2) g q2) (by first | decide | omega) ?_
    show am_F _ _ 24 [.ref 88, .int (f 88 15)] [.int (am_b (fn_m_sees 61 (am_row (am_row f 88 y1.1) 98 y1.2)))] (am_S (am_row (am_row f 88 y1.1) 98 y1.2) g) _
    refine am_F.bifK 1 rfl K hK (fun c8 hK => ?_) (fun c8 hK => ?_)
    · show am_F _ _ 37 [.ref 88, .int (f 88 15)] [] (am_S (am_row (am_row f 88 y1.1) 98 y1.2) g) _
      refine am_F.ops (pc' := 39) (L' := [.ref 88, .int (f 88 15)]) (S' := [.int (f 88 15), .ref 88]) (μ' := (am_S (am_row (am_row f 88 y1.1) 98 y1.2) g)) 2 rfl ?_
      obtain ⟨y9, hy9, hK⟩ := am_ob_e hKn hK
      refine am_F.call rfl rfl (x_m_joins (f 88 15) (am_row (am_row f 88 y1.1) 98 y1.2) g  y9 hy9) (by first | decide | omega) ?_
      refine am_F.mem (F' := (am_row (am_row f 88 y9.1) 98 y9.2)) (G' := g) ?_ (by first | rfl | (funext a; by_cases z0 : a = 88; (subst z0; rfl); by_cases z1 : a = 98; (subst z1; rfl); simp only [am_ui, am_ul, am_row_ne z0, am_row_ne z1])) (by first | rfl | (funext a; by_cases z0 : a = 88; (subst z0; rfl); by_cases z1 : a = 98; (subst z1; rfl); simp only [am_ui, am_ul, am_row_ne z0, am_row_ne z1]))
      show am_F _ _ 42 [.ref 88, .int (f 88 15)] [] (am_S (am_row (am_row f 88 y9.1) 98 y9.2) g) _
      refine am_F.ops (pc' := 43) (L' := [.ref 88, .int (f 88 15)]) (S' := [.ref 88]) (μ' := (am_S (am_row (am_row f 88 y9.1) 98 y9.2) g)) 1 rfl ?_
      obtain ⟨y10, hy10, hK⟩ := am_ob_e hKn hK
      refine am_F.call rfl rfl (x_m_adds U dU   (am_row (am_row f 88 y9.1) 98 y9.2) g hU y10 hy10) (by first | decide | omega) ?_
      refine am_F.mem (F' := (am_row (am_row f 88 y10.1) 98 y10.2)) (G' := g) ?_ (by first | rfl | (funext a; by_cases z0 : a = 88; (subst z0; rfl); by_cases z1 : a = 98; (subst z1; rfl); simp only [am_ui, am_ul, am_row_ne z0, am_row_ne z1])) (by first | rfl | (funext a; by_cases z0 : a = 88; (subst z0; rfl); by_cases z1 : a = 98; (subst z1; rfl); simp only [am_ui, am_ul, am_row_ne z0, am_row_ne z1]))
      show am_F _ _ 46 [.ref 88, .int (f 88 15)] [] (am_S (am_row (am_row f 88 y10.1) 98 y10.2) g) _
      subst hKd
      have hQ := am_KO_s hK
      exact am_F.eq (am_F.ret rfl rfl) hQ
    · show am_F _ _ 27 [.ref 88, .int (f 88 15)] [] (am_S (am_row (am_row f 88 y1.1) 98 y1.2) g) _
      refine am_F.ops (pc' := 30) (L' := [.ref 88, .int (f 88 15)]) (S' := [.int 62, .ref 88]) (μ' := (am_S (am_row (am_row f 88 y1.1) 98 y1.2) g)) 2 rfl ?_
      refine am_F.call rfl rfl (x_m_sees 62 (am_row (am_row f 88 y1.1) 98 y1.2) g q2) (by first | decide | omega) ?_
      show am_F _ _ 33 [.ref 88, .int (f 88 15)] [.int (am_b (fn_m_sees 62 (am_row (am_row f 88 y1.1) 98 y1.2)))] (am_S (am_row (am_row f 88 y1.1) 98 y1.2) g) _
      refine am_F.bifK 1 rfl K hK (fun c12 hK => ?_) (fun c12 hK => ?_)
      · show am_F _ _ 37 [.ref 88, .int (f 88 15)] [] (am_S (am_row (am_row f 88 y1.1) 98 y1.2) g) _
        refine am_F.ops (pc' := 39) (L' := [.ref 88, .int (f 88 15)]) (S' := [.int (f 88 15), .ref 88]) (μ' := (am_S (am_row (am_row f 88 y1.1) 98 y1.2) g)) 2 rfl ?_
        obtain ⟨y13, hy13, hK⟩ := am_ob_e hKn hK
        refine am_F.call rfl rfl (x_m_joins (f 88 15) (am_row (am_row f 88 y1.1) 98 y1.2) g  y13 hy13) (by first | decide | omega) ?_
        refine am_F.mem (F' := (am_row (am_row f 88 y13.1) 98 y13.2)) (G' := g) ?_ (by first | rfl | (funext a; by_cases z0 : a = 88; (subst z0; rfl); by_cases z1 : a = 98; (subst z1; rfl); simp only [am_ui, am_ul, am_row_ne z0, am_row_ne z1])) (by first | rfl | (funext a; by_cases z0 : a = 88; (subst z0; rfl); by_cases z1 : a = 98; (subst z1; rfl); simp only [am_ui, am_ul, am_row_ne z0, am_row_ne z1]))
        show am_F _ _ 42 [.ref 88, .int (f 88 15)] [] (am_S (am_row (am_row f 88 y13.1) 98 y13.2) g) _
        refine am_F.ops (pc' := 43) (L' := [.ref 88, .int (f 88 15)]) (S' := [.ref 88]) (μ' := (am_S (am_row (am_row f 88 y13.1) 98 y13.2) g)) 1 rfl ?_
        obtain ⟨y14, hy14, hK⟩ := am_ob_e hKn hK
        refine am_F.call rfl rfl (x_m_adds U dU   (am_row (am_row f 88 y13.1) 98 y13.2) g hU y14 hy14) (by first | decide | omega) ?_
        refine am_F.mem (F' := (am_row (am_row f 88 y14.1) 98 y14.2)) (G' := g) ?_ (by first | rfl | (funext a; by_cases z0 : a = 88; (subst z0; rfl); by_cases z1 : a = 98; (subst z1; rfl); simp only [am_ui, am_ul, am_row_ne z0, am_row_ne z1])) (by first | rfl | (funext a; by_cases z0 : a = 88; (subst z0; rfl); by_cases z1 : a = 98; (subst z1; rfl); simp only [am_ui, am_ul, am_row_ne z0, am_row_ne z1]))
        show am_F _ _ 46 [.ref 88, .int (f 88 15)] [] (am_S (am_row (am_row f 88 y14.1) 98 y14.2) g) _
        subst hKd
        have hQ := am_KO_s hK
        exact am_F.eq (am_F.ret rfl rfl) hQ
      · show am_F _ _ 36 [.ref 88, .int (f 88 15)] [] (am_S (am_row (am_row f 88 y1.1) 98 y1.2) g) _
        subst hKd
        have hQ := am_KO_s hK
        exact am_F.eq (am_F.ret rfl rfl) hQ
/-- AccessLatticeModel.both, with checks -/
noncomputable def st_m_both_9 (U : (Nat → Nat → Int32) → Option ((Nat → Int32) × (Nat → Int32))) (f : Nat → Nat → Int32) : (Nat → Int32) × (Nat → Int32) → Option ((Nat → Int32) × (Nat → Int32) ⊕ ((Nat → Int32) × (Nat → Int32) ⊕ Empty)) := fun z => match z with
  | (r9_88, r9_98) => (am_chk (¬ (am_row (am_row f 88 r9_88) 98 r9_98) 88 11 ≤ (am_row (am_row f 88 r9_88) 98 r9_98) 88 12 → am_inb ((am_row (am_row f 88 r9_88) 98 r9_98) 88 12) 80 = true) (bif (fn_m_sees 38 (am_row (am_row f 88 r9_88) 98 r9_98)) then (am_ob (fn_m_joins (f 88 15) (am_row (am_row f 88 r9_88) 98 r9_98)) (fun (y10 : (Nat → Int32) × (Nat → Int32)) => (am_ob (fn_m_compares U (am_row (am_row f 88 y10.1) 98 y10.2)) (fun (y11 : (Nat → Int32) × (Nat → Int32)) => (some (.inl (y11.1, y11.2))))))) else (some (.inr (.inl (r9_88, r9_98))))))
noncomputable def lf_m_both_9 (U : (Nat → Nat → Int32) → Option ((Nat → Int32) × (Nat → Int32))) (f : Nat → Nat → Int32) (y1 : (Nat → Int32) × (Nat → Int32)) : Option ((Nat → Int32) × (Nat → Int32) ⊕ Empty) := am_while (st_m_both_9 U f) (y1.1, y1.2)
noncomputable def fn_m_both (U : (Nat → Nat → Int32) → Option ((Nat → Int32) × (Nat → Int32))) (f : Nat → Nat → Int32) : Option ((Nat → Int32) × (Nat → Int32)) := (am_ob (fn_m_compares U f) (fun (y1 : (Nat → Int32) × (Nat → Int32)) => (am_ob (lf_m_both_9 U f y1) (fun zz => Sum.elim (fun (z9 : (Nat → Int32) × (Nat → Int32)) => (some (z9.1, z9.2))) (fun (z : Empty) => z.elim) zz))))
theorem lp_m_both_9 (U : (Nat → Nat → Int32) → Option ((Nat → Int32) × (Nat → Int32))) (dU : Nat) (f : Nat → Nat → Int32) (g : Nat → Nat → Int64) (y1 : (Nat → Int32) × (Nat → Int32)) (hU : ∀  (f : Nat → Nat → Int32) (g : Nat → Nat → Int64) (z : (Nat → Int32) × (Nat → Int32)), U f = some z → am_D dU 180 2 [.ref 88] (am_S f g) ((none : Option Value), am_S (am_row (am_row f 88 z.1) 98 z.2) g)) (res : Option Value × am_M) : ∀ (n : Nat) (r9_88 : Nat → Int32) (r9_98 : Nat → Int32), am_KO (am_KX (fun (z : (Nat → Int32) × (Nat → Int32)) => am_F (dU + 4) am_k_176 30 [.ref 88, .int (f 88 15)] [] (am_S (am_row (am_row f 88 z.1) 98 z.2) g) res) (fun (z : Empty) => True)) (am_wh (st_m_both_9 U f) n (r9_88, r9_98)) → am_F (dU + 4) am_k_176 9 [.ref 88, .int (f 88 15)] [] (am_S (am_row (am_row f 88 r9_88) 98 r9_98) g) res := by
  intro n
  induction n with
  | zero =>
    intro r9_88 r9_98 hK
    exact False.elim hK
  | succ n ih =>
    intro r9_88 r9_98 hK
    obtain ⟨K, hKd⟩ : ∃ K : Option ((Nat → Int32) × (Nat → Int32) ⊕ ((Nat → Int32) × (Nat → Int32) ⊕ Empty)) → Prop, K = fun s => am_KO (am_KX (fun (z : (Nat → Int32) × (Nat → Int32)) => am_F (dU + 4) am_k_176 30 [.ref 88, .int (f 88 15)] [] (am_S (am_row (am_row f 88 z.1) 98 z.2) g) res) (fun (z : Empty) => True)) (am_whn (am_wh (st_m_both_9 U f) n) s) := ⟨_, rfl⟩
    have hK : K ((st_m_both_9 U f) (r9_88, r9_98)) := by rw [am_wh_s] at hK; rw [hKd]; with_reducible exact hK
    have hKn : ¬ K none := by rw [hKd]; exact id
    unfold st_m_both_9 at hK
    simp only at hK
    refine am_F.ops (pc' := 12) (L' := [.ref 88, .int (f 88 15)]) (S' := [.int 38, .ref 88]) (μ' := (am_S (am_row (am_row f 88 r9_88) 98 r9_98) g)) 2 rfl ?_
    obtain ⟨q7, hK⟩ := am_chk_e hKn hK
    refine am_F.call rfl rfl (x_m_sees 38 (am_row (am_row f 88 r9_88) 98 r9_98) g q7) (by first | decide | omega) ?_
    show am_F _ _ 15 [.ref 88, .int (f 88 15)] [.int (am_b (fn_m_sees 38 (am_row (am_row f 88 r9_88) 98 r9_98)))] (am_S (am_row (am_row f 88 r9_88) 98 r9_98) g) _
    refine am_F.bifK 1 rfl K hK (fun c9 hK => ?_) (fun c9 hK => ?_)
    · show am_F _ _ 18 [.ref 88, .int (f 88 15)] [] (am_S (am_row (am_row f 88 r9_88) 98 r9_98) g) _
      refine am_F.ops (pc' := 20) (L' := [.ref 88, .int (f 88 15)]) (S' := [.int (f 88 15), .ref 88]) (μ' := (am_S (am_row (am_row f 88 r9_88) 98 r9_98) g)) 2 rfl ?_
      obtain ⟨y10, hy10, hK⟩ := am_ob_e hKn hK
      refine am_F.call rfl rfl (x_m_joins (f 88 15) (am_row (am_row f 88 r9_88) 98 r9_98) g  y10 hy10) (by first | decide | omega) ?_
      refine am_F.mem (F' := (am_row (am_row f 88 y10.1) 98 y10.2)) (G' := g) ?_ (by first | rfl | (funext a; by_cases z0 : a = 88; (subst z0; rfl); by_cases z1 : a = 98; (subst z1; rfl); simp only [am_ui, am_ul, am_row_ne z0, am_row_ne z1])) (by first | rfl | (funext a; by_cases z0 : a = 88; (subst z0; rfl); by_cases z1 : a = 98; (subst z1; rfl); simp only [am_ui, am_ul, am_row_ne z0, am_row_ne z1]))
      show am_F _ _ 23 [.ref 88, .int (f 88 15)] [] (am_S (am_row (am_row f 88 y10.1) 98 y10.2) g) _
      refine am_F.ops (pc' := 24) (L' := [.ref 88, .int (f 88 15)]) (S' := [.ref 88]) (μ' := (am_S (am_row (am_row f 88 y10.1) 98 y10.2) g)) 1 rfl ?_
      obtain ⟨y11, hy11, hK⟩ := am_ob_e hKn hK
      refine am_F.call rfl rfl (x_m_compares U dU   (am_row (am_row f 88 y10.1) 98 y10.2) g hU y11 hy11) (by first | decide | omega) ?_
      refine am_F.mem (F' := (am_row (am_row f 88 y11.1) 98 y11.2)) (G' := g) ?_ (by first | rfl | (funext a; by_cases z0 : a = 88; (subst z0; rfl); by_cases z1 : a = 98; (subst z1; rfl); simp only [am_ui, am_ul, am_row_ne z0, am_row_ne z1])) (by first | rfl | (funext a; by_cases z0 : a = 88; (subst z0; rfl); by_cases z1 : a = 98; (subst z1; rfl); simp only [am_ui, am_ul, am_row_ne z0, am_row_ne z1]))
      show am_F _ _ 27 [.ref 88, .int (f 88 15)] [] (am_S (am_row (am_row f 88 y11.1) 98 y11.2) g) _
      refine am_F.ops (pc' := 9) (L' := [.ref 88, .int (f 88 15)]) (S' := []) (μ' := (am_S (am_row (am_row f 88 y11.1) 98 y11.2) g)) 1 rfl ?_
      subst hKd
      exact ih y11.1 y11.2 hK
    · show am_F _ _ 30 [.ref 88, .int (f 88 15)] [] (am_S (am_row (am_row f 88 r9_88) 98 r9_98) g) _
      subst hKd
      exact hK 
theorem x_m_both (U : (Nat → Nat → Int32) → Option ((Nat → Int32) × (Nat → Int32))) (dU : Nat) (f : Nat → Nat → Int32) (g : Nat → Nat → Int64) (hU : ∀  (f : Nat → Nat → Int32) (g : Nat → Nat → Int64) (z : (Nat → Int32) × (Nat → Int32)), U f = some z → am_D dU 180 2 [.ref 88] (am_S f g) ((none : Option Value), am_S (am_row (am_row f 88 z.1) 98 z.2) g)) (z0 : (Nat → Int32) × (Nat → Int32)) (hz0 : (fn_m_both U f) = some z0) : am_D (dU + 4) 176 2 [.ref 88] (am_S f g) ((none : Option Value), am_S (am_row (am_row f 88 z0.1) 98 z0.2) g) := by
  refine am_D.of (code := am_k_176) rfl (L0 := [.ref 88, am_un]) rfl ?_
  generalize hres : ((none : Option Value), am_S (am_row (am_row f 88 z0.1) 98 z0.2) g) = res
  obtain ⟨K, hKd⟩ : ∃ K : Option ((Nat → Int32) × (Nat → Int32)) → Prop, K = am_KO (fun z => ((none : Option Value), am_S (am_row (am_row f 88 z.1) 98 z.2) g) = res) := ⟨_, rfl⟩
  have hK : K (fn_m_both U f) := by rw [hKd, hz0]; exact hres
  have hKn : ¬ K none := by rw [hKd]; exact id
  clear hres hz0
  unfold fn_m_both at hK
  refine am_F.ops (pc' := 6) (L' := [.ref 88, .int (f 88 15)]) (S' := [.ref 88]) (μ' := (am_S f g)) 4 rfl ?_
  obtain ⟨y1, hy1, hK⟩ := am_ob_e hKn hK
  refine am_F.call rfl rfl (x_m_compares U dU   f g hU y1 hy1) (by first | decide | omega) ?_
  refine am_F.mem (F' := (am_row (am_row f 88 y1.1) 98 y1.2)) (G' := g) ?_ (by first | rfl | (funext a; by_cases z0 : a = 88; (subst z0; rfl); by_cases z1 : a = 98; (subst z1; rfl); simp only [am_ui, am_ul, am_row_ne z0, am_row_ne z1])) (by first | rfl | (funext a; by_cases z0 : a = 88; (subst z0; rfl); by_cases z1 : a = 98; (subst z1; rfl); simp only [am_ui, am_ul, am_row_ne z0, am_row_ne z1]))
  show am_F _ _ 9 [.ref 88, .int (f 88 15)] [] (am_S (am_row (am_row f 88 y1.1) 98 y1.2) g) _
  obtain ⟨z9, hz9, hK⟩ := am_ob_e hKn hK
  obtain ⟨nz9, gz9⟩ := am_while_s (show am_while (st_m_both_9 U f) (y1.1, y1.2) = some z9 from hz9)
  refine lp_m_both_9 U dU f g y1 hU _ nz9 y1.1 y1.2  ?_
  rw [gz9]
  rcases z9 with z9 | z
  · skip
    show am_F _ _ 30 [.ref 88, .int (f 88 15)] [] (am_S (am_row (am_row f 88 z9.1) 98 z9.2) g) _
    (try simp only [Sum.elim_inl] at hK)
    subst hKd
    have hQ := am_KO_s hK
    exact am_F.eq (am_F.ret rfl rfl) hQ
  · exact z.elim
/-- AccessLatticeModel.either, with checks -/
noncomputable def st_m_either_9 (U : (Nat → Nat → Int32) → Option ((Nat → Int32) × (Nat → Int32))) (f : Nat → Nat → Int32) : (Nat → Int32) × (Nat → Int32) → Option ((Nat → Int32) × (Nat → Int32) ⊕ ((Nat → Int32) × (Nat → Int32) ⊕ Empty)) := fun z => match z with
  | (r9_88, r9_98) => (am_chk (¬ (am_row (am_row f 88 r9_88) 98 r9_98) 88 11 ≤ (am_row (am_row f 88 r9_88) 98 r9_98) 88 12 → am_inb ((am_row (am_row f 88 r9_88) 98 r9_98) 88 12) 80 = true) (bif (fn_m_sees 124 (am_row (am_row f 88 r9_88) 98 r9_98)) then (am_ob (fn_m_joins (f 88 15) (am_row (am_row f 88 r9_88) 98 r9_98)) (fun (y10 : (Nat → Int32) × (Nat → Int32)) => (am_ob (fn_m_both U (am_row (am_row f 88 y10.1) 98 y10.2)) (fun (y11 : (Nat → Int32) × (Nat → Int32)) => (some (.inl (y11.1, y11.2))))))) else (some (.inr (.inl (r9_88, r9_98))))))
noncomputable def lf_m_either_9 (U : (Nat → Nat → Int32) → Option ((Nat → Int32) × (Nat → Int32))) (f : Nat → Nat → Int32) (y1 : (Nat → Int32) × (Nat → Int32)) : Option ((Nat → Int32) × (Nat → Int32) ⊕ Empty) := am_while (st_m_either_9 U f) (y1.1, y1.2)
noncomputable def fn_m_either (U : (Nat → Nat → Int32) → Option ((Nat → Int32) × (Nat → Int32))) (f : Nat → Nat → Int32) : Option ((Nat → Int32) × (Nat → Int32)) := (am_ob (fn_m_both U f) (fun (y1 : (Nat → Int32) × (Nat → Int32)) => (am_ob (lf_m_either_9 U f y1) (fun zz => Sum.elim (fun (z9 : (Nat → Int32) × (Nat → Int32)) => (some (z9.1, z9.2))) (fun (z : Empty) => z.elim) zz))))
theorem lp_m_either_9 (U : (Nat → Nat → Int32) → Option ((Nat → Int32) × (Nat → Int32))) (dU : Nat) (f : Nat → Nat → Int32) (g : Nat → Nat → Int64) (y1 : (Nat → Int32) × (Nat → Int32)) (hU : ∀  (f : Nat → Nat → Int32) (g : Nat → Nat → Int64) (z : (Nat → Int32) × (Nat → Int32)), U f = some z → am_D dU 180 2 [.ref 88] (am_S f g) ((none : Option Value), am_S (am_row (am_row f 88 z.1) 98 z.2) g)) (res : Option Value × am_M) : ∀ (n : Nat) (r9_88 : Nat → Int32) (r9_98 : Nat → Int32), am_KO (am_KX (fun (z : (Nat → Int32) × (Nat → Int32)) => am_F (dU + 5) am_k_175 30 [.ref 88, .int (f 88 15)] [] (am_S (am_row (am_row f 88 z.1) 98 z.2) g) res) (fun (z : Empty) => True)) (am_wh (st_m_either_9 U f) n (r9_88, r9_98)) → am_F (dU + 5) am_k_175 9 [.ref 88, .int (f 88 15)] [] (am_S (am_row (am_row f 88 r9_88) 98 r9_98) g) res := by
  intro n
  induction n with
  | zero =>
    intro r9_88 r9_98 hK
    exact False.elim hK
  | succ n ih =>
    intro r9_88 r9_98 hK
    obtain ⟨K, hKd⟩ : ∃ K : Option ((Nat → Int32) × (Nat → Int32) ⊕ ((Nat → Int32) × (Nat → Int32) ⊕ Empty)) → Prop, K = fun s => am_KO (am_KX (fun (z : (Nat → Int32) × (Nat → Int32)) => am_F (dU + 5) am_k_175 30 [.ref 88, .int (f 88 15)] [] (am_S (am_row (am_row f 88 z.1) 98 z.2) g) res) (fun (z : Empty) => True)) (am_whn (am_wh (st_m_either_9 U f) n) s) := ⟨_, rfl⟩
    have hK : K ((st_m_either_9 U f) (r9_88, r9_98)) := by rw [am_wh_s] at hK; rw [hKd]; with_reducible exact hK
    have hKn : ¬ K none := by rw [hKd]; exact id
    unfold st_m_either_9 at hK
    simp only at hK
    refine am_F.ops (pc' := 12) (L' := [.ref 88, .int (f 88 15)]) (S' := [.int 124, .ref 88]) (μ' := (am_S (am_row (am_row f 88 r9_88) 98 r9_98) g)) 2 rfl ?_
    obtain ⟨q7, hK⟩ := am_chk_e hKn hK
    refine am_F.call rfl rfl (x_m_sees 124 (am_row (am_row f 88 r9_88) 98 r9_98) g q7) (by first | decide | omega) ?_
    show am_F _ _ 15 [.ref 88, .int (f 88 15)] [.int (am_b (fn_m_sees 124 (am_row (am_row f 88 r9_88) 98 r9_98)))] (am_S (am_row (am_row f 88 r9_88) 98 r9_98) g) _
    refine am_F.bifK 1 rfl K hK (fun c9 hK => ?_) (fun c9 hK => ?_)
    · show am_F _ _ 18 [.ref 88, .int (f 88 15)] [] (am_S (am_row (am_row f 88 r9_88) 98 r9_98) g) _
      refine am_F.ops (pc' := 20) (L' := [.ref 88, .int (f 88 15)]) (S' := [.int (f 88 15), .ref 88]) (μ' := (am_S (am_row (am_row f 88 r9_88) 98 r9_98) g)) 2 rfl ?_
      obtain ⟨y10, hy10, hK⟩ := am_ob_e hKn hK
      refine am_F.call rfl rfl (x_m_joins (f 88 15) (am_row (am_row f 88 r9_88) 98 r9_98) g  y10 hy10) (by first | decide | omega) ?_
      refine am_F.mem (F' := (am_row (am_row f 88 y10.1) 98 y10.2)) (G' := g) ?_ (by first | rfl | (funext a; by_cases z0 : a = 88; (subst z0; rfl); by_cases z1 : a = 98; (subst z1; rfl); simp only [am_ui, am_ul, am_row_ne z0, am_row_ne z1])) (by first | rfl | (funext a; by_cases z0 : a = 88; (subst z0; rfl); by_cases z1 : a = 98; (subst z1; rfl); simp only [am_ui, am_ul, am_row_ne z0, am_row_ne z1]))
      show am_F _ _ 23 [.ref 88, .int (f 88 15)] [] (am_S (am_row (am_row f 88 y10.1) 98 y10.2) g) _
      refine am_F.ops (pc' := 24) (L' := [.ref 88, .int (f 88 15)]) (S' := [.ref 88]) (μ' := (am_S (am_row (am_row f 88 y10.1) 98 y10.2) g)) 1 rfl ?_
      obtain ⟨y11, hy11, hK⟩ := am_ob_e hKn hK
      refine am_F.call rfl rfl (x_m_both U dU   (am_row (am_row f 88 y10.1) 98 y10.2) g hU y11 hy11) (by first | decide | omega) ?_
      refine am_F.mem (F' := (am_row (am_row f 88 y11.1) 98 y11.2)) (G' := g) ?_ (by first | rfl | (funext a; by_cases z0 : a = 88; (subst z0; rfl); by_cases z1 : a = 98; (subst z1; rfl); simp only [am_ui, am_ul, am_row_ne z0, am_row_ne z1])) (by first | rfl | (funext a; by_cases z0 : a = 88; (subst z0; rfl); by_cases z1 : a = 98; (subst z1; rfl); simp only [am_ui, am_ul, am_row_ne z0, am_row_ne z1]))
      show am_F _ _ 27 [.ref 88, .int (f 88 15)] [] (am_S (am_row (am_row f 88 y11.1) 98 y11.2) g) _
      refine am_F.ops (pc' := 9) (L' := [.ref 88, .int (f 88 15)]) (S' := []) (μ' := (am_S (am_row (am_row f 88 y11.1) 98 y11.2) g)) 1 rfl ?_
      subst hKd
      exact ih y11.1 y11.2 hK
    · show am_F _ _ 30 [.ref 88, .int (f 88 15)] [] (am_S (am_row (am_row f 88 r9_88) 98 r9_98) g) _
      subst hKd
      exact hK 
theorem x_m_either (U : (Nat → Nat → Int32) → Option ((Nat → Int32) × (Nat → Int32))) (dU : Nat) (f : Nat → Nat → Int32) (g : Nat → Nat → Int64) (hU : ∀  (f : Nat → Nat → Int32) (g : Nat → Nat → Int64) (z : (Nat → Int32) × (Nat → Int32)), U f = some z → am_D dU 180 2 [.ref 88] (am_S f g) ((none : Option Value), am_S (am_row (am_row f 88 z.1) 98 z.2) g)) (z0 : (Nat → Int32) × (Nat → Int32)) (hz0 : (fn_m_either U f) = some z0) : am_D (dU + 5) 175 2 [.ref 88] (am_S f g) ((none : Option Value), am_S (am_row (am_row f 88 z0.1) 98 z0.2) g) := by
  refine am_D.of (code := am_k_175) rfl (L0 := [.ref 88, am_un]) rfl ?_
  generalize hres : ((none : Option Value), am_S (am_row (am_row f 88 z0.1) 98 z0.2) g) = res
  obtain ⟨K, hKd⟩ : ∃ K : Option ((Nat → Int32) × (Nat → Int32)) → Prop, K = am_KO (fun z => ((none : Option Value), am_S (am_row (am_row f 88 z.1) 98 z.2) g) = res) := ⟨_, rfl⟩
  have hK : K (fn_m_either U f) := by rw [hKd, hz0]; exact hres
  have hKn : ¬ K none := by rw [hKd]; exact id
  clear hres hz0
  unfold fn_m_either at hK
  refine am_F.ops (pc' := 6) (L' := [.ref 88, .int (f 88 15)]) (S' := [.ref 88]) (μ' := (am_S f g)) 4 rfl ?_
  obtain ⟨y1, hy1, hK⟩ := am_ob_e hKn hK
  refine am_F.call rfl rfl (x_m_both U dU   f g hU y1 hy1) (by first | decide | omega) ?_
  refine am_F.mem (F' := (am_row (am_row f 88 y1.1) 98 y1.2)) (G' := g) ?_ (by first | rfl | (funext a; by_cases z0 : a = 88; (subst z0; rfl); by_cases z1 : a = 98; (subst z1; rfl); simp only [am_ui, am_ul, am_row_ne z0, am_row_ne z1])) (by first | rfl | (funext a; by_cases z0 : a = 88; (subst z0; rfl); by_cases z1 : a = 98; (subst z1; rfl); simp only [am_ui, am_ul, am_row_ne z0, am_row_ne z1]))
  show am_F _ _ 9 [.ref 88, .int (f 88 15)] [] (am_S (am_row (am_row f 88 y1.1) 98 y1.2) g) _
  obtain ⟨z9, hz9, hK⟩ := am_ob_e hKn hK
  obtain ⟨nz9, gz9⟩ := am_while_s (show am_while (st_m_either_9 U f) (y1.1, y1.2) = some z9 from hz9)
  refine lp_m_either_9 U dU f g y1 hU _ nz9 y1.1 y1.2  ?_
  rw [gz9]
  rcases z9 with z9 | z
  · skip
    show am_F _ _ 30 [.ref 88, .int (f 88 15)] [] (am_S (am_row (am_row f 88 z9.1) 98 z9.2) g) _
    (try simp only [Sum.elim_inl] at hK)
    subst hKd
    have hQ := am_KO_s hK
    exact am_F.eq (am_F.ret rfl rfl) hQ
  · exact z.elim
/-- AccessLatticeModel.unit, with checks -/
noncomputable def fn_m_unitS (U : (Nat → Nat → Int32) → Option ((Nat → Int32) × (Nat → Int32))) (f : Nat → Nat → Int32) : Option ((Nat → Int32) × (Nat → Int32)) := (if (f 88 13) < 0 then (if (f 88 11) ≤ (f 88 12) then (am_chk (¬ f 88 11 ≤ f 88 12 → am_inb (f 88 12) 80 = true) (bif (fn_m_seesDigit f) then (am_ob (fn_m_figures 3 f) (fun (y7 : Int32 × (Nat → Int32)) => (am_chk (am_inb ((am_row f 88 y7.2) 88 15) 81 = true) (some ((fn_m_puts y7.1 (am_row f 88 y7.2)).1, (fn_m_puts y7.1 (am_row f 88 y7.2)).2))))) else (some ((fn_m_fails (f 88 12) f), f 98)))) else (am_chk (am_inb (f 88 12) 80 = true) (am_chk (¬ f 88 11 ≤ f 88 12 → am_inb (f 88 12) 80 = true) (bif (fn_m_seesDigit f) then (am_ob (fn_m_figures 3 f) (fun (y15 : Int32 × (Nat → Int32)) => (am_chk (am_inb ((am_row f 88 y15.2) 88 15) 81 = true) (some ((fn_m_puts y15.1 (am_row f 88 y15.2)).1, (fn_m_puts y15.1 (am_row f 88 y15.2)).2))))) else (if (f 97 ((f 88 12).toNatClampNeg)) = 117 then (if (f 88 11) ≤ ((f 88 12) + 1) then (some ((fn_m_fails ((f 88 12) + 1) (am_row f 88 (upd (f 88) 12 ((f 88 12) + 1)))), f 98)) else (am_chk (am_inb ((f 88 12) + 1) 80 = true) (bif (fn_m_isIn (f 97 (((f 88 12) + 1).toNatClampNeg)) 48 51) then (am_chk (am_inb ((am_row f 88 (upd (f 88) 12 ((f 88 12) + 1))) 88 15) 81 = true) (some (upd (fn_m_puts ((1000 + (f 97 (((f 88 12) + 1).toNatClampNeg))) - 48) (am_row f 88 (upd (f 88) 12 ((f 88 12) + 1)))).1 12 (((fn_m_puts ((1000 + (f 97 (((f 88 12) + 1).toNatClampNeg))) - 48) (am_row f 88 (upd (f 88) 12 ((f 88 12) + 1)))).1 12) + 1), (fn_m_puts ((1000 + (f 97 (((f 88 12) + 1).toNatClampNeg))) - 48) (am_row f 88 (upd (f 88) 12 ((f 88 12) + 1)))).2))) else (some ((fn_m_fails ((f 88 12) + 1) (am_row f 88 (upd (f 88) 12 ((f 88 12) + 1)))), f 98))))) else (if (f 97 ((f 88 12).toNatClampNeg)) = 116 then (if (f 88 11) ≤ ((f 88 12) + 1) then (some ((fn_m_fails ((f 88 12) + 1) (am_row f 88 (upd (f 88) 12 ((f 88 12) + 1)))), f 98)) else (am_chk (am_inb ((f 88 12) + 1) 80 = true) (bif (fn_m_isIn (f 97 (((f 88 12) + 1).toNatClampNeg)) 48 51) then (am_chk (am_inb ((am_row f 88 (upd (f 88) 12 ((f 88 12) + 1))) 88 15) 81 = true) (some (upd (fn_m_puts ((1010 + (f 97 (((f 88 12) + 1).toNatClampNeg))) - 48) (am_row f 88 (upd (f 88) 12 ((f 88 12) + 1)))).1 12 (((fn_m_puts ((1010 + (f 97 (((f 88 12) + 1).toNatClampNeg))) - 48) (am_row f 88 (upd (f 88) 12 ((f 88 12) + 1)))).1 12) + 1), (fn_m_puts ((1010 + (f 97 (((f 88 12) + 1).toNatClampNeg))) - 48) (am_row f 88 (upd (f 88) 12 ((f 88 12) + 1)))).2))) else (some ((fn_m_fails ((f 88 12) + 1) (am_row f 88 (upd (f 88) 12 ((f 88 12) + 1)))), f 98))))) else (if (f 97 ((f 88 12).toNatClampNeg)) = 110 then (am_chk (am_inb (f 88 15) 81 = true) (some (upd (fn_m_puts 1020 f).1 12 (((fn_m_puts 1020 f).1 12) + 1), (fn_m_puts 1020 f).2))) else (if (f 97 ((f 88 12).toNatClampNeg)) = 97 then (am_chk (am_inb (f 88 15) 81 = true) (some (upd (fn_m_puts 1021 f).1 12 (((fn_m_puts 1021 f).1 12) + 1), (fn_m_puts 1021 f).2))) else (if (f 97 ((f 88 12).toNatClampNeg)) = 100 then (am_chk (am_inb (f 88 15) 81 = true) (some (upd (fn_m_puts 1022 f).1 12 (((fn_m_puts 1022 f).1 12) + 1), (fn_m_puts 1022 f).2))) else (if (f 97 ((f 88 12).toNatClampNeg)) = 33 then (if (f 88 14) = 6 then (some ((fn_m_fails (f 88 12) f), f 98)) else (if (f 97 ((f 88 12).toNatClampNeg)) = 40 then (am_ob (fn_m_either U (am_row f 88 (upd (upd (f 88) 14 ((f 88 14) + 1)) 12 ((f 88 12) + 1)))) (fun (y50 : (Nat → Int32) × (Nat → Int32)) => (am_chk (¬ (am_row (am_row f 88 y50.1) 98 y50.2) 88 11 ≤ (am_row (am_row f 88 y50.1) 98 y50.2) 88 12 → am_inb ((am_row (am_row f 88 y50.1) 98 y50.2) 88 12) 80 = true) (some (upd (fn_m_takes 41 (am_row (am_row f 88 y50.1) 98 y50.2)) 14 (((fn_m_takes 41 (am_row (am_row f 88 y50.1) 98 y50.2)) 14) - 1), y50.2))))) else (am_chk (am_inb ((am_row f 88 (upd (upd (f 88) 14 ((f 88 14) + 1)) 12 ((f 88 12) + 1))) 88 15) 81 = true) (am_ob (U (am_row (am_row f 88 (fn_m_puts (2000 + (if (f 97 ((f 88 12).toNatClampNeg)) = 45 then 126 else 33)) (am_row f 88 (upd (upd (f 88) 14 ((f 88 14) + 1)) 12 ((f 88 12) + 1)))).1) 98 (fn_m_puts (2000 + (if (f 97 ((f 88 12).toNatClampNeg)) = 45 then 126 else 33)) (am_row f 88 (upd (upd (f 88) 14 ((f 88 14) + 1)) 12 ((f 88 12) + 1)))).2)) (fun (y56 : (Nat → Int32) × (Nat → Int32)) => (some (upd y56.1 14 ((y56.1 14) - 1), y56.2))))))) else (if (f 97 ((f 88 12).toNatClampNeg)) = 45 then (if (f 88 14) = 6 then (some ((fn_m_fails (f 88 12) f), f 98)) else (if (f 97 ((f 88 12).toNatClampNeg)) = 40 then (am_ob (fn_m_either U (am_row f 88 (upd (upd (f 88) 14 ((f 88 14) + 1)) 12 ((f 88 12) + 1)))) (fun (y62 : (Nat → Int32) × (Nat → Int32)) => (am_chk (¬ (am_row (am_row f 88 y62.1) 98 y62.2) 88 11 ≤ (am_row (am_row f 88 y62.1) 98 y62.2) 88 12 → am_inb ((am_row (am_row f 88 y62.1) 98 y62.2) 88 12) 80 = true) (some (upd (fn_m_takes 41 (am_row (am_row f 88 y62.1) 98 y62.2)) 14 (((fn_m_takes 41 (am_row (am_row f 88 y62.1) 98 y62.2)) 14) - 1), y62.2))))) else (am_chk (am_inb ((am_row f 88 (upd (upd (f 88) 14 ((f 88 14) + 1)) 12 ((f 88 12) + 1))) 88 15) 81 = true) (am_ob (U (am_row (am_row f 88 (fn_m_puts (2000 + 126) (am_row f 88 (upd (upd (f 88) 14 ((f 88 14) + 1)) 12 ((f 88 12) + 1)))).1) 98 (fn_m_puts (2000 + 126) (am_row f 88 (upd (upd (f 88) 14 ((f 88 14) + 1)) 12 ((f 88 12) + 1)))).2)) (fun (y67 : (Nat → Int32) × (Nat → Int32)) => (some (upd y67.1 14 ((y67.1 14) - 1), y67.2))))))) else (if (f 97 ((f 88 12).toNatClampNeg)) = 40 then (if (f 88 14) = 6 then (some ((fn_m_fails (f 88 12) f), f 98)) else (am_ob (fn_m_either U (am_row f 88 (upd (upd (f 88) 14 ((f 88 14) + 1)) 12 ((f 88 12) + 1)))) (fun (y71 : (Nat → Int32) × (Nat → Int32)) => (am_chk (¬ (am_row (am_row f 88 y71.1) 98 y71.2) 88 11 ≤ (am_row (am_row f 88 y71.1) 98 y71.2) 88 12 → am_inb ((am_row (am_row f 88 y71.1) 98 y71.2) 88 12) 80 = true) (some (upd (fn_m_takes 41 (am_row (am_row f 88 y71.1) 98 y71.2)) 14 (((fn_m_takes 41 (am_row (am_row f 88 y71.1) 98 y71.2)) 14) - 1), y71.2)))))) else (some ((fn_m_fails (f 88 12) f), f 98)))))))))))))) else (some (f 88, f 98)))
set_option maxRecDepth 20000 in
theorem x_m_unitS (U : (Nat → Nat → Int32) → Option ((Nat → Int32) × (Nat → Int32))) (dU : Nat) (f : Nat → Nat → Int32) (g : Nat → Nat → Int64) (hU : ∀  (f : Nat → Nat → Int32) (g : Nat → Nat → Int64) (z : (Nat → Int32) × (Nat → Int32)), U f = some z → am_D dU 180 2 [.ref 88] (am_S f g) ((none : Option Value), am_S (am_row (am_row f 88 z.1) 98 z.2) g)) (z0 : (Nat → Int32) × (Nat → Int32)) (hz0 : (fn_m_unitS U f) = some z0) : am_D (dU + 6) 180 2 [.ref 88] (am_S f g) ((none : Option Value), am_S (am_row (am_row f 88 z0.1) 98 z0.2) g) := by
  refine am_D.of (code := am_k_180) rfl (L0 := [.ref 88, am_un]) rfl ?_
  generalize hres : ((none : Option Value), am_S (am_row (am_row f 88 z0.1) 98 z0.2) g) = res
  obtain ⟨K, hKd⟩ : ∃ K : Option ((Nat → Int32) × (Nat → Int32)) → Prop, K = am_KO (fun z => ((none : Option Value), am_S (am_row (am_row f 88 z.1) 98 z.2) g) = res) := ⟨_, rfl⟩
  have hK : K (fn_m_unitS U f) := by rw [hKd, hz0]; exact hres
  have hKn : ¬ K none := by rw [hKd]; exact id
  clear hres hz0
  unfold fn_m_unitS at hK
  refine am_F.ops (pc' := 4) (L' := [.ref 88, am_un]) (S' := [.int (f 88 13)]) (μ' := (am_S f g)) 2 rfl ?_
  refine am_F.iteK 1 rfl K hK (fun c1 hK => ?_) (fun c1 hK => ?_)
  · show am_F _ _ 8 [.ref 88, am_un] [] (am_S f g) _
    refine am_F.ops (pc' := 16) (L' := [.ref 88, am_un]) (S' := [.int (f 88 11), .int (f 88 12)]) (μ' := (am_S f g)) 4 rfl ?_
    refine am_F.iteK 1 rfl K hK (fun c3 hK => ?_) (fun c3 hK => ?_)
    · show am_F _ _ 31 [.ref 88, am_un] [] (am_S f g) _
      refine am_F.ops (pc' := 34) (L' := [.ref 88, .int 0]) (S' := [.ref 88]) (μ' := (am_S f g)) 3 rfl ?_
      obtain ⟨q4, hK⟩ := am_chk_e hKn hK
      refine am_F.call rfl rfl (x_m_seesDigit  f g q4) (by first | decide | omega) ?_
      show am_F _ _ 37 [.ref 88, .int 0] [.int (am_b (fn_m_seesDigit f))] (am_S f g) _
      refine am_F.bifK 1 rfl K hK (fun c6 hK => ?_) (fun c6 hK => ?_)
      · show am_F _ _ 40 [.ref 88, .int 0] [] (am_S f g) _
        refine am_F.ops (pc' := 43) (L' := [.ref 88, .int 0]) (S' := [.int 3, .ref 88, .ref 88]) (μ' := (am_S f g)) 3 rfl ?_
        obtain ⟨y7, hy7, hK⟩ := am_ob_e hKn hK
        refine am_F.call rfl rfl (x_m_figures 3 f g  y7 hy7) (by first | decide | omega) ?_
        refine am_F.mem (F' := (am_row f 88 y7.2)) (G' := g) ?_ (by first | rfl | (funext a; by_cases z0 : a = 88; (subst z0; rfl); simp only [am_ui, am_ul, am_row_ne z0])) (by first | rfl | (funext a; by_cases z0 : a = 88; (subst z0; rfl); simp only [am_ui, am_ul, am_row_ne z0]))
        show am_F _ _ 46 [.ref 88, .int 0] [.int y7.1, .ref 88] (am_S (am_row f 88 y7.2) g) _
        obtain ⟨q8, hK⟩ := am_chk_e hKn hK
        obtain ⟨y9, hy9⟩ : ∃ z, (fn_m_puts y7.1 (am_row f 88 y7.2)) = z := ⟨_, rfl⟩
        (try rw [hy9] at hK)
        refine am_F.call rfl rfl (x_m_puts y7.1 (am_row f 88 y7.2) g q8) (by first | decide | omega) ?_
        (try rw [hy9])
        refine am_F.mem (F' := (am_row (am_row f 88 y9.1) 98 y9.2)) (G' := g) ?_ (by first | rfl | (funext a; by_cases z0 : a = 88; (subst z0; rfl); by_cases z1 : a = 98; (subst z1; rfl); simp only [am_ui, am_ul, am_row_ne z0, am_row_ne z1])) (by first | rfl | (funext a; by_cases z0 : a = 88; (subst z0; rfl); by_cases z1 : a = 98; (subst z1; rfl); simp only [am_ui, am_ul, am_row_ne z0, am_row_ne z1]))
        show am_F _ _ 49 [.ref 88, .int 0] [] (am_S (am_row (am_row f 88 y9.1) 98 y9.2) g) _
        refine am_F.ops (pc' := 341) (L' := [.ref 88, .int 0]) (S' := []) (μ' := (am_S (am_row (am_row f 88 y9.1) 98 y9.2) g)) 1 rfl ?_
        subst hKd
        have hQ := am_KO_s hK
        exact am_F.eq (am_F.ret rfl rfl) hQ
      · show am_F _ _ 52 [.ref 88, .int 0] [] (am_S f g) _
        refine am_F.ops (pc' := 55) (L' := [.ref 88, .int 0]) (S' := [.int 117, .int 0]) (μ' := (am_S f g)) 2 rfl ?_
        refine am_F.ops (pc' := 58) (L' := [.ref 88, .int 0]) (S' := []) (μ' := (am_S f g)) 1 rfl ?_
        refine am_F.ops (pc' := 61) (L' := [.ref 88, .int 0]) (S' := [.int 116, .int 0]) (μ' := (am_S f g)) 2 rfl ?_
        refine am_F.ops (pc' := 158) (L' := [.ref 88, .int 0]) (S' := []) (μ' := (am_S f g)) 1 rfl ?_
        refine am_F.ops (pc' := 161) (L' := [.ref 88, .int 0]) (S' := [.int 110, .int 0]) (μ' := (am_S f g)) 2 rfl ?_
        refine am_F.ops (pc' := 164) (L' := [.ref 88, .int 0]) (S' := []) (μ' := (am_S f g)) 1 rfl ?_
        refine am_F.ops (pc' := 167) (L' := [.ref 88, .int 0]) (S' := [.int 97, .int 0]) (μ' := (am_S f g)) 2 rfl ?_
        refine am_F.ops (pc' := 170) (L' := [.ref 88, .int 0]) (S' := []) (μ' := (am_S f g)) 1 rfl ?_
        refine am_F.ops (pc' := 173) (L' := [.ref 88, .int 0]) (S' := [.int 100, .int 0]) (μ' := (am_S f g)) 2 rfl ?_
        refine am_F.ops (pc' := 220) (L' := [.ref 88, .int 0]) (S' := []) (μ' := (am_S f g)) 1 rfl ?_
        refine am_F.ops (pc' := 223) (L' := [.ref 88, .int 0]) (S' := [.int 33, .int 0]) (μ' := (am_S f g)) 2 rfl ?_
        refine am_F.ops (pc' := 226) (L' := [.ref 88, .int 0]) (S' := []) (μ' := (am_S f g)) 1 rfl ?_
        refine am_F.ops (pc' := 229) (L' := [.ref 88, .int 0]) (S' := [.int 45, .int 0]) (μ' := (am_S f g)) 2 rfl ?_
        refine am_F.ops (pc' := 232) (L' := [.ref 88, .int 0]) (S' := []) (μ' := (am_S f g)) 1 rfl ?_
        refine am_F.ops (pc' := 235) (L' := [.ref 88, .int 0]) (S' := [.int 40, .int 0]) (μ' := (am_S f g)) 2 rfl ?_
        refine am_F.ops (pc' := 333) (L' := [.ref 88, .int 0]) (S' := []) (μ' := (am_S f g)) 1 rfl ?_
        refine am_F.ops (pc' := 338) (L' := [.ref 88, .int 0]) (S' := [.int (f 88 12), .ref 88]) (μ' := (am_S f g)) 3 rfl ?_
        obtain ⟨y10, hy10⟩ : ∃ z, (fn_m_fails (f 88 12) f) = z := ⟨_, rfl⟩
        (try rw [hy10] at hK)
        refine am_F.call rfl rfl (x_m_fails (f 88 12) f g ) (by first | decide | omega) ?_
        (try rw [hy10])
        refine am_F.mem (F' := (am_row f 88 y10)) (G' := g) ?_ (by first | rfl | (funext a; by_cases z0 : a = 88; (subst z0; rfl); simp only [am_ui, am_ul, am_row_ne z0])) (by first | rfl | (funext a; by_cases z0 : a = 88; (subst z0; rfl); simp only [am_ui, am_ul, am_row_ne z0]))
        show am_F _ _ 341 [.ref 88, .int 0] [] (am_S (am_row f 88 y10) g) _
        refine am_F.mem (F' := (am_row (am_row f 88 y10) 98 (f 98))) (G' := g) ?_ (by first | rfl | (funext a; by_cases z0 : a = 88; (subst z0; rfl); by_cases z1 : a = 98; (subst z1; rfl); simp only [am_ui, am_ul, am_row_ne z0, am_row_ne z1])) (by first | rfl | (funext a; by_cases z0 : a = 88; (subst z0; rfl); by_cases z1 : a = 98; (subst z1; rfl); simp only [am_ui, am_ul, am_row_ne z0, am_row_ne z1]))
        subst hKd
        have hQ := am_KO_s hK
        exact am_F.eq (am_F.ret rfl rfl) hQ
    · show am_F _ _ 19 [.ref 88, am_un] [] (am_S f g) _
      refine am_F.ops (pc' := 27) (L' := [.ref 88, am_un]) (S' := [.int (f 88 12), .ref 97]) (μ' := (am_S f g)) 4 rfl ?_
      obtain ⟨q11, hK⟩ := am_chk_e hKn hK
      refine am_F.ial (N := 80) rfl rfl rfl q11 ?_
      show am_F _ _ 28 [.ref 88, am_un] [.int (f 97 ((f 88 12).toNatClampNeg))] (am_S f g) _
      refine am_F.ops (pc' := 34) (L' := [.ref 88, .int (f 97 ((f 88 12).toNatClampNeg))]) (S' := [.ref 88]) (μ' := (am_S f g)) 3 rfl ?_
      obtain ⟨q12, hK⟩ := am_chk_e hKn hK
      refine am_F.call rfl rfl (x_m_seesDigit  f g q12) (by first | decide | omega) ?_
      show am_F _ _ 37 [.ref 88, .int (f 97 ((f 88 12).toNatClampNeg))] [.int (am_b (fn_m_seesDigit f))] (am_S f g) _
      refine am_F.bifK 1 rfl K hK (fun c14 hK => ?_) (fun c14 hK => ?_)
      · show am_F _ _ 40 [.ref 88, .int (f 97 ((f 88 12).toNatClampNeg))] [] (am_S f g) _
        refine am_F.ops (pc' := 43) (L' := [.ref 88, .int (f 97 ((f 88 12).toNatClampNeg))]) (S' := [.int 3, .ref 88, .ref 88]) (μ' := (am_S f g)) 3 rfl ?_
        obtain ⟨y15, hy15, hK⟩ := am_ob_e hKn hK
        refine am_F.call rfl rfl (x_m_figures 3 f g  y15 hy15) (by first | decide | omega) ?_
        refine am_F.mem (F' := (am_row f 88 y15.2)) (G' := g) ?_ (by first | rfl | (funext a; by_cases z0 : a = 88; (subst z0; rfl); simp only [am_ui, am_ul, am_row_ne z0])) (by first | rfl | (funext a; by_cases z0 : a = 88; (subst z0; rfl); simp only [am_ui, am_ul, am_row_ne z0]))
        show am_F _ _ 46 [.ref 88, .int (f 97 ((f 88 12).toNatClampNeg))] [.int y15.1, .ref 88] (am_S (am_row f 88 y15.2) g) _
        obtain ⟨q16, hK⟩ := am_chk_e hKn hK
        obtain ⟨y17, hy17⟩ : ∃ z, (fn_m_puts y15.1 (am_row f 88 y15.2)) = z := ⟨_, rfl⟩
        (try rw [hy17] at hK)
        refine am_F.call rfl rfl (x_m_puts y15.1 (am_row f 88 y15.2) g q16) (by first | decide | omega) ?_
        (try rw [hy17])
        refine am_F.mem (F' := (am_row (am_row f 88 y17.1) 98 y17.2)) (G' := g) ?_ (by first | rfl | (funext a; by_cases z0 : a = 88; (subst z0; rfl); by_cases z1 : a = 98; (subst z1; rfl); simp only [am_ui, am_ul, am_row_ne z0, am_row_ne z1])) (by first | rfl | (funext a; by_cases z0 : a = 88; (subst z0; rfl); by_cases z1 : a = 98; (subst z1; rfl); simp only [am_ui, am_ul, am_row_ne z0, am_row_ne z1]))
        show am_F _ _ 49 [.ref 88, .int (f 97 ((f 88 12).toNatClampNeg))] [] (am_S (am_row (am_row f 88 y17.1) 98 y17.2) g) _
        refine am_F.ops (pc' := 341) (L' := [.ref 88, .int (f 97 ((f 88 12).toNatClampNeg))]) (S' := []) (μ' := (am_S (am_row (am_row f 88 y17.1) 98 y17.2) g)) 1 rfl ?_
        subst hKd
        have hQ := am_KO_s hK
        exact am_F.eq (am_F.ret rfl rfl) hQ
      · show am_F _ _ 52 [.ref 88, .int (f 97 ((f 88 12).toNatClampNeg))] [] (am_S f g) _
        refine am_F.ops (pc' := 55) (L' := [.ref 88, .int (f 97 ((f 88 12).toNatClampNeg))]) (S' := [.int 117, .int (f 97 ((f 88 12).toNatClampNeg))]) (μ' := (am_S f g)) 2 rfl ?_
        refine am_F.iteK 1 rfl K hK (fun c18 hK => ?_) (fun c18 hK => ?_)
        · show am_F _ _ 64 [.ref 88, .int (f 97 ((f 88 12).toNatClampNeg))] [] (am_S f g) _
          refine am_F.ops (pc' := 71) (L' := [.ref 88, .int (f 97 ((f 88 12).toNatClampNeg))]) (S' := [.int ((f 88 12) + 1), .ref 88]) (μ' := (am_S f g)) 5 rfl ?_
          refine am_F.pfi (F' := (am_row f 88 (upd (f 88) 12 ((f 88 12) + 1)))) rfl rfl (by first | rfl | (funext a; by_cases z0 : a = 88; (subst z0; rfl); simp only [am_ui, am_ul, am_row_ne z0])) ?_
          refine am_F.ops (pc' := 82) (L' := [.ref 88, .int (f 97 ((f 88 12).toNatClampNeg))]) (S' := [.int (f 88 11), .int ((f 88 12) + 1)]) (μ' := (am_S (am_row f 88 (upd (f 88) 12 ((f 88 12) + 1))) g)) 4 rfl ?_
          refine am_F.iteK 1 rfl K hK (fun c19 hK => ?_) (fun c19 hK => ?_)
          · show am_F _ _ 104 [.ref 88, .int (f 97 ((f 88 12).toNatClampNeg))] [] (am_S (am_row f 88 (upd (f 88) 12 ((f 88 12) + 1))) g) _
            refine am_F.ops (pc' := 109) (L' := [.ref 88, .int (f 97 ((f 88 12).toNatClampNeg))]) (S' := [.int ((f 88 12) + 1), .ref 88]) (μ' := (am_S (am_row f 88 (upd (f 88) 12 ((f 88 12) + 1))) g)) 3 rfl ?_
            obtain ⟨y20, hy20⟩ : ∃ z, (fn_m_fails ((f 88 12) + 1) (am_row f 88 (upd (f 88) 12 ((f 88 12) + 1)))) = z := ⟨_, rfl⟩
            (try rw [hy20] at hK)
            refine am_F.call rfl rfl (x_m_fails ((f 88 12) + 1) (am_row f 88 (upd (f 88) 12 ((f 88 12) + 1))) g ) (by first | decide | omega) ?_
            (try rw [hy20])
            refine am_F.mem (F' := (am_row f 88 y20)) (G' := g) ?_ (by first | rfl | (funext a; by_cases z0 : a = 88; (subst z0; rfl); simp only [am_ui, am_ul, am_row_ne z0])) (by first | rfl | (funext a; by_cases z0 : a = 88; (subst z0; rfl); simp only [am_ui, am_ul, am_row_ne z0]))
            show am_F _ _ 112 [.ref 88, .int (f 97 ((f 88 12).toNatClampNeg))] [] (am_S (am_row f 88 y20) g) _
            refine am_F.mem (F' := (am_row (am_row f 88 y20) 98 (f 98))) (G' := g) ?_ (by first | rfl | (funext a; by_cases z0 : a = 88; (subst z0; rfl); by_cases z1 : a = 98; (subst z1; rfl); simp only [am_ui, am_ul, am_row_ne z0, am_row_ne z1])) (by first | rfl | (funext a; by_cases z0 : a = 88; (subst z0; rfl); by_cases z1 : a = 98; (subst z1; rfl); simp only [am_ui, am_ul, am_row_ne z0, am_row_ne z1]))
            subst hKd
            have hQ := am_KO_s hK
            exact am_F.eq (am_F.ret rfl rfl) hQ
          · show am_F _ _ 85 [.ref 88, .int (f 97 ((f 88 12).toNatClampNeg))] [] (am_S (am_row f 88 (upd (f 88) 12 ((f 88 12) + 1))) g) _
            refine am_F.ops (pc' := 93) (L' := [.ref 88, .int (f 97 ((f 88 12).toNatClampNeg))]) (S' := [.int ((f 88 12) + 1), .ref 97]) (μ' := (am_S (am_row f 88 (upd (f 88) 12 ((f 88 12) + 1))) g)) 4 rfl ?_
            obtain ⟨q21, hK⟩ := am_chk_e hKn hK
            refine am_F.ial (N := 80) rfl rfl rfl q21 ?_
            show am_F _ _ 94 [.ref 88, .int (f 97 ((f 88 12).toNatClampNeg))] [.int (f 97 (((f 88 12) + 1).toNatClampNeg))] (am_S (am_row f 88 (upd (f 88) 12 ((f 88 12) + 1))) g) _
            refine am_F.ops (pc' := 98) (L' := [.ref 88, .int (f 97 ((f 88 12).toNatClampNeg))]) (S' := [.int 51, .int 48, .int (f 97 (((f 88 12) + 1).toNatClampNeg))]) (μ' := (am_S (am_row f 88 (upd (f 88) 12 ((f 88 12) + 1))) g)) 2 rfl ?_
            refine am_F.call rfl rfl (x_m_isIn (f 97 (((f 88 12) + 1).toNatClampNeg)) 48 51 (am_row f 88 (upd (f 88) 12 ((f 88 12) + 1))) g ) (by first | decide | omega) ?_
            show am_F _ _ 101 [.ref 88, .int (f 97 ((f 88 12).toNatClampNeg))] [.int (am_b (fn_m_isIn (f 97 (((f 88 12) + 1).toNatClampNeg)) 48 51))] (am_S (am_row f 88 (upd (f 88) 12 ((f 88 12) + 1))) g) _
            refine am_F.bifK 1 rfl K hK (fun c23 hK => ?_) (fun c23 hK => ?_)
            · show am_F _ _ 113 [.ref 88, .int (f 97 ((f 88 12).toNatClampNeg))] [] (am_S (am_row f 88 (upd (f 88) 12 ((f 88 12) + 1))) g) _
              refine am_F.ops (pc' := 117) (L' := [.ref 88, .int (f 97 ((f 88 12).toNatClampNeg))]) (S' := [.int 117, .int (f 97 ((f 88 12).toNatClampNeg)), .ref 88]) (μ' := (am_S (am_row f 88 (upd (f 88) 12 ((f 88 12) + 1))) g)) 3 rfl ?_
              refine am_F.pos 1 rfl c18 ?_
              show am_F _ _ 120 [.ref 88, .int (f 97 ((f 88 12).toNatClampNeg))] [.ref 88] (am_S (am_row f 88 (upd (f 88) 12 ((f 88 12) + 1))) g) _
              refine am_F.ops (pc' := 137) (L' := [.ref 88, .int (f 97 ((f 88 12).toNatClampNeg))]) (S' := [.int ((f 88 12) + 1), .ref 97, .int 1000, .ref 88]) (μ' := (am_S (am_row f 88 (upd (f 88) 12 ((f 88 12) + 1))) g)) 6 rfl ?_
              refine am_F.ial (N := 80) rfl rfl rfl q21 ?_
              show am_F _ _ 138 [.ref 88, .int (f 97 ((f 88 12).toNatClampNeg))] [.int (f 97 (((f 88 12) + 1).toNatClampNeg)), .int 1000, .ref 88] (am_S (am_row f 88 (upd (f 88) 12 ((f 88 12) + 1))) g) _
              refine am_F.ops (pc' := 142) (L' := [.ref 88, .int (f 97 ((f 88 12).toNatClampNeg))]) (S' := [.int ((1000 + (f 97 (((f 88 12) + 1).toNatClampNeg))) - 48), .ref 88]) (μ' := (am_S (am_row f 88 (upd (f 88) 12 ((f 88 12) + 1))) g)) 3 rfl ?_
              obtain ⟨q24, hK⟩ := am_chk_e hKn hK
              obtain ⟨y25, hy25⟩ : ∃ z, (fn_m_puts ((1000 + (f 97 (((f 88 12) + 1).toNatClampNeg))) - 48) (am_row f 88 (upd (f 88) 12 ((f 88 12) + 1)))) = z := ⟨_, rfl⟩
              (try rw [hy25] at hK)
              refine am_F.call rfl rfl (x_m_puts ((1000 + (f 97 (((f 88 12) + 1).toNatClampNeg))) - 48) (am_row f 88 (upd (f 88) 12 ((f 88 12) + 1))) g q24) (by first | decide | omega) ?_
              (try rw [hy25])
              refine am_F.mem (F' := (am_row (am_row f 88 y25.1) 98 y25.2)) (G' := g) ?_ (by first | rfl | (funext a; by_cases z0 : a = 88; (subst z0; rfl); by_cases z1 : a = 98; (subst z1; rfl); simp only [am_ui, am_ul, am_row_ne z0, am_row_ne z1])) (by first | rfl | (funext a; by_cases z0 : a = 88; (subst z0; rfl); by_cases z1 : a = 98; (subst z1; rfl); simp only [am_ui, am_ul, am_row_ne z0, am_row_ne z1]))
              show am_F _ _ 145 [.ref 88, .int (f 97 ((f 88 12).toNatClampNeg))] [] (am_S (am_row (am_row f 88 y25.1) 98 y25.2) g) _
              refine am_F.ops (pc' := 152) (L' := [.ref 88, .int (f 97 ((f 88 12).toNatClampNeg))]) (S' := [.int ((y25.1 12) + 1), .ref 88]) (μ' := (am_S (am_row (am_row f 88 y25.1) 98 y25.2) g)) 5 rfl ?_
              refine am_F.pfi (F' := (am_row (am_row f 88 (upd y25.1 12 ((y25.1 12) + 1))) 98 y25.2)) rfl rfl (by first | rfl | (funext a; by_cases z0 : a = 88; (subst z0; rfl); by_cases z1 : a = 98; (subst z1; rfl); simp only [am_ui, am_ul, am_row_ne z0, am_row_ne z1])) ?_
              refine am_F.ops (pc' := 341) (L' := [.ref 88, .int (f 97 ((f 88 12).toNatClampNeg))]) (S' := []) (μ' := (am_S (am_row (am_row f 88 (upd y25.1 12 ((y25.1 12) + 1))) 98 y25.2) g)) 1 rfl ?_
              subst hKd
              have hQ := am_KO_s hK
              exact am_F.eq (am_F.ret rfl rfl) hQ
            · show am_F _ _ 104 [.ref 88, .int (f 97 ((f 88 12).toNatClampNeg))] [] (am_S (am_row f 88 (upd (f 88) 12 ((f 88 12) + 1))) g) _
              refine am_F.ops (pc' := 109) (L' := [.ref 88, .int (f 97 ((f 88 12).toNatClampNeg))]) (S' := [.int ((f 88 12) + 1), .ref 88]) (μ' := (am_S (am_row f 88 (upd (f 88) 12 ((f 88 12) + 1))) g)) 3 rfl ?_
              obtain ⟨y26, hy26⟩ : ∃ z, (fn_m_fails ((f 88 12) + 1) (am_row f 88 (upd (f 88) 12 ((f 88 12) + 1)))) = z := ⟨_, rfl⟩
              (try rw [hy26] at hK)
              refine am_F.call rfl rfl (x_m_fails ((f 88 12) + 1) (am_row f 88 (upd (f 88) 12 ((f 88 12) + 1))) g ) (by first | decide | omega) ?_
              (try rw [hy26])
              refine am_F.mem (F' := (am_row f 88 y26)) (G' := g) ?_ (by first | rfl | (funext a; by_cases z0 : a = 88; (subst z0; rfl); simp only [am_ui, am_ul, am_row_ne z0])) (by first | rfl | (funext a; by_cases z0 : a = 88; (subst z0; rfl); simp only [am_ui, am_ul, am_row_ne z0]))
              show am_F _ _ 112 [.ref 88, .int (f 97 ((f 88 12).toNatClampNeg))] [] (am_S (am_row f 88 y26) g) _
              refine am_F.mem (F' := (am_row (am_row f 88 y26) 98 (f 98))) (G' := g) ?_ (by first | rfl | (funext a; by_cases z0 : a = 88; (subst z0; rfl); by_cases z1 : a = 98; (subst z1; rfl); simp only [am_ui, am_ul, am_row_ne z0, am_row_ne z1])) (by first | rfl | (funext a; by_cases z0 : a = 88; (subst z0; rfl); by_cases z1 : a = 98; (subst z1; rfl); simp only [am_ui, am_ul, am_row_ne z0, am_row_ne z1]))
              subst hKd
              have hQ := am_KO_s hK
              exact am_F.eq (am_F.ret rfl rfl) hQ
        · show am_F _ _ 58 [.ref 88, .int (f 97 ((f 88 12).toNatClampNeg))] [] (am_S f g) _
          refine am_F.ops (pc' := 61) (L' := [.ref 88, .int (f 97 ((f 88 12).toNatClampNeg))]) (S' := [.int 116, .int (f 97 ((f 88 12).toNatClampNeg))]) (μ' := (am_S f g)) 2 rfl ?_
          refine am_F.iteK 1 rfl K hK (fun c27 hK => ?_) (fun c27 hK => ?_)
          · show am_F _ _ 64 [.ref 88, .int (f 97 ((f 88 12).toNatClampNeg))] [] (am_S f g) _
            refine am_F.ops (pc' := 71) (L' := [.ref 88, .int (f 97 ((f 88 12).toNatClampNeg))]) (S' := [.int ((f 88 12) + 1), .ref 88]) (μ' := (am_S f g)) 5 rfl ?_
            refine am_F.pfi (F' := (am_row f 88 (upd (f 88) 12 ((f 88 12) + 1)))) rfl rfl (by first | rfl | (funext a; by_cases z0 : a = 88; (subst z0; rfl); simp only [am_ui, am_ul, am_row_ne z0])) ?_
            refine am_F.ops (pc' := 82) (L' := [.ref 88, .int (f 97 ((f 88 12).toNatClampNeg))]) (S' := [.int (f 88 11), .int ((f 88 12) + 1)]) (μ' := (am_S (am_row f 88 (upd (f 88) 12 ((f 88 12) + 1))) g)) 4 rfl ?_
            refine am_F.iteK 1 rfl K hK (fun c28 hK => ?_) (fun c28 hK => ?_)
            · show am_F _ _ 104 [.ref 88, .int (f 97 ((f 88 12).toNatClampNeg))] [] (am_S (am_row f 88 (upd (f 88) 12 ((f 88 12) + 1))) g) _
              refine am_F.ops (pc' := 109) (L' := [.ref 88, .int (f 97 ((f 88 12).toNatClampNeg))]) (S' := [.int ((f 88 12) + 1), .ref 88]) (μ' := (am_S (am_row f 88 (upd (f 88) 12 ((f 88 12) + 1))) g)) 3 rfl ?_
              obtain ⟨y29, hy29⟩ : ∃ z, (fn_m_fails ((f 88 12) + 1) (am_row f 88 (upd (f 88) 12 ((f 88 12) + 1)))) = z := ⟨_, rfl⟩
              (try rw [hy29] at hK)
              refine am_F.call rfl rfl (x_m_fails ((f 88 12) + 1) (am_row f 88 (upd (f 88) 12 ((f 88 12) + 1))) g ) (by first | decide | omega) ?_
              (try rw [hy29])
              refine am_F.mem (F' := (am_row f 88 y29)) (G' := g) ?_ (by first | rfl | (funext a; by_cases z0 : a = 88; (subst z0; rfl); simp only [am_ui, am_ul, am_row_ne z0])) (by first | rfl | (funext a; by_cases z0 : a = 88; (subst z0; rfl); simp only [am_ui, am_ul, am_row_ne z0]))
              show am_F _ _ 112 [.ref 88, .int (f 97 ((f 88 12).toNatClampNeg))] [] (am_S (am_row f 88 y29) g) _
              refine am_F.mem (F' := (am_row (am_row f 88 y29) 98 (f 98))) (G' := g) ?_ (by first | rfl | (funext a; by_cases z0 : a = 88; (subst z0; rfl); by_cases z1 : a = 98; (subst z1; rfl); simp only [am_ui, am_ul, am_row_ne z0, am_row_ne z1])) (by first | rfl | (funext a; by_cases z0 : a = 88; (subst z0; rfl); by_cases z1 : a = 98; (subst z1; rfl); simp only [am_ui, am_ul, am_row_ne z0, am_row_ne z1]))
              subst hKd
              have hQ := am_KO_s hK
              exact am_F.eq (am_F.ret rfl rfl) hQ
            · show am_F _ _ 85 [.ref 88, .int (f 97 ((f 88 12).toNatClampNeg))] [] (am_S (am_row f 88 (upd (f 88) 12 ((f 88 12) + 1))) g) _
              refine am_F.ops (pc' := 93) (L' := [.ref 88, .int (f 97 ((f 88 12).toNatClampNeg))]) (S' := [.int ((f 88 12) + 1), .ref 97]) (μ' := (am_S (am_row f 88 (upd (f 88) 12 ((f 88 12) + 1))) g)) 4 rfl ?_
              obtain ⟨q30, hK⟩ := am_chk_e hKn hK
              refine am_F.ial (N := 80) rfl rfl rfl q30 ?_
              show am_F _ _ 94 [.ref 88, .int (f 97 ((f 88 12).toNatClampNeg))] [.int (f 97 (((f 88 12) + 1).toNatClampNeg))] (am_S (am_row f 88 (upd (f 88) 12 ((f 88 12) + 1))) g) _
              refine am_F.ops (pc' := 98) (L' := [.ref 88, .int (f 97 ((f 88 12).toNatClampNeg))]) (S' := [.int 51, .int 48, .int (f 97 (((f 88 12) + 1).toNatClampNeg))]) (μ' := (am_S (am_row f 88 (upd (f 88) 12 ((f 88 12) + 1))) g)) 2 rfl ?_
              refine am_F.call rfl rfl (x_m_isIn (f 97 (((f 88 12) + 1).toNatClampNeg)) 48 51 (am_row f 88 (upd (f 88) 12 ((f 88 12) + 1))) g ) (by first | decide | omega) ?_
              show am_F _ _ 101 [.ref 88, .int (f 97 ((f 88 12).toNatClampNeg))] [.int (am_b (fn_m_isIn (f 97 (((f 88 12) + 1).toNatClampNeg)) 48 51))] (am_S (am_row f 88 (upd (f 88) 12 ((f 88 12) + 1))) g) _
              refine am_F.bifK 1 rfl K hK (fun c32 hK => ?_) (fun c32 hK => ?_)
              · show am_F _ _ 113 [.ref 88, .int (f 97 ((f 88 12).toNatClampNeg))] [] (am_S (am_row f 88 (upd (f 88) 12 ((f 88 12) + 1))) g) _
                refine am_F.ops (pc' := 117) (L' := [.ref 88, .int (f 97 ((f 88 12).toNatClampNeg))]) (S' := [.int 117, .int (f 97 ((f 88 12).toNatClampNeg)), .ref 88]) (μ' := (am_S (am_row f 88 (upd (f 88) 12 ((f 88 12) + 1))) g)) 3 rfl ?_
                refine am_F.neg 1 rfl c18 ?_
                show am_F _ _ 126 [.ref 88, .int (f 97 ((f 88 12).toNatClampNeg))] [.ref 88] (am_S (am_row f 88 (upd (f 88) 12 ((f 88 12) + 1))) g) _
                refine am_F.ops (pc' := 137) (L' := [.ref 88, .int (f 97 ((f 88 12).toNatClampNeg))]) (S' := [.int ((f 88 12) + 1), .ref 97, .int 1010, .ref 88]) (μ' := (am_S (am_row f 88 (upd (f 88) 12 ((f 88 12) + 1))) g)) 5 rfl ?_
                refine am_F.ial (N := 80) rfl rfl rfl q30 ?_
                show am_F _ _ 138 [.ref 88, .int (f 97 ((f 88 12).toNatClampNeg))] [.int (f 97 (((f 88 12) + 1).toNatClampNeg)), .int 1010, .ref 88] (am_S (am_row f 88 (upd (f 88) 12 ((f 88 12) + 1))) g) _
                refine am_F.ops (pc' := 142) (L' := [.ref 88, .int (f 97 ((f 88 12).toNatClampNeg))]) (S' := [.int ((1010 + (f 97 (((f 88 12) + 1).toNatClampNeg))) - 48), .ref 88]) (μ' := (am_S (am_row f 88 (upd (f 88) 12 ((f 88 12) + 1))) g)) 3 rfl ?_
                obtain ⟨q33, hK⟩ := am_chk_e hKn hK
                obtain ⟨y34, hy34⟩ : ∃ z, (fn_m_puts ((1010 + (f 97 (((f 88 12) + 1).toNatClampNeg))) - 48) (am_row f 88 (upd (f 88) 12 ((f 88 12) + 1)))) = z := ⟨_, rfl⟩
                (try rw [hy34] at hK)
                refine am_F.call rfl rfl (x_m_puts ((1010 + (f 97 (((f 88 12) + 1).toNatClampNeg))) - 48) (am_row f 88 (upd (f 88) 12 ((f 88 12) + 1))) g q33) (by first | decide | omega) ?_
                (try rw [hy34])
                refine am_F.mem (F' := (am_row (am_row f 88 y34.1) 98 y34.2)) (G' := g) ?_ (by first | rfl | (funext a; by_cases z0 : a = 88; (subst z0; rfl); by_cases z1 : a = 98; (subst z1; rfl); simp only [am_ui, am_ul, am_row_ne z0, am_row_ne z1])) (by first | rfl | (funext a; by_cases z0 : a = 88; (subst z0; rfl); by_cases z1 : a = 98; (subst z1; rfl); simp only [am_ui, am_ul, am_row_ne z0, am_row_ne z1]))
                show am_F _ _ 145 [.ref 88, .int (f 97 ((f 88 12).toNatClampNeg))] [] (am_S (am_row (am_row f 88 y34.1) 98 y34.2) g) _
                refine am_F.ops (pc' := 152) (L' := [.ref 88, .int (f 97 ((f 88 12).toNatClampNeg))]) (S' := [.int ((y34.1 12) + 1), .ref 88]) (μ' := (am_S (am_row (am_row f 88 y34.1) 98 y34.2) g)) 5 rfl ?_
                refine am_F.pfi (F' := (am_row (am_row f 88 (upd y34.1 12 ((y34.1 12) + 1))) 98 y34.2)) rfl rfl (by first | rfl | (funext a; by_cases z0 : a = 88; (subst z0; rfl); by_cases z1 : a = 98; (subst z1; rfl); simp only [am_ui, am_ul, am_row_ne z0, am_row_ne z1])) ?_
                refine am_F.ops (pc' := 341) (L' := [.ref 88, .int (f 97 ((f 88 12).toNatClampNeg))]) (S' := []) (μ' := (am_S (am_row (am_row f 88 (upd y34.1 12 ((y34.1 12) + 1))) 98 y34.2) g)) 1 rfl ?_
                subst hKd
                have hQ := am_KO_s hK
                exact am_F.eq (am_F.ret rfl rfl) hQ
              · show am_F _ _ 104 [.ref 88, .int (f 97 ((f 88 12).toNatClampNeg))] [] (am_S (am_row f 88 (upd (f 88) 12 ((f 88 12) + 1))) g) _
                refine am_F.ops (pc' := 109) (L' := [.ref 88, .int (f 97 ((f 88 12).toNatClampNeg))]) (S' := [.int ((f 88 12) + 1), .ref 88]) (μ' := (am_S (am_row f 88 (upd (f 88) 12 ((f 88 12) + 1))) g)) 3 rfl ?_
                obtain ⟨y35, hy35⟩ : ∃ z, (fn_m_fails ((f 88 12) + 1) (am_row f 88 (upd (f 88) 12 ((f 88 12) + 1)))) = z := ⟨_, rfl⟩
                (try rw [hy35] at hK)
                refine am_F.call rfl rfl (x_m_fails ((f 88 12) + 1) (am_row f 88 (upd (f 88) 12 ((f 88 12) + 1))) g ) (by first | decide | omega) ?_
                (try rw [hy35])
                refine am_F.mem (F' := (am_row f 88 y35)) (G' := g) ?_ (by first | rfl | (funext a; by_cases z0 : a = 88; (subst z0; rfl); simp only [am_ui, am_ul, am_row_ne z0])) (by first | rfl | (funext a; by_cases z0 : a = 88; (subst z0; rfl); simp only [am_ui, am_ul, am_row_ne z0]))
                show am_F _ _ 112 [.ref 88, .int (f 97 ((f 88 12).toNatClampNeg))] [] (am_S (am_row f 88 y35) g) _
                refine am_F.mem (F' := (am_row (am_row f 88 y35) 98 (f 98))) (G' := g) ?_ (by first | rfl | (funext a; by_cases z0 : a = 88; (subst z0; rfl); by_cases z1 : a = 98; (subst z1; rfl); simp only [am_ui, am_ul, am_row_ne z0, am_row_ne z1])) (by first | rfl | (funext a; by_cases z0 : a = 88; (subst z0; rfl); by_cases z1 : a = 98; (subst z1; rfl); simp only [am_ui, am_ul, am_row_ne z0, am_row_ne z1]))
                subst hKd
                have hQ := am_KO_s hK
                exact am_F.eq (am_F.ret rfl rfl) hQ
          · show am_F _ _ 158 [.ref 88, .int (f 97 ((f 88 12).toNatClampNeg))] [] (am_S f g) _
            refine am_F.ops (pc' := 161) (L' := [.ref 88, .int (f 97 ((f 88 12).toNatClampNeg))]) (S' := [.int 110, .int (f 97 ((f 88 12).toNatClampNeg))]) (μ' := (am_S f g)) 2 rfl ?_
            refine am_F.iteK 1 rfl K hK (fun c36 hK => ?_) (fun c36 hK => ?_)
            · show am_F _ _ 176 [.ref 88, .int (f 97 ((f 88 12).toNatClampNeg))] [] (am_S f g) _
              refine am_F.ops (pc' := 180) (L' := [.ref 88, .int (f 97 ((f 88 12).toNatClampNeg))]) (S' := [.int 110, .int (f 97 ((f 88 12).toNatClampNeg)), .ref 88]) (μ' := (am_S f g)) 3 rfl ?_
              refine am_F.pos 1 rfl c36 ?_
              show am_F _ _ 183 [.ref 88, .int (f 97 ((f 88 12).toNatClampNeg))] [.ref 88] (am_S f g) _
              refine am_F.ops (pc' := 204) (L' := [.ref 88, .int (f 97 ((f 88 12).toNatClampNeg))]) (S' := [.int 1020, .ref 88]) (μ' := (am_S f g)) 2 rfl ?_
              obtain ⟨q37, hK⟩ := am_chk_e hKn hK
              obtain ⟨y38, hy38⟩ : ∃ z, (fn_m_puts 1020 f) = z := ⟨_, rfl⟩
              (try rw [hy38] at hK)
              refine am_F.call rfl rfl (x_m_puts 1020 f g q37) (by first | decide | omega) ?_
              (try rw [hy38])
              refine am_F.mem (F' := (am_row (am_row f 88 y38.1) 98 y38.2)) (G' := g) ?_ (by first | rfl | (funext a; by_cases z0 : a = 88; (subst z0; rfl); by_cases z1 : a = 98; (subst z1; rfl); simp only [am_ui, am_ul, am_row_ne z0, am_row_ne z1])) (by first | rfl | (funext a; by_cases z0 : a = 88; (subst z0; rfl); by_cases z1 : a = 98; (subst z1; rfl); simp only [am_ui, am_ul, am_row_ne z0, am_row_ne z1]))
              show am_F _ _ 207 [.ref 88, .int (f 97 ((f 88 12).toNatClampNeg))] [] (am_S (am_row (am_row f 88 y38.1) 98 y38.2) g) _
              refine am_F.ops (pc' := 214) (L' := [.ref 88, .int (f 97 ((f 88 12).toNatClampNeg))]) (S' := [.int ((y38.1 12) + 1), .ref 88]) (μ' := (am_S (am_row (am_row f 88 y38.1) 98 y38.2) g)) 5 rfl ?_
              refine am_F.pfi (F' := (am_row (am_row f 88 (upd y38.1 12 ((y38.1 12) + 1))) 98 y38.2)) rfl rfl (by first | rfl | (funext a; by_cases z0 : a = 88; (subst z0; rfl); by_cases z1 : a = 98; (subst z1; rfl); simp only [am_ui, am_ul, am_row_ne z0, am_row_ne z1])) ?_
              refine am_F.ops (pc' := 341) (L' := [.ref 88, .int (f 97 ((f 88 12).toNatClampNeg))]) (S' := []) (μ' := (am_S (am_row (am_row f 88 (upd y38.1 12 ((y38.1 12) + 1))) 98 y38.2) g)) 1 rfl ?_
              subst hKd
              have hQ := am_KO_s hK
              exact am_F.eq (am_F.ret rfl rfl) hQ
            · show am_F _ _ 164 [.ref 88, .int (f 97 ((f 88 12).toNatClampNeg))] [] (am_S f g) _
              refine am_F.ops (pc' := 167) (L' := [.ref 88, .int (f 97 ((f 88 12).toNatClampNeg))]) (S' := [.int 97, .int (f 97 ((f 88 12).toNatClampNeg))]) (μ' := (am_S f g)) 2 rfl ?_
              refine am_F.iteK 1 rfl K hK (fun c39 hK => ?_) (fun c39 hK => ?_)
              · show am_F _ _ 176 [.ref 88, .int (f 97 ((f 88 12).toNatClampNeg))] [] (am_S f g) _
                refine am_F.ops (pc' := 180) (L' := [.ref 88, .int (f 97 ((f 88 12).toNatClampNeg))]) (S' := [.int 110, .int (f 97 ((f 88 12).toNatClampNeg)), .ref 88]) (μ' := (am_S f g)) 3 rfl ?_
                refine am_F.neg 1 rfl c36 ?_
                show am_F _ _ 189 [.ref 88, .int (f 97 ((f 88 12).toNatClampNeg))] [.ref 88] (am_S f g) _
                refine am_F.ops (pc' := 192) (L' := [.ref 88, .int (f 97 ((f 88 12).toNatClampNeg))]) (S' := [.int 97, .int (f 97 ((f 88 12).toNatClampNeg)), .ref 88]) (μ' := (am_S f g)) 2 rfl ?_
                refine am_F.pos 1 rfl c39 ?_
                show am_F _ _ 195 [.ref 88, .int (f 97 ((f 88 12).toNatClampNeg))] [.ref 88] (am_S f g) _
                refine am_F.ops (pc' := 204) (L' := [.ref 88, .int (f 97 ((f 88 12).toNatClampNeg))]) (S' := [.int 1021, .ref 88]) (μ' := (am_S f g)) 2 rfl ?_
                obtain ⟨q40, hK⟩ := am_chk_e hKn hK
                obtain ⟨y41, hy41⟩ : ∃ z, (fn_m_puts 1021 f) = z := ⟨_, rfl⟩
                (try rw [hy41] at hK)
                refine am_F.call rfl rfl (x_m_puts 1021 f g q40) (by first | decide | omega) ?_
                (try rw [hy41])
                refine am_F.mem (F' := (am_row (am_row f 88 y41.1) 98 y41.2)) (G' := g) ?_ (by first | rfl | (funext a; by_cases z0 : a = 88; (subst z0; rfl); by_cases z1 : a = 98; (subst z1; rfl); simp only [am_ui, am_ul, am_row_ne z0, am_row_ne z1])) (by first | rfl | (funext a; by_cases z0 : a = 88; (subst z0; rfl); by_cases z1 : a = 98; (subst z1; rfl); simp only [am_ui, am_ul, am_row_ne z0, am_row_ne z1]))
                show am_F _ _ 207 [.ref 88, .int (f 97 ((f 88 12).toNatClampNeg))] [] (am_S (am_row (am_row f 88 y41.1) 98 y41.2) g) _
                refine am_F.ops (pc' := 214) (L' := [.ref 88, .int (f 97 ((f 88 12).toNatClampNeg))]) (S' := [.int ((y41.1 12) + 1), .ref 88]) (μ' := (am_S (am_row (am_row f 88 y41.1) 98 y41.2) g)) 5 rfl ?_
                refine am_F.pfi (F' := (am_row (am_row f 88 (upd y41.1 12 ((y41.1 12) + 1))) 98 y41.2)) rfl rfl (by first | rfl | (funext a; by_cases z0 : a = 88; (subst z0; rfl); by_cases z1 : a = 98; (subst z1; rfl); simp only [am_ui, am_ul, am_row_ne z0, am_row_ne z1])) ?_
                refine am_F.ops (pc' := 341) (L' := [.ref 88, .int (f 97 ((f 88 12).toNatClampNeg))]) (S' := []) (μ' := (am_S (am_row (am_row f 88 (upd y41.1 12 ((y41.1 12) + 1))) 98 y41.2) g)) 1 rfl ?_
                subst hKd
                have hQ := am_KO_s hK
                exact am_F.eq (am_F.ret rfl rfl) hQ
              · show am_F _ _ 170 [.ref 88, .int (f 97 ((f 88 12).toNatClampNeg))] [] (am_S f g) _
                refine am_F.ops (pc' := 173) (L' := [.ref 88, .int (f 97 ((f 88 12).toNatClampNeg))]) (S' := [.int 100, .int (f 97 ((f 88 12).toNatClampNeg))]) (μ' := (am_S f g)) 2 rfl ?_
                refine am_F.iteK 1 rfl K hK (fun c42 hK => ?_) (fun c42 hK => ?_)
                · show am_F _ _ 176 [.ref 88, .int (f 97 ((f 88 12).toNatClampNeg))] [] (am_S f g) _
                  refine am_F.ops (pc' := 180) (L' := [.ref 88, .int (f 97 ((f 88 12).toNatClampNeg))]) (S' := [.int 110, .int (f 97 ((f 88 12).toNatClampNeg)), .ref 88]) (μ' := (am_S f g)) 3 rfl ?_
                  refine am_F.neg 1 rfl c36 ?_
                  show am_F _ _ 189 [.ref 88, .int (f 97 ((f 88 12).toNatClampNeg))] [.ref 88] (am_S f g) _
                  refine am_F.ops (pc' := 192) (L' := [.ref 88, .int (f 97 ((f 88 12).toNatClampNeg))]) (S' := [.int 97, .int (f 97 ((f 88 12).toNatClampNeg)), .ref 88]) (μ' := (am_S f g)) 2 rfl ?_
                  refine am_F.neg 1 rfl c39 ?_
                  show am_F _ _ 201 [.ref 88, .int (f 97 ((f 88 12).toNatClampNeg))] [.ref 88] (am_S f g) _
                  refine am_F.ops (pc' := 204) (L' := [.ref 88, .int (f 97 ((f 88 12).toNatClampNeg))]) (S' := [.int 1022, .ref 88]) (μ' := (am_S f g)) 1 rfl ?_
                  obtain ⟨q43, hK⟩ := am_chk_e hKn hK
                  obtain ⟨y44, hy44⟩ : ∃ z, (fn_m_puts 1022 f) = z := ⟨_, rfl⟩
                  (try rw [hy44] at hK)
                  refine am_F.call rfl rfl (x_m_puts 1022 f g q43) (by first | decide | omega) ?_
                  (try rw [hy44])
                  refine am_F.mem (F' := (am_row (am_row f 88 y44.1) 98 y44.2)) (G' := g) ?_ (by first | rfl | (funext a; by_cases z0 : a = 88; (subst z0; rfl); by_cases z1 : a = 98; (subst z1; rfl); simp only [am_ui, am_ul, am_row_ne z0, am_row_ne z1])) (by first | rfl | (funext a; by_cases z0 : a = 88; (subst z0; rfl); by_cases z1 : a = 98; (subst z1; rfl); simp only [am_ui, am_ul, am_row_ne z0, am_row_ne z1]))
                  show am_F _ _ 207 [.ref 88, .int (f 97 ((f 88 12).toNatClampNeg))] [] (am_S (am_row (am_row f 88 y44.1) 98 y44.2) g) _
                  refine am_F.ops (pc' := 214) (L' := [.ref 88, .int (f 97 ((f 88 12).toNatClampNeg))]) (S' := [.int ((y44.1 12) + 1), .ref 88]) (μ' := (am_S (am_row (am_row f 88 y44.1) 98 y44.2) g)) 5 rfl ?_
                  refine am_F.pfi (F' := (am_row (am_row f 88 (upd y44.1 12 ((y44.1 12) + 1))) 98 y44.2)) rfl rfl (by first | rfl | (funext a; by_cases z0 : a = 88; (subst z0; rfl); by_cases z1 : a = 98; (subst z1; rfl); simp only [am_ui, am_ul, am_row_ne z0, am_row_ne z1])) ?_
                  refine am_F.ops (pc' := 341) (L' := [.ref 88, .int (f 97 ((f 88 12).toNatClampNeg))]) (S' := []) (μ' := (am_S (am_row (am_row f 88 (upd y44.1 12 ((y44.1 12) + 1))) 98 y44.2) g)) 1 rfl ?_
                  subst hKd
                  have hQ := am_KO_s hK
                  exact am_F.eq (am_F.ret rfl rfl) hQ
                · show am_F _ _ 220 [.ref 88, .int (f 97 ((f 88 12).toNatClampNeg))] [] (am_S f g) _
                  refine am_F.ops (pc' := 223) (L' := [.ref 88, .int (f 97 ((f 88 12).toNatClampNeg))]) (S' := [.int 33, .int (f 97 ((f 88 12).toNatClampNeg))]) (μ' := (am_S f g)) 2 rfl ?_
                  refine am_F.iteK 1 rfl K hK (fun c45 hK => ?_) (fun c45 hK => ?_)
                  · show am_F _ _ 238 [.ref 88, .int (f 97 ((f 88 12).toNatClampNeg))] [] (am_S f g) _
                    refine am_F.ops (pc' := 244) (L' := [.ref 88, .int (f 97 ((f 88 12).toNatClampNeg))]) (S' := [.int 6, .int (f 88 14)]) (μ' := (am_S f g)) 3 rfl ?_
                    refine am_F.iteK 1 rfl K hK (fun c46 hK => ?_) (fun c46 hK => ?_)
                    · show am_F _ _ 247 [.ref 88, .int (f 97 ((f 88 12).toNatClampNeg))] [] (am_S f g) _
                      refine am_F.ops (pc' := 252) (L' := [.ref 88, .int (f 97 ((f 88 12).toNatClampNeg))]) (S' := [.int (f 88 12), .ref 88]) (μ' := (am_S f g)) 3 rfl ?_
                      obtain ⟨y47, hy47⟩ : ∃ z, (fn_m_fails (f 88 12) f) = z := ⟨_, rfl⟩
                      (try rw [hy47] at hK)
                      refine am_F.call rfl rfl (x_m_fails (f 88 12) f g ) (by first | decide | omega) ?_
                      (try rw [hy47])
                      refine am_F.mem (F' := (am_row f 88 y47)) (G' := g) ?_ (by first | rfl | (funext a; by_cases z0 : a = 88; (subst z0; rfl); simp only [am_ui, am_ul, am_row_ne z0])) (by first | rfl | (funext a; by_cases z0 : a = 88; (subst z0; rfl); simp only [am_ui, am_ul, am_row_ne z0]))
                      show am_F _ _ 255 [.ref 88, .int (f 97 ((f 88 12).toNatClampNeg))] [] (am_S (am_row f 88 y47) g) _
                      refine am_F.mem (F' := (am_row (am_row f 88 y47) 98 (f 98))) (G' := g) ?_ (by first | rfl | (funext a; by_cases z0 : a = 88; (subst z0; rfl); by_cases z1 : a = 98; (subst z1; rfl); simp only [am_ui, am_ul, am_row_ne z0, am_row_ne z1])) (by first | rfl | (funext a; by_cases z0 : a = 88; (subst z0; rfl); by_cases z1 : a = 98; (subst z1; rfl); simp only [am_ui, am_ul, am_row_ne z0, am_row_ne z1]))
                      subst hKd
                      have hQ := am_KO_s hK
                      exact am_F.eq (am_F.ret rfl rfl) hQ
                    · show am_F _ _ 256 [.ref 88, .int (f 97 ((f 88 12).toNatClampNeg))] [] (am_S f g) _
                      refine am_F.ops (pc' := 263) (L' := [.ref 88, .int (f 97 ((f 88 12).toNatClampNeg))]) (S' := [.int ((f 88 14) + 1), .ref 88]) (μ' := (am_S f g)) 5 rfl ?_
                      refine am_F.pfi (F' := (am_row f 88 (upd (f 88) 14 ((f 88 14) + 1)))) rfl rfl (by first | rfl | (funext a; by_cases z0 : a = 88; (subst z0; rfl); simp only [am_ui, am_ul, am_row_ne z0])) ?_
                      refine am_F.ops (pc' := 273) (L' := [.ref 88, .int (f 97 ((f 88 12).toNatClampNeg))]) (S' := [.int ((f 88 12) + 1), .ref 88]) (μ' := (am_S (am_row f 88 (upd (f 88) 14 ((f 88 14) + 1))) g)) 5 rfl ?_
                      refine am_F.pfi (F' := (am_row f 88 (upd (upd (f 88) 14 ((f 88 14) + 1)) 12 ((f 88 12) + 1)))) rfl rfl (by first | rfl | (funext a; by_cases z0 : a = 88; (subst z0; rfl); simp only [am_ui, am_ul, am_row_ne z0])) ?_
                      refine am_F.ops (pc' := 279) (L' := [.ref 88, .int (f 97 ((f 88 12).toNatClampNeg))]) (S' := [.int 40, .int (f 97 ((f 88 12).toNatClampNeg))]) (μ' := (am_S (am_row f 88 (upd (upd (f 88) 14 ((f 88 14) + 1)) 12 ((f 88 12) + 1))) g)) 2 rfl ?_
                      refine am_F.iteK 1 rfl K hK (fun c49 hK => ?_) (fun c49 hK => ?_)
                      · show am_F _ _ 282 [.ref 88, .int (f 97 ((f 88 12).toNatClampNeg))] [] (am_S (am_row f 88 (upd (upd (f 88) 14 ((f 88 14) + 1)) 12 ((f 88 12) + 1))) g) _
                        refine am_F.ops (pc' := 283) (L' := [.ref 88, .int (f 97 ((f 88 12).toNatClampNeg))]) (S' := [.ref 88]) (μ' := (am_S (am_row f 88 (upd (upd (f 88) 14 ((f 88 14) + 1)) 12 ((f 88 12) + 1))) g)) 1 rfl ?_
                        obtain ⟨y50, hy50, hK⟩ := am_ob_e hKn hK
                        refine am_F.call rfl rfl (x_m_either U dU   (am_row f 88 (upd (upd (f 88) 14 ((f 88 14) + 1)) 12 ((f 88 12) + 1))) g hU y50 hy50) (by first | decide | omega) ?_
                        refine am_F.mem (F' := (am_row (am_row f 88 y50.1) 98 y50.2)) (G' := g) ?_ (by first | rfl | (funext a; by_cases z0 : a = 88; (subst z0; rfl); by_cases z1 : a = 98; (subst z1; rfl); simp only [am_ui, am_ul, am_row_ne z0, am_row_ne z1])) (by first | rfl | (funext a; by_cases z0 : a = 88; (subst z0; rfl); by_cases z1 : a = 98; (subst z1; rfl); simp only [am_ui, am_ul, am_row_ne z0, am_row_ne z1]))
                        show am_F _ _ 286 [.ref 88, .int (f 97 ((f 88 12).toNatClampNeg))] [] (am_S (am_row (am_row f 88 y50.1) 98 y50.2) g) _
                        refine am_F.ops (pc' := 289) (L' := [.ref 88, .int (f 97 ((f 88 12).toNatClampNeg))]) (S' := [.int 41, .ref 88]) (μ' := (am_S (am_row (am_row f 88 y50.1) 98 y50.2) g)) 2 rfl ?_
                        obtain ⟨q51, hK⟩ := am_chk_e hKn hK
                        obtain ⟨y52, hy52⟩ : ∃ z, (fn_m_takes 41 (am_row (am_row f 88 y50.1) 98 y50.2)) = z := ⟨_, rfl⟩
                        (try rw [hy52] at hK)
                        refine am_F.call rfl rfl (x_m_takes 41 (am_row (am_row f 88 y50.1) 98 y50.2) g q51) (by first | decide | omega) ?_
                        (try rw [hy52])
                        refine am_F.mem (F' := (am_row (am_row f 88 y52) 98 y50.2)) (G' := g) ?_ (by first | rfl | (funext a; by_cases z0 : a = 88; (subst z0; rfl); by_cases z1 : a = 98; (subst z1; rfl); simp only [am_ui, am_ul, am_row_ne z0, am_row_ne z1])) (by first | rfl | (funext a; by_cases z0 : a = 88; (subst z0; rfl); by_cases z1 : a = 98; (subst z1; rfl); simp only [am_ui, am_ul, am_row_ne z0, am_row_ne z1]))
                        show am_F _ _ 292 [.ref 88, .int (f 97 ((f 88 12).toNatClampNeg))] [] (am_S (am_row (am_row f 88 y52) 98 y50.2) g) _
                        refine am_F.ops (pc' := 327) (L' := [.ref 88, .int (f 97 ((f 88 12).toNatClampNeg))]) (S' := [.int ((y52 14) - 1), .ref 88]) (μ' := (am_S (am_row (am_row f 88 y52) 98 y50.2) g)) 6 rfl ?_
                        refine am_F.pfi (F' := (am_row (am_row f 88 (upd y52 14 ((y52 14) - 1))) 98 y50.2)) rfl rfl (by first | rfl | (funext a; by_cases z0 : a = 88; (subst z0; rfl); by_cases z1 : a = 98; (subst z1; rfl); simp only [am_ui, am_ul, am_row_ne z0, am_row_ne z1])) ?_
                        refine am_F.ops (pc' := 341) (L' := [.ref 88, .int (f 97 ((f 88 12).toNatClampNeg))]) (S' := []) (μ' := (am_S (am_row (am_row f 88 (upd y52 14 ((y52 14) - 1))) 98 y50.2) g)) 1 rfl ?_
                        subst hKd
                        have hQ := am_KO_s hK
                        exact am_F.eq (am_F.ret rfl rfl) hQ
                      · show am_F _ _ 295 [.ref 88, .int (f 97 ((f 88 12).toNatClampNeg))] [] (am_S (am_row f 88 (upd (upd (f 88) 14 ((f 88 14) + 1)) 12 ((f 88 12) + 1))) g) _
                        refine am_F.ops (pc' := 302) (L' := [.ref 88, .int (f 97 ((f 88 12).toNatClampNeg))]) (S' := [.int 45, .int (f 97 ((f 88 12).toNatClampNeg)), .int 2000, .ref 88]) (μ' := (am_S (am_row f 88 (upd (upd (f 88) 14 ((f 88 14) + 1)) 12 ((f 88 12) + 1))) g)) 4 rfl ?_
                        refine am_F.to (am_To.ite (pc' := 312) (L2 := [.ref 88, .int (f 97 ((f 88 12).toNatClampNeg))]) (S2 := [.int 2000, .ref 88]) (μ2 := (am_S (am_row f 88 (upd (upd (f 88) 14 ((f 88 14) + 1)) 12 ((f 88 12) + 1))) g)) (a := 126) (b := 33) 1 rfl (fun c53 => ?_) (fun c53 => ?_)) ?_
                        · intro res9 g9
                          show am_F _ _ 305 [.ref 88, .int (f 97 ((f 88 12).toNatClampNeg))] [.int 2000, .ref 88] (am_S (am_row f 88 (upd (upd (f 88) 14 ((f 88 14) + 1)) 12 ((f 88 12) + 1))) g) _
                          refine am_F.ops (pc' := 312) (L' := [.ref 88, .int (f 97 ((f 88 12).toNatClampNeg))]) (S' := [.int 126, .int 2000, .ref 88]) (μ' := (am_S (am_row f 88 (upd (upd (f 88) 14 ((f 88 14) + 1)) 12 ((f 88 12) + 1))) g)) 2 rfl ?_
                          exact g9
                        · intro res9 g9
                          show am_F _ _ 310 [.ref 88, .int (f 97 ((f 88 12).toNatClampNeg))] [.int 2000, .ref 88] (am_S (am_row f 88 (upd (upd (f 88) 14 ((f 88 14) + 1)) 12 ((f 88 12) + 1))) g) _
                          refine am_F.ops (pc' := 312) (L' := [.ref 88, .int (f 97 ((f 88 12).toNatClampNeg))]) (S' := [.int 33, .int 2000, .ref 88]) (μ' := (am_S (am_row f 88 (upd (upd (f 88) 14 ((f 88 14) + 1)) 12 ((f 88 12) + 1))) g)) 1 rfl ?_
                          exact g9
                        show am_F _ _ 312 [.ref 88, .int (f 97 ((f 88 12).toNatClampNeg))] [.int (if (f 97 ((f 88 12).toNatClampNeg)) = 45 then 126 else 33), .int 2000, .ref 88] (am_S (am_row f 88 (upd (upd (f 88) 14 ((f 88 14) + 1)) 12 ((f 88 12) + 1))) g) _
                        refine am_F.ops (pc' := 313) (L' := [.ref 88, .int (f 97 ((f 88 12).toNatClampNeg))]) (S' := [.int (2000 + (if (f 97 ((f 88 12).toNatClampNeg)) = 45 then 126 else 33)), .ref 88]) (μ' := (am_S (am_row f 88 (upd (upd (f 88) 14 ((f 88 14) + 1)) 12 ((f 88 12) + 1))) g)) 1 rfl ?_
                        obtain ⟨q54, hK⟩ := am_chk_e hKn hK
                        obtain ⟨y55, hy55⟩ : ∃ z, (fn_m_puts (2000 + (if (f 97 ((f 88 12).toNatClampNeg)) = 45 then 126 else 33)) (am_row f 88 (upd (upd (f 88) 14 ((f 88 14) + 1)) 12 ((f 88 12) + 1)))) = z := ⟨_, rfl⟩
                        (try rw [hy55] at hK)
                        refine am_F.call rfl rfl (x_m_puts (2000 + (if (f 97 ((f 88 12).toNatClampNeg)) = 45 then 126 else 33)) (am_row f 88 (upd (upd (f 88) 14 ((f 88 14) + 1)) 12 ((f 88 12) + 1))) g q54) (by first | decide | omega) ?_
                        (try rw [hy55])
                        refine am_F.mem (F' := (am_row (am_row f 88 y55.1) 98 y55.2)) (G' := g) ?_ (by first | rfl | (funext a; by_cases z0 : a = 88; (subst z0; rfl); by_cases z1 : a = 98; (subst z1; rfl); simp only [am_ui, am_ul, am_row_ne z0, am_row_ne z1])) (by first | rfl | (funext a; by_cases z0 : a = 88; (subst z0; rfl); by_cases z1 : a = 98; (subst z1; rfl); simp only [am_ui, am_ul, am_row_ne z0, am_row_ne z1]))
                        show am_F _ _ 316 [.ref 88, .int (f 97 ((f 88 12).toNatClampNeg))] [] (am_S (am_row (am_row f 88 y55.1) 98 y55.2) g) _
                        refine am_F.ops (pc' := 317) (L' := [.ref 88, .int (f 97 ((f 88 12).toNatClampNeg))]) (S' := [.ref 88]) (μ' := (am_S (am_row (am_row f 88 y55.1) 98 y55.2) g)) 1 rfl ?_
                        obtain ⟨y56, hy56, hK⟩ := am_ob_e hKn hK
                        refine am_F.call rfl rfl (hU  (am_row (am_row f 88 y55.1) 98 y55.2) g  y56 hy56) (by first | decide | omega) ?_
                        refine am_F.mem (F' := (am_row (am_row f 88 y56.1) 98 y56.2)) (G' := g) ?_ (by first | rfl | (funext a; by_cases z0 : a = 88; (subst z0; rfl); by_cases z1 : a = 98; (subst z1; rfl); simp only [am_ui, am_ul, am_row_ne z0, am_row_ne z1])) (by first | rfl | (funext a; by_cases z0 : a = 88; (subst z0; rfl); by_cases z1 : a = 98; (subst z1; rfl); simp only [am_ui, am_ul, am_row_ne z0, am_row_ne z1]))
                        show am_F _ _ 320 [.ref 88, .int (f 97 ((f 88 12).toNatClampNeg))] [] (am_S (am_row (am_row f 88 y56.1) 98 y56.2) g) _
                        refine am_F.ops (pc' := 327) (L' := [.ref 88, .int (f 97 ((f 88 12).toNatClampNeg))]) (S' := [.int ((y56.1 14) - 1), .ref 88]) (μ' := (am_S (am_row (am_row f 88 y56.1) 98 y56.2) g)) 5 rfl ?_
                        refine am_F.pfi (F' := (am_row (am_row f 88 (upd y56.1 14 ((y56.1 14) - 1))) 98 y56.2)) rfl rfl (by first | rfl | (funext a; by_cases z0 : a = 88; (subst z0; rfl); by_cases z1 : a = 98; (subst z1; rfl); simp only [am_ui, am_ul, am_row_ne z0, am_row_ne z1])) ?_
                        refine am_F.ops (pc' := 341) (L' := [.ref 88, .int (f 97 ((f 88 12).toNatClampNeg))]) (S' := []) (μ' := (am_S (am_row (am_row f 88 (upd y56.1 14 ((y56.1 14) - 1))) 98 y56.2) g)) 1 rfl ?_
                        subst hKd
                        have hQ := am_KO_s hK
                        exact am_F.eq (am_F.ret rfl rfl) hQ
                  · show am_F _ _ 226 [.ref 88, .int (f 97 ((f 88 12).toNatClampNeg))] [] (am_S f g) _
                    refine am_F.ops (pc' := 229) (L' := [.ref 88, .int (f 97 ((f 88 12).toNatClampNeg))]) (S' := [.int 45, .int (f 97 ((f 88 12).toNatClampNeg))]) (μ' := (am_S f g)) 2 rfl ?_
                    refine am_F.iteK 1 rfl K hK (fun c57 hK => ?_) (fun c57 hK => ?_)
                    · show am_F _ _ 238 [.ref 88, .int (f 97 ((f 88 12).toNatClampNeg))] [] (am_S f g) _
                      refine am_F.ops (pc' := 244) (L' := [.ref 88, .int (f 97 ((f 88 12).toNatClampNeg))]) (S' := [.int 6, .int (f 88 14)]) (μ' := (am_S f g)) 3 rfl ?_
                      refine am_F.iteK 1 rfl K hK (fun c58 hK => ?_) (fun c58 hK => ?_)
                      · show am_F _ _ 247 [.ref 88, .int (f 97 ((f 88 12).toNatClampNeg))] [] (am_S f g) _
                        refine am_F.ops (pc' := 252) (L' := [.ref 88, .int (f 97 ((f 88 12).toNatClampNeg))]) (S' := [.int (f 88 12), .ref 88]) (μ' := (am_S f g)) 3 rfl ?_
                        obtain ⟨y59, hy59⟩ : ∃ z, (fn_m_fails (f 88 12) f) = z := ⟨_, rfl⟩
                        (try rw [hy59] at hK)
                        refine am_F.call rfl rfl (x_m_fails (f 88 12) f g ) (by first | decide | omega) ?_
                        (try rw [hy59])
                        refine am_F.mem (F' := (am_row f 88 y59)) (G' := g) ?_ (by first | rfl | (funext a; by_cases z0 : a = 88; (subst z0; rfl); simp only [am_ui, am_ul, am_row_ne z0])) (by first | rfl | (funext a; by_cases z0 : a = 88; (subst z0; rfl); simp only [am_ui, am_ul, am_row_ne z0]))
                        show am_F _ _ 255 [.ref 88, .int (f 97 ((f 88 12).toNatClampNeg))] [] (am_S (am_row f 88 y59) g) _
                        refine am_F.mem (F' := (am_row (am_row f 88 y59) 98 (f 98))) (G' := g) ?_ (by first | rfl | (funext a; by_cases z0 : a = 88; (subst z0; rfl); by_cases z1 : a = 98; (subst z1; rfl); simp only [am_ui, am_ul, am_row_ne z0, am_row_ne z1])) (by first | rfl | (funext a; by_cases z0 : a = 88; (subst z0; rfl); by_cases z1 : a = 98; (subst z1; rfl); simp only [am_ui, am_ul, am_row_ne z0, am_row_ne z1]))
                        subst hKd
                        have hQ := am_KO_s hK
                        exact am_F.eq (am_F.ret rfl rfl) hQ
                      · show am_F _ _ 256 [.ref 88, .int (f 97 ((f 88 12).toNatClampNeg))] [] (am_S f g) _
                        refine am_F.ops (pc' := 263) (L' := [.ref 88, .int (f 97 ((f 88 12).toNatClampNeg))]) (S' := [.int ((f 88 14) + 1), .ref 88]) (μ' := (am_S f g)) 5 rfl ?_
                        refine am_F.pfi (F' := (am_row f 88 (upd (f 88) 14 ((f 88 14) + 1)))) rfl rfl (by first | rfl | (funext a; by_cases z0 : a = 88; (subst z0; rfl); simp only [am_ui, am_ul, am_row_ne z0])) ?_
                        refine am_F.ops (pc' := 273) (L' := [.ref 88, .int (f 97 ((f 88 12).toNatClampNeg))]) (S' := [.int ((f 88 12) + 1), .ref 88]) (μ' := (am_S (am_row f 88 (upd (f 88) 14 ((f 88 14) + 1))) g)) 5 rfl ?_
                        refine am_F.pfi (F' := (am_row f 88 (upd (upd (f 88) 14 ((f 88 14) + 1)) 12 ((f 88 12) + 1)))) rfl rfl (by first | rfl | (funext a; by_cases z0 : a = 88; (subst z0; rfl); simp only [am_ui, am_ul, am_row_ne z0])) ?_
                        refine am_F.ops (pc' := 279) (L' := [.ref 88, .int (f 97 ((f 88 12).toNatClampNeg))]) (S' := [.int 40, .int (f 97 ((f 88 12).toNatClampNeg))]) (μ' := (am_S (am_row f 88 (upd (upd (f 88) 14 ((f 88 14) + 1)) 12 ((f 88 12) + 1))) g)) 2 rfl ?_
                        refine am_F.iteK 1 rfl K hK (fun c61 hK => ?_) (fun c61 hK => ?_)
                        · show am_F _ _ 282 [.ref 88, .int (f 97 ((f 88 12).toNatClampNeg))] [] (am_S (am_row f 88 (upd (upd (f 88) 14 ((f 88 14) + 1)) 12 ((f 88 12) + 1))) g) _
                          refine am_F.ops (pc' := 283) (L' := [.ref 88, .int (f 97 ((f 88 12).toNatClampNeg))]) (S' := [.ref 88]) (μ' := (am_S (am_row f 88 (upd (upd (f 88) 14 ((f 88 14) + 1)) 12 ((f 88 12) + 1))) g)) 1 rfl ?_
                          obtain ⟨y62, hy62, hK⟩ := am_ob_e hKn hK
                          refine am_F.call rfl rfl (x_m_either U dU   (am_row f 88 (upd (upd (f 88) 14 ((f 88 14) + 1)) 12 ((f 88 12) + 1))) g hU y62 hy62) (by first | decide | omega) ?_
                          refine am_F.mem (F' := (am_row (am_row f 88 y62.1) 98 y62.2)) (G' := g) ?_ (by first | rfl | (funext a; by_cases z0 : a = 88; (subst z0; rfl); by_cases z1 : a = 98; (subst z1; rfl); simp only [am_ui, am_ul, am_row_ne z0, am_row_ne z1])) (by first | rfl | (funext a; by_cases z0 : a = 88; (subst z0; rfl); by_cases z1 : a = 98; (subst z1; rfl); simp only [am_ui, am_ul, am_row_ne z0, am_row_ne z1]))
                          show am_F _ _ 286 [.ref 88, .int (f 97 ((f 88 12).toNatClampNeg))] [] (am_S (am_row (am_row f 88 y62.1) 98 y62.2) g) _
                          refine am_F.ops (pc' := 289) (L' := [.ref 88, .int (f 97 ((f 88 12).toNatClampNeg))]) (S' := [.int 41, .ref 88]) (μ' := (am_S (am_row (am_row f 88 y62.1) 98 y62.2) g)) 2 rfl ?_
                          obtain ⟨q63, hK⟩ := am_chk_e hKn hK
                          obtain ⟨y64, hy64⟩ : ∃ z, (fn_m_takes 41 (am_row (am_row f 88 y62.1) 98 y62.2)) = z := ⟨_, rfl⟩
                          (try rw [hy64] at hK)
                          refine am_F.call rfl rfl (x_m_takes 41 (am_row (am_row f 88 y62.1) 98 y62.2) g q63) (by first | decide | omega) ?_
                          (try rw [hy64])
                          refine am_F.mem (F' := (am_row (am_row f 88 y64) 98 y62.2)) (G' := g) ?_ (by first | rfl | (funext a; by_cases z0 : a = 88; (subst z0; rfl); by_cases z1 : a = 98; (subst z1; rfl); simp only [am_ui, am_ul, am_row_ne z0, am_row_ne z1])) (by first | rfl | (funext a; by_cases z0 : a = 88; (subst z0; rfl); by_cases z1 : a = 98; (subst z1; rfl); simp only [am_ui, am_ul, am_row_ne z0, am_row_ne z1]))
                          show am_F _ _ 292 [.ref 88, .int (f 97 ((f 88 12).toNatClampNeg))] [] (am_S (am_row (am_row f 88 y64) 98 y62.2) g) _
                          refine am_F.ops (pc' := 327) (L' := [.ref 88, .int (f 97 ((f 88 12).toNatClampNeg))]) (S' := [.int ((y64 14) - 1), .ref 88]) (μ' := (am_S (am_row (am_row f 88 y64) 98 y62.2) g)) 6 rfl ?_
                          refine am_F.pfi (F' := (am_row (am_row f 88 (upd y64 14 ((y64 14) - 1))) 98 y62.2)) rfl rfl (by first | rfl | (funext a; by_cases z0 : a = 88; (subst z0; rfl); by_cases z1 : a = 98; (subst z1; rfl); simp only [am_ui, am_ul, am_row_ne z0, am_row_ne z1])) ?_
                          refine am_F.ops (pc' := 341) (L' := [.ref 88, .int (f 97 ((f 88 12).toNatClampNeg))]) (S' := []) (μ' := (am_S (am_row (am_row f 88 (upd y64 14 ((y64 14) - 1))) 98 y62.2) g)) 1 rfl ?_
                          subst hKd
                          have hQ := am_KO_s hK
                          exact am_F.eq (am_F.ret rfl rfl) hQ
                        · show am_F _ _ 295 [.ref 88, .int (f 97 ((f 88 12).toNatClampNeg))] [] (am_S (am_row f 88 (upd (upd (f 88) 14 ((f 88 14) + 1)) 12 ((f 88 12) + 1))) g) _
                          refine am_F.ops (pc' := 302) (L' := [.ref 88, .int (f 97 ((f 88 12).toNatClampNeg))]) (S' := [.int 45, .int (f 97 ((f 88 12).toNatClampNeg)), .int 2000, .ref 88]) (μ' := (am_S (am_row f 88 (upd (upd (f 88) 14 ((f 88 14) + 1)) 12 ((f 88 12) + 1))) g)) 4 rfl ?_
                          refine am_F.pos 1 rfl c57 ?_
                          show am_F _ _ 305 [.ref 88, .int (f 97 ((f 88 12).toNatClampNeg))] [.int 2000, .ref 88] (am_S (am_row f 88 (upd (upd (f 88) 14 ((f 88 14) + 1)) 12 ((f 88 12) + 1))) g) _
                          refine am_F.ops (pc' := 313) (L' := [.ref 88, .int (f 97 ((f 88 12).toNatClampNeg))]) (S' := [.int (2000 + 126), .ref 88]) (μ' := (am_S (am_row f 88 (upd (upd (f 88) 14 ((f 88 14) + 1)) 12 ((f 88 12) + 1))) g)) 3 rfl ?_
                          obtain ⟨q65, hK⟩ := am_chk_e hKn hK
                          obtain ⟨y66, hy66⟩ : ∃ z, (fn_m_puts (2000 + 126) (am_row f 88 (upd (upd (f 88) 14 ((f 88 14) + 1)) 12 ((f 88 12) + 1)))) = z := ⟨_, rfl⟩
                          (try rw [hy66] at hK)
                          refine am_F.call rfl rfl (x_m_puts (2000 + 126) (am_row f 88 (upd (upd (f 88) 14 ((f 88 14) + 1)) 12 ((f 88 12) + 1))) g q65) (by first | decide | omega) ?_
                          (try rw [hy66])
                          refine am_F.mem (F' := (am_row (am_row f 88 y66.1) 98 y66.2)) (G' := g) ?_ (by first | rfl | (funext a; by_cases z0 : a = 88; (subst z0; rfl); by_cases z1 : a = 98; (subst z1; rfl); simp only [am_ui, am_ul, am_row_ne z0, am_row_ne z1])) (by first | rfl | (funext a; by_cases z0 : a = 88; (subst z0; rfl); by_cases z1 : a = 98; (subst z1; rfl); simp only [am_ui, am_ul, am_row_ne z0, am_row_ne z1]))
                          show am_F _ _ 316 [.ref 88, .int (f 97 ((f 88 12).toNatClampNeg))] [] (am_S (am_row (am_row f 88 y66.1) 98 y66.2) g) _
                          refine am_F.ops (pc' := 317) (L' := [.ref 88, .int (f 97 ((f 88 12).toNatClampNeg))]) (S' := [.ref 88]) (μ' := (am_S (am_row (am_row f 88 y66.1) 98 y66.2) g)) 1 rfl ?_
                          obtain ⟨y67, hy67, hK⟩ := am_ob_e hKn hK
                          refine am_F.call rfl rfl (hU  (am_row (am_row f 88 y66.1) 98 y66.2) g  y67 hy67) (by first | decide | omega) ?_
                          refine am_F.mem (F' := (am_row (am_row f 88 y67.1) 98 y67.2)) (G' := g) ?_ (by first | rfl | (funext a; by_cases z0 : a = 88; (subst z0; rfl); by_cases z1 : a = 98; (subst z1; rfl); simp only [am_ui, am_ul, am_row_ne z0, am_row_ne z1])) (by first | rfl | (funext a; by_cases z0 : a = 88; (subst z0; rfl); by_cases z1 : a = 98; (subst z1; rfl); simp only [am_ui, am_ul, am_row_ne z0, am_row_ne z1]))
                          show am_F _ _ 320 [.ref 88, .int (f 97 ((f 88 12).toNatClampNeg))] [] (am_S (am_row (am_row f 88 y67.1) 98 y67.2) g) _
                          refine am_F.ops (pc' := 327) (L' := [.ref 88, .int (f 97 ((f 88 12).toNatClampNeg))]) (S' := [.int ((y67.1 14) - 1), .ref 88]) (μ' := (am_S (am_row (am_row f 88 y67.1) 98 y67.2) g)) 5 rfl ?_
                          refine am_F.pfi (F' := (am_row (am_row f 88 (upd y67.1 14 ((y67.1 14) - 1))) 98 y67.2)) rfl rfl (by first | rfl | (funext a; by_cases z0 : a = 88; (subst z0; rfl); by_cases z1 : a = 98; (subst z1; rfl); simp only [am_ui, am_ul, am_row_ne z0, am_row_ne z1])) ?_
                          refine am_F.ops (pc' := 341) (L' := [.ref 88, .int (f 97 ((f 88 12).toNatClampNeg))]) (S' := []) (μ' := (am_S (am_row (am_row f 88 (upd y67.1 14 ((y67.1 14) - 1))) 98 y67.2) g)) 1 rfl ?_
                          subst hKd
                          have hQ := am_KO_s hK
                          exact am_F.eq (am_F.ret rfl rfl) hQ
                    · show am_F _ _ 232 [.ref 88, .int (f 97 ((f 88 12).toNatClampNeg))] [] (am_S f g) _
                      refine am_F.ops (pc' := 235) (L' := [.ref 88, .int (f 97 ((f 88 12).toNatClampNeg))]) (S' := [.int 40, .int (f 97 ((f 88 12).toNatClampNeg))]) (μ' := (am_S f g)) 2 rfl ?_
                      refine am_F.iteK 1 rfl K hK (fun c68 hK => ?_) (fun c68 hK => ?_)
                      · show am_F _ _ 238 [.ref 88, .int (f 97 ((f 88 12).toNatClampNeg))] [] (am_S f g) _
                        refine am_F.ops (pc' := 244) (L' := [.ref 88, .int (f 97 ((f 88 12).toNatClampNeg))]) (S' := [.int 6, .int (f 88 14)]) (μ' := (am_S f g)) 3 rfl ?_
                        refine am_F.iteK 1 rfl K hK (fun c69 hK => ?_) (fun c69 hK => ?_)
                        · show am_F _ _ 247 [.ref 88, .int (f 97 ((f 88 12).toNatClampNeg))] [] (am_S f g) _
                          refine am_F.ops (pc' := 252) (L' := [.ref 88, .int (f 97 ((f 88 12).toNatClampNeg))]) (S' := [.int (f 88 12), .ref 88]) (μ' := (am_S f g)) 3 rfl ?_
                          obtain ⟨y70, hy70⟩ : ∃ z, (fn_m_fails (f 88 12) f) = z := ⟨_, rfl⟩
                          (try rw [hy70] at hK)
                          refine am_F.call rfl rfl (x_m_fails (f 88 12) f g ) (by first | decide | omega) ?_
                          (try rw [hy70])
                          refine am_F.mem (F' := (am_row f 88 y70)) (G' := g) ?_ (by first | rfl | (funext a; by_cases z0 : a = 88; (subst z0; rfl); simp only [am_ui, am_ul, am_row_ne z0])) (by first | rfl | (funext a; by_cases z0 : a = 88; (subst z0; rfl); simp only [am_ui, am_ul, am_row_ne z0]))
                          show am_F _ _ 255 [.ref 88, .int (f 97 ((f 88 12).toNatClampNeg))] [] (am_S (am_row f 88 y70) g) _
                          refine am_F.mem (F' := (am_row (am_row f 88 y70) 98 (f 98))) (G' := g) ?_ (by first | rfl | (funext a; by_cases z0 : a = 88; (subst z0; rfl); by_cases z1 : a = 98; (subst z1; rfl); simp only [am_ui, am_ul, am_row_ne z0, am_row_ne z1])) (by first | rfl | (funext a; by_cases z0 : a = 88; (subst z0; rfl); by_cases z1 : a = 98; (subst z1; rfl); simp only [am_ui, am_ul, am_row_ne z0, am_row_ne z1]))
                          subst hKd
                          have hQ := am_KO_s hK
                          exact am_F.eq (am_F.ret rfl rfl) hQ
                        · show am_F _ _ 256 [.ref 88, .int (f 97 ((f 88 12).toNatClampNeg))] [] (am_S f g) _
                          refine am_F.ops (pc' := 263) (L' := [.ref 88, .int (f 97 ((f 88 12).toNatClampNeg))]) (S' := [.int ((f 88 14) + 1), .ref 88]) (μ' := (am_S f g)) 5 rfl ?_
                          refine am_F.pfi (F' := (am_row f 88 (upd (f 88) 14 ((f 88 14) + 1)))) rfl rfl (by first | rfl | (funext a; by_cases z0 : a = 88; (subst z0; rfl); simp only [am_ui, am_ul, am_row_ne z0])) ?_
                          refine am_F.ops (pc' := 273) (L' := [.ref 88, .int (f 97 ((f 88 12).toNatClampNeg))]) (S' := [.int ((f 88 12) + 1), .ref 88]) (μ' := (am_S (am_row f 88 (upd (f 88) 14 ((f 88 14) + 1))) g)) 5 rfl ?_
                          refine am_F.pfi (F' := (am_row f 88 (upd (upd (f 88) 14 ((f 88 14) + 1)) 12 ((f 88 12) + 1)))) rfl rfl (by first | rfl | (funext a; by_cases z0 : a = 88; (subst z0; rfl); simp only [am_ui, am_ul, am_row_ne z0])) ?_
                          refine am_F.ops (pc' := 279) (L' := [.ref 88, .int (f 97 ((f 88 12).toNatClampNeg))]) (S' := [.int 40, .int (f 97 ((f 88 12).toNatClampNeg))]) (μ' := (am_S (am_row f 88 (upd (upd (f 88) 14 ((f 88 14) + 1)) 12 ((f 88 12) + 1))) g)) 2 rfl ?_
                          refine am_F.pos 1 rfl c68 ?_
                          show am_F _ _ 282 [.ref 88, .int (f 97 ((f 88 12).toNatClampNeg))] [] (am_S (am_row f 88 (upd (upd (f 88) 14 ((f 88 14) + 1)) 12 ((f 88 12) + 1))) g) _
                          refine am_F.ops (pc' := 283) (L' := [.ref 88, .int (f 97 ((f 88 12).toNatClampNeg))]) (S' := [.ref 88]) (μ' := (am_S (am_row f 88 (upd (upd (f 88) 14 ((f 88 14) + 1)) 12 ((f 88 12) + 1))) g)) 1 rfl ?_
                          obtain ⟨y71, hy71, hK⟩ := am_ob_e hKn hK
                          refine am_F.call rfl rfl (x_m_either U dU   (am_row f 88 (upd (upd (f 88) 14 ((f 88 14) + 1)) 12 ((f 88 12) + 1))) g hU y71 hy71) (by first | decide | omega) ?_
                          refine am_F.mem (F' := (am_row (am_row f 88 y71.1) 98 y71.2)) (G' := g) ?_ (by first | rfl | (funext a; by_cases z0 : a = 88; (subst z0; rfl); by_cases z1 : a = 98; (subst z1; rfl); simp only [am_ui, am_ul, am_row_ne z0, am_row_ne z1])) (by first | rfl | (funext a; by_cases z0 : a = 88; (subst z0; rfl); by_cases z1 : a = 98; (subst z1; rfl); simp only [am_ui, am_ul, am_row_ne z0, am_row_ne z1]))
                          show am_F _ _ 286 [.ref 88, .int (f 97 ((f 88 12).toNatClampNeg))] [] (am_S (am_row (am_row f 88 y71.1) 98 y71.2) g) _
                          refine am_F.ops (pc' := 289) (L' := [.ref 88, .int (f 97 ((f 88 12).toNatClampNeg))]) (S' := [.int 41, .ref 88]) (μ' := (am_S (am_row (am_row f 88 y71.1) 98 y71.2) g)) 2 rfl ?_
                          obtain ⟨q72, hK⟩ := am_chk_e hKn hK
                          obtain ⟨y73, hy73⟩ : ∃ z, (fn_m_takes 41 (am_row (am_row f 88 y71.1) 98 y71.2)) = z := ⟨_, rfl⟩
                          (try rw [hy73] at hK)
                          refine am_F.call rfl rfl (x_m_takes 41 (am_row (am_row f 88 y71.1) 98 y71.2) g q72) (by first | decide | omega) ?_
                          (try rw [hy73])
                          refine am_F.mem (F' := (am_row (am_row f 88 y73) 98 y71.2)) (G' := g) ?_ (by first | rfl | (funext a; by_cases z0 : a = 88; (subst z0; rfl); by_cases z1 : a = 98; (subst z1; rfl); simp only [am_ui, am_ul, am_row_ne z0, am_row_ne z1])) (by first | rfl | (funext a; by_cases z0 : a = 88; (subst z0; rfl); by_cases z1 : a = 98; (subst z1; rfl); simp only [am_ui, am_ul, am_row_ne z0, am_row_ne z1]))
                          show am_F _ _ 292 [.ref 88, .int (f 97 ((f 88 12).toNatClampNeg))] [] (am_S (am_row (am_row f 88 y73) 98 y71.2) g) _
                          refine am_F.ops (pc' := 327) (L' := [.ref 88, .int (f 97 ((f 88 12).toNatClampNeg))]) (S' := [.int ((y73 14) - 1), .ref 88]) (μ' := (am_S (am_row (am_row f 88 y73) 98 y71.2) g)) 6 rfl ?_
                          refine am_F.pfi (F' := (am_row (am_row f 88 (upd y73 14 ((y73 14) - 1))) 98 y71.2)) rfl rfl (by first | rfl | (funext a; by_cases z0 : a = 88; (subst z0; rfl); by_cases z1 : a = 98; (subst z1; rfl); simp only [am_ui, am_ul, am_row_ne z0, am_row_ne z1])) ?_
                          refine am_F.ops (pc' := 341) (L' := [.ref 88, .int (f 97 ((f 88 12).toNatClampNeg))]) (S' := []) (μ' := (am_S (am_row (am_row f 88 (upd y73 14 ((y73 14) - 1))) 98 y71.2) g)) 1 rfl ?_
                          subst hKd
                          have hQ := am_KO_s hK
                          exact am_F.eq (am_F.ret rfl rfl) hQ
                      · show am_F _ _ 333 [.ref 88, .int (f 97 ((f 88 12).toNatClampNeg))] [] (am_S f g) _
                        refine am_F.ops (pc' := 338) (L' := [.ref 88, .int (f 97 ((f 88 12).toNatClampNeg))]) (S' := [.int (f 88 12), .ref 88]) (μ' := (am_S f g)) 3 rfl ?_
                        obtain ⟨y74, hy74⟩ : ∃ z, (fn_m_fails (f 88 12) f) = z := ⟨_, rfl⟩
                        (try rw [hy74] at hK)
                        refine am_F.call rfl rfl (x_m_fails (f 88 12) f g ) (by first | decide | omega) ?_
                        (try rw [hy74])
                        refine am_F.mem (F' := (am_row f 88 y74)) (G' := g) ?_ (by first | rfl | (funext a; by_cases z0 : a = 88; (subst z0; rfl); simp only [am_ui, am_ul, am_row_ne z0])) (by first | rfl | (funext a; by_cases z0 : a = 88; (subst z0; rfl); simp only [am_ui, am_ul, am_row_ne z0]))
                        show am_F _ _ 341 [.ref 88, .int (f 97 ((f 88 12).toNatClampNeg))] [] (am_S (am_row f 88 y74) g) _
                        refine am_F.mem (F' := (am_row (am_row f 88 y74) 98 (f 98))) (G' := g) ?_ (by first | rfl | (funext a; by_cases z0 : a = 88; (subst z0; rfl); by_cases z1 : a = 98; (subst z1; rfl); simp only [am_ui, am_ul, am_row_ne z0, am_row_ne z1])) (by first | rfl | (funext a; by_cases z0 : a = 88; (subst z0; rfl); by_cases z1 : a = 98; (subst z1; rfl); simp only [am_ui, am_ul, am_row_ne z0, am_row_ne z1]))
                        subst hKd
                        have hQ := am_KO_s hK
                        exact am_F.eq (am_F.ret rfl rfl) hQ
  · show am_F _ _ 7 [.ref 88, am_un] [] (am_S f g) _
    refine am_F.mem (F' := (am_row (am_row f 88 (f 88)) 98 (f 98))) (G' := g) ?_ (by first | rfl | (funext a; by_cases z0 : a = 88; (subst z0; rfl); by_cases z1 : a = 98; (subst z1; rfl); simp only [am_ui, am_ul, am_row_ne z0, am_row_ne z1])) (by first | rfl | (funext a; by_cases z0 : a = 88; (subst z0; rfl); by_cases z1 : a = 98; (subst z1; rfl); simp only [am_ui, am_ul, am_row_ne z0, am_row_ne z1]))
    subst hKd
    have hQ := am_KO_s hK
    exact am_F.eq (am_F.ret rfl rfl) hQ
noncomputable def fn_m_unitN : Nat → (Nat → Nat → Int32) → Option ((Nat → Int32) × (Nat → Int32))
  | 0 => fun _ => none
  | n + 1 => fn_m_unitS (fn_m_unitN n)
theorem x_m_unitN : ∀ (n : Nat)  (f : Nat → Nat → Int32) (g : Nat → Nat → Int64) (z : (Nat → Int32) × (Nat → Int32)), fn_m_unitN n f = some z → am_D (6 * n) 180 2 [.ref 88] (am_S f g) ((none : Option Value), am_S (am_row (am_row f 88 z.1) 98 z.2) g) := by
  intro n
  induction n with
  | zero => intro f g z h; cases h
  | succ n ih =>
    intro f g z h
    exact x_m_unitS (fn_m_unitN n) (6 * n) f g ih z h
noncomputable def fn_m_unit  (f : Nat → Nat → Int32) : Option ((Nat → Int32) × (Nat → Int32)) := fn_m_unitN 9 f
theorem x_m_unit  (f : Nat → Nat → Int32) (g : Nat → Nat → Int64) (z : (Nat → Int32) × (Nat → Int32)) (h : fn_m_unit f = some z) : am_D 54 180 2 [.ref 88] (am_S f g) ((none : Option Value), am_S (am_row (am_row f 88 z.1) 98 z.2) g) := x_m_unitN 9 f g z h
noncomputable def fn_m_eitherT (f : Nat → Nat → Int32) : Option ((Nat → Int32) × (Nat → Int32)) := fn_m_either fn_m_unit f
theorem x_m_eitherT (f : Nat → Nat → Int32) (g : Nat → Nat → Int64) (z : (Nat → Int32) × (Nat → Int32)) (h : fn_m_eitherT f = some z) : am_D 59 175 2 [.ref 88] (am_S f g) ((none : Option Value), am_S (am_row (am_row f 88 z.1) 98 z.2) g) := x_m_either fn_m_unit 54 f g x_m_unit z h
/-- AccessLatticeModel.reads, with checks -/
noncomputable def fn_m_reads (f : Nat → Nat → Int32) : Option (Int32 × (Nat → Int32) × (Nat → Int32)) := (am_ob (fn_m_eitherT (am_row f 88 (fn_m_begins f))) (fun (y2 : (Nat → Int32) × (Nat → Int32)) => (if (y2.1 11) ≤ (y2.1 12) then (some (y2.1 13, upd y2.1 11 0, y2.2)) else (some ((fn_m_fails (y2.1 12) (am_row (am_row f 88 y2.1) 98 y2.2)) 13, upd (fn_m_fails (y2.1 12) (am_row (am_row f 88 y2.1) 98 y2.2)) 11 0, y2.2)))))
theorem x_m_reads (f : Nat → Nat → Int32) (g : Nat → Nat → Int64)  (z0 : Int32 × (Nat → Int32) × (Nat → Int32)) (hz0 : (fn_m_reads f) = some z0) : am_D 60 173 1 [.ref 88] (am_S f g) (some (Value.int z0.1), am_S (am_row (am_row f 88 z0.2.1) 98 z0.2.2) g) := by
  refine am_D.of (code := am_k_173) rfl (L0 := [.ref 88]) rfl ?_
  generalize hres : (some (Value.int z0.1), am_S (am_row (am_row f 88 z0.2.1) 98 z0.2.2) g) = res
  obtain ⟨K, hKd⟩ : ∃ K : Option (Int32 × (Nat → Int32) × (Nat → Int32)) → Prop, K = am_KO (fun z => (some (Value.int z.1), am_S (am_row (am_row f 88 z.2.1) 98 z.2.2) g) = res) := ⟨_, rfl⟩
  have hK : K (fn_m_reads f) := by rw [hKd, hz0]; exact hres
  have hKn : ¬ K none := by rw [hKd]; exact id
  clear hres hz0
  unfold fn_m_reads at hK
  refine am_F.ops (pc' := 1) (L' := [.ref 88]) (S' := [.ref 88]) (μ' := (am_S f g)) 1 rfl ?_
  obtain ⟨y1, hy1⟩ : ∃ z, (fn_m_begins f) = z := ⟨_, rfl⟩
  (try rw [hy1] at hK)
  refine am_F.call rfl rfl (x_m_begins  f g ) (by first | decide | omega) ?_
  (try rw [hy1])
  refine am_F.mem (F' := (am_row f 88 y1)) (G' := g) ?_ (by first | rfl | (funext a; by_cases z0 : a = 88; (subst z0; rfl); simp only [am_ui, am_ul, am_row_ne z0])) (by first | rfl | (funext a; by_cases z0 : a = 88; (subst z0; rfl); simp only [am_ui, am_ul, am_row_ne z0]))
  show am_F _ _ 4 [.ref 88] [] (am_S (am_row f 88 y1) g) _
  refine am_F.ops (pc' := 5) (L' := [.ref 88]) (S' := [.ref 88]) (μ' := (am_S (am_row f 88 y1) g)) 1 rfl ?_
  obtain ⟨y2, hy2, hK⟩ := am_ob_e hKn hK
  refine am_F.call rfl rfl (x_m_eitherT  (am_row f 88 y1) g  y2 hy2) (by first | decide | omega) ?_
  refine am_F.mem (F' := (am_row (am_row f 88 y2.1) 98 y2.2)) (G' := g) ?_ (by first | rfl | (funext a; by_cases z0 : a = 88; (subst z0; rfl); by_cases z1 : a = 98; (subst z1; rfl); simp only [am_ui, am_ul, am_row_ne z0, am_row_ne z1])) (by first | rfl | (funext a; by_cases z0 : a = 88; (subst z0; rfl); by_cases z1 : a = 98; (subst z1; rfl); simp only [am_ui, am_ul, am_row_ne z0, am_row_ne z1]))
  show am_F _ _ 8 [.ref 88] [] (am_S (am_row (am_row f 88 y2.1) 98 y2.2) g) _
  refine am_F.ops (pc' := 16) (L' := [.ref 88]) (S' := [.int (y2.1 11), .int (y2.1 12)]) (μ' := (am_S (am_row (am_row f 88 y2.1) 98 y2.2) g)) 4 rfl ?_
  refine am_F.iteK 1 rfl K hK (fun c4 hK => ?_) (fun c4 hK => ?_)
  · show am_F _ _ 27 [.ref 88] [] (am_S (am_row (am_row f 88 y2.1) 98 y2.2) g) _
    refine am_F.ops (pc' := 29) (L' := [.ref 88]) (S' := [.int 0, .ref 88]) (μ' := (am_S (am_row (am_row f 88 y2.1) 98 y2.2) g)) 2 rfl ?_
    refine am_F.pfi (F' := (am_row (am_row f 88 (upd y2.1 11 0)) 98 y2.2)) rfl rfl (by first | rfl | (funext a; by_cases z0 : a = 88; (subst z0; rfl); by_cases z1 : a = 98; (subst z1; rfl); simp only [am_ui, am_ul, am_row_ne z0, am_row_ne z1])) ?_
    refine am_F.ops (pc' := 36) (L' := [.ref 88]) (S' := [.int (y2.1 13)]) (μ' := (am_S (am_row (am_row f 88 (upd y2.1 11 0)) 98 y2.2) g)) 2 rfl ?_
    subst hKd
    have hQ := am_KO_s hK
    exact am_F.eq (am_F.ret rfl rfl) hQ
  · show am_F _ _ 19 [.ref 88] [] (am_S (am_row (am_row f 88 y2.1) 98 y2.2) g) _
    refine am_F.ops (pc' := 24) (L' := [.ref 88]) (S' := [.int (y2.1 12), .ref 88]) (μ' := (am_S (am_row (am_row f 88 y2.1) 98 y2.2) g)) 3 rfl ?_
    obtain ⟨y5, hy5⟩ : ∃ z, (fn_m_fails (y2.1 12) (am_row (am_row f 88 y2.1) 98 y2.2)) = z := ⟨_, rfl⟩
    (try rw [hy5] at hK)
    refine am_F.call rfl rfl (x_m_fails (y2.1 12) (am_row (am_row f 88 y2.1) 98 y2.2) g ) (by first | decide | omega) ?_
    (try rw [hy5])
    refine am_F.mem (F' := (am_row (am_row f 88 y5) 98 y2.2)) (G' := g) ?_ (by first | rfl | (funext a; by_cases z0 : a = 88; (subst z0; rfl); by_cases z1 : a = 98; (subst z1; rfl); simp only [am_ui, am_ul, am_row_ne z0, am_row_ne z1])) (by first | rfl | (funext a; by_cases z0 : a = 88; (subst z0; rfl); by_cases z1 : a = 98; (subst z1; rfl); simp only [am_ui, am_ul, am_row_ne z0, am_row_ne z1]))
    show am_F _ _ 27 [.ref 88] [] (am_S (am_row (am_row f 88 y5) 98 y2.2) g) _
    refine am_F.ops (pc' := 29) (L' := [.ref 88]) (S' := [.int 0, .ref 88]) (μ' := (am_S (am_row (am_row f 88 y5) 98 y2.2) g)) 2 rfl ?_
    refine am_F.pfi (F' := (am_row (am_row f 88 (upd y5 11 0)) 98 y2.2)) rfl rfl (by first | rfl | (funext a; by_cases z0 : a = 88; (subst z0; rfl); by_cases z1 : a = 98; (subst z1; rfl); simp only [am_ui, am_ul, am_row_ne z0, am_row_ne z1])) ?_
    refine am_F.ops (pc' := 36) (L' := [.ref 88]) (S' := [.int (y5 13)]) (μ' := (am_S (am_row (am_row f 88 (upd y5 11 0)) 98 y2.2) g)) 2 rfl ?_
    subst hKd
    have hQ := am_KO_s hK
    exact am_F.eq (am_F.ret rfl rfl) hQ
/-- AccessLatticeModel.part, with checks -/
noncomputable def fn_m_partS (U : (Nat → Nat → Int32) → Option (Int32 × (Nat → Int32))) (f : Nat → Nat → Int32) : Option (Int32 × (Nat → Int32)) := (am_chk (am_inb (f 88 16) 3340 = true) (if 1000 ≤ (f 89 ((f 88 16).toNatClampNeg)) then (if 1010 ≤ (f 89 ((f 88 16).toNatClampNeg)) then (if 1020 ≤ (f 89 ((f 88 16).toNatClampNeg)) then (if 2000 ≤ (f 89 ((f 88 16).toNatClampNeg)) then (am_ob (U (am_row f 88 (upd (f 88) 16 ((f 88 16) + 1)))) (fun (y6 : Int32 × (Nat → Int32)) => (if (f 89 ((f 88 16).toNatClampNeg)) = 2126 then (some (-y6.1, y6.2)) else (if (f 89 ((f 88 16).toNatClampNeg)) = 2033 then (some (am_b (if y6.1 = 0 then true else false), y6.2)) else (am_ob (U (am_row f 88 y6.2)) (fun (y10 : Int32 × (Nat → Int32)) => (some ((fn_m_joined ((f 89 ((f 88 16).toNatClampNeg)) - 2000) y6.1 y10.1), y10.2)))))))) else (some ((if (f 89 ((f 88 16).toNatClampNeg)) = 1020 then f 89 200 else (if (f 89 ((f 88 16).toNatClampNeg)) = 1021 then f 88 18 else f 88 20)), upd (f 88) 16 ((f 88 16) + 1)))) else (am_chk (am_inb (((64 + (4 * (f 88 19))) + (f 89 ((f 88 16).toNatClampNeg))) - 1010) 3340 = true) (some (f 89 ((((64 + (4 * (f 88 19))) + (f 89 ((f 88 16).toNatClampNeg))) - 1010).toNatClampNeg), upd (f 88) 16 ((f 88 16) + 1))))) else (am_chk (am_inb (((4 * (f 88 17)) + (f 89 ((f 88 16).toNatClampNeg))) - 1000) 3340 = true) (some (f 89 ((((4 * (f 88 17)) + (f 89 ((f 88 16).toNatClampNeg))) - 1000).toNatClampNeg), upd (f 88) 16 ((f 88 16) + 1))))) else (some (f 89 ((f 88 16).toNatClampNeg), upd (f 88) 16 ((f 88 16) + 1)))))
theorem x_m_partS (U : (Nat → Nat → Int32) → Option (Int32 × (Nat → Int32))) (dU : Nat) (f : Nat → Nat → Int32) (g : Nat → Nat → Int64) (hU : ∀  (f : Nat → Nat → Int32) (g : Nat → Nat → Int64) (z : Int32 × (Nat → Int32)), U f = some z → am_D dU 201 4 [.ref 88] (am_S f g) (some (Value.int z.1), am_S (am_row f 88 z.2) g)) (z0 : Int32 × (Nat → Int32)) (hz0 : (fn_m_partS U f) = some z0) : am_D (dU + 1) 201 4 [.ref 88] (am_S f g) (some (Value.int z0.1), am_S (am_row f 88 z0.2) g) := by
  refine am_D.of (code := am_k_201) rfl (L0 := [.ref 88, am_un, am_un, am_un]) rfl ?_
  generalize hres : (some (Value.int z0.1), am_S (am_row f 88 z0.2) g) = res
  obtain ⟨K, hKd⟩ : ∃ K : Option (Int32 × (Nat → Int32)) → Prop, K = am_KO (fun z => (some (Value.int z.1), am_S (am_row f 88 z.2) g) = res) := ⟨_, rfl⟩
  have hK : K (fn_m_partS U f) := by rw [hKd, hz0]; exact hres
  have hKn : ¬ K none := by rw [hKd]; exact id
  clear hres hz0
  unfold fn_m_partS at hK
  refine am_F.ops (pc' := 8) (L' := [.ref 88, am_un, am_un, am_un]) (S' := [.int (f 88 16), .ref 89]) (μ' := (am_S f g)) 4 rfl ?_
  obtain ⟨q1, hK⟩ := am_chk_e hKn hK
  refine am_F.ial (N := 3340) rfl rfl rfl q1 ?_
  show am_F _ _ 9 [.ref 88, am_un, am_un, am_un] [.int (f 89 ((f 88 16).toNatClampNeg))] (am_S f g) _
  refine am_F.ops (pc' := 17) (L' := [.ref 88, .int (f 89 ((f 88 16).toNatClampNeg)), am_un, am_un]) (S' := [.int ((f 88 16) + 1), .ref 88]) (μ' := (am_S f g)) 6 rfl ?_
  refine am_F.pfi (F' := (am_row f 88 (upd (f 88) 16 ((f 88 16) + 1)))) rfl rfl (by first | rfl | (funext a; by_cases z0 : a = 88; (subst z0; rfl); simp only [am_ui, am_ul, am_row_ne z0])) ?_
  refine am_F.ops (pc' := 24) (L' := [.ref 88, .int (f 89 ((f 88 16).toNatClampNeg)), am_un, am_un]) (S' := [.int 1000, .int (f 89 ((f 88 16).toNatClampNeg))]) (μ' := (am_S (am_row f 88 (upd (f 88) 16 ((f 88 16) + 1))) g)) 2 rfl ?_
  refine am_F.iteK 1 rfl K hK (fun c2 hK => ?_) (fun c2 hK => ?_)
  · show am_F _ _ 29 [.ref 88, .int (f 89 ((f 88 16).toNatClampNeg)), am_un, am_un] [] (am_S (am_row f 88 (upd (f 88) 16 ((f 88 16) + 1))) g) _
    refine am_F.ops (pc' := 33) (L' := [.ref 88, .int (f 89 ((f 88 16).toNatClampNeg)), am_un, am_un]) (S' := [.int 1010, .int (f 89 ((f 88 16).toNatClampNeg))]) (μ' := (am_S (am_row f 88 (upd (f 88) 16 ((f 88 16) + 1))) g)) 2 rfl ?_
    refine am_F.iteK 1 rfl K hK (fun c3 hK => ?_) (fun c3 hK => ?_)
    · show am_F _ _ 54 [.ref 88, .int (f 89 ((f 88 16).toNatClampNeg)), am_un, am_un] [] (am_S (am_row f 88 (upd (f 88) 16 ((f 88 16) + 1))) g) _
      refine am_F.ops (pc' := 58) (L' := [.ref 88, .int (f 89 ((f 88 16).toNatClampNeg)), am_un, am_un]) (S' := [.int 1020, .int (f 89 ((f 88 16).toNatClampNeg))]) (μ' := (am_S (am_row f 88 (upd (f 88) 16 ((f 88 16) + 1))) g)) 2 rfl ?_
      refine am_F.iteK 1 rfl K hK (fun c4 hK => ?_) (fun c4 hK => ?_)
      · show am_F _ _ 82 [.ref 88, .int (f 89 ((f 88 16).toNatClampNeg)), am_un, am_un] [] (am_S (am_row f 88 (upd (f 88) 16 ((f 88 16) + 1))) g) _
        refine am_F.ops (pc' := 86) (L' := [.ref 88, .int (f 89 ((f 88 16).toNatClampNeg)), am_un, am_un]) (S' := [.int 2000, .int (f 89 ((f 88 16).toNatClampNeg))]) (μ' := (am_S (am_row f 88 (upd (f 88) 16 ((f 88 16) + 1))) g)) 2 rfl ?_
        refine am_F.iteK 1 rfl K hK (fun c5 hK => ?_) (fun c5 hK => ?_)
        · show am_F _ _ 126 [.ref 88, .int (f 89 ((f 88 16).toNatClampNeg)), am_un, am_un] [] (am_S (am_row f 88 (upd (f 88) 16 ((f 88 16) + 1))) g) _
          refine am_F.ops (pc' := 127) (L' := [.ref 88, .int (f 89 ((f 88 16).toNatClampNeg)), am_un, am_un]) (S' := [.ref 88]) (μ' := (am_S (am_row f 88 (upd (f 88) 16 ((f 88 16) + 1))) g)) 1 rfl ?_
          obtain ⟨y6, hy6, hK⟩ := am_ob_e hKn hK
          refine am_F.call rfl rfl (hU  (am_row f 88 (upd (f 88) 16 ((f 88 16) + 1))) g  y6 hy6) (by first | decide | omega) ?_
          refine am_F.mem (F' := (am_row f 88 y6.2)) (G' := g) ?_ (by first | rfl | (funext a; by_cases z0 : a = 88; (subst z0; rfl); simp only [am_ui, am_ul, am_row_ne z0])) (by first | rfl | (funext a; by_cases z0 : a = 88; (subst z0; rfl); simp only [am_ui, am_ul, am_row_ne z0]))
          show am_F _ _ 130 [.ref 88, .int (f 89 ((f 88 16).toNatClampNeg)), am_un, am_un] [.int y6.1] (am_S (am_row f 88 y6.2) g) _
          refine am_F.ops (pc' := 135) (L' := [.ref 88, .int (f 89 ((f 88 16).toNatClampNeg)), .int y6.1, am_un]) (S' := [.int 2126, .int (f 89 ((f 88 16).toNatClampNeg))]) (μ' := (am_S (am_row f 88 y6.2) g)) 3 rfl ?_
          refine am_F.iteK 1 rfl K hK (fun c7 hK => ?_) (fun c7 hK => ?_)
          · show am_F _ _ 138 [.ref 88, .int (f 89 ((f 88 16).toNatClampNeg)), .int y6.1, am_un] [] (am_S (am_row f 88 y6.2) g) _
            refine am_F.ops (pc' := 140) (L' := [.ref 88, .int (f 89 ((f 88 16).toNatClampNeg)), .int y6.1, am_un]) (S' := [.int (-y6.1)]) (μ' := (am_S (am_row f 88 y6.2) g)) 2 rfl ?_
            subst hKd
            have hQ := am_KO_s hK
            exact am_F.eq (am_F.ret rfl rfl) hQ
          · show am_F _ _ 141 [.ref 88, .int (f 89 ((f 88 16).toNatClampNeg)), .int y6.1, am_un] [] (am_S (am_row f 88 y6.2) g) _
            refine am_F.ops (pc' := 145) (L' := [.ref 88, .int (f 89 ((f 88 16).toNatClampNeg)), .int y6.1, am_un]) (S' := [.int 2033, .int (f 89 ((f 88 16).toNatClampNeg))]) (μ' := (am_S (am_row f 88 y6.2) g)) 2 rfl ?_
            refine am_F.iteK 1 rfl K hK (fun c8 hK => ?_) (fun c8 hK => ?_)
            · show am_F _ _ 148 [.ref 88, .int (f 89 ((f 88 16).toNatClampNeg)), .int y6.1, am_un] [] (am_S (am_row f 88 y6.2) g) _
              refine am_F.ops (pc' := 149) (L' := [.ref 88, .int (f 89 ((f 88 16).toNatClampNeg)), .int y6.1, am_un]) (S' := [.int y6.1]) (μ' := (am_S (am_row f 88 y6.2) g)) 1 rfl ?_
              refine am_F.to (am_To.iteB (pc' := 157) (L2 := [.ref 88, .int (f 89 ((f 88 16).toNatClampNeg)), .int y6.1, am_un]) (S2 := []) (μ2 := (am_S (am_row f 88 y6.2) g)) (a := true) (b := false) 1 rfl (fun c9 => ?_) (fun c9 => ?_)) ?_
              · intro res9 g9
                show am_F _ _ 152 [.ref 88, .int (f 89 ((f 88 16).toNatClampNeg)), .int y6.1, am_un] [] (am_S (am_row f 88 y6.2) g) _
                refine am_F.ops (pc' := 157) (L' := [.ref 88, .int (f 89 ((f 88 16).toNatClampNeg)), .int y6.1, am_un]) (S' := [.int 1]) (μ' := (am_S (am_row f 88 y6.2) g)) 2 rfl ?_
                exact g9
              · intro res9 g9
                show am_F _ _ 156 [.ref 88, .int (f 89 ((f 88 16).toNatClampNeg)), .int y6.1, am_un] [] (am_S (am_row f 88 y6.2) g) _
                refine am_F.ops (pc' := 157) (L' := [.ref 88, .int (f 89 ((f 88 16).toNatClampNeg)), .int y6.1, am_un]) (S' := [.int 0]) (μ' := (am_S (am_row f 88 y6.2) g)) 1 rfl ?_
                exact g9
              show am_F _ _ 157 [.ref 88, .int (f 89 ((f 88 16).toNatClampNeg)), .int y6.1, am_un] [.int (am_b (if y6.1 = 0 then true else false))] (am_S (am_row f 88 y6.2) g) _
              subst hKd
              have hQ := am_KO_s hK
              exact am_F.eq (am_F.ret rfl rfl) hQ
            · show am_F _ _ 158 [.ref 88, .int (f 89 ((f 88 16).toNatClampNeg)), .int y6.1, am_un] [] (am_S (am_row f 88 y6.2) g) _
              refine am_F.ops (pc' := 159) (L' := [.ref 88, .int (f 89 ((f 88 16).toNatClampNeg)), .int y6.1, am_un]) (S' := [.ref 88]) (μ' := (am_S (am_row f 88 y6.2) g)) 1 rfl ?_
              obtain ⟨y10, hy10, hK⟩ := am_ob_e hKn hK
              refine am_F.call rfl rfl (hU  (am_row f 88 y6.2) g  y10 hy10) (by first | decide | omega) ?_
              refine am_F.mem (F' := (am_row f 88 y10.2)) (G' := g) ?_ (by first | rfl | (funext a; by_cases z0 : a = 88; (subst z0; rfl); simp only [am_ui, am_ul, am_row_ne z0])) (by first | rfl | (funext a; by_cases z0 : a = 88; (subst z0; rfl); simp only [am_ui, am_ul, am_row_ne z0]))
              show am_F _ _ 162 [.ref 88, .int (f 89 ((f 88 16).toNatClampNeg)), .int y6.1, am_un] [.int y10.1] (am_S (am_row f 88 y10.2) g) _
              refine am_F.ops (pc' := 170) (L' := [.ref 88, .int (f 89 ((f 88 16).toNatClampNeg)), .int y6.1, .int y10.1]) (S' := [.int y10.1, .int y6.1, .int ((f 89 ((f 88 16).toNatClampNeg)) - 2000)]) (μ' := (am_S (am_row f 88 y10.2) g)) 6 rfl ?_
              refine am_F.call rfl rfl (x_m_joined ((f 89 ((f 88 16).toNatClampNeg)) - 2000) y6.1 y10.1 (am_row f 88 y10.2) g ) (by first | decide | omega) ?_
              show am_F _ _ 173 [.ref 88, .int (f 89 ((f 88 16).toNatClampNeg)), .int y6.1, .int y10.1] [.int (fn_m_joined ((f 89 ((f 88 16).toNatClampNeg)) - 2000) y6.1 y10.1)] (am_S (am_row f 88 y10.2) g) _
              subst hKd
              have hQ := am_KO_s hK
              exact am_F.eq (am_F.ret rfl rfl) hQ
        · show am_F _ _ 89 [.ref 88, .int (f 89 ((f 88 16).toNatClampNeg)), am_un, am_un] [] (am_S (am_row f 88 (upd (f 88) 16 ((f 88 16) + 1))) g) _
          refine am_F.ops (pc' := 93) (L' := [.ref 88, .int (f 89 ((f 88 16).toNatClampNeg)), am_un, am_un]) (S' := [.int 1020, .int (f 89 ((f 88 16).toNatClampNeg))]) (μ' := (am_S (am_row f 88 (upd (f 88) 16 ((f 88 16) + 1))) g)) 2 rfl ?_
          refine am_F.to (am_To.ite (pc' := 125) (L2 := [.ref 88, .int (f 89 ((f 88 16).toNatClampNeg)), am_un, am_un]) (S2 := []) (μ2 := (am_S (am_row f 88 (upd (f 88) 16 ((f 88 16) + 1))) g)) (a := f 89 200) (b := (if (f 89 ((f 88 16).toNatClampNeg)) = 1021 then f 88 18 else f 88 20)) 1 rfl (fun c12 => ?_) (fun c12 => ?_)) ?_
          · intro res9 g9
            show am_F _ _ 96 [.ref 88, .int (f 89 ((f 88 16).toNatClampNeg)), am_un, am_un] [] (am_S (am_row f 88 (upd (f 88) 16 ((f 88 16) + 1))) g) _
            refine am_F.ops (pc' := 125) (L' := [.ref 88, .int (f 89 ((f 88 16).toNatClampNeg)), am_un, am_un]) (S' := [.int (f 89 200)]) (μ' := (am_S (am_row f 88 (upd (f 88) 16 ((f 88 16) + 1))) g)) 5 rfl ?_
            exact g9
          · intro res9 g9
            show am_F _ _ 107 [.ref 88, .int (f 89 ((f 88 16).toNatClampNeg)), am_un, am_un] [] (am_S (am_row f 88 (upd (f 88) 16 ((f 88 16) + 1))) g) _
            refine am_F.ops (pc' := 111) (L' := [.ref 88, .int (f 89 ((f 88 16).toNatClampNeg)), am_un, am_un]) (S' := [.int 1021, .int (f 89 ((f 88 16).toNatClampNeg))]) (μ' := (am_S (am_row f 88 (upd (f 88) 16 ((f 88 16) + 1))) g)) 2 rfl ?_
            refine am_F.to (am_To.ite (pc' := 125) (L2 := [.ref 88, .int (f 89 ((f 88 16).toNatClampNeg)), am_un, am_un]) (S2 := []) (μ2 := (am_S (am_row f 88 (upd (f 88) 16 ((f 88 16) + 1))) g)) (a := f 88 18) (b := f 88 20) 1 rfl (fun c13 => ?_) (fun c13 => ?_)) g9
            · intro res9 g9
              show am_F _ _ 114 [.ref 88, .int (f 89 ((f 88 16).toNatClampNeg)), am_un, am_un] [] (am_S (am_row f 88 (upd (f 88) 16 ((f 88 16) + 1))) g) _
              refine am_F.ops (pc' := 125) (L' := [.ref 88, .int (f 89 ((f 88 16).toNatClampNeg)), am_un, am_un]) (S' := [.int (f 88 18)]) (μ' := (am_S (am_row f 88 (upd (f 88) 16 ((f 88 16) + 1))) g)) 3 rfl ?_
              exact g9
            · intro res9 g9
              show am_F _ _ 121 [.ref 88, .int (f 89 ((f 88 16).toNatClampNeg)), am_un, am_un] [] (am_S (am_row f 88 (upd (f 88) 16 ((f 88 16) + 1))) g) _
              refine am_F.ops (pc' := 125) (L' := [.ref 88, .int (f 89 ((f 88 16).toNatClampNeg)), am_un, am_un]) (S' := [.int (f 88 20)]) (μ' := (am_S (am_row f 88 (upd (f 88) 16 ((f 88 16) + 1))) g)) 2 rfl ?_
              exact g9
          show am_F _ _ 125 [.ref 88, .int (f 89 ((f 88 16).toNatClampNeg)), am_un, am_un] [.int (if (f 89 ((f 88 16).toNatClampNeg)) = 1020 then f 89 200 else (if (f 89 ((f 88 16).toNatClampNeg)) = 1021 then f 88 18 else f 88 20))] (am_S (am_row f 88 (upd (f 88) 16 ((f 88 16) + 1))) g) _
          subst hKd
          have hQ := am_KO_s hK
          exact am_F.eq (am_F.ret rfl rfl) hQ
      · show am_F _ _ 61 [.ref 88, .int (f 89 ((f 88 16).toNatClampNeg)), am_un, am_un] [] (am_S (am_row f 88 (upd (f 88) 16 ((f 88 16) + 1))) g) _
        refine am_F.ops (pc' := 80) (L' := [.ref 88, .int (f 89 ((f 88 16).toNatClampNeg)), am_un, am_un]) (S' := [.int (((64 + (4 * (f 88 19))) + (f 89 ((f 88 16).toNatClampNeg))) - 1010), .ref 89]) (μ' := (am_S (am_row f 88 (upd (f 88) 16 ((f 88 16) + 1))) g)) 12 rfl ?_
        obtain ⟨q14, hK⟩ := am_chk_e hKn hK
        refine am_F.ial (N := 3340) rfl rfl rfl q14 ?_
        show am_F _ _ 81 [.ref 88, .int (f 89 ((f 88 16).toNatClampNeg)), am_un, am_un] [.int (f 89 ((((64 + (4 * (f 88 19))) + (f 89 ((f 88 16).toNatClampNeg))) - 1010).toNatClampNeg))] (am_S (am_row f 88 (upd (f 88) 16 ((f 88 16) + 1))) g) _
        subst hKd
        have hQ := am_KO_s hK
        exact am_F.eq (am_F.ret rfl rfl) hQ
    · show am_F _ _ 36 [.ref 88, .int (f 89 ((f 88 16).toNatClampNeg)), am_un, am_un] [] (am_S (am_row f 88 (upd (f 88) 16 ((f 88 16) + 1))) g) _
      refine am_F.ops (pc' := 52) (L' := [.ref 88, .int (f 89 ((f 88 16).toNatClampNeg)), am_un, am_un]) (S' := [.int (((4 * (f 88 17)) + (f 89 ((f 88 16).toNatClampNeg))) - 1000), .ref 89]) (μ' := (am_S (am_row f 88 (upd (f 88) 16 ((f 88 16) + 1))) g)) 10 rfl ?_
      obtain ⟨q15, hK⟩ := am_chk_e hKn hK
      refine am_F.ial (N := 3340) rfl rfl rfl q15 ?_
      show am_F _ _ 53 [.ref 88, .int (f 89 ((f 88 16).toNatClampNeg)), am_un, am_un] [.int (f 89 ((((4 * (f 88 17)) + (f 89 ((f 88 16).toNatClampNeg))) - 1000).toNatClampNeg))] (am_S (am_row f 88 (upd (f 88) 16 ((f 88 16) + 1))) g) _
      subst hKd
      have hQ := am_KO_s hK
      exact am_F.eq (am_F.ret rfl rfl) hQ
  · show am_F _ _ 27 [.ref 88, .int (f 89 ((f 88 16).toNatClampNeg)), am_un, am_un] [] (am_S (am_row f 88 (upd (f 88) 16 ((f 88 16) + 1))) g) _
    refine am_F.ops (pc' := 28) (L' := [.ref 88, .int (f 89 ((f 88 16).toNatClampNeg)), am_un, am_un]) (S' := [.int (f 89 ((f 88 16).toNatClampNeg))]) (μ' := (am_S (am_row f 88 (upd (f 88) 16 ((f 88 16) + 1))) g)) 1 rfl ?_
    subst hKd
    have hQ := am_KO_s hK
    exact am_F.eq (am_F.ret rfl rfl) hQ
noncomputable def fn_m_partN : Nat → (Nat → Nat → Int32) → Option (Int32 × (Nat → Int32))
  | 0 => fun _ => none
  | n + 1 => fn_m_partS (fn_m_partN n)
theorem x_m_partN : ∀ (n : Nat)  (f : Nat → Nat → Int32) (g : Nat → Nat → Int64) (z : Int32 × (Nat → Int32)), fn_m_partN n f = some z → am_D (1 * n) 201 4 [.ref 88] (am_S f g) (some (Value.int z.1), am_S (am_row f 88 z.2) g) := by
  intro n
  induction n with
  | zero => intro f g z h; cases h
  | succ n ih =>
    intro f g z h
    exact x_m_partS (fn_m_partN n) (1 * n) f g ih z h
noncomputable def fn_m_part  (f : Nat → Nat → Int32) : Option (Int32 × (Nat → Int32)) := fn_m_partN 81 f
theorem x_m_part  (f : Nat → Nat → Int32) (g : Nat → Nat → Int64) (z : Int32 × (Nat → Int32)) (h : fn_m_part f = some z) : am_D 81 201 4 [.ref 88] (am_S f g) (some (Value.int z.1), am_S (am_row f 88 z.2) g) := x_m_partN 81 f g z h
/-- AccessLatticeModel.waysFrom, with checks -/
noncomputable def st_m_waysFromS_14 (U : Int32 → Int32 → (Nat → Nat → Int32) → Option (Int32)) (r : Int32) (role : Int32) (f : Nat → Nat → Int32) : Nat → Int32 → Option (Int32 ⊕ (Int32 ⊕ Empty)) := fun i14 a14_3 => (am_chk (am_inb (144 + r) 3340 = true) (bif (fn_m_has (f 89 ((144 + r).toNatClampNeg)) (nI i14)) then (bif (fn_m_has (f 92 i14) role) then (am_ob (U (nI i14) role f) (fun (y11 : Int32) => (some (.inl (a14_3 + y11))))) else (some (.inl (a14_3 + 0)))) else (some (.inl (a14_3 + 0)))))
noncomputable def lf_m_waysFromS_14 (U : Int32 → Int32 → (Nat → Nat → Int32) → Option (Int32)) (r : Int32) (role : Int32) (f : Nat → Nat → Int32) : Option (Int32 ⊕ Empty) := am_forO (st_m_waysFromS_14 U r role f) 20 0 (am_b (if r = role then true else false))
noncomputable def fn_m_waysFromS (U : Int32 → Int32 → (Nat → Nat → Int32) → Option (Int32)) (r : Int32) (role : Int32) (f : Nat → Nat → Int32) : Option (Int32) := (am_ob (lf_m_waysFromS_14 U r role f) (fun zz => Sum.elim (fun (z14 : Int32) => (some z14)) (fun (z : Empty) => z.elim) zz))
theorem lp_m_waysFromS_14 (U : Int32 → Int32 → (Nat → Nat → Int32) → Option (Int32)) (dU : Nat) (r : Int32) (role : Int32) (f : Nat → Nat → Int32) (g : Nat → Nat → Int64) (hU : ∀ (r : Int32) (role : Int32) (f : Nat → Nat → Int32) (g : Nat → Nat → Int64) (z : Int32), U r role f = some z → am_D dU 227 5 [.ref 88, .int r, .int role] (am_S f g) (some (Value.int z), am_S f g)) (res : Option Value × am_M) : ∀ (n i14 : Nat) (a14_3 : Int32) , i14 + n = 20 → am_KO (am_KX (fun (z : Int32) => ∀ (wc14 : Value), am_F (dU + 1) am_k_227 73 [.ref 88, .int r, .int role, .int z, wc14] [] (am_S f g) res) (fun (z : Empty) => True)) (am_forO (st_m_waysFromS_14 U r role f) n i14 a14_3) → am_F (dU + 1) am_k_227 14 [.ref 88, .int r, .int role, .int a14_3, .int (nI i14)] [] (am_S f g) res := by
  intro n
  induction n with
  | zero =>
    intro i14 a14_3 hi hK
    refine am_F.pos 3 rfl (by show 20 ≤ nI i14; rw [show (20 : Int32) = nI 20 from rfl]; exact nI_le (by omega) (by omega)) ?_
    exact hK _
  | succ n ih =>
    intro i14 a14_3 hi hK
    refine am_F.neg 3 rfl (by show ¬ 20 ≤ nI i14; rw [show (20 : Int32) = nI 20 from rfl]; exact nI_ge (by omega) (by omega)) ?_
    have hb14 : i14 < 20 := by omega
    show am_F _ _ 21 [.ref 88, .int r, .int role, .int a14_3, .int (nI i14)] [] (am_S f g) _
    obtain ⟨K, hKd⟩ : ∃ K : Option (Int32 ⊕ (Int32 ⊕ Empty)) → Prop, K = fun s => am_KO (am_KX (fun (z : Int32) => ∀ (wc14 : Value), am_F (dU + 1) am_k_227 73 [.ref 88, .int r, .int role, .int z, wc14] [] (am_S f g) res) (fun (z : Empty) => True)) (am_whn (fun z => am_forO (st_m_waysFromS_14 U r role f) n (i14 + 1) z) s) := ⟨_, rfl⟩
    have hK : K ((st_m_waysFromS_14 U r role f) i14 a14_3) := by rw [am_forO_s] at hK; rw [hKd]; with_reducible exact hK
    have hKn : ¬ K none := by rw [hKd]; exact id
    unfold st_m_waysFromS_14 at hK
    refine am_F.ops (pc' := 31) (L' := [.ref 88, .int r, .int role, .int a14_3, .int (nI i14)]) (S' := [.int (144 + r), .ref 89, .int a14_3]) (μ' := (am_S f g)) 6 rfl ?_
    obtain ⟨q2, hK⟩ := am_chk_e hKn hK
    refine am_F.ial (N := 3340) rfl rfl rfl q2 ?_
    show am_F _ _ 32 [.ref 88, .int r, .int role, .int a14_3, .int (nI i14)] [.int (f 89 ((144 + r).toNatClampNeg)), .int a14_3] (am_S f g) _
    refine am_F.ops (pc' := 34) (L' := [.ref 88, .int r, .int role, .int a14_3, .int (nI i14)]) (S' := [.int (nI i14), .int (f 89 ((144 + r).toNatClampNeg)), .int a14_3]) (μ' := (am_S f g)) 1 rfl ?_
    refine am_F.call rfl rfl (x_m_has (f 89 ((144 + r).toNatClampNeg)) (nI i14) f g ) (by first | decide | omega) ?_
    show am_F _ _ 37 [.ref 88, .int r, .int role, .int a14_3, .int (nI i14)] [.int (am_b (fn_m_has (f 89 ((144 + r).toNatClampNeg)) (nI i14))), .int a14_3] (am_S f g) _
    refine am_F.bifK 1 rfl K hK (fun c7 hK => ?_) (fun c7 hK => ?_)
    · show am_F _ _ 40 [.ref 88, .int r, .int role, .int a14_3, .int (nI i14)] [.int a14_3] (am_S f g) _
      refine am_F.ops (pc' := 46) (L' := [.ref 88, .int r, .int role, .int a14_3, .int (nI i14)]) (S' := [.int (nI i14), .ref 92, .int a14_3]) (μ' := (am_S f g)) 3 rfl ?_
      refine am_F.ialE (m := i14) (N := 20) rfl rfl rfl rfl (by omega) (by decide) ?_
      show am_F _ _ 47 [.ref 88, .int r, .int role, .int a14_3, .int (nI i14)] [.int (f 92 i14), .int a14_3] (am_S f g) _
      refine am_F.ops (pc' := 48) (L' := [.ref 88, .int r, .int role, .int a14_3, .int (nI i14)]) (S' := [.int role, .int (f 92 i14), .int a14_3]) (μ' := (am_S f g)) 1 rfl ?_
      refine am_F.call rfl rfl (x_m_has (f 92 i14) role f g ) (by first | decide | omega) ?_
      show am_F _ _ 51 [.ref 88, .int r, .int role, .int a14_3, .int (nI i14)] [.int (am_b (fn_m_has (f 92 i14) role)), .int a14_3] (am_S f g) _
      refine am_F.bifK 1 rfl K hK (fun c10 hK => ?_) (fun c10 hK => ?_)
      · show am_F _ _ 54 [.ref 88, .int r, .int role, .int a14_3, .int (nI i14)] [.int a14_3] (am_S f g) _
        refine am_F.ops (pc' := 58) (L' := [.ref 88, .int r, .int role, .int a14_3, .int (nI i14)]) (S' := [.int role, .int (nI i14), .ref 88, .int a14_3]) (μ' := (am_S f g)) 3 rfl ?_
        obtain ⟨y11, hy11, hK⟩ := am_ob_e hKn hK
        refine am_F.call rfl rfl (hU (nI i14) role f g  y11 hy11) (by first | decide | omega) ?_
        show am_F _ _ 61 [.ref 88, .int r, .int role, .int a14_3, .int (nI i14)] [.int y11, .int a14_3] (am_S f g) _
        refine am_F.ops (pc' := 14) (L' := [.ref 88, .int r, .int role, .int (a14_3 + y11), .int ((nI i14) + 1)]) (S' := []) (μ' := (am_S f g)) 5 rfl ?_
        rw [nI_1 i14]
        subst hKd
        exact ih (i14 + 1) (a14_3 + y11) (by omega) hK
      · show am_F _ _ 64 [.ref 88, .int r, .int role, .int a14_3, .int (nI i14)] [.int a14_3] (am_S f g) _
        refine am_F.ops (pc' := 14) (L' := [.ref 88, .int r, .int role, .int (a14_3 + 0), .int ((nI i14) + 1)]) (S' := []) (μ' := (am_S f g)) 5 rfl ?_
        rw [nI_1 i14]
        subst hKd
        exact ih (i14 + 1) (a14_3 + 0) (by omega) hK
    · show am_F _ _ 64 [.ref 88, .int r, .int role, .int a14_3, .int (nI i14)] [.int a14_3] (am_S f g) _
      refine am_F.ops (pc' := 14) (L' := [.ref 88, .int r, .int role, .int (a14_3 + 0), .int ((nI i14) + 1)]) (S' := []) (μ' := (am_S f g)) 5 rfl ?_
      rw [nI_1 i14]
      subst hKd
      exact ih (i14 + 1) (a14_3 + 0) (by omega) hK
theorem x_m_waysFromS (U : Int32 → Int32 → (Nat → Nat → Int32) → Option (Int32)) (dU : Nat) (r : Int32) (role : Int32) (f : Nat → Nat → Int32) (g : Nat → Nat → Int64) (hU : ∀ (r : Int32) (role : Int32) (f : Nat → Nat → Int32) (g : Nat → Nat → Int64) (z : Int32), U r role f = some z → am_D dU 227 5 [.ref 88, .int r, .int role] (am_S f g) (some (Value.int z), am_S f g)) (z0 : Int32) (hz0 : (fn_m_waysFromS U r role f) = some z0) : am_D (dU + 1) 227 5 [.ref 88, .int r, .int role] (am_S f g) (some (Value.int z0), am_S f g) := by
  refine am_D.of (code := am_k_227) rfl (L0 := [.ref 88, .int r, .int role, am_un, am_un]) rfl ?_
  generalize hres : (some (Value.int z0), am_S f g) = res
  obtain ⟨K, hKd⟩ : ∃ K : Option (Int32) → Prop, K = am_KO (fun z => (some (Value.int z), am_S f g) = res) := ⟨_, rfl⟩
  have hK : K (fn_m_waysFromS U r role f) := by rw [hKd, hz0]; exact hres
  have hKn : ¬ K none := by rw [hKd]; exact id
  clear hres hz0
  unfold fn_m_waysFromS at hK
  refine am_F.ops (pc' := 2) (L' := [.ref 88, .int r, .int role, am_un, am_un]) (S' := [.int role, .int r]) (μ' := (am_S f g)) 2 rfl ?_
  refine am_F.to (am_To.iteB (pc' := 10) (L2 := [.ref 88, .int r, .int role, am_un, am_un]) (S2 := []) (μ2 := (am_S f g)) (a := true) (b := false) 1 rfl (fun c1 => ?_) (fun c1 => ?_)) ?_
  · intro res9 g9
    show am_F _ _ 5 [.ref 88, .int r, .int role, am_un, am_un] [] (am_S f g) _
    refine am_F.ops (pc' := 10) (L' := [.ref 88, .int r, .int role, am_un, am_un]) (S' := [.int 1]) (μ' := (am_S f g)) 2 rfl ?_
    exact g9
  · intro res9 g9
    show am_F _ _ 9 [.ref 88, .int r, .int role, am_un, am_un] [] (am_S f g) _
    refine am_F.ops (pc' := 10) (L' := [.ref 88, .int r, .int role, am_un, am_un]) (S' := [.int 0]) (μ' := (am_S f g)) 1 rfl ?_
    exact g9
  show am_F _ _ 10 [.ref 88, .int r, .int role, am_un, am_un] [.int (am_b (if r = role then true else false))] (am_S f g) _
  refine am_F.ops (pc' := 14) (L' := [.ref 88, .int r, .int role, .int (am_b (if r = role then true else false)), .int 0]) (S' := []) (μ' := (am_S f g)) 3 rfl ?_
  obtain ⟨z14, hz14, hK⟩ := am_ob_e hKn hK
  show am_F _ _ 14 [.ref 88, .int r, .int role, .int (am_b (if r = role then true else false)), .int (nI 0)] [] (am_S f g) _
  refine lp_m_waysFromS_14 U dU r role f g hU _ 20 0 (am_b (if r = role then true else false))  (by omega) ?_
  rw [show am_forO (st_m_waysFromS_14 U r role f) 20 0 (am_b (if r = role then true else false)) = (lf_m_waysFromS_14 U r role f) from rfl, hz14]
  rcases z14 with z14 | z
  · intro wc14
    show am_F _ _ 73 [.ref 88, .int r, .int role, .int z14, wc14] [] (am_S f g) _
    (try simp only [Sum.elim_inl] at hK)
    refine am_F.ops (pc' := 74) (L' := [.ref 88, .int r, .int role, .int z14, wc14]) (S' := [.int z14]) (μ' := (am_S f g)) 1 rfl ?_
    subst hKd
    have hQ := am_KO_s hK
    exact am_F.eq (am_F.ret rfl rfl) hQ
  · exact z.elim
noncomputable def fn_m_waysFromN : Nat → Int32 → Int32 → (Nat → Nat → Int32) → Option (Int32)
  | 0 => fun _ _ _ => none
  | n + 1 => fn_m_waysFromS (fn_m_waysFromN n)
theorem x_m_waysFromN : ∀ (n : Nat) (r : Int32) (role : Int32) (f : Nat → Nat → Int32) (g : Nat → Nat → Int64) (z : Int32), fn_m_waysFromN n r role f = some z → am_D (1 * n) 227 5 [.ref 88, .int r, .int role] (am_S f g) (some (Value.int z), am_S f g) := by
  intro n
  induction n with
  | zero => intro r role f g z h; cases h
  | succ n ih =>
    intro r role f g z h
    exact x_m_waysFromS (fn_m_waysFromN n) (1 * n) r role f g ih z h
noncomputable def fn_m_waysFrom (r : Int32) (role : Int32) (f : Nat → Nat → Int32) : Option (Int32) := fn_m_waysFromN 21 r role f
theorem x_m_waysFrom (r : Int32) (role : Int32) (f : Nat → Nat → Int32) (g : Nat → Nat → Int64) (z : Int32) (h : fn_m_waysFrom r role f = some z) : am_D 21 227 5 [.ref 88, .int r, .int role] (am_S f g) (some (Value.int z), am_S f g) := x_m_waysFromN 21 r role f g z h
