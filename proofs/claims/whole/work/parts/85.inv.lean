/-! THE PURE LAYER: what holds between two calls -/
set_option linter.unusedVariables false
def pu_sum (g : Nat → Nat) : Nat → Nat
  | 0 => 0
  | n + 1 => pu_sum g n + g n
/-- how many bits of the first twenty; of twenty rows -/
def pu_ct (x : Int32) : Nat := pu_sum (fun q => if pu_bt x q then 1 else 0) 20
def pu_cn (d : Nat → Int32) : Nat := pu_sum (fun r => pu_ct (d r)) 20
/-! the reference's row of numbers -/
def pu_Cpar (s : Nat → Int32) : Prop := (∀ t, t < 16 → s (128 + t) = -1 ∨ ∃ j, j < 16 ∧ s (128 + t) = nI j) ∧ ∃ h : Nat → Nat, ∀ t, t < 16 → ∀ j, j < 16 → s (128 + t) = nI j → h j < h t
def pu_Crol (s : Nat → Int32) : Prop := pu_ok (fun r => s (144 + r)) ∧ (∀ r q, pu_E (fun r => s (144 + r)) r q → ¬ pu_R (fun r => s (144 + r)) q r) ∧ s 203 = nI (pu_cn (fun r => s (144 + r))) ∧ pu_cn (fun r => s (144 + r)) ≤ 40
def pu_Cunl (s : Nat → Int32) : Prop := pu_ok (fun r => s (164 + r)) ∧ (∀ a, a < 20 → ∀ b, b < 20 → pu_bt (s (164 + a)) b = pu_bt (s (164 + b)) a) ∧ (∀ a, a < 20 → pu_bt (s (164 + a)) a = false) ∧ ∃ n, n ≤ 10 ∧ s 204 = nI n ∧ pu_cn (fun r => s (164 + r)) = 2 * n
def pu_Cass (s : Nat → Int32) : Prop := ∀ u, u < 16 → ∀ q, 20 ≤ q → pu_bt (s (184 + u)) q = false
def pu_Ctick (s : Nat → Int32) : Prop := ∃ n, n ≤ 9999 ∧ s 200 = nI n
def pu_Cln (s : Nat → Int32) : Prop := ∃ L, L ≤ 40 ∧ s 201 = nI L ∧ (∀ l, l < L → (∃ a, a < 16 ∧ s (210 + 7 * l + 0) = nI a) ∧ (∃ a, a < 16 ∧ s (210 + 7 * l + 1) = nI a) ∧ (∃ a, a < 20 ∧ s (210 + 7 * l + 2) = nI a) ∧ (∃ a, a < 6 ∧ s (210 + 7 * l + 4) = nI a) ∧ (s (210 + 7 * l + 5) = -1 ∨ ∃ j, j < l ∧ s (210 + 7 * l + 5) = nI j) ∧ (s (210 + 7 * l + 6) = 0 ∨ s (210 + 7 * l + 6) = 1)) ∧ ∀ l, L ≤ l → l < 40 → s (210 + 7 * l + 6) = 0
def pu_Crl (s : Nat → Int32) : Prop := ∃ R, R ≤ 30 ∧ s 202 = nI R ∧ (∀ r, r < 30 → (∃ a, a < 20 ∧ s (490 + 9 * r + 1) = nI a) ∧ (∃ a, a < 16 ∧ s (490 + 9 * r + 3) = nI a)) ∧ ∀ r, r < R → (∃ a, a < 3 ∧ s (490 + 9 * r + 0) = nI a) ∧ (∃ a, a < 256 ∧ s (490 + 9 * r + 2) = nI a) ∧ (∃ a, a < 2 ∧ s (490 + 9 * r + 4) = nI a) ∧ (∃ a, a < 10000 ∧ s (490 + 9 * r + 5) = nI a ∧ (s (490 + 9 * r + 6) = -1 ∨ s (490 + 9 * r + 5) < s (490 + 9 * r + 6))) ∧ (∃ a, a < 81 ∧ s (490 + 9 * r + 8) = nI a)
def pu_Cbk (s : Nat → Int32) : Prop := ∃ b, b ≤ 30 ∧ s 208 = nI b
def pu_C (s : Nat → Int32) : Prop := pu_Cpar s ∧ pu_Crol s ∧ pu_Cunl s ∧ pu_Cass s ∧ pu_Ctick s ∧ pu_Cln s ∧ pu_Crl s ∧ pu_Cbk s
/-! the class's cells F, its longs' taken loans tk, against the row s -/
def pu_Vatt (F : Nat → Nat → Int32) (s : Nat → Int32) : Prop := (∀ k, k < 64 → F 27 k = s k) ∧ ∀ k, k < 64 → F 28 k = s (64 + k)
def pu_Vpar (F : Nat → Nat → Int32) (s : Nat → Int32) : Prop := ∀ t, t < 16 → F 29 t = s (128 + t)
def pu_Vrol (F : Nat → Nat → Int32) (s : Nat → Int32) : Prop := (∀ r, r < 20 → F 4 r = s (144 + r)) ∧ (∀ r, r < 20 → ∀ q, q < 32 → (pu_bt (F 5 r) q = true ↔ pu_E (F 4) q r)) ∧ pu_CL (F 4) (F 6) ∧ pu_CU (F 4) (F 7) ∧ F 3 7 = s 203
def pu_Vbar (F : Nat → Nat → Int32) (s : Nat → Int32) : Prop := (∀ r, r < 20 → F 31 r = s (164 + r)) ∧ F 2 10 = s 204
def pu_Vass (F : Nat → Nat → Int32) (s : Nat → Int32) : Prop := ∀ u, u < 16 → F 30 u = s (184 + u)
def pu_Vtick (F : Nat → Nat → Int32) (s : Nat → Int32) : Prop := F 2 12 = s 200
def pu_Vln (F : Nat → Nat → Int32) (tk : Int64) (s : Nat → Int32) : Prop := F 11 7 = s 201 ∧ ∀ l, l < 40 → F 12 l = s (210 + 7 * l + 0) ∧ F 13 l = s (210 + 7 * l + 1) ∧ F 14 l = s (210 + 7 * l + 2) ∧ F 15 l = s (210 + 7 * l + 3) ∧ F 16 l = s (210 + 7 * l + 4) ∧ F 17 l = s (210 + 7 * l + 5) ∧ (pu_bl tk l = true ↔ s (210 + 7 * l + 6) ≠ 0)
def pu_Vrl (F : Nat → Nat → Int32) (s : Nat → Int32) : Prop := F 18 11 = s 202 ∧ (∀ r, r < 30 → F 19 r = s (490 + 9 * r + 1) ∧ F 20 r = s (490 + 9 * r + 2) ∧ F 21 r = s (490 + 9 * r + 3) ∧ F 22 r = s (490 + 9 * r + 5) ∧ F 23 r = s (490 + 9 * r + 6) ∧ F 24 r = s (490 + 9 * r + 7) ∧ F 25 r = s (490 + 9 * r + 8)) ∧ (∀ r, r < 32 → (pu_bt (F 18 8) r = true ↔ r < (s 202).toNatClampNeg ∧ s (490 + 9 * r + 0) ≠ 2)) ∧ (∀ r, r < (s 202).toNatClampNeg → (s (490 + 9 * r + 0) ≠ 2 → (pu_bt (F 18 9) r = true ↔ s (490 + 9 * r + 0) = 1)) ∧ (pu_bt (F 18 10) r = true ↔ s (490 + 9 * r + 4) = 1)) ∧ ∀ r, r < (s 202).toNatClampNeg → s (490 + 9 * r + 8) ≠ 0 → ∃ V, pu_Pre (fun j => s (760 + 80 * r + j)) 0 (s (490 + 9 * r + 8)).toNatClampNeg V ∧ pu_Post (fun j => F 26 (r * 80 + j)) 0 (s (490 + 9 * r + 8)).toNatClampNeg V
def pu_Vbk (F : Nat → Nat → Int32) (s : Nat → Int32) : Prop := F 2 11 = s 208 ∧ (∀ j, j < 180 → F 32 j = s (3160 + j)) ∧ ∀ j, j < 3 → F 33 j = s (205 + j)
def pu_V (F : Nat → Nat → Int32) (tk : Int64) (s : Nat → Int32) : Prop := pu_Vatt F s ∧ pu_Vpar F s ∧ pu_Vrol F s ∧ pu_Vbar F s ∧ pu_Vass F s ∧ pu_Vtick F s ∧ pu_Vln F tk s ∧ pu_Vrl F s ∧ pu_Vbk F s
/-! the image, the tape, the grounds -/
def pu_IK (f : Nat → Nat → Int32) (g : Nat → Nat → Int64) : Prop := f 0 9 = f 88 3 ∧ (f 0 9 = 0 ∨ f 0 9 = 1) ∧ ∃ sk, pu_C sk ∧ pu_V (fun k => f (k + 37)) (g 48 6) sk ∧ (f 0 9 = 1 → ∀ j, j < 3340 → f 90 j = sk j)
def pu_IT (f : Nat → Nat → Int32) : Prop := ∃ n, n ≤ 80 ∧ f 75 1 = nI n ∧ f 88 11 = nI n ∧ ∀ j, j < n → f 76 j = f 97 j ∧ ∃ b, 0 < b ∧ b < 256 ∧ f 97 j = nI b
def pu_IG (f : Nat → Nat → Int32) : Prop := ∃ n, n ≤ 62 ∧ f 83 2 = nI n ∧ f 88 23 = nI n ∧ ∀ j, j < n → f 84 j = f 99 j ∧ f 85 j = f 100 j
def pu_I (f : Nat → Nat → Int32) (g : Nat → Nat → Int64) : Prop := pu_C (f 89) ∧ pu_V f (g 11 6) (f 89) ∧ pu_CL (fun r => f 89 (144 + r)) (f 92) ∧ pu_IK f g ∧ pu_IT f ∧ pu_IG f
def pu_Inv (μ : am_M) : Prop := ∃ (f : Nat → Nat → Int32) (g : Nat → Nat → Int64), μ = am_S f g ∧ pu_I f g
/-! what follows at once -/
theorem pu_inb {x : Int32} {n N : Nat} (h : x = nI n) (hn : n < N) (hN : N ≤ 65536) : am_inb x N = true := by rw [h]; exact am_inbN hn hN
theorem pu_cl {x : Int32} {n : Nat} (h : x = nI n) (hn : n < 2147483648) : x = nI x.toNatClampNeg ∧ x.toNatClampNeg = n := by
  subst h
  rw [nI_clamp hn]
  exact ⟨rfl, rfl⟩
theorem pu_mOK {s : Nat → Int32} (hl : pu_Cln s) (hr : pu_Crl s) : am_mOK s := by
  obtain ⟨L, h1, h2, h3, h4⟩ := hl
  obtain ⟨R, g1, g2, g3, g4⟩ := hr
  obtain ⟨e1, e2⟩ := pu_cl h2 (by omega)
  obtain ⟨e3, e4⟩ := pu_cl g2 (by omega)
  refine ⟨e1, by omega, e3, by omega, fun i hi => ?_, fun i hi hn => ?_, fun i hi => ?_⟩
  · obtain ⟨⟨a, a1, a2⟩, -⟩ := h3 i (by omega)
    exact pu_inb a2 a1 (by decide)
  · obtain ⟨-, -, -, -, a, -⟩ := h3 i (by omega)
    rcases a with a | ⟨j, j1, j2⟩
    · rw [a] at hn; exact absurd (by decide) hn
    · exact pu_inb j2 (by omega) (by decide)
  · obtain ⟨-, -, ⟨a, a1, a2⟩, -⟩ := h3 i (by omega)
    exact pu_inb a2 a1 (by decide)
/-- the premises that walks of the class take -/
def pu_PL (F : Nat → Nat → Int32) : Prop := F 11 7 = nI (F 11 7).toNatClampNeg ∧ (F 11 7).toNatClampNeg ≤ 40 ∧ (∀ i, i < (F 11 7).toNatClampNeg → am_inb (F 12 i) 16 = true) ∧ (∀ i, i < (F 11 7).toNatClampNeg → am_inb (F 13 i) 16 = true) ∧ ∀ i, i < (F 11 7).toNatClampNeg → am_inb (F 14 i) 20 = true
def pu_PR (F : Nat → Nat → Int32) : Prop := F 18 11 = nI (F 18 11).toNatClampNeg ∧ (F 18 11).toNatClampNeg ≤ 30 ∧ (∀ i, i < (F 18 11).toNatClampNeg → am_inb (F 19 i) 20 = true) ∧ (∀ i, i < (F 18 11).toNatClampNeg → F 25 i = nI (F 25 i).toNatClampNeg ∧ (F 25 i).toNatClampNeg ≤ 80) ∧ (∀ i, i < 30 → F 21 i = nI (F 21 i).toNatClampNeg ∧ (F 21 i).toNatClampNeg < 16) ∧ ∀ i, i < 30 → am_inb (F 19 i) 20 = true
theorem pu_pl {F : Nat → Nat → Int32} {tk : Int64} {s : Nat → Int32} (hc : pu_Cln s) (hv : pu_Vln F tk s) : pu_PL F := by
  obtain ⟨L, h1, h2, h3, h4⟩ := hc
  obtain ⟨v1, v2⟩ := hv
  obtain ⟨e1, e2⟩ := pu_cl (v1.trans h2) (by omega)
  refine ⟨e1, by omega, fun i hi => ?_, fun i hi => ?_, fun i hi => ?_⟩
  · obtain ⟨⟨a, a1, a2⟩, -⟩ := h3 i (by omega)
    exact pu_inb ((v2 i (by omega)).1.trans a2) a1 (by decide)
  · obtain ⟨-, ⟨a, a1, a2⟩, -⟩ := h3 i (by omega)
    exact pu_inb ((v2 i (by omega)).2.1.trans a2) a1 (by decide)
  · obtain ⟨-, -, ⟨a, a1, a2⟩, -⟩ := h3 i (by omega)
    exact pu_inb ((v2 i (by omega)).2.2.1.trans a2) a1 (by decide)
theorem pu_pr {F : Nat → Nat → Int32} {s : Nat → Int32} (hc : pu_Crl s) (hv : pu_Vrl F s) : pu_PR F := by
  obtain ⟨R, g1, g2, g3, g4⟩ := hc
  obtain ⟨v1, v2, v3, v4, v5⟩ := hv
  obtain ⟨e1, e2⟩ := pu_cl (v1.trans g2) (by omega)
  have hr : ∀ i, i < 30 → am_inb (F 19 i) 20 = true := fun i hi => by
    obtain ⟨⟨a, a1, a2⟩, -⟩ := g3 i hi
    exact pu_inb ((v2 i hi).1.trans a2) a1 (by decide)
  refine ⟨e1, by omega, fun i hi => hr i (by omega), fun i hi => ?_, fun i hi => ?_, hr⟩
  · obtain ⟨-, -, -, -, ⟨a, a1, a2⟩⟩ := g4 i (by omega)
    obtain ⟨d1, d2⟩ := pu_cl ((v2 i (by omega)).2.2.2.2.2.2.trans a2) (by omega)
    exact ⟨d1, by omega⟩
  · obtain ⟨-, ⟨a, a1, a2⟩⟩ := g3 i hi
    obtain ⟨d1, d2⟩ := pu_cl ((v2 i hi).2.2.1.trans a2) (by omega)
    exact ⟨d1, by omega⟩
theorem pu_pp {F : Nat → Nat → Int32} {s : Nat → Int32} (hc : pu_Cpar s) (hv : pu_Vpar F s) : ∀ t, t < 16 → (F 29 t).toInt < 16 := by
  intro t ht
  rw [hv t ht]
  rcases hc.1 t ht with h | ⟨j, j1, j2⟩
  · rw [h]; decide
  · rw [j2, nI_toInt (by omega)]; omega
theorem pu_pb {F : Nat → Nat → Int32} {s : Nat → Int32} (hc : pu_Cbk s) (hv : pu_Vbk F s) : F 2 11 = nI (F 2 11).toNatClampNeg ∧ (F 2 11).toNatClampNeg ≤ 30 := by
  obtain ⟨b, b1, b2⟩ := hc
  obtain ⟨e1, e2⟩ := pu_cl (hv.1.trans b2) (by omega)
  exact ⟨e1, by omega⟩
/-- the reference's closure is the class's -/
theorem pu_dn {F : Nat → Nat → Int32} {s d : Nat → Int32} (hv : pu_Vrol F s) (hd : pu_CL (fun r => s (144 + r)) d) : ∀ r, r < 20 → F 6 r = d r := by
  intro r hr
  refine pu_CL_eq (d := F 4) hv.2.2.1 (fun r hr q hq => ?_) hr
  rw [hd r hr q hq]
  exact pu_R_congr fun r hr => (hv.1 r hr).symm
theorem pu_fill {v : Nat → Int32} {g : Nat → (Nat → Int32) → (Nat → Int32)} (n : Nat) (a : Nat → Int32) (hg : ∀ j x, j < n → g j x = upd x j (v j)) : (∀ j, j < n → am_for g n 0 a j = v j) ∧ ∀ j, n ≤ j → am_for g n 0 a j = a j := by
  exact pu_for0 (fun k x => (∀ j, j < k → x j = v j) ∧ ∀ j, k ≤ j → x j = a j) n a ⟨fun j hj => by omega, fun _ _ => rfl⟩ (fun k x hk ⟨h1, h2⟩ => by
    rw [hg k x hk]
    refine ⟨fun j hj => ?_, fun j hj => ?_⟩
    · by_cases e : j = k
      · subst e; exact pu_us
      · rw [pu_un e]; exact h1 j (by omega)
    · rw [pu_un (by omega)]; exact h2 j (by omega))
/-! settled: what the class knows of its users and loans is what the reference looked up -/
def pu_S (f : Nat → Nat → Int32) (g : Nat → Nat → Int64) (f' : Nat → Nat → Int32) : Prop := (∀ u, u < 16 → f 34 u = fn_m_allUnder (f' 89 (184 + u)) f') ∧ (∀ u, u < 16 → f' 93 u = fn_m_allUnder (f' 89 (184 + u)) f') ∧ (∀ u, u < 16 → f 35 u = fn_m_heldBy_159 u f') ∧ (∀ l, l < (f' 89 201).toNatClampNeg → (f' 96 l = 0 ∨ f' 96 l = 1) ∧ (pu_bl (g 1 5) l = true ↔ f' 96 l = 1)) ∧ (∀ l, (f' 89 201).toNatClampNeg ≤ l → pu_bl (g 1 5) l = false) ∧ f 1 7 = f' 89 200 ∧ f 1 6 = fn_timely (f' 89 200) f
theorem pu_le {f f' : Nat → Nat → Int32} {tk : Int64} {tick : Int32} (hl : pu_Vln f tk (f' 89)) (hc : pu_Cln (f' 89)) (ho : ∀ u, u < 16 → f 34 u = f' 93 u) (ht : tick = f' 89 200) : pu_LE f f' tk tick (f' 89 200) (f' 89 201).toNatClampNeg := by
  obtain ⟨L, h1, h2, h3, h4⟩ := hc
  obtain ⟨v1, v2⟩ := hl
  obtain ⟨e1, e2⟩ := pu_cl h2 (by omega)
  refine ⟨v1.trans e1, e1, by omega, ht, ho, fun l hl => ?_⟩
  obtain ⟨⟨a, a1, a2⟩, ⟨b, b1, b2⟩, ⟨c, c1, c2⟩, -, d, -⟩ := h3 l (by omega)
  obtain ⟨w0, w1, w2, w3, -, w5, w6⟩ := v2 l (by omega)
  refine ⟨w0, w1, w2, w3, w5, pu_inb (w0.trans a2) a1 (by decide), pu_inb (w1.trans b2) b1 (by decide), pu_inb (w2.trans c2) c1 (by decide), ?_, w6⟩
  rcases d with d | ⟨j, j1, j2⟩
  · exact .inl (by rw [w5, d]; decide)
  · exact .inr ⟨j, j1, w5.trans j2⟩
theorem pu_or0L (x : Int64) : (0 : Int64) ||| x = x := pu_extL fun i hi => by rw [pu_orL, pu_0L, Bool.false_or]
/-- a turn to the reference's tick, what is assigned being settled -/
theorem pu_turn {f f' : Nat → Nat → Int32} {g : Nat → Nat → Int64} (hl : pu_Vln f (g 11 6) (f' 89)) (hc : pu_Cln (f' 89)) (hd : ∀ r, r < 20 → f 6 r = f' 92 r) (ho : ∀ u, u < 16 → f 34 u = fn_m_allUnder (f' 89 (184 + u)) f') (y : (Nat → Int32) × (Nat → Int32) × (Nat → Int64)) (hy : y = fn_turnTo (f' 89 200) f g) (w : (Nat → Int32) × (Nat → Int32)) (hw : w = fn_m_stand_155 f') : pu_S (am_row (am_row f 1 y.1) 35 y.2.1) (am_row g 1 y.2.2) (am_row (am_row f' 93 w.1) 96 w.2) := by
  subst hy; subst hw
  have hst : ∀ u, u < 16 → lf_m_stand_155_2 f' u = fn_m_allUnder (f' 89 (184 + u)) f' := (pu_fill (v := fun u => fn_m_allUnder (f' 89 (184 + u)) f') (g := st_m_stand_155_2 f') 16 (f' 93) (fun _ _ _ => rfl)).1
  have hL := pu_le (f := am_row f 1 (upd (upd (f 1) 7 (f' 89 200)) 6 (fn_timely (f' 89 200) (am_row f 1 (upd (f 1) 7 (f' 89 200)))))) (f' := am_row f' 93 (lf_m_stand_155_2 f')) (tk := (0 : Int64) ||| g 11 6) (tick := f' 89 200) (by rw [pu_or0L]; exact hl) hc (fun u hu => by
    show f 34 u = lf_m_stand_155_2 f' u
    rw [ho u hu, hst u hu]) rfl
  have hLL : ∃ L, (f' 89 201).toNatClampNeg = L ∧ f' 89 201 = nI L ∧ L ≤ 40 := by
    obtain ⟨L, h1, h2, h3, h4⟩ := hc
    exact ⟨_, rfl, (pu_cl h2 (by omega)).1, by have := (pu_cl h2 (by omega)).2; omega⟩
  obtain ⟨L, q1, q2, q3⟩ := hLL
  have hL2 : pu_LE (am_row f 1 (upd (upd (f 1) 7 (f' 89 200)) 6 (fn_timely (f' 89 200) (am_row f 1 (upd (f 1) 7 (f' 89 200)))))) (am_row f' 93 (lf_m_stand_155_2 f')) ((0 : Int64) ||| g 11 6) (upd (upd (f 1) 7 (f' 89 200)) 6 (fn_timely (f' 89 200) (am_row f 1 (upd (f 1) 7 (f' 89 200)))) 7) (f' 89 200) (f' 89 201).toNatClampNeg := by
    rw [show upd (upd (f 1) 7 (f' 89 200)) 6 (fn_timely (f' 89 200) (am_row f 1 (upd (f 1) 7 (f' 89 200)))) 7 = f' 89 200 from (pu_un (by decide)).trans pu_us]
    exact hL
  have hm := pu_loans hL2
  obtain ⟨m1, m2, m3, m4⟩ := hm
  refine ⟨ho, hst, fun u hu => ?_, m1, m2, (show upd (upd (f 1) 7 (f' 89 200)) 6 (fn_timely (f' 89 200) (am_row f 1 (upd (f 1) 7 (f' 89 200)))) 7 = f' 89 200 from (pu_un (by decide)).trans pu_us), (show upd (upd (f 1) 7 (f' 89 200)) 6 (fn_timely (f' 89 200) (am_row f 1 (upd (f 1) 7 (f' 89 200)))) 6 = _ from pu_us)⟩
  refine pu_held (f := f) (f' := am_row (am_row f' 93 (lf_m_stand_155_2 f')) 96 (fn_m_standAgain_157 (am_row f' 93 (lf_m_stand_155_2 f')))) (held := (fn_settleLoans (0 : Int64) (am_row f 1 (upd (upd (f 1) 7 (f' 89 200)) 6 (fn_timely (f' 89 200) (am_row f 1 (upd (f 1) 7 (f' 89 200)))))) g).1) (L := L) hu q2 q3 hd (ho u hu) (fun l hl => ?_) (fun l hl => (m1 l (by omega)).1) (fun q hq => ?_)
  · obtain ⟨-, b, c, -, -, -, -, d, -⟩ := hL.2.2.2.2.2 l (by show l < (f' 89 201).toNatClampNeg; omega)
    exact ⟨b, c, d⟩
  · have := m3 u hu q hq
    rw [q1] at this
    exact this
theorem pu_settle {f f' : Nat → Nat → Int32} {g : Nat → Nat → Int64} (hl : pu_Vln f (g 11 6) (f' 89)) (hc : pu_Cln (f' 89)) (ha : pu_Vass f (f' 89)) (hd : ∀ r, r < 20 → f 6 r = f' 92 r) (y : (Nat → Int32) × (Nat → Int32) × (Nat → Int32) × (Nat → Int64)) (hy : y = fn_settle (f' 89 200) f g) (w : (Nat → Int32) × (Nat → Int32)) (hw : w = fn_m_stand_155 f') : pu_S (am_row (am_row (am_row f 1 y.1) 34 y.2.1) 35 y.2.2.1) (am_row g 1 y.2.2.2) (am_row (am_row f' 93 w.1) 96 w.2) := by
  subst hy
  have hst : ∀ u, u < 16 → lf_settle_2 f u = fn_m_allUnder (f' 89 (184 + u)) f' := fun u hu => by
    have h := (pu_fill (v := fun u => fn_spread (f 30 u) f) (g := st_settle_2 f) 16 (f 34) (fun _ _ _ => rfl)).1 u hu
    unfold lf_settle_2
    rw [h, ha u hu]
    exact pu_spread hd _
  have h := pu_turn (f := am_row f 34 (lf_settle_2 f)) (f' := f') (g := g) hl hc hd hst _ rfl w hw
  exact h
/-- all that are looked up at once -/
theorem pu_holders {f' : Nat → Nat → Int32} : (fn_m_holders_154 f').1 = (fn_m_stand_155 f').1 ∧ (fn_m_holders_154 f').2.2 = (fn_m_stand_155 f').2 ∧ ∀ u, u < 16 → (fn_m_holders_154 f').2.1 u = fn_m_heldBy_159 u (am_row (am_row f' 93 (fn_m_stand_155 f').1) 96 (fn_m_stand_155 f').2) := by
  refine ⟨rfl, rfl, fun u hu => ?_⟩
  exact (pu_fill (v := fun u => fn_m_heldBy_159 u (am_row (am_row f' 93 (fn_m_stand_155 f').1) 96 (fn_m_stand_155 f').2)) (g := st_m_holders_154_6 f' (fn_m_stand_155 f')) 16 (f' 94) (fun _ _ _ => rfl)).1 u hu
