/-! THE CONSTRUCTORS -/
set_option linter.unusedVariables false
def bo_t : List (Nat × Nat) → Nat → Nat
  | [], _ => 0
  | q :: l, a => bif Nat.beq a q.1 then q.2 else bo_t l a
/-- a memory on the way: n objects are there, of object k the references below bo_t l k are set -/
def bo_T (n : Nat) (l : List (Nat × Nat)) (f : Nat → Nat → Int32) (g : Nat → Nat → Int64) (s : Nat) : am_M := (f, g, fun k j => bif Nat.blt j (bo_t l k) then am_mr0 k j else none, fun k => bif Nat.blt k n then am_kd0 k else (0, 0), n, s)
def bo_f0 : Nat → Nat → Int32 := fun _ _ => 0
def bo_g : Nat → Nat → Int64 := fun _ _ => 0
theorem bo_five {a a' : Nat → Nat → Int32} {b b' : Nat → Nat → Int64} {c c' : Nat → Nat → Option Nat} {d d' : Nat → Nat × Nat} {n n' s s' : Nat} (h1 : a = a') (h2 : b = b') (h3 : c = c') (h4 : d = d') (h5 : n = n') (h6 : s = s') : ((a, b, c, d, n, s) : am_M) = (a', b', c', d', n', s') := by subst h1; subst h2; subst h3; subst h4; subst h5; subst h6; rfl
theorem bo_F {d pc : Nat} {code : am_K} {L S : List Value} {μ μ' : am_M} {res : Option Value × am_M} (e : μ = μ') (g : am_F d code pc L S μ' res) : am_F d code pc L S μ res := by subst e; exact g
section
variable {n n' s s' z N m k j : Nat} {l : List (Nat × Nat)} {f : Nat → Nat → Int32} {g : Nat → Nat → Int64}
theorem bo_mk (h : am_kd0 n = (z, N)) (hf : f n = fun _ => 0) (hg : g n = fun _ => 0) (ht : bo_t l n = 0) (hn : n + 1 = n') (hs : s + m = s') : am_mk (bo_T n l f g s) z N m = bo_T n' l f g s' := by
  subst hn; subst hs
  refine bo_five ?_ ?_ ?_ ?_ rfl rfl
  · funext a
    by_cases c : a = n
    · subst c
      show (bif Nat.beq a a then (fun _ => 0) else f a) = f a
      rw [am_beq_s, hf]; rfl
    · show (bif Nat.beq a n then (fun _ => 0) else f a) = f a
      rw [am_beq_n c]; rfl
  · funext a
    by_cases c : a = n
    · subst c
      show (bif Nat.beq a a then (fun _ => 0) else g a) = g a
      rw [am_beq_s, hg]; rfl
    · show (bif Nat.beq a n then (fun _ => 0) else g a) = g a
      rw [am_beq_n c]; rfl
  · funext a
    by_cases c : a = n
    · subst c
      show (bif Nat.beq a a then (fun _ => none) else fun j => bif Nat.blt j (bo_t l a) then am_mr0 a j else none) = fun j => bif Nat.blt j (bo_t l a) then am_mr0 a j else none
      rw [am_beq_s, ht]
      funext j
      have h0 : Nat.blt j 0 = false := by
        cases hb : Nat.blt j 0 with
        | false => rfl
        | true => exact absurd (Nat.le_of_ble_eq_true hb) (by omega)
      show none = bif Nat.blt j 0 then am_mr0 a j else none
      rw [h0]; rfl
    · show (bif Nat.beq a n then (fun _ => none) else fun j => bif Nat.blt j (bo_t l a) then am_mr0 a j else none) = _
      rw [am_beq_n c]; rfl
  · funext a
    by_cases c : a = n
    · subst c
      show (bif Nat.beq a a then (z, N) else bif Nat.blt a a then am_kd0 a else (0, 0)) = bif Nat.blt a (a + 1) then am_kd0 a else (0, 0)
      rw [am_beq_s, show Nat.blt a (a + 1) = true from Nat.ble_eq_true_of_le (Nat.le_refl _), h]; rfl
    · show (bif Nat.beq a n then (z, N) else bif Nat.blt a n then am_kd0 a else (0, 0)) = bif Nat.blt a (n + 1) then am_kd0 a else (0, 0)
      rw [am_beq_n c]
      have e : Nat.blt a n = Nat.blt a (n + 1) := by
        cases h1 : Nat.blt a n with
        | true => exact (Nat.ble_eq_true_of_le (by have := Nat.le_of_ble_eq_true h1; omega)).symm
        | false =>
          cases h2 : Nat.blt a (n + 1) with
          | false => rfl
          | true =>
            have q := Nat.le_of_ble_eq_true h2
            rw [show Nat.blt a n = true from Nat.ble_eq_true_of_le (by omega)] at h1
            cases h1
      rw [e]; rfl
theorem bo_setr {l' : List (Nat × Nat)} {x : Nat} (h : am_mr0 k j = some x) (ht : bo_t l k ≤ j) (hn : ∀ i, i < j → bo_t l k ≤ i → am_mr0 k i = none) (h1 : ∀ a, a ≠ k → bo_t l' a = bo_t l a) (h2 : bo_t l' k = j + 1) : am_setr (bo_T n l f g s) k j (some x) = bo_T n l' f g s := by
  refine bo_five rfl rfl ?_ rfl rfl rfl
  funext a
  by_cases c : a = k
  · subst c
    show (bif Nat.beq a a then va_up (fun i => bif Nat.blt i (bo_t l a) then am_mr0 a i else none) j (some x) else fun i => bif Nat.blt i (bo_t l a) then am_mr0 a i else none) = fun i => bif Nat.blt i (bo_t l' a) then am_mr0 a i else none
    rw [am_beq_s]
    funext i
    show va_up (fun i => bif Nat.blt i (bo_t l a) then am_mr0 a i else none) j (some x) i = _
    rw [h2]
    by_cases ci : i = j
    · subst ci
      rw [show Nat.blt i (i + 1) = true from Nat.ble_eq_true_of_le (Nat.le_refl _), h]
      exact va_up_self _ _ _
    · rw [va_up_ne _ _ ci]
      by_cases cj : i < j
      · rw [show Nat.blt i (j + 1) = true from Nat.ble_eq_true_of_le (by omega)]
        by_cases ck : i < bo_t l a
        · rw [show Nat.blt i (bo_t l a) = true from Nat.ble_eq_true_of_le (by omega)]
        · have hb : Nat.blt i (bo_t l a) = false := by
            cases hb : Nat.blt i (bo_t l a) with
            | false => rfl
            | true => exact absurd (Nat.le_of_ble_eq_true hb) (by omega)
          rw [hb, hn i cj (by omega)]; rfl
      · have hb : Nat.blt i (bo_t l a) = false := by
          cases hb : Nat.blt i (bo_t l a) with
          | false => rfl
          | true => exact absurd (Nat.le_of_ble_eq_true hb) (by omega)
        have hb2 : Nat.blt i (j + 1) = false := by
          cases hb : Nat.blt i (j + 1) with
          | false => rfl
          | true => exact absurd (Nat.le_of_ble_eq_true hb) (by omega)
        rw [hb, hb2]
  · show (bif Nat.beq a k then va_up (fun i => bif Nat.blt i (bo_t l k) then am_mr0 k i else none) j (some x) else fun i => bif Nat.blt i (bo_t l a) then am_mr0 a i else none) = fun i => bif Nat.blt i (bo_t l' a) then am_mr0 a i else none
    rw [am_beq_n c, h1 a c]; rfl
theorem bo_setr0 {x : Nat} (h : am_mr0 k j = some x) (ht : bo_t l k ≤ j) (hn : ∀ i, i < j → bo_t l k ≤ i → am_mr0 k i = none) : am_setr (bo_T n l f g s) k j (some x) = bo_T n ((k, j + 1) :: l) f g s := by
  refine bo_setr h ht hn (fun a c => ?_) ?_
  · show (bif Nat.beq a k then j + 1 else bo_t l a) = _
    rw [am_beq_n c]; rfl
  · show (bif Nat.beq k k then j + 1 else bo_t l k) = _
    rw [am_beq_s]; rfl
theorem bo_setr1 {x i0 : Nat} (h : am_mr0 k j = some x) (ht : bo_t ((k, i0) :: l) k ≤ j) (hn : ∀ i, i < j → bo_t ((k, i0) :: l) k ≤ i → am_mr0 k i = none) : am_setr (bo_T n ((k, i0) :: l) f g s) k j (some x) = bo_T n ((k, j + 1) :: l) f g s := by
  refine bo_setr h ht hn (fun a c => ?_) ?_
  · show (bif Nat.beq a k then j + 1 else bo_t l a) = bif Nat.beq a k then i0 else bo_t l a
    rw [am_beq_n c]; rfl
  · show (bif Nat.beq k k then j + 1 else bo_t l k) = _
    rw [am_beq_s]; rfl
theorem bo_seti0 (hf : f k = fun _ => 0) : am_seti (bo_T n l f g s) k j 0 = bo_T n l f g s := by
  refine bo_five ?_ rfl rfl rfl rfl rfl
  funext a
  by_cases c : a = k
  · subst c
    show (bif Nat.beq a a then upd (f a) j 0 else f a) = f a
    rw [am_beq_s, hf]
    funext i
    by_cases ci : i = j
    · subst ci
      show upd (fun _ => 0) i 0 i = 0
      rw [pu_us]
    · show upd (fun _ => 0) j 0 i = 0
      rw [pu_un ci]
  · show (bif Nat.beq a k then upd (f k) j 0 else f a) = f a
    rw [am_beq_n c]; rfl
theorem bo_setl0 (hg : g k = fun _ => 0) : am_setl (bo_T n l f g s) k j 0 = bo_T n l f g s := by
  refine bo_five rfl ?_ rfl rfl rfl rfl
  funext a
  by_cases c : a = k
  · subst c
    show (bif Nat.beq a a then vp_updL (g a) j 0 else g a) = g a
    rw [am_beq_s, hg]
    funext i
    by_cases ci : i = j
    · subst ci
      show vp_updL (fun _ => 0) i 0 i = 0
      exact pk_uLs
    · show vp_updL (fun _ => 0) j 0 i = 0
      exact pk_uLn ci
  · show (bif Nat.beq a k then vp_updL (g k) j 0 else g a) = g a
    rw [am_beq_n c]; rfl
theorem bo_F.iasE {d pc q : Nat} {code : am_K} {L S : List Value} {res : Option Value × am_M} {F F' : Nat → Nat → Int32} {x y : Int32} (h : am_look pc code = some (.inl (am_ias q))) (hk : am_is (bo_T n l F g s) k 0 = true) (hN : (am_kd (bo_T n l F g s) k).2 = N) (ex : x = nI m) (hm : m < N) (h6 : N ≤ 65536) (e : am_ui F k m y = F') (G : am_F d code q L S (bo_T n l F' g s) res) : am_F d code pc L (.int y :: .int x :: .ref k :: S) (bo_T n l F g s) res := by
  subst ex
  refine am_F.op h ?_ G
  show (bif am_is (bo_T n l F g s) k 0 && am_inb (nI m) (am_kd (bo_T n l F g s) k).2 then some (q, L, S, am_seti (bo_T n l F g s) k (nI m).toNatClampNeg y) else none) = _
  rw [hk, hN, am_inbN hm h6, nI_clamp (by omega), ← e]
  rfl
theorem bo_F.mem {d pc : Nat} {code : am_K} {L S : List Value} {res : Option Value × am_M} {F F' : Nat → Nat → Int32} {G' : Nat → Nat → Int64} (G : am_F d code pc L S (bo_T n l F' G' s) res) (e1 : F = F') (e2 : g = G') : am_F d code pc L S (bo_T n l F g s) res := by subst e1; subst e2; exact G
end

theorem bo_S {l : List (Nat × Nat)} {f : Nat → Nat → Int32} {g : Nat → Nat → Int64} (h : ∀ k, k < 105 → (am_nth am_mrl k []).length ≤ bo_t l k) : bo_T 105 l f g 20371 = am_S f g := by
  have h0 : ∀ (α : Type) (d : α) (L : List α) (i : Nat), L.length ≤ i → am_nth L i d = d := by
    intro α d L
    induction L with
    | nil => intro i _; rfl
    | cons y L ih =>
      intro i hi
      cases i with
      | zero => simp at hi
      | succ i => exact ih i (by simp at hi; omega)
  refine bo_five rfl rfl ?_ ?_ rfl rfl
  · funext k j
    by_cases c : j < bo_t l k
    · rw [show Nat.blt j (bo_t l k) = true from Nat.ble_eq_true_of_le (by omega)]; rfl
    · have hb : Nat.blt j (bo_t l k) = false := by
        cases hb : Nat.blt j (bo_t l k) with
        | false => rfl
        | true => exact absurd (Nat.le_of_ble_eq_true hb) (by omega)
      rw [hb]
      show none = am_nth (am_nth am_mrl k []) j none
      by_cases ck : k < 105
      · rw [h0 _ _ _ _ (Nat.le_trans (h k ck) (by omega))]
      · rw [h0 _ [] am_mrl k (Nat.le_trans (show am_mrl.length ≤ 105 by decide) (by omega))]; rfl
  · funext k
    by_cases ck : k < 105
    · rw [show Nat.blt k 105 = true from Nat.ble_eq_true_of_le (by omega)]; rfl
    · have hb : Nat.blt k 105 = false := by
        cases hb : Nat.blt k 105 with
        | false => rfl
        | true => exact absurd (Nat.le_of_ble_eq_true hb) (by omega)
      rw [hb]
      exact (h0 _ _ am_kdl k (Nat.le_trans (show am_kdl.length ≤ 105 by decide) (by omega))).symm

theorem bo_has (x : Int32) (n : Int32) (μ : am_M) : am_D 0 5 2 [.int x, .int n] (μ) (some (Value.int (am_b (fn_has x n))), μ) := by
  refine am_D.of (code := am_k_5) rfl (L0 := [.int x, .int n]) rfl ?_
  generalize hres : (some (Value.int (am_b (fn_has x n))), μ) = res
  obtain ⟨K, hKd⟩ : ∃ K : Bool → Prop, K = fun z => (some (Value.int (am_b z)), μ) = res := ⟨_, rfl⟩
  have hK : K (fn_has x n) := by rw [hKd]; exact hres
  clear hres
  unfold fn_has at hK
  refine am_F.ops (pc' := 5) (L' := [.int x, .int n]) (S' := [.int ((x >>> (n &&& 31)) &&& 1)]) (μ' := (μ)) 5 rfl ?_
  refine am_F.to (am_To.iteB (pc' := 13) (L2 := [.int x, .int n]) (S2 := []) (μ2 := (μ)) (a := false) (b := true) 1 rfl (fun c1 => ?_) (fun c1 => ?_)) ?_
  · intro res9 g9
    show am_F _ _ 12 [.int x, .int n] [] (μ) _
    refine am_F.ops (pc' := 13) (L' := [.int x, .int n]) (S' := [.int 0]) (μ' := (μ)) 1 rfl ?_
    exact g9
  · intro res9 g9
    show am_F _ _ 8 [.int x, .int n] [] (μ) _
    refine am_F.ops (pc' := 13) (L' := [.int x, .int n]) (S' := [.int 1]) (μ' := (μ)) 2 rfl ?_
    exact g9
  show am_F _ _ 13 [.int x, .int n] [.int (am_b (if ((x >>> (n &&& 31)) &&& 1) = 0 then false else true))] (μ) _
  subst hKd
  exact am_F.eq (am_F.ret rfl (am_retB _ _)) hK

abbrev bo_SA (f : Nat → Nat → Int32) (g : Nat → Nat → Int64) : am_M := bo_T 11 [(3, 7)] f g 179
/-- AccessLattice$Roles.close -/
def st_closeA_2 (f : Nat → Nat → Int32) : Nat → (Nat → Int32) × (Nat → Int32) → (Nat → Int32) × (Nat → Int32) := fun i2 z => match z with
  | (r2_6, r2_7) => (upd r2_6 i2 ((f 4 i2) ||| (1 <<< ((nI i2) &&& 31))), upd r2_7 i2 ((f 5 i2) ||| (1 <<< ((nI i2) &&& 31))))
def lf_closeA_2 (f : Nat → Nat → Int32) : (Nat → Int32) × (Nat → Int32) := am_for (st_closeA_2 f) 20 0 (f 6, f 7)
def st_closeA_56 (i48 : Nat) : Nat → (Nat → Int32) × (Nat → Int32) → (Nat → Int32) × (Nat → Int32) := fun i56 z => match z with
  | (r56_6, r56_7) => (bif (fn_has (r56_6 i56) (nI i48)) then (bif (fn_has (r56_7 i56) (nI i48)) then (upd r56_6 i56 ((r56_6 i56) ||| (r56_6 i48)), upd r56_7 i56 ((r56_7 i56) ||| (r56_7 i48))) else (upd r56_6 i56 ((r56_6 i56) ||| (r56_6 i48)), r56_7)) else (bif (fn_has (r56_7 i56) (nI i48)) then (r56_6, upd r56_7 i56 ((r56_7 i56) ||| (r56_7 i48))) else (r56_6, r56_7)))
def lf_closeA_56 (i48 : Nat) (r48_6 : Nat → Int32) (r48_7 : Nat → Int32) : (Nat → Int32) × (Nat → Int32) := am_for (st_closeA_56 i48) 20 0 (r48_6, r48_7)
def st_closeA_48  : Nat → (Nat → Int32) × (Nat → Int32) → (Nat → Int32) × (Nat → Int32) := fun i48 z => match z with
  | (r48_6, r48_7) => ((lf_closeA_56 i48 r48_6 r48_7).1, (lf_closeA_56 i48 r48_6 r48_7).2)
def lf_closeA_48 (z2_1 : (Nat → Int32) × (Nat → Int32)) : (Nat → Int32) × (Nat → Int32) := am_for st_closeA_48 20 0 (z2_1.1, z2_1.2)
def fn_closeA (f : Nat → Nat → Int32) : (Nat → Int32) × (Nat → Int32) := ((lf_closeA_48 (lf_closeA_2 f)).1, (lf_closeA_48 (lf_closeA_2 f)).2)
theorem lp_closeA_2 (f : Nat → Nat → Int32) (g : Nat → Nat → Int64)  (res : Option Value × am_M) : ∀ (n i2 : Nat) (r2_6 : Nat → Int32) (r2_7 : Nat → Int32) , i2 + n = 20 → (fun (z : (Nat → Int32) × (Nat → Int32)) => ∀ (wc : Value), am_F 1 am_k_4 46 [.ref 3, wc, am_un] [] (bo_SA (am_row (am_row f 6 z.1) 7 z.2) g) res) (am_for (st_closeA_2 f) n i2 (r2_6, r2_7)) → am_F 1 am_k_4 2 [.ref 3, .int (nI i2), am_un] [] (bo_SA (am_row (am_row f 6 r2_6) 7 r2_7) g) res := by
  intro n
  induction n with
  | zero =>
    intro i2 r2_6 r2_7 hi hK
    refine am_F.pos 3 rfl (by show 20 ≤ nI i2; rw [show (20 : Int32) = nI 20 from rfl]; exact nI_le (by omega) (by omega)) ?_
    exact hK _
  | succ n ih =>
    intro i2 r2_6 r2_7 hi hK
    refine am_F.neg 3 rfl (by show ¬ 20 ≤ nI i2; rw [show (20 : Int32) = nI 20 from rfl]; exact nI_ge (by omega) (by omega)) ?_
    have hb2 : i2 < 20 := by omega
    show am_F _ _ 8 [.ref 3, .int (nI i2), am_un] [] (bo_SA (am_row (am_row f 6 r2_6) 7 r2_7) g) _
    obtain ⟨K, hKd⟩ : ∃ K : ((Nat → Int32) × (Nat → Int32)) → Prop, K = fun s => (fun (z : (Nat → Int32) × (Nat → Int32)) => ∀ (wc : Value), am_F 1 am_k_4 46 [.ref 3, wc, am_un] [] (bo_SA (am_row (am_row f 6 z.1) 7 z.2) g) res) (am_for (st_closeA_2 f) n (i2 + 1) s) := ⟨_, rfl⟩
    have hK : K ((st_closeA_2 f) i2 (r2_6, r2_7)) := by rw [hKd]; exact hK
    unfold st_closeA_2 at hK
    simp only at hK
    refine am_F.ops (pc' := 18) (L' := [.ref 3, .int (nI i2), am_un]) (S' := [.int (nI i2), .ref 4, .int (nI i2), .ref 6]) (μ' := (bo_SA (am_row (am_row f 6 r2_6) 7 r2_7) g)) 6 rfl ?_
    refine am_F.ialE (m := i2) (N := 20) rfl rfl rfl rfl (by omega) (by decide) ?_
    show am_F _ _ 19 [.ref 3, .int (nI i2), am_un] [.int (f 4 i2), .int (nI i2), .ref 6] (bo_SA (am_row (am_row f 6 r2_6) 7 r2_7) g) _
    refine am_F.ops (pc' := 23) (L' := [.ref 3, .int (nI i2), am_un]) (S' := [.int ((f 4 i2) ||| (1 <<< ((nI i2) &&& 31))), .int (nI i2), .ref 6]) (μ' := (bo_SA (am_row (am_row f 6 r2_6) 7 r2_7) g)) 4 rfl ?_
    refine bo_F.iasE (F' := (am_row (am_row f 6 (upd r2_6 i2 ((f 4 i2) ||| (1 <<< ((nI i2) &&& 31))))) 7 r2_7)) (m := i2) (N := 20) rfl rfl rfl rfl (by omega) (by decide) (by first | rfl | (funext a; by_cases z0 : a = 6; (subst z0; rfl); by_cases z1 : a = 7; (subst z1; rfl); simp only [am_ui, am_ul, am_row_ne z0, am_row_ne z1])) ?_
    refine am_F.ops (pc' := 34) (L' := [.ref 3, .int (nI i2), am_un]) (S' := [.int (nI i2), .ref 5, .int (nI i2), .ref 7]) (μ' := (bo_SA (am_row (am_row f 6 (upd r2_6 i2 ((f 4 i2) ||| (1 <<< ((nI i2) &&& 31))))) 7 r2_7) g)) 6 rfl ?_
    refine am_F.ialE (m := i2) (N := 20) rfl rfl rfl rfl (by omega) (by decide) ?_
    show am_F _ _ 35 [.ref 3, .int (nI i2), am_un] [.int (f 5 i2), .int (nI i2), .ref 7] (bo_SA (am_row (am_row f 6 (upd r2_6 i2 ((f 4 i2) ||| (1 <<< ((nI i2) &&& 31))))) 7 r2_7) g) _
    refine am_F.ops (pc' := 39) (L' := [.ref 3, .int (nI i2), am_un]) (S' := [.int ((f 5 i2) ||| (1 <<< ((nI i2) &&& 31))), .int (nI i2), .ref 7]) (μ' := (bo_SA (am_row (am_row f 6 (upd r2_6 i2 ((f 4 i2) ||| (1 <<< ((nI i2) &&& 31))))) 7 r2_7) g)) 4 rfl ?_
    refine bo_F.iasE (F' := (am_row (am_row f 6 (upd r2_6 i2 ((f 4 i2) ||| (1 <<< ((nI i2) &&& 31))))) 7 (upd r2_7 i2 ((f 5 i2) ||| (1 <<< ((nI i2) &&& 31)))))) (m := i2) (N := 20) rfl rfl rfl rfl (by omega) (by decide) (by first | rfl | (funext a; by_cases z0 : a = 6; (subst z0; rfl); by_cases z1 : a = 7; (subst z1; rfl); simp only [am_ui, am_ul, am_row_ne z0, am_row_ne z1])) ?_
    refine am_F.ops (pc' := 2) (L' := [.ref 3, .int ((nI i2) + 1), am_un]) (S' := []) (μ' := (bo_SA (am_row (am_row f 6 (upd r2_6 i2 ((f 4 i2) ||| (1 <<< ((nI i2) &&& 31))))) 7 (upd r2_7 i2 ((f 5 i2) ||| (1 <<< ((nI i2) &&& 31))))) g)) 2 rfl ?_
    rw [nI_1 i2]
    subst hKd
    exact ih (i2 + 1) (upd r2_6 i2 ((f 4 i2) ||| (1 <<< ((nI i2) &&& 31)))) (upd r2_7 i2 ((f 5 i2) ||| (1 <<< ((nI i2) &&& 31)))) (by omega)  hK
theorem lp_closeA_56 (f : Nat → Nat → Int32) (g : Nat → Nat → Int64) (z2_1 : (Nat → Int32) × (Nat → Int32)) (i48 : Nat) (r48_6 : Nat → Int32) (r48_7 : Nat → Int32) (hb48 : i48 < 20) (res : Option Value × am_M) : ∀ (n i56 : Nat) (r56_6 : Nat → Int32) (r56_7 : Nat → Int32) , i56 + n = 20 → (fun (z : (Nat → Int32) × (Nat → Int32)) => ∀ (wc : Value), am_F 1 am_k_4 124 [.ref 3, .int (nI i48), wc] [] (bo_SA (am_row (am_row f 6 z.1) 7 z.2) g) res) (am_for (st_closeA_56 i48) n i56 (r56_6, r56_7)) → am_F 1 am_k_4 56 [.ref 3, .int (nI i48), .int (nI i56)] [] (bo_SA (am_row (am_row f 6 r56_6) 7 r56_7) g) res := by
  intro n
  induction n with
  | zero =>
    intro i56 r56_6 r56_7 hi hK
    refine am_F.pos 3 rfl (by show 20 ≤ nI i56; rw [show (20 : Int32) = nI 20 from rfl]; exact nI_le (by omega) (by omega)) ?_
    exact hK _
  | succ n ih =>
    intro i56 r56_6 r56_7 hi hK
    refine am_F.neg 3 rfl (by show ¬ 20 ≤ nI i56; rw [show (20 : Int32) = nI 20 from rfl]; exact nI_ge (by omega) (by omega)) ?_
    have hb56 : i56 < 20 := by omega
    show am_F _ _ 62 [.ref 3, .int (nI i48), .int (nI i56)] [] (bo_SA (am_row (am_row f 6 r56_6) 7 r56_7) g) _
    obtain ⟨K, hKd⟩ : ∃ K : ((Nat → Int32) × (Nat → Int32)) → Prop, K = fun s => (fun (z : (Nat → Int32) × (Nat → Int32)) => ∀ (wc : Value), am_F 1 am_k_4 124 [.ref 3, .int (nI i48), wc] [] (bo_SA (am_row (am_row f 6 z.1) 7 z.2) g) res) (am_for (st_closeA_56 i48) n (i56 + 1) s) := ⟨_, rfl⟩
    have hK : K ((st_closeA_56 i48) i56 (r56_6, r56_7)) := by rw [hKd]; exact hK
    unfold st_closeA_56 at hK
    simp only at hK
    refine am_F.ops (pc' := 67) (L' := [.ref 3, .int (nI i48), .int (nI i56)]) (S' := [.int (nI i56), .ref 6]) (μ' := (bo_SA (am_row (am_row f 6 r56_6) 7 r56_7) g)) 3 rfl ?_
    refine am_F.ialE (m := i56) (N := 20) rfl rfl rfl rfl (by omega) (by decide) ?_
    show am_F _ _ 68 [.ref 3, .int (nI i48), .int (nI i56)] [.int (r56_6 i56)] (bo_SA (am_row (am_row f 6 r56_6) 7 r56_7) g) _
    refine am_F.ops (pc' := 69) (L' := [.ref 3, .int (nI i48), .int (nI i56)]) (S' := [.int (nI i48), .int (r56_6 i56)]) (μ' := (bo_SA (am_row (am_row f 6 r56_6) 7 r56_7) g)) 1 rfl ?_
    refine am_F.call rfl rfl (bo_has (r56_6 i56) (nI i48) (bo_SA (am_row (am_row f 6 r56_6) 7 r56_7) g)) (by decide) ?_
    show am_F _ _ 72 [.ref 3, .int (nI i48), .int (nI i56)] [.int (am_b (fn_has (r56_6 i56) (nI i48)))] (bo_SA (am_row (am_row f 6 r56_6) 7 r56_7) g) _
    refine am_F.bifK 1 rfl K hK (fun c22 hK => ?_) (fun c22 hK => ?_)
    · show am_F _ _ 75 [.ref 3, .int (nI i48), .int (nI i56)] [] (bo_SA (am_row (am_row f 6 r56_6) 7 r56_7) g) _
      refine am_F.ops (pc' := 81) (L' := [.ref 3, .int (nI i48), .int (nI i56)]) (S' := [.int (nI i56), .ref 6, .int (nI i56), .ref 6]) (μ' := (bo_SA (am_row (am_row f 6 r56_6) 7 r56_7) g)) 4 rfl ?_
      refine am_F.ialE (m := i56) (N := 20) rfl rfl rfl rfl (by omega) (by decide) ?_
      show am_F _ _ 82 [.ref 3, .int (nI i48), .int (nI i56)] [.int (r56_6 i56), .int (nI i56), .ref 6] (bo_SA (am_row (am_row f 6 r56_6) 7 r56_7) g) _
      refine am_F.ops (pc' := 87) (L' := [.ref 3, .int (nI i48), .int (nI i56)]) (S' := [.int (nI i48), .ref 6, .int (r56_6 i56), .int (nI i56), .ref 6]) (μ' := (bo_SA (am_row (am_row f 6 r56_6) 7 r56_7) g)) 3 rfl ?_
      refine am_F.ialE (m := i48) (N := 20) rfl rfl rfl rfl (by omega) (by decide) ?_
      show am_F _ _ 88 [.ref 3, .int (nI i48), .int (nI i56)] [.int (r56_6 i48), .int (r56_6 i56), .int (nI i56), .ref 6] (bo_SA (am_row (am_row f 6 r56_6) 7 r56_7) g) _
      refine am_F.ops (pc' := 89) (L' := [.ref 3, .int (nI i48), .int (nI i56)]) (S' := [.int ((r56_6 i56) ||| (r56_6 i48)), .int (nI i56), .ref 6]) (μ' := (bo_SA (am_row (am_row f 6 r56_6) 7 r56_7) g)) 1 rfl ?_
      refine bo_F.iasE (F' := (am_row (am_row f 6 (upd r56_6 i56 ((r56_6 i56) ||| (r56_6 i48)))) 7 r56_7)) (m := i56) (N := 20) rfl rfl rfl rfl (by omega) (by decide) (by first | rfl | (funext a; by_cases z0 : a = 6; (subst z0; rfl); by_cases z1 : a = 7; (subst z1; rfl); simp only [am_ui, am_ul, am_row_ne z0, am_row_ne z1])) ?_
      refine am_F.ops (pc' := 95) (L' := [.ref 3, .int (nI i48), .int (nI i56)]) (S' := [.int (nI i56), .ref 7]) (μ' := (bo_SA (am_row (am_row f 6 (upd r56_6 i56 ((r56_6 i56) ||| (r56_6 i48)))) 7 r56_7) g)) 3 rfl ?_
      refine am_F.ialE (m := i56) (N := 20) rfl rfl rfl rfl (by omega) (by decide) ?_
      show am_F _ _ 96 [.ref 3, .int (nI i48), .int (nI i56)] [.int (r56_7 i56)] (bo_SA (am_row (am_row f 6 (upd r56_6 i56 ((r56_6 i56) ||| (r56_6 i48)))) 7 r56_7) g) _
      refine am_F.ops (pc' := 97) (L' := [.ref 3, .int (nI i48), .int (nI i56)]) (S' := [.int (nI i48), .int (r56_7 i56)]) (μ' := (bo_SA (am_row (am_row f 6 (upd r56_6 i56 ((r56_6 i56) ||| (r56_6 i48)))) 7 r56_7) g)) 1 rfl ?_
      refine am_F.call rfl rfl (bo_has (r56_7 i56) (nI i48) (bo_SA (am_row (am_row f 6 (upd r56_6 i56 ((r56_6 i56) ||| (r56_6 i48)))) 7 r56_7) g)) (by decide) ?_
      show am_F _ _ 100 [.ref 3, .int (nI i48), .int (nI i56)] [.int (am_b (fn_has (r56_7 i56) (nI i48)))] (bo_SA (am_row (am_row f 6 (upd r56_6 i56 ((r56_6 i56) ||| (r56_6 i48)))) 7 r56_7) g) _
      refine am_F.bifK 1 rfl K hK (fun c24 hK => ?_) (fun c24 hK => ?_)
      · show am_F _ _ 103 [.ref 3, .int (nI i48), .int (nI i56)] [] (bo_SA (am_row (am_row f 6 (upd r56_6 i56 ((r56_6 i56) ||| (r56_6 i48)))) 7 r56_7) g) _
        refine am_F.ops (pc' := 109) (L' := [.ref 3, .int (nI i48), .int (nI i56)]) (S' := [.int (nI i56), .ref 7, .int (nI i56), .ref 7]) (μ' := (bo_SA (am_row (am_row f 6 (upd r56_6 i56 ((r56_6 i56) ||| (r56_6 i48)))) 7 r56_7) g)) 4 rfl ?_
        refine am_F.ialE (m := i56) (N := 20) rfl rfl rfl rfl (by omega) (by decide) ?_
        show am_F _ _ 110 [.ref 3, .int (nI i48), .int (nI i56)] [.int (r56_7 i56), .int (nI i56), .ref 7] (bo_SA (am_row (am_row f 6 (upd r56_6 i56 ((r56_6 i56) ||| (r56_6 i48)))) 7 r56_7) g) _
        refine am_F.ops (pc' := 115) (L' := [.ref 3, .int (nI i48), .int (nI i56)]) (S' := [.int (nI i48), .ref 7, .int (r56_7 i56), .int (nI i56), .ref 7]) (μ' := (bo_SA (am_row (am_row f 6 (upd r56_6 i56 ((r56_6 i56) ||| (r56_6 i48)))) 7 r56_7) g)) 3 rfl ?_
        refine am_F.ialE (m := i48) (N := 20) rfl rfl rfl rfl (by omega) (by decide) ?_
        show am_F _ _ 116 [.ref 3, .int (nI i48), .int (nI i56)] [.int (r56_7 i48), .int (r56_7 i56), .int (nI i56), .ref 7] (bo_SA (am_row (am_row f 6 (upd r56_6 i56 ((r56_6 i56) ||| (r56_6 i48)))) 7 r56_7) g) _
        refine am_F.ops (pc' := 117) (L' := [.ref 3, .int (nI i48), .int (nI i56)]) (S' := [.int ((r56_7 i56) ||| (r56_7 i48)), .int (nI i56), .ref 7]) (μ' := (bo_SA (am_row (am_row f 6 (upd r56_6 i56 ((r56_6 i56) ||| (r56_6 i48)))) 7 r56_7) g)) 1 rfl ?_
        refine bo_F.iasE (F' := (am_row (am_row f 6 (upd r56_6 i56 ((r56_6 i56) ||| (r56_6 i48)))) 7 (upd r56_7 i56 ((r56_7 i56) ||| (r56_7 i48))))) (m := i56) (N := 20) rfl rfl rfl rfl (by omega) (by decide) (by first | rfl | (funext a; by_cases z0 : a = 6; (subst z0; rfl); by_cases z1 : a = 7; (subst z1; rfl); simp only [am_ui, am_ul, am_row_ne z0, am_row_ne z1])) ?_
        refine am_F.ops (pc' := 56) (L' := [.ref 3, .int (nI i48), .int ((nI i56) + 1)]) (S' := []) (μ' := (bo_SA (am_row (am_row f 6 (upd r56_6 i56 ((r56_6 i56) ||| (r56_6 i48)))) 7 (upd r56_7 i56 ((r56_7 i56) ||| (r56_7 i48)))) g)) 2 rfl ?_
        rw [nI_1 i56]
        subst hKd
        exact ih (i56 + 1) (upd r56_6 i56 ((r56_6 i56) ||| (r56_6 i48))) (upd r56_7 i56 ((r56_7 i56) ||| (r56_7 i48))) (by omega)  hK
      · show am_F _ _ 118 [.ref 3, .int (nI i48), .int (nI i56)] [] (bo_SA (am_row (am_row f 6 (upd r56_6 i56 ((r56_6 i56) ||| (r56_6 i48)))) 7 r56_7) g) _
        refine am_F.ops (pc' := 56) (L' := [.ref 3, .int (nI i48), .int ((nI i56) + 1)]) (S' := []) (μ' := (bo_SA (am_row (am_row f 6 (upd r56_6 i56 ((r56_6 i56) ||| (r56_6 i48)))) 7 r56_7) g)) 2 rfl ?_
        rw [nI_1 i56]
        subst hKd
        exact ih (i56 + 1) (upd r56_6 i56 ((r56_6 i56) ||| (r56_6 i48))) r56_7 (by omega)  hK
    · show am_F _ _ 90 [.ref 3, .int (nI i48), .int (nI i56)] [] (bo_SA (am_row (am_row f 6 r56_6) 7 r56_7) g) _
      refine am_F.ops (pc' := 95) (L' := [.ref 3, .int (nI i48), .int (nI i56)]) (S' := [.int (nI i56), .ref 7]) (μ' := (bo_SA (am_row (am_row f 6 r56_6) 7 r56_7) g)) 3 rfl ?_
      refine am_F.ialE (m := i56) (N := 20) rfl rfl rfl rfl (by omega) (by decide) ?_
      show am_F _ _ 96 [.ref 3, .int (nI i48), .int (nI i56)] [.int (r56_7 i56)] (bo_SA (am_row (am_row f 6 r56_6) 7 r56_7) g) _
      refine am_F.ops (pc' := 97) (L' := [.ref 3, .int (nI i48), .int (nI i56)]) (S' := [.int (nI i48), .int (r56_7 i56)]) (μ' := (bo_SA (am_row (am_row f 6 r56_6) 7 r56_7) g)) 1 rfl ?_
      refine am_F.call rfl rfl (bo_has (r56_7 i56) (nI i48) (bo_SA (am_row (am_row f 6 r56_6) 7 r56_7) g)) (by decide) ?_
      show am_F _ _ 100 [.ref 3, .int (nI i48), .int (nI i56)] [.int (am_b (fn_has (r56_7 i56) (nI i48)))] (bo_SA (am_row (am_row f 6 r56_6) 7 r56_7) g) _
      refine am_F.bifK 1 rfl K hK (fun c26 hK => ?_) (fun c26 hK => ?_)
      · show am_F _ _ 103 [.ref 3, .int (nI i48), .int (nI i56)] [] (bo_SA (am_row (am_row f 6 r56_6) 7 r56_7) g) _
        refine am_F.ops (pc' := 109) (L' := [.ref 3, .int (nI i48), .int (nI i56)]) (S' := [.int (nI i56), .ref 7, .int (nI i56), .ref 7]) (μ' := (bo_SA (am_row (am_row f 6 r56_6) 7 r56_7) g)) 4 rfl ?_
        refine am_F.ialE (m := i56) (N := 20) rfl rfl rfl rfl (by omega) (by decide) ?_
        show am_F _ _ 110 [.ref 3, .int (nI i48), .int (nI i56)] [.int (r56_7 i56), .int (nI i56), .ref 7] (bo_SA (am_row (am_row f 6 r56_6) 7 r56_7) g) _
        refine am_F.ops (pc' := 115) (L' := [.ref 3, .int (nI i48), .int (nI i56)]) (S' := [.int (nI i48), .ref 7, .int (r56_7 i56), .int (nI i56), .ref 7]) (μ' := (bo_SA (am_row (am_row f 6 r56_6) 7 r56_7) g)) 3 rfl ?_
        refine am_F.ialE (m := i48) (N := 20) rfl rfl rfl rfl (by omega) (by decide) ?_
        show am_F _ _ 116 [.ref 3, .int (nI i48), .int (nI i56)] [.int (r56_7 i48), .int (r56_7 i56), .int (nI i56), .ref 7] (bo_SA (am_row (am_row f 6 r56_6) 7 r56_7) g) _
        refine am_F.ops (pc' := 117) (L' := [.ref 3, .int (nI i48), .int (nI i56)]) (S' := [.int ((r56_7 i56) ||| (r56_7 i48)), .int (nI i56), .ref 7]) (μ' := (bo_SA (am_row (am_row f 6 r56_6) 7 r56_7) g)) 1 rfl ?_
        refine bo_F.iasE (F' := (am_row (am_row f 6 r56_6) 7 (upd r56_7 i56 ((r56_7 i56) ||| (r56_7 i48))))) (m := i56) (N := 20) rfl rfl rfl rfl (by omega) (by decide) (by first | rfl | (funext a; by_cases z0 : a = 6; (subst z0; rfl); by_cases z1 : a = 7; (subst z1; rfl); simp only [am_ui, am_ul, am_row_ne z0, am_row_ne z1])) ?_
        refine am_F.ops (pc' := 56) (L' := [.ref 3, .int (nI i48), .int ((nI i56) + 1)]) (S' := []) (μ' := (bo_SA (am_row (am_row f 6 r56_6) 7 (upd r56_7 i56 ((r56_7 i56) ||| (r56_7 i48)))) g)) 2 rfl ?_
        rw [nI_1 i56]
        subst hKd
        exact ih (i56 + 1) r56_6 (upd r56_7 i56 ((r56_7 i56) ||| (r56_7 i48))) (by omega)  hK
      · show am_F _ _ 118 [.ref 3, .int (nI i48), .int (nI i56)] [] (bo_SA (am_row (am_row f 6 r56_6) 7 r56_7) g) _
        refine am_F.ops (pc' := 56) (L' := [.ref 3, .int (nI i48), .int ((nI i56) + 1)]) (S' := []) (μ' := (bo_SA (am_row (am_row f 6 r56_6) 7 r56_7) g)) 2 rfl ?_
        rw [nI_1 i56]
        subst hKd
        exact ih (i56 + 1) r56_6 r56_7 (by omega)  hK
theorem lp_closeA_48 (f : Nat → Nat → Int32) (g : Nat → Nat → Int64) (z2_1 : (Nat → Int32) × (Nat → Int32))  (res : Option Value × am_M) : ∀ (n i48 : Nat) (r48_6 : Nat → Int32) (r48_7 : Nat → Int32) (w48_2 : Value), i48 + n = 20 → (fun (z : (Nat → Int32) × (Nat → Int32)) => ∀ (wc : Value) (w48_2 : Value), am_F 1 am_k_4 130 [.ref 3, wc, w48_2] [] (bo_SA (am_row (am_row f 6 z.1) 7 z.2) g) res) (am_for st_closeA_48 n i48 (r48_6, r48_7)) → am_F 1 am_k_4 48 [.ref 3, .int (nI i48), w48_2] [] (bo_SA (am_row (am_row f 6 r48_6) 7 r48_7) g) res := by
  intro n
  induction n with
  | zero =>
    intro i48 r48_6 r48_7 w48_2 hi hK
    refine am_F.pos 3 rfl (by show 20 ≤ nI i48; rw [show (20 : Int32) = nI 20 from rfl]; exact nI_le (by omega) (by omega)) ?_
    exact hK _ _
  | succ n ih =>
    intro i48 r48_6 r48_7 w48_2 hi hK
    refine am_F.neg 3 rfl (by show ¬ 20 ≤ nI i48; rw [show (20 : Int32) = nI 20 from rfl]; exact nI_ge (by omega) (by omega)) ?_
    have hb48 : i48 < 20 := by omega
    show am_F _ _ 54 [.ref 3, .int (nI i48), w48_2] [] (bo_SA (am_row (am_row f 6 r48_6) 7 r48_7) g) _
    obtain ⟨K, hKd⟩ : ∃ K : ((Nat → Int32) × (Nat → Int32)) → Prop, K = fun s => (fun (z : (Nat → Int32) × (Nat → Int32)) => ∀ (wc : Value) (w48_2 : Value), am_F 1 am_k_4 130 [.ref 3, wc, w48_2] [] (bo_SA (am_row (am_row f 6 z.1) 7 z.2) g) res) (am_for st_closeA_48 n (i48 + 1) s) := ⟨_, rfl⟩
    have hK : K (st_closeA_48 i48 (r48_6, r48_7)) := by rw [hKd]; exact hK
    unfold st_closeA_48 at hK
    simp only at hK
    refine am_F.ops (pc' := 56) (L' := [.ref 3, .int (nI i48), .int 0]) (S' := []) (μ' := (bo_SA (am_row (am_row f 6 r48_6) 7 r48_7) g)) 2 rfl ?_
    show am_F _ _ 56 [.ref 3, .int (nI i48), .int (nI 0)] [] (bo_SA (am_row (am_row f 6 r48_6) 7 r48_7) g) _
    refine lp_closeA_56 f g z2_1 i48 r48_6 r48_7 hb48 _ 20 0 r48_6 r48_7  (by omega)  ?_
    rw [show am_for (st_closeA_56 i48) 20 0 (r48_6, r48_7) = (lf_closeA_56 i48 r48_6 r48_7) from rfl]
    generalize (lf_closeA_56 i48 r48_6 r48_7) = z56_27 at hK ⊢
    intro wc
    show am_F _ _ 124 [.ref 3, .int (nI i48), wc] [] (bo_SA (am_row (am_row f 6 z56_27.1) 7 z56_27.2) g) _
    refine am_F.ops (pc' := 48) (L' := [.ref 3, .int ((nI i48) + 1), wc]) (S' := []) (μ' := (bo_SA (am_row (am_row f 6 z56_27.1) 7 z56_27.2) g)) 2 rfl ?_
    rw [nI_1 i48]
    subst hKd
    exact ih (i48 + 1) z56_27.1 z56_27.2 wc (by omega)  hK
theorem x_closeA (f : Nat → Nat → Int32) (g : Nat → Nat → Int64)  : am_D 1 4 3 [.ref 3] (bo_SA f g) ((none : Option Value), bo_SA (am_row (am_row f 6 ((fn_closeA f).1)) 7 ((fn_closeA f).2)) g) := by
  refine am_D.of (code := am_k_4) rfl (L0 := [.ref 3, am_un, am_un]) rfl ?_
  generalize hres : ((none : Option Value), bo_SA (am_row (am_row f 6 ((fn_closeA f).1)) 7 ((fn_closeA f).2)) g) = res
  obtain ⟨K, hKd⟩ : ∃ K : ((Nat → Int32) × (Nat → Int32)) → Prop, K = fun z => ((none : Option Value), bo_SA (am_row (am_row f 6 z.1) 7 z.2) g) = res := ⟨_, rfl⟩
  have hK : K (fn_closeA f) := by rw [hKd]; exact hres
  clear hres
  unfold fn_closeA at hK
  refine am_F.ops (pc' := 2) (L' := [.ref 3, .int 0, am_un]) (S' := []) (μ' := (bo_SA f g)) 2 rfl ?_
  refine bo_F.mem (F' := (am_row (am_row f 6 (f 6)) 7 (f 7))) (G' := g) ?_ (by first | rfl | (funext a; by_cases z0 : a = 6; (subst z0; rfl); by_cases z1 : a = 7; (subst z1; rfl); simp only [am_ui, am_ul, am_row_ne z0, am_row_ne z1])) (by first | rfl | (funext a; by_cases z0 : a = 6; (subst z0; rfl); by_cases z1 : a = 7; (subst z1; rfl); simp only [am_ui, am_ul, am_row_ne z0, am_row_ne z1]))
  show am_F _ _ 2 [.ref 3, .int (nI 0), am_un] [] (bo_SA (am_row (am_row f 6 (f 6)) 7 (f 7)) g) _
  refine lp_closeA_2 f g  _ 20 0 (f 6) (f 7)  (by omega)  ?_
  rw [show am_for (st_closeA_2 f) 20 0 (f 6, f 7) = (lf_closeA_2 f) from rfl]
  generalize (lf_closeA_2 f) = z2_1 at hK ⊢
  intro wc
  show am_F _ _ 46 [.ref 3, wc, am_un] [] (bo_SA (am_row (am_row f 6 z2_1.1) 7 z2_1.2) g) _
  refine am_F.ops (pc' := 48) (L' := [.ref 3, .int 0, am_un]) (S' := []) (μ' := (bo_SA (am_row (am_row f 6 z2_1.1) 7 z2_1.2) g)) 2 rfl ?_
  show am_F _ _ 48 [.ref 3, .int (nI 0), am_un] [] (bo_SA (am_row (am_row f 6 z2_1.1) 7 z2_1.2) g) _
  refine lp_closeA_48 f g z2_1  _ 20 0 z2_1.1 z2_1.2 am_un (by omega)  ?_
  rw [show am_for st_closeA_48 20 0 (z2_1.1, z2_1.2) = (lf_closeA_48 z2_1) from rfl]
  generalize (lf_closeA_48 z2_1) = z48_28 at hK ⊢
  intro wc w48_2
  show am_F _ _ 130 [.ref 3, wc, w48_2] [] (bo_SA (am_row (am_row f 6 z48_28.1) 7 z48_28.2) g) _
  subst hKd
  exact am_F.eq (am_F.ret rfl rfl) hK
