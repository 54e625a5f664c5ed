/-! loops, rows of the memory, and the rules that a walk printed by wip/whole/walk.py takes -/
def am_for {α : Type} (f : Nat → α → α) : Nat → Nat → α → α
  | 0, _, a => a
  | n + 1, i, a => am_for f n (i + 1) (f i a)
/-- a counted loop: a step goes on (inl), breaks off (inr inl) or answers (inr inr) -/
def am_nxt {α β : Type} (k : α → α ⊕ β) : α ⊕ (α ⊕ β) → α ⊕ β
  | .inl a => k a
  | .inr z => z
def am_forX {α β : Type} (f : Nat → α → α ⊕ (α ⊕ β)) : Nat → Nat → α → α ⊕ β
  | 0, _, a => .inl a
  | n + 1, i, a => am_nxt (fun z => am_forX f n (i + 1) z) (f i a)
def am_KX {α β : Type} (A : α → Prop) (B : β → Prop) : α ⊕ β → Prop
  | .inl a => A a
  | .inr b => B b
/-- the same downwards: n - 1 .. 0 -/
def am_dn {α : Type} (f : Nat → α → α) : Nat → α → α
  | 0, a => a
  | n + 1, a => am_dn f n (f n a)
def am_dnX {α β : Type} (f : Nat → α → α ⊕ (α ⊕ β)) : Nat → α → α ⊕ β
  | 0, a => .inl a
  | n + 1, a => am_nxt (fun z => am_dnX f n z) (f n a)
theorem am_m1 (x : Int32) : x + (-1) = x - 1 := (Int32.sub_eq_add_neg x 1).symm
theorem am_subT {v k : Int32} (h0 : 0 ≤ k.toInt) (h1 : k.toInt ≤ v.toInt) : (v - k).toInt = v.toInt - k.toInt := by
  rw [Int32.toInt_sub]
  have h2 := v.toInt_lt
  refine Int.bmod_eq_of_le ?_ ?_ <;> first | omega | (simp only [Int32.size]; omega)
theorem am_inbI {x : Int32} {n : Nat} (h0 : 0 ≤ x.toInt) (h1 : x.toInt < n) : am_inb x n = true := by
  unfold am_inb
  have h2 : ¬ x < 0 := by rw [Int32.lt_iff_toInt_lt]; have : (0 : Int32).toInt = 0 := rfl; omega
  have h3 : Nat.blt x.toNatClampNeg n = true := Nat.ble_eq_true_of_le (by show x.toInt.toNat + 1 ≤ n; omega)
  rw [h3, decide_eq_false h2]
  rfl
theorem am_inbC {x : Int32} {n : Nat} (h0 : 0 ≤ x) (h1 : x.toInt < n) : am_inb x n = true := by
  unfold am_inb
  rw [Int32.le_iff_toInt_le] at h0
  have h2 : ¬ x < 0 := by rw [Int32.lt_iff_toInt_lt]; omega
  have h3 : Nat.blt x.toNatClampNeg n = true := Nat.ble_eq_true_of_le (by show x.toInt.toNat + 1 ≤ n; have : (0 : Int32).toInt = 0 := rfl; omega)
  rw [h3, decide_eq_false h2]
  rfl
theorem am_inbD {x : Int32} {n : Nat} (h0 : ¬ x < 0) (h1 : x.toInt < n) : am_inb x n = true := am_inbC (Int32.not_lt.mp h0) h1
theorem am_forX_inr {α β : Type} {f : Nat → α → α ⊕ (α ⊕ β)} {P : β → Prop} : ∀ (n i : Nat) (a : α), (∀ (j : Nat) (a' : α), i ≤ j → j < i + n → ∀ b, f j a' = .inr (.inr b) → P b) → ∀ b, am_forX f n i a = .inr b → P b := by
  intro n
  induction n with
  | zero => intro i a _ b hb; cases hb
  | succ n ih =>
    intro i a hp b hb
    have hb2 : am_nxt (fun z => am_forX f n (i + 1) z) (f i a) = .inr b := hb
    cases h : f i a with
    | inl a' =>
      rw [h] at hb2
      exact ih (i + 1) a' (fun j a'' h1 h2 => hp j a'' (by omega) (by omega)) b hb2
    | inr z =>
      rw [h] at hb2
      have hz : z = .inr b := hb2
      subst hz
      exact hp i a (Nat.le_refl _) (by omega) b h
/-- a row of the memory in another's place -/
def am_row {α : Type} (f : Nat → α) (k : Nat) (h : α) : Nat → α := fun a => bif Nat.beq a k then h else f a
theorem am_row_ne {α : Type} {f : Nat → α} {k a : Nat} {h : α} (n : a ≠ k) : am_row f k h a = f a := by
  unfold am_row; rw [am_beq_n n]; rfl
theorem am_row_s {α : Type} {f : Nat → α} {k : Nat} {h : α} : am_row f k h k = h := by
  unfold am_row; rw [am_beq_s]; rfl
theorem am_row_id {α : Type} (f : Nat → α) (k : Nat) : am_row f k (f k) = f := by
  funext a
  by_cases h : a = k
  · subst h; exact am_row_s
  · exact am_row_ne h
def am_ui (f : Nat → Nat → Int32) (k j : Nat) (x : Int32) : Nat → Nat → Int32 := am_row f k (upd (f k) j x)
def am_ul (f : Nat → Nat → Int64) (k j : Nat) (x : Int64) : Nat → Nat → Int64 := am_row f k (vp_updL (f k) j x)
theorem am_ui_ne {f : Nat → Nat → Int32} {k j a : Nat} {x : Int32} (n : a ≠ k) : am_ui f k j x a = f a := am_row_ne n
theorem am_ul_ne {f : Nat → Nat → Int64} {k j a : Nat} {x : Int64} (n : a ≠ k) : am_ul f k j x a = f a := am_row_ne n
theorem am_inbN {i n : Nat} (h : i < n) (hn : n ≤ 65536) : am_inb (nI i) n = true := by
  unfold am_inb
  rw [Bool.and_eq_true]
  refine ⟨?_, ?_⟩
  · have := nI_pos (n := i) (by omega)
    simpa using this
  · rw [nI_clamp (by omega)]
    exact Nat.ble_eq_true_of_le h
theorem am_inbE {x : Int32} {m n : Nat} (e : x = nI m) (h : m < n) (hn : n ≤ 65536) : am_inb x n = true := by rw [e]; exact am_inbN h hn
theorem am_retB (B : Bool) (μ : am_M) : am_ret 2 [.int (am_b B)] μ = some (some (.int (am_b B)), μ) := by cases B <;> rfl
theorem am_l1 : (1 : Int32) = nI 1 := rfl
theorem am_l4 : (4 : Int32) = nI 4 := rfl
theorem am_l6 : (6 : Int32) = nI 6 := rfl
theorem am_l7 : (7 : Int32) = nI 7 := rfl
theorem am_l9 : (9 : Int32) = nI 9 := rfl
theorem am_l16 : (16 : Int32) = nI 16 := rfl
theorem am_l64 : (64 : Int32) = nI 64 := rfl
theorem am_l80 : (80 : Int32) = nI 80 := rfl
theorem am_l128 : (128 : Int32) = nI 128 := rfl
theorem am_l144 : (144 : Int32) = nI 144 := rfl
theorem am_l164 : (164 : Int32) = nI 164 := rfl
theorem am_l184 : (184 : Int32) = nI 184 := rfl
theorem am_l205 : (205 : Int32) = nI 205 := rfl
theorem am_l208 : (208 : Int32) = nI 208 := rfl
theorem am_l210 : (210 : Int32) = nI 210 := rfl
theorem am_l490 : (490 : Int32) = nI 490 := rfl
theorem am_l760 : (760 : Int32) = nI 760 := rfl
theorem am_l3160 : (3160 : Int32) = nI 3160 := rfl
theorem am_b01 (B : Bool) : (am_b B == 0 || am_b B == 1) = true := by cases B <;> rfl
section
variable {d pc n k t : Nat} {code : am_K} {L S L' S' : List Value} {μ μ' : am_M} {res : Option Value × am_M} {F F' : Nat → Nat → Int32} {G G' : Nat → Nat → Int64}
theorem am_F.op {f : am_Op} {pc' : Nat} (h : am_look pc code = some (.inl f)) (h2 : f L S μ = some (pc', L', S', μ')) (g : am_F d code pc' L' S' μ' res) : am_F d code pc L S μ res := by
  refine am_F.ops 1 ?_ g
  unfold am_ops
  rw [h]
  simp only
  rw [h2]
  rfl
theorem am_F.ial {x : Int32} {z N : Nat} (h : am_look pc code = some (.inl (am_ial n z))) (hk : am_is μ k z = true) (hN : (am_kd μ k).2 = N) (hi : am_inb x N = true) (g : am_F d code n L (.int (am_mi μ k x.toNatClampNeg) :: S) μ res) : am_F d code pc L (.int x :: .ref k :: S) μ res := by
  refine am_F.op h ?_ g
  show (bif am_is μ k z && am_inb x (am_kd μ k).2 then some (n, L, Value.int (am_mi μ k x.toNatClampNeg) :: S, μ) else none) = _
  rw [hk, hN, hi]
  rfl
theorem am_F.ias {x y : Int32} {N : Nat} (h : am_look pc code = some (.inl (am_ias n))) (hk : am_is (am_S F G) k 0 = true) (hN : (am_kd (am_S F G) k).2 = N) (hi : am_inb x N = true) (e : am_ui F k x.toNatClampNeg y = F') (g : am_F d code n L S (am_S F' G) res) : am_F d code pc L (.int y :: .int x :: .ref k :: S) (am_S F G) res := by
  refine am_F.op h ?_ g
  show (bif am_is (am_S F G) k 0 && am_inb x (am_kd (am_S F G) k).2 then some (n, L, S, am_seti (am_S F G) k x.toNatClampNeg y) else none) = _
  rw [hk, hN, hi, ← e]
  rfl
theorem am_F.zas {x y : Int32} {N : Nat} (h : am_look pc code = some (.inl (am_zas n))) (hk : am_is (am_S F G) k 1 = true) (hN : (am_kd (am_S F G) k).2 = N) (hi : am_inb x N = true) (hy : (y == 0 || y == 1) = true) (e : am_ui F k x.toNatClampNeg y = F') (g : am_F d code n L S (am_S F' G) res) : am_F d code pc L (.int y :: .int x :: .ref k :: S) (am_S F G) res := by
  refine am_F.op h ?_ g
  show (bif am_is (am_S F G) k 1 && am_inb x (am_kd (am_S F G) k).2 then (bif y == 0 || y == 1 then some (n, L, S, am_seti (am_S F G) k x.toNatClampNeg y) else none) else none) = _
  rw [hk, hN, hi, hy, ← e]
  rfl
theorem am_F.pfi {y : Int32} {c j : Nat} (h : am_look pc code = some (.inl (am_pfi n c j))) (hk : am_is (am_S F G) k (c + 2) = true) (e : am_ui F k j y = F') (g : am_F d code n L S (am_S F' G) res) : am_F d code pc L (.int y :: .ref k :: S) (am_S F G) res := by
  refine am_F.op h ?_ g
  show (bif am_is (am_S F G) k (c + 2) then some (n, L, S, am_seti (am_S F G) k j y) else none) = _
  rw [hk, ← e]
  rfl
theorem am_F.pfz {y : Int32} {c j : Nat} (h : am_look pc code = some (.inl (am_pfz n c j))) (hk : am_is (am_S F G) k (c + 2) = true) (hy : (y == 0 || y == 1) = true) (e : am_ui F k j y = F') (g : am_F d code n L S (am_S F' G) res) : am_F d code pc L (.int y :: .ref k :: S) (am_S F G) res := by
  refine am_F.op h ?_ g
  show (bif am_is (am_S F G) k (c + 2) then (bif y == 0 || y == 1 then some (n, L, S, am_seti (am_S F G) k j y) else none) else none) = _
  rw [hk, hy, ← e]
  rfl
theorem am_F.pfl {y : Int64} {c j : Nat} (h : am_look pc code = some (.inl (am_pfl n c j))) (hk : am_is (am_S F G) k (c + 2) = true) (e : am_ul G k j y = G') (g : am_F d code n L S (am_S F G') res) : am_F d code pc L (.long y :: .ref k :: S) (am_S F G) res := by
  refine am_F.op h ?_ g
  show (bif am_is (am_S F G) k (c + 2) then some (n, L, S, am_setl (am_S F G) k j y) else none) = _
  rw [hk, ← e]
  rfl
theorem am_F.ialE {x : Int32} {z N m : Nat} (h : am_look pc code = some (.inl (am_ial n z))) (hk : am_is μ k z = true) (hN : (am_kd μ k).2 = N) (e : x = nI m) (hm : m < N) (h6 : N ≤ 65536) (g : am_F d code n L (.int (am_mi μ k m) :: S) μ res) : am_F d code pc L (.int x :: .ref k :: S) μ res := by
  subst e
  refine am_F.ial h hk hN (am_inbN hm h6) ?_
  rw [nI_clamp (by omega)]
  exact g
theorem am_F.iasE {x y : Int32} {N m : Nat} (h : am_look pc code = some (.inl (am_ias n))) (hk : am_is (am_S F G) k 0 = true) (hN : (am_kd (am_S F G) k).2 = N) (ex : x = nI m) (hm : m < N) (h6 : N ≤ 65536) (e : am_ui F k m y = F') (g : am_F d code n L S (am_S F' G) res) : am_F d code pc L (.int y :: .int x :: .ref k :: S) (am_S F G) res := by
  subst ex
  refine am_F.ias h hk hN (am_inbN hm h6) ?_ g
  rw [nI_clamp (by omega)]
  exact e
theorem am_F.zasE {x y : Int32} {N m : Nat} (h : am_look pc code = some (.inl (am_zas n))) (hk : am_is (am_S F G) k 1 = true) (hN : (am_kd (am_S F G) k).2 = N) (ex : x = nI m) (hm : m < N) (h6 : N ≤ 65536) (hy : (y == 0 || y == 1) = true) (e : am_ui F k m y = F') (g : am_F d code n L S (am_S F' G) res) : am_F d code pc L (.int y :: .int x :: .ref k :: S) (am_S F G) res := by
  subst ex
  refine am_F.zas h hk hN (am_inbN hm h6) hy ?_ g
  rw [nI_clamp (by omega)]
  exact e
theorem am_F.cpyE {a a0 sp dp z n0 n1 : Nat} {xs xd xz : Int32} (h : am_look pc code = some (.inl (am_cpy n))) (hk : am_is (am_S F G) a 0 = true) (hk0 : am_is (am_S F G) a0 0 = true) (hn0 : (am_kd (am_S F G) a0).2 = n0) (hn1 : (am_kd (am_S F G) a).2 = n1) (e1 : xs = nI sp) (e2 : xd = nI dp) (e3 : xz = nI z) (l1 : sp + z ≤ n0) (l2 : dp + z ≤ n1) (h6 : n0 ≤ 65536) (h7 : n1 ≤ 65536) (e : am_row F a (va_cpy (F a0) (F a) sp dp z) = F') (g : am_F d code n L [] (am_S F' G) res) : am_F d code pc L [.int xz, .int xd, .ref a, .int xs, .ref a0] (am_S F G) res := by
  subst e1; subst e2; subst e3
  refine am_F.op h ?_ g
  have q : ∀ j : Nat, j ≤ 65536 → ¬ nI j < 0 := fun j hj => nI_pos (by omega)
  show (bif am_is (am_S F G) a 0 && am_is (am_S F G) a0 0 && (!(decide (nI sp < 0)) && !(decide (nI dp < 0)) && !(decide (nI z < 0))) && (Nat.ble ((nI sp).toNatClampNeg + (nI z).toNatClampNeg) (am_kd (am_S F G) a0).2 && Nat.ble ((nI dp).toNatClampNeg + (nI z).toNatClampNeg) (am_kd (am_S F G) a).2) then
      some (n, L, [], ((fun q => bif Nat.beq q a then va_cpy (F a0) (F a) (nI sp).toNatClampNeg (nI dp).toNatClampNeg (nI z).toNatClampNeg else F q, (am_S F G).2) : am_M)) else none) = _
  rw [hk, hk0, hn0, hn1, nI_clamp (n := sp) (by omega), nI_clamp (n := dp) (by omega), nI_clamp (n := z) (by omega), decide_eq_false (q sp (by omega)), decide_eq_false (q dp (by omega)), decide_eq_false (q z (by omega)), Nat.ble_eq_true_of_le l1, Nat.ble_eq_true_of_le l2, ← e]
  rfl
theorem am_F.mem (g : am_F d code pc L S (am_S F' G') res) (e1 : F = F') (e2 : G = G') : am_F d code pc L S (am_S F G) res := by subst e1; subst e2; exact g
/-- a branch by a proposition, with what the tree of values holds -/
theorem am_F.iteK {α : Type} {P : Prop} [Decidable P] (k : Nat) (h : am_ops k code pc L S μ = some ((if P then t else n), L', S', μ')) (K : α → Prop) {a b : α} (hK : K (if P then a else b)) (kt : P → K a → am_F d code t L' S' μ' res) (kf : ¬ P → K b → am_F d code n L' S' μ' res) : am_F d code pc L S μ res := by
  by_cases c : P
  · rw [if_pos c] at hK
    refine am_F.ops k h ?_
    rw [if_pos c]; exact kt c hK
  · rw [if_neg c] at hK
    refine am_F.ops k h ?_
    rw [if_neg c]; exact kf c hK
/-- a branch by a truth value -/
theorem am_F.bifK {α : Type} {B : Bool} (k : Nat) (h : am_ops k code pc L S μ = some ((if am_b B = 0 then t else n), L', S', μ')) (K : α → Prop) {a b : α} (hK : K (bif B then a else b)) (kt : B = true → K a → am_F d code n L' S' μ' res) (kf : B = false → K b → am_F d code t L' S' μ' res) : am_F d code pc L S μ res := by
  refine am_F.ops k h ?_
  cases B with
  | true => exact kt rfl hK
  | false => exact kf rfl hK
end
/-! the way from one place of a method to another, whatever comes behind -/
def am_To (d : Nat) (code : am_K) (pc : Nat) (L S : List Value) (μ : am_M) (pc' : Nat) (L' S' : List Value) (μ' : am_M) : Prop := ∀ res, am_F d code pc' L' S' μ' res → am_F d code pc L S μ res
section
variable {d pc pc' n k t : Nat} {code : am_K} {L S L' S' L2 S2 : List Value} {μ μ' μ2 : am_M} {res : Option Value × am_M}
theorem am_To.here : am_To d code pc L S μ pc L S μ := fun _ g => g
/-- both arms of a branch come to one place, with one number each on the stack -/
theorem am_To.ite {P : Prop} [Decidable P] {a b : Int32} (k : Nat) (h : am_ops k code pc L S μ = some ((if P then t else n), L', S', μ')) (kt : P → am_To d code t L' S' μ' pc' L2 (.int a :: S2) μ2) (kf : ¬ P → am_To d code n L' S' μ' pc' L2 (.int b :: S2) μ2) : am_To d code pc L S μ pc' L2 (.int (if P then a else b) :: S2) μ2 := by
  intro res g
  refine am_F.ops k h ?_
  by_cases c : P
  · rw [if_pos c] at g ⊢; exact kt c res g
  · rw [if_neg c] at g ⊢; exact kf c res g
theorem am_To.iteB {P : Prop} [Decidable P] {a b : Bool} (k : Nat) (h : am_ops k code pc L S μ = some ((if P then t else n), L', S', μ')) (kt : P → am_To d code t L' S' μ' pc' L2 (.int (am_b a) :: S2) μ2) (kf : ¬ P → am_To d code n L' S' μ' pc' L2 (.int (am_b b) :: S2) μ2) : am_To d code pc L S μ pc' L2 (.int (am_b (if P then a else b)) :: S2) μ2 := by
  intro res g
  refine am_F.ops k h ?_
  by_cases c : P
  · rw [if_pos c] at g ⊢; exact kt c res g
  · rw [if_neg c] at g ⊢; exact kf c res g
theorem am_To.bif {B : Bool} {a b : Int32} (k : Nat) (h : am_ops k code pc L S μ = some ((if am_b B = 0 then t else n), L', S', μ')) (kt : B = true → am_To d code n L' S' μ' pc' L2 (.int a :: S2) μ2) (kf : B = false → am_To d code t L' S' μ' pc' L2 (.int b :: S2) μ2) : am_To d code pc L S μ pc' L2 (.int (bif B then a else b) :: S2) μ2 := by
  intro res g
  refine am_F.ops k h ?_
  cases B with
  | true => exact kt rfl res g
  | false => exact kf rfl res g
theorem am_To.bifB {B : Bool} {a b : Bool} (k : Nat) (h : am_ops k code pc L S μ = some ((if am_b B = 0 then t else n), L', S', μ')) (kt : B = true → am_To d code n L' S' μ' pc' L2 (.int (am_b a) :: S2) μ2) (kf : B = false → am_To d code t L' S' μ' pc' L2 (.int (am_b b) :: S2) μ2) : am_To d code pc L S μ pc' L2 (.int (am_b (bif B then a else b)) :: S2) μ2 := by
  intro res g
  refine am_F.ops k h ?_
  cases B with
  | true => exact kt rfl res g
  | false => exact kf rfl res g
theorem am_To.iteJ {P : Prop} [Decidable P] {a b : Int64} (k : Nat) (h : am_ops k code pc L S μ = some ((if P then t else n), L', S', μ')) (kt : P → am_To d code t L' S' μ' pc' L2 (.long a :: S2) μ2) (kf : ¬ P → am_To d code n L' S' μ' pc' L2 (.long b :: S2) μ2) : am_To d code pc L S μ pc' L2 (.long (if P then a else b) :: S2) μ2 := by
  intro res g
  refine am_F.ops k h ?_
  by_cases c : P
  · rw [if_pos c] at g ⊢; exact kt c res g
  · rw [if_neg c] at g ⊢; exact kf c res g
theorem am_To.bifJ {B : Bool} {a b : Int64} (k : Nat) (h : am_ops k code pc L S μ = some ((if am_b B = 0 then t else n), L', S', μ')) (kt : B = true → am_To d code n L' S' μ' pc' L2 (.long a :: S2) μ2) (kf : B = false → am_To d code t L' S' μ' pc' L2 (.long b :: S2) μ2) : am_To d code pc L S μ pc' L2 (.long (bif B then a else b) :: S2) μ2 := by
  intro res g
  refine am_F.ops k h ?_
  cases B with
  | true => exact kt rfl res g
  | false => exact kf rfl res g
theorem am_F.to (h : am_To d code pc L S μ pc' L' S' μ') (g : am_F d code pc' L' S' μ' res) : am_F d code pc L S μ res := h res g
end
section
variable {d pc n : Nat} {code : am_K} {L S : List Value} {μ : am_M} {res : Option Value × am_M}
theorem am_F.ltg {α : Type} {q : Int32 × Nat} {r : List (Int32 × Nat)} {df : Nat} {x : Int32} (K : α → Prop) {a b : α} (hK : K (if x = q.1 then a else b)) (kt : x = q.1 → K a → am_F d code q.2 L S μ res) (kf : ¬ x = q.1 → K b → am_F d code (am_ltg r df x) L S μ res) : am_F d code (am_ltg (q :: r) df x) L S μ res := by
  unfold am_ltg
  by_cases c : x = q.1
  · rw [if_pos c] at hK ⊢; exact kt c hK
  · rw [if_neg c] at hK ⊢; exact kf c hK
def am_zp (lo : Int) : List Nat → List (Int32 × Nat)
  | [] => []
  | t :: r => (Int32.ofInt lo, t) :: am_zp (lo + 1) r
theorem am_zp_ltg (df : Nat) (x : Int32) : ∀ (tg : List Nat) (lo : Int), -1000 ≤ lo → lo + tg.length ≤ 100000 → lo ≤ x.toInt → tg.getD (x.toInt - lo).toNat df = am_ltg (am_zp lo tg) df x := by
  intro tg
  induction tg with
  | nil => intro lo _ _ _; simp [am_zp, am_ltg]
  | cons t r ih =>
    intro lo h1 h2 h3
    have hlo : (Int32.ofInt lo).toInt = lo := by
      rw [Int32.toInt_ofInt]
      simp only [List.length_cons] at h2
      refine Int.bmod_eq_of_le ?_ ?_ <;> (simp only [Int32.size]; omega)
    unfold am_zp am_ltg
    by_cases hx : x = Int32.ofInt lo
    · rw [if_pos hx]
      have : x.toInt = lo := by rw [hx, hlo]
      rw [this, Int.sub_self]
      rfl
    · rw [if_neg hx]
      have hne : x.toInt ≠ lo := fun z => hx (Int32.toInt_inj.mp (by rw [hlo]; exact z))
      rw [← ih (lo + 1) (by omega) (by simp only [List.length_cons] at h2; omega) (by omega)]
      rw [show (x.toInt - lo).toNat = (x.toInt - (lo + 1)).toNat + 1 by omega]
      rfl
theorem am_zp_lo (df : Nat) (x : Int32) : ∀ (tg : List Nat) (lo : Int), -1000 ≤ lo → lo + tg.length ≤ 100000 → x.toInt < lo → df = am_ltg (am_zp lo tg) df x := by
  intro tg
  induction tg with
  | nil => intro lo _ _ _; rfl
  | cons t r ih =>
    intro lo h1 h2 h3
    simp only [List.length_cons] at h2
    have hlo : (Int32.ofInt lo).toInt = lo := by
      rw [Int32.toInt_ofInt]
      refine Int.bmod_eq_of_le ?_ ?_ <;> (simp only [Int32.size]; omega)
    unfold am_zp am_ltg
    rw [if_neg (fun z => by rw [z, hlo] at h3; omega)]
    exact ih (lo + 1) (by omega) (by omega) (by omega)
theorem am_tgt_zp (lo : Int) (tg : List Nat) (df : Nat) (x : Int32) (h1 : -1000 ≤ lo) (h2 : lo + tg.length ≤ 100000) : am_tgt lo tg df x = am_ltg (am_zp lo tg) df x := by
  unfold am_tgt
  by_cases h : x.toInt < lo
  · rw [if_pos h]; exact am_zp_lo df x tg lo h1 h2 h
  · rw [if_neg h]; exact am_zp_ltg df x tg lo h1 h2 (by omega)
theorem am_tswE {tg : List Nat} {lo : Int} {df : Nat} {x : Int32} {cs : List (Int32 × Nat)} (h : am_look pc code = some (.inl (am_lift (am_tsw lo tg df)))) (hz : am_zp lo tg = cs) (h1 : -1000 ≤ lo) (h2 : lo + tg.length ≤ 100000) : am_ops 1 code pc L (.int x :: S) μ = some (am_ltg cs df x, L, S, μ) := by
  unfold am_ops
  rw [h]
  show some (am_tgt lo tg df x, L, S, μ) = _
  rw [am_tgt_zp lo tg df x h1 h2, hz]
end
theorem am_ltN {x y : Int32} {n m : Nat} (h : x = nI n) (hn : n < 2147483648) (hy : y.toInt = (m : Int)) (c : x < y) : n < m := by
  rw [Int32.lt_iff_toInt_lt, h, nI_toInt hn, hy] at c
  omega
theorem am_min80 {x : Int32} (h : x = nI x.toNatClampNeg ∧ x.toNatClampNeg ≤ 80) : (if (80 : Int32) < x then 80 else x) = nI x.toNatClampNeg := by
  obtain ⟨h1, h2⟩ := h
  rw [if_neg]
  · exact h1
  · rw [h1, show (80 : Int32) = nI 80 from rfl]
    exact nI_nlt h2 (by omega)
theorem am_addE {x y : Int32} {a b : Nat} (h1 : x = nI a) (h2 : y = nI b) : x + y = nI (a + b) := by rw [h1, h2, nI_add]
theorem am_mulE {x y : Int32} {a b : Nat} (h1 : x = nI a) (h2 : y = nI b) : x * y = nI (a * b) := by rw [h1, h2, pk_mul]
theorem am_divE {x y : Int32} {a b : Nat} (h1 : x = nI a) (h2 : y = nI b) (h3 : a < 2147483648) (h4 : 0 < b) (h5 : b < 2147483648) : x / y = nI (a / b) := by rw [h1, h2, pk_div h3 h4 h5]
theorem am_remE {x y : Int32} {a b : Nat} (h1 : x = nI a) (h2 : y = nI b) (h3 : a < 2147483648) (h4 : 0 < b) (h5 : b < 2147483648) : x - x / y * y = nI (a % b) := by rw [h1, h2, pk_rem h3 h4 h5]
theorem am_subE {x y : Int32} {a b : Nat} (h1 : x = nI a) (h2 : y = nI b) (h3 : b ≤ a) : x - y = nI (a - b) := by rw [h1, h2, pk_sub h3]
