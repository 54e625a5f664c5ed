/-! loops, rows of the memory, and the rules that a walk printed by wip/whole/walk.py takes -/
def am_for {α : Type} (f : Nat → α → α) : Nat → Nat → α → α
  | 0, _, a => a
  | n + 1, i, a => am_for f n (i + 1) (f i a)
/-- a counted loop: a step goes on (inl), breaks off (inr inl) or answers (inr inr) -/
def am_forX {α β : Type} (f : Nat → α → α ⊕ (α ⊕ β)) : Nat → Nat → α → α ⊕ β
  | 0, _, a => .inl a
  | n + 1, i, a => match f i a with
    | .inl a' => am_forX f n (i + 1) a'
    | .inr z => z
/-- a row of the memory in another's place -/
def am_row {α : Type} (f : Nat → α) (k : Nat) (h : α) : Nat → α := fun a => bif Nat.beq a k then h else f a
theorem am_row_ne {α : Type} {f : Nat → α} {k a : Nat} {h : α} (n : a ≠ k) : am_row f k h a = f a := by
  unfold am_row; rw [am_beq_n n]; rfl
theorem am_row_s {α : Type} {f : Nat → α} {k : Nat} {h : α} : am_row f k h k = h := by
  unfold am_row; rw [am_beq_s]; rfl
theorem am_row_id {α : Type} (f : Nat → α) (k : Nat) : am_row f k (f k) = f := by
  funext a
  by_cases h : a = k
  · subst h; exact am_row_s
  · exact am_row_ne h
def am_ui (f : Nat → Nat → Int32) (k j : Nat) (x : Int32) : Nat → Nat → Int32 := am_row f k (upd (f k) j x)
def am_ul (f : Nat → Nat → Int64) (k j : Nat) (x : Int64) : Nat → Nat → Int64 := am_row f k (vp_updL (f k) j x)
theorem am_ui_ne {f : Nat → Nat → Int32} {k j a : Nat} {x : Int32} (n : a ≠ k) : am_ui f k j x a = f a := am_row_ne n
theorem am_ul_ne {f : Nat → Nat → Int64} {k j a : Nat} {x : Int64} (n : a ≠ k) : am_ul f k j x a = f a := am_row_ne n
theorem am_inbN {i n : Nat} (h : i < n) (hn : n ≤ 65536) : am_inb (nI i) n = true := by
  unfold am_inb
  rw [Bool.and_eq_true]
  refine ⟨?_, ?_⟩
  · have := nI_pos (n := i) (by omega)
    simpa using this
  · rw [nI_clamp (by omega)]
    exact Nat.ble_eq_true_of_le h
theorem am_inbE {x : Int32} {m n : Nat} (e : x = nI m) (h : m < n) (hn : n ≤ 65536) : am_inb x n = true := by rw [e]; exact am_inbN h hn
theorem am_retB (B : Bool) (μ : am_M) : am_ret 2 [.int (am_b B)] μ = some (some (.int (am_b B)), μ) := by cases B <;> rfl
theorem am_l1 : (1 : Int32) = nI 1 := rfl
theorem am_l4 : (4 : Int32) = nI 4 := rfl
theorem am_l6 : (6 : Int32) = nI 6 := rfl
theorem am_l7 : (7 : Int32) = nI 7 := rfl
theorem am_l9 : (9 : Int32) = nI 9 := rfl
theorem am_l16 : (16 : Int32) = nI 16 := rfl
theorem am_l64 : (64 : Int32) = nI 64 := rfl
theorem am_l80 : (80 : Int32) = nI 80 := rfl
theorem am_l128 : (128 : Int32) = nI 128 := rfl
theorem am_l144 : (144 : Int32) = nI 144 := rfl
theorem am_l164 : (164 : Int32) = nI 164 := rfl
theorem am_l184 : (184 : Int32) = nI 184 := rfl
theorem am_l205 : (205 : Int32) = nI 205 := rfl
theorem am_l208 : (208 : Int32) = nI 208 := rfl
theorem am_l210 : (210 : Int32) = nI 210 := rfl
theorem am_l490 : (490 : Int32) = nI 490 := rfl
theorem am_l760 : (760 : Int32) = nI 760 := rfl
theorem am_l3160 : (3160 : Int32) = nI 3160 := rfl
theorem am_b01 (B : Bool) : (am_b B == 0 || am_b B == 1) = true := by cases B <;> rfl
section
variable {d pc n k t : Nat} {code : am_K} {L S L' S' : List Value} {μ μ' : am_M} {res : Option Value × am_M} {F F' : Nat → Nat → Int32} {G G' : Nat → Nat → Int64}
theorem am_F.op {f : am_Op} {pc' : Nat} (h : am_look pc code = some (.inl f)) (h2 : f L S μ = some (pc', L', S', μ')) (g : am_F d code pc' L' S' μ' res) : am_F d code pc L S μ res := by
  refine am_F.ops 1 ?_ g
  unfold am_ops
  rw [h]
  simp only
  rw [h2]
  rfl
theorem am_F.ial {x : Int32} {z N : Nat} (h : am_look pc code = some (.inl (am_ial n z))) (hk : am_is μ k z = true) (hN : (am_kd μ k).2 = N) (hi : am_inb x N = true) (g : am_F d code n L (.int (am_mi μ k x.toNatClampNeg) :: S) μ res) : am_F d code pc L (.int x :: .ref k :: S) μ res := by
  refine am_F.op h ?_ g
  show (bif am_is μ k z && am_inb x (am_kd μ k).2 then some (n, L, Value.int (am_mi μ k x.toNatClampNeg) :: S, μ) else none) = _
  rw [hk, hN, hi]
  rfl
theorem am_F.ias {x y : Int32} {N : Nat} (h : am_look pc code = some (.inl (am_ias n))) (hk : am_is (am_S F G) k 0 = true) (hN : (am_kd (am_S F G) k).2 = N) (hi : am_inb x N = true) (e : am_ui F k x.toNatClampNeg y = F') (g : am_F d code n L S (am_S F' G) res) : am_F d code pc L (.int y :: .int x :: .ref k :: S) (am_S F G) res := by
  refine am_F.op h ?_ g
  show (bif am_is (am_S F G) k 0 && am_inb x (am_kd (am_S F G) k).2 then some (n, L, S, am_seti (am_S F G) k x.toNatClampNeg y) else none) = _
  rw [hk, hN, hi, ← e]
  rfl
theorem am_F.zas {x y : Int32} {N : Nat} (h : am_look pc code = some (.inl (am_zas n))) (hk : am_is (am_S F G) k 1 = true) (hN : (am_kd (am_S F G) k).2 = N) (hi : am_inb x N = true) (hy : (y == 0 || y == 1) = true) (e : am_ui F k x.toNatClampNeg y = F') (g : am_F d code n L S (am_S F' G) res) : am_F d code pc L (.int y :: .int x :: .ref k :: S) (am_S F G) res := by
  refine am_F.op h ?_ g
  show (bif am_is (am_S F G) k 1 && am_inb x (am_kd (am_S F G) k).2 then (bif y == 0 || y == 1 then some (n, L, S, am_seti (am_S F G) k x.toNatClampNeg y) else none) else none) = _
  rw [hk, hN, hi, hy, ← e]
  rfl
theorem am_F.pfi {y : Int32} {c j : Nat} (h : am_look pc code = some (.inl (am_pfi n c j))) (hk : am_is (am_S F G) k (c + 2) = true) (e : am_ui F k j y = F') (g : am_F d code n L S (am_S F' G) res) : am_F d code pc L (.int y :: .ref k :: S) (am_S F G) res := by
  refine am_F.op h ?_ g
  show (bif am_is (am_S F G) k (c + 2) then some (n, L, S, am_seti (am_S F G) k j y) else none) = _
  rw [hk, ← e]
  rfl
theorem am_F.pfz {y : Int32} {c j : Nat} (h : am_look pc code = some (.inl (am_pfz n c j))) (hk : am_is (am_S F G) k (c + 2) = true) (hy : (y == 0 || y == 1) = true) (e : am_ui F k j y = F') (g : am_F d code n L S (am_S F' G) res) : am_F d code pc L (.int y :: .ref k :: S) (am_S F G) res := by
  refine am_F.op h ?_ g
  show (bif am_is (am_S F G) k (c + 2) then (bif y == 0 || y == 1 then some (n, L, S, am_seti (am_S F G) k j y) else none) else none) = _
  rw [hk, hy, ← e]
  rfl
theorem am_F.pfl {y : Int64} {c j : Nat} (h : am_look pc code = some (.inl (am_pfl n c j))) (hk : am_is (am_S F G) k (c + 2) = true) (e : am_ul G k j y = G') (g : am_F d code n L S (am_S F G') res) : am_F d code pc L (.long y :: .ref k :: S) (am_S F G) res := by
  refine am_F.op h ?_ g
  show (bif am_is (am_S F G) k (c + 2) then some (n, L, S, am_setl (am_S F G) k j y) else none) = _
  rw [hk, ← e]
  rfl
theorem am_F.mem (g : am_F d code pc L S (am_S F' G') res) (e1 : F = F') (e2 : G = G') : am_F d code pc L S (am_S F G) res := by subst e1; subst e2; exact g
/-- a branch by a proposition, with what the tree of values holds -/
theorem am_F.iteK {α : Type} {P : Prop} [Decidable P] (k : Nat) (h : am_ops k code pc L S μ = some ((if P then t else n), L', S', μ')) (K : α → Prop) {a b : α} (hK : K (if P then a else b)) (kt : P → K a → am_F d code t L' S' μ' res) (kf : ¬ P → K b → am_F d code n L' S' μ' res) : am_F d code pc L S μ res := by
  by_cases c : P
  · rw [if_pos c] at hK
    refine am_F.ops k h ?_
    rw [if_pos c]; exact kt c hK
  · rw [if_neg c] at hK
    refine am_F.ops k h ?_
    rw [if_neg c]; exact kf c hK
/-- a branch by a truth value -/
theorem am_F.bifK {α : Type} {B : Bool} (k : Nat) (h : am_ops k code pc L S μ = some ((if am_b B = 0 then t else n), L', S', μ')) (K : α → Prop) {a b : α} (hK : K (bif B then a else b)) (kt : B = true → K a → am_F d code n L' S' μ' res) (kf : B = false → K b → am_F d code t L' S' μ' res) : am_F d code pc L S μ res := by
  refine am_F.ops k h ?_
  cases B with
  | true => exact kt rfl hK
  | false => exact kf rfl hK
end
/-! the way from one place of a method to another, whatever comes behind -/
def am_To (d : Nat) (code : am_K) (pc : Nat) (L S : List Value) (μ : am_M) (pc' : Nat) (L' S' : List Value) (μ' : am_M) : Prop := ∀ res, am_F d code pc' L' S' μ' res → am_F d code pc L S μ res
section
variable {d pc pc' n k t : Nat} {code : am_K} {L S L' S' L2 S2 : List Value} {μ μ' μ2 : am_M} {res : Option Value × am_M}
theorem am_To.here : am_To d code pc L S μ pc L S μ := fun _ g => g
/-- both arms of a branch come to one place, with one number each on the stack -/
theorem am_To.ite {P : Prop} [Decidable P] {a b : Int32} (k : Nat) (h : am_ops k code pc L S μ = some ((if P then t else n), L', S', μ')) (kt : P → am_To d code t L' S' μ' pc' L2 (.int a :: S2) μ2) (kf : ¬ P → am_To d code n L' S' μ' pc' L2 (.int b :: S2) μ2) : am_To d code pc L S μ pc' L2 (.int (if P then a else b) :: S2) μ2 := by
  intro res g
  refine am_F.ops k h ?_
  by_cases c : P
  · rw [if_pos c] at g ⊢; exact kt c res g
  · rw [if_neg c] at g ⊢; exact kf c res g
theorem am_To.iteB {P : Prop} [Decidable P] {a b : Bool} (k : Nat) (h : am_ops k code pc L S μ = some ((if P then t else n), L', S', μ')) (kt : P → am_To d code t L' S' μ' pc' L2 (.int (am_b a) :: S2) μ2) (kf : ¬ P → am_To d code n L' S' μ' pc' L2 (.int (am_b b) :: S2) μ2) : am_To d code pc L S μ pc' L2 (.int (am_b (if P then a else b)) :: S2) μ2 := by
  intro res g
  refine am_F.ops k h ?_
  by_cases c : P
  · rw [if_pos c] at g ⊢; exact kt c res g
  · rw [if_neg c] at g ⊢; exact kf c res g
theorem am_To.bif {B : Bool} {a b : Int32} (k : Nat) (h : am_ops k code pc L S μ = some ((if am_b B = 0 then t else n), L', S', μ')) (kt : B = true → am_To d code n L' S' μ' pc' L2 (.int a :: S2) μ2) (kf : B = false → am_To d code t L' S' μ' pc' L2 (.int b :: S2) μ2) : am_To d code pc L S μ pc' L2 (.int (bif B then a else b) :: S2) μ2 := by
  intro res g
  refine am_F.ops k h ?_
  cases B with
  | true => exact kt rfl res g
  | false => exact kf rfl res g
theorem am_To.bifB {B : Bool} {a b : Bool} (k : Nat) (h : am_ops k code pc L S μ = some ((if am_b B = 0 then t else n), L', S', μ')) (kt : B = true → am_To d code n L' S' μ' pc' L2 (.int (am_b a) :: S2) μ2) (kf : B = false → am_To d code t L' S' μ' pc' L2 (.int (am_b b) :: S2) μ2) : am_To d code pc L S μ pc' L2 (.int (am_b (bif B then a else b)) :: S2) μ2 := by
  intro res g
  refine am_F.ops k h ?_
  cases B with
  | true => exact kt rfl res g
  | false => exact kf rfl res g
theorem am_F.to (h : am_To d code pc L S μ pc' L' S' μ') (g : am_F d code pc' L' S' μ' res) : am_F d code pc L S μ res := h res g
end
