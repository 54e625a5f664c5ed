def am_has (x : Int32) (n : Int32) : Bool := !decide ((x >>> (n &&& 31)) &&& 1 = 0)
theorem x_has (x n : Int32) (μ : am_M) : am_D 0 5 2 [.int x, .int n] μ (some (.int (am_b (am_has x n))), μ) := by
  refine am_D.of (code := am_k_5) rfl rfl ?_
  refine am_F.ite 6 rfl (fun c => ?_) (fun c => ?_)
  · refine am_F.ops 1 rfl ?_
    refine am_F.ret rfl ?_
    simp [am_has, c, am_b, am_ret]
  · refine am_F.ops 2 rfl ?_
    refine am_F.ret rfl ?_
    simp [am_has, c, am_b, am_ret]
def am_for {α : Type} (f : Nat → α → α) : Nat → Nat → α → α
  | 0, _, a => a
  | n + 1, i, a => am_for f n (i + 1) (f i a)
theorem am_inbN {i n : Nat} (h : i < n) (hn : n ≤ 65536) : am_inb (nI i) n = true := by
  unfold am_inb
  rw [Bool.and_eq_true]
  refine ⟨?_, ?_⟩
  · have := nI_pos (n := i) (by omega)
    simpa using this
  · rw [nI_clamp (by omega)]
    exact Nat.ble_eq_true_of_le h
section
variable {d pc n k : Nat} {code : am_K} {L S : List Value} {μ : am_M} {res : Option Value × am_M}
theorem am_F.op {f : am_Op} {L' S' : List Value} {μ' : am_M} {pc' : Nat} (h : am_look pc code = some (.inl f)) (h2 : f L S μ = some (pc', L', S', μ')) (g : am_F d code pc' L' S' μ' res) : am_F d code pc L S μ res := by
  refine am_F.ops 1 ?_ g
  unfold am_ops
  rw [h]
  simp only
  rw [h2]
  rfl
theorem am_F.ialN {i z N : Nat} (h : am_look pc code = some (.inl (am_ial n z))) (hk : am_is μ k z = true) (hN : (am_kd μ k).2 = N) (hi : i < N) (h6 : N ≤ 65536) (g : am_F d code n L (.int (am_mi μ k i) :: S) μ res) : am_F d code pc L (.int (nI i) :: .ref k :: S) μ res := by
  refine am_F.op h ?_ g
  show (bif am_is μ k z && am_inb (nI i) (am_kd μ k).2 then some (n, L, Value.int (am_mi μ k (nI i).toNatClampNeg) :: S, μ) else none) = _
  rw [hk, hN, am_inbN hi h6, nI_clamp (by omega)]
  rfl
end
theorem x_spread_1 (d : Nat) (bits : Int32) (f : Nat → Nat → Int32) (g : Nat → Nat → Int64) : ∀ (n i : Nat) (all : Int32), i + n = 20 → am_F (d + 1) am_k_24 4 [.ref 3, .int bits, .int all, .int (nI i)] [] (am_S f g) (some (.int (am_for (fun i a => bif am_has bits (nI i) then a ||| f 6 i else a) n i all)), am_S f g) := by
  intro n
  induction n with
  | zero =>
    intro i all hi
    obtain rfl : i = 20 := by omega
    refine am_F.pos 3 rfl (by decide) ?_
    refine am_F.ops 1 rfl ?_
    exact am_F.ret rfl rfl
  | succ n ih =>
    intro i all hi
    refine am_F.neg 3 rfl (nI_ge (a := i) (b := 20) (by omega) (by omega)) ?_
    refine am_F.ops 2 rfl ?_
    refine am_F.call rfl rfl (x_has bits (nI i) _) (Nat.zero_le _) ?_
    unfold am_for
    cases hb : am_has bits (nI i) with
    | false =>
      refine am_F.pos 1 rfl rfl ?_
      refine am_F.ops 2 rfl ?_
      refine am_F.st (ih (i + 1) all (by omega)) ?_ rfl rfl
      rw [← nI_1]; rfl
    | true =>
      refine am_F.neg 1 rfl (by decide) ?_
      refine am_F.ops 4 rfl ?_
      refine am_F.ialN rfl rfl rfl (by omega : i < 20) (by decide) ?_
      refine am_F.ops 4 rfl ?_
      refine am_F.st (ih (i + 1) (all ||| f 6 i) (by omega)) ?_ rfl rfl
      rw [← nI_1]; rfl
theorem x_spread (d : Nat) (bits : Int32) (f : Nat → Nat → Int32) (g : Nat → Nat → Int64) : am_D (d + 1) 24 4 [.ref 3, .int bits] (am_S f g) (some (.int (am_for (fun i a => bif am_has bits (nI i) then a ||| f 6 i else a) 20 0 0)), am_S f g) := by
  refine am_D.of (code := am_k_24) rfl rfl ?_
  refine am_F.ops 4 rfl ?_
  exact x_spread_1 d bits f g 20 0 0 rfl
