/-! THE LAW: its loop, and the claim -/
section
variable {p : Program} {l : Launch} {e : Env} {s : State} {m : MethodId} {below : List Frame} {meth : Method} {c : Code} {b L : Nat} {xs : Nat → Int32} {D : va_G} {cI cZ : ClassId}
theorem lw_loop {I : am_M → Prop} (hA : am_Laws I) (hr : meth.sig.returnType = ret) (hlocks : meth.locks = false) (C : lw_Fx p s m c D cI cZ b L xs) {cells slots : Nat} (hcells : cells ≤ 600000) (hslots : slots ≤ 7302250) : ∀ (n i : Nat) (μ : am_M) (H : Heap) (locs : List Loc) (ls : Array Slot), i ≤ L + 6 → L + 7 ≤ i + n → I μ → lw_G D cI cZ s μ H locs → lv_has ls 4 [(0, .ref b), (1, .ref (s.heap.size + 0)), (2, .ref (s.heap.size + 88)), (3, .int (nI i))] → W p l e room_1 s m #[Value.ref b] below meth c H locs cells slots (lw_Z below #[Value.ref b] s) (F0 m 18 ls []) := by
  obtain ⟨hx, hb, hml, ho, ht, hN, hK, hX, hbl, hL⟩ := id C
  obtain ⟨h0, h1, h2, h3, h4, h5, h6, h7, h8, h9, h10, h11, h12, h13, h14, h15, h16, h17, h18, h19, h20, h21, h22, h23, h24, h25, h26, h27, h28, h29, h30, h31, h32, h33, h34, h35, h36, h37, h38, h39, h40, h41, hI0⟩ := hA
  intro n
  induction n with
  | zero => intro i μ H locs ls g1 g2; omega
  | succ n ih =>
    intro i μ H locs ls g1 g2 hI G hl
    refine lv_iload_n hx hb (show decode code 18 = .ok (.iload_n 3, 1) by decide +kernel) rfl (lv_at hl 3 rfl) ?_
    refine lv_aload_n hx hb (show decode code 19 = .ok (.aload_n 0, 1) by decide +kernel) rfl (lv_at hl 0 rfl) ?_
    refine va_slen (A := fun q => s.heap.size ≤ q) hx hb hX hbl (Nat.not_le.mpr hbl) G.2.2 (show decode code 20 = .ok (.arraylength, 1) by decide +kernel) ?_
    refine lv_bipush (v := 6) hx hb (show decode code 21 = .ok (.bipush 6, 2) by decide +kernel) (by decide) ?_
    refine lv_isub hx hb (show decode code 23 = .ok (.isub, 1) by decide +kernel) ?_
    have eL : (nI L - 6).toInt = (L : Int) - 6 := by
      rw [Int32.toInt_sub, nI_toInt (by omega), show (6 : Int32).toInt = 6 from rfl]
      refine Int.bmod_eq_of_le ?_ ?_ <;> first | omega | (simp only [Int32.size]; omega)
    refine lv_icmp_gt (tgt := 1678) hx hb (show decode code 24 = .ok (.if_icmp .gt 1654, 3) by decide +kernel) (by decide) (fun c9 => ?_) (fun c9 => ?_)
    · refine lv_iconst (v := 1) hx hb (show decode code 1678 = .ok (.iconst 1, 1) by decide +kernel) (by decide) ?_
      refine va_forget (fun q hq => G.2.2.2.2 q hq) ?_
      refine W.widen (k := 600000) (n := 7302250) hcells hslots ?_
      exact lw_ret hx hb hr hlocks (show decode code 1679 = .ok (.ireturn, 1) by decide +kernel)
    · have hik : i + 5 < L := by
        have c8 : ¬ nI L - 6 < nI i := c9
        rw [Int32.lt_iff_toInt_lt, eL, nI_toInt (by omega)] at c8
        omega
      refine lv_aload_n hx hb (show decode code 27 = .ok (.aload_n 0, 1) by decide +kernel) rfl (lv_at hl 0 rfl) ?_
      refine lv_iload_n hx hb (show decode code 28 = .ok (.iload_n 3, 1) by decide +kernel) rfl (lv_at hl 3 rfl) ?_
      refine va_sld (A := fun q => s.heap.size ≤ q) hx hb hX hbl (Nat.not_le.mpr hbl) G.2.2 (vp_in_nI (n := i) (by omega) (by omega)) (show decode code 29 = .ok (.iaload, 1) by decide +kernel) ?_
      refine lv_bipush (v := 63) hx hb (show decode code 30 = .ok (.bipush 63, 2) by decide +kernel) (by decide) ?_
      refine lv_iand hx hb (show decode code 32 = .ok (.iand, 1) by decide +kernel) ?_
      have kk : ∀ (μ2 : am_M) (H2 : Heap) (locs2 : List Loc), I μ2 → lw_G D cI cZ s μ2 H2 locs2 → W p l e room_1 s m #[Value.ref b] below meth c H2 locs2 cells slots (lw_Z below #[Value.ref b] s) (F0 m 1672 ls []) := by
        intro μ2 H2 locs2 hI2 G2
        refine lv_iinc (v := nI (i + 6)) (lv' := [(3, .int (nI (i + 6))), (0, .ref b), (1, .ref (s.heap.size + 0)), (2, .ref (s.heap.size + 88))]) hx hb (show decode code 1672 = .ok (.iinc 3 6, 3) by decide +kernel) hl (k := 3) rfl (by rw [← nI_add]; rfl) (by decide) rfl (fun ls2 hl2 => ?_)
        refine lv_goto (tgt := 18) hx hb (show decode code 1675 = .ok (.goto (-1657), 3) by decide +kernel) (by decide) ?_
        exact ih (i + 6) μ2 H2 locs2 ls2 (by omega) (by omega) hI2 G2 (lv_sub hl2 [1, 2, 3, 0] rfl)
      generalize (xs (nI i).toNatClampNeg &&& 63) = x
      refine lw_tsw (tg := [216, 269, 302, 345, 388, 431, 454, 517, 540, 573, 606, 629, 692, 715, 748, 781, 804, 817, 860, 893, 936, 969, 1012, 1065, 1108, 1161, 1214, 1247, 1270, 1313, 1346, 1369, 1402, 1445, 1478, 1501, 1544, 1567, 1600, 1623, 1636, 1649]) (df := 1672) hx hb (show decode code 33 = .ok (.tableswitch 1639 0 41 #[183, 236, 269, 312, 355, 398, 421, 484, 507, 540, 573, 596, 659, 682, 715, 748, 771, 784, 827, 860, 903, 936, 979, 1032, 1075, 1128, 1181, 1214, 1237, 1280, 1313, 1336, 1369, 1412, 1445, 1468, 1511, 1534, 1567, 1590, 1603, 1616], 183) by decide +kernel) (by decide) (by decide +kernel) (by decide) ⟨by decide, by decide⟩ ?_
      refine lw_ltg (g := fun t => F0 m t ls []) (fun q hq => ?_) (kk μ H locs hI G)
      have key : ∀ q ∈ am_zp 0 [216, 269, 302, 345, 388, 431, 454, 517, 540, 573, 606, 629, 692, 715, 748, 781, 804, 817, 860, 893, 936, 969, 1012, 1065, 1108, 1161, 1214, 1247, 1270, 1313, 1346, 1369, 1402, 1445, 1478, 1501, 1544, 1567, 1600, 1623, 1636, 1649], W p l e room_1 s m #[Value.ref b] below meth c H locs cells slots (lw_Z below #[Value.ref b] s) (F0 m q.2 ls []) := List.forall_mem_cons.mpr ⟨lw_c0 hI0 h0 hI C G hl hik hcells hslots kk, List.forall_mem_cons.mpr ⟨lw_c1 hI0 h1 hI C G hl hik hcells hslots kk, List.forall_mem_cons.mpr ⟨lw_c2 hI0 h2 hI C G hl hik hcells hslots kk, List.forall_mem_cons.mpr ⟨lw_c3 hI0 h3 hI C G hl hik hcells hslots kk, List.forall_mem_cons.mpr ⟨lw_c4 hI0 h4 hI C G hl hik hcells hslots kk, List.forall_mem_cons.mpr ⟨lw_c5 hI0 h5 hI C G hl hik hcells hslots kk, List.forall_mem_cons.mpr ⟨lw_c6 hI0 h6 hI C G hl hik hcells hslots kk, List.forall_mem_cons.mpr ⟨lw_c7 hI0 h7 hI C G hl hik hcells hslots kk, List.forall_mem_cons.mpr ⟨lw_c8 hI0 h8 hI C G hl hik hcells hslots kk, List.forall_mem_cons.mpr ⟨lw_c9 hI0 h9 hI C G hl hik hcells hslots kk, List.forall_mem_cons.mpr ⟨lw_c10 hI0 h10 hI C G hl hik hcells hslots kk, List.forall_mem_cons.mpr ⟨lw_c11 hI0 h11 hI C G hl hik hcells hslots kk, List.forall_mem_cons.mpr ⟨lw_c12 hI0 h12 hI C G hl hik hcells hslots kk, List.forall_mem_cons.mpr ⟨lw_c13 hI0 h13 hI C G hl hik hcells hslots kk, List.forall_mem_cons.mpr ⟨lw_c14 hI0 h14 hI C G hl hik hcells hslots kk, List.forall_mem_cons.mpr ⟨lw_c15 hI0 h15 hI C G hl hik hcells hslots kk, List.forall_mem_cons.mpr ⟨lw_c16 hI0 h16 hI C G hl hik hcells hslots kk, List.forall_mem_cons.mpr ⟨lw_c17 hI0 h17 hI C G hl hik hcells hslots kk, List.forall_mem_cons.mpr ⟨lw_c18 hI0 h18 hI C G hl hik hcells hslots kk, List.forall_mem_cons.mpr ⟨lw_c19 hI0 h19 hI C G hl hik hcells hslots kk, List.forall_mem_cons.mpr ⟨lw_c20 hI0 h20 hI C G hl hik hcells hslots kk, List.forall_mem_cons.mpr ⟨lw_c21 hI0 h21 hI C G hl hik hcells hslots kk, List.forall_mem_cons.mpr ⟨lw_c22 hI0 h22 hI C G hl hik hcells hslots kk, List.forall_mem_cons.mpr ⟨lw_c23 hI0 h23 hI C G hl hik hcells hslots kk, List.forall_mem_cons.mpr ⟨lw_c24 hI0 h24 hI C G hl hik hcells hslots kk, List.forall_mem_cons.mpr ⟨lw_c25 hI0 h25 hI C G hl hik hcells hslots kk, List.forall_mem_cons.mpr ⟨lw_c26 hI0 h26 hI C G hl hik hcells hslots kk, List.forall_mem_cons.mpr ⟨lw_c27 hI0 h27 hI C G hl hik hcells hslots kk, List.forall_mem_cons.mpr ⟨lw_c28 hI0 h28 hI C G hl hik hcells hslots kk, List.forall_mem_cons.mpr ⟨lw_c29 hI0 h29 hI C G hl hik hcells hslots kk, List.forall_mem_cons.mpr ⟨lw_c30 hI0 h30 hI C G hl hik hcells hslots kk, List.forall_mem_cons.mpr ⟨lw_c31 hI0 h31 hI C G hl hik hcells hslots kk, List.forall_mem_cons.mpr ⟨lw_c32 hI0 h32 hI C G hl hik hcells hslots kk, List.forall_mem_cons.mpr ⟨lw_c33 hI0 h33 hI C G hl hik hcells hslots kk, List.forall_mem_cons.mpr ⟨lw_c34 hI0 h34 hI C G hl hik hcells hslots kk, List.forall_mem_cons.mpr ⟨lw_c35 hI0 h35 hI C G hl hik hcells hslots kk, List.forall_mem_cons.mpr ⟨lw_c36 hI0 h36 hI C G hl hik hcells hslots kk, List.forall_mem_cons.mpr ⟨lw_c37 hI0 h37 hI C G hl hik hcells hslots kk, List.forall_mem_cons.mpr ⟨lw_c38 hI0 h38 hI C G hl hik hcells hslots kk, List.forall_mem_cons.mpr ⟨lw_c39 hI0 h39 hI C G hl hik hcells hslots kk, List.forall_mem_cons.mpr ⟨lw_c40 hI0 h40 hI C G hl hik hcells hslots kk, List.forall_mem_cons.mpr ⟨lw_c41 hI0 h41 hI C G hl hik hcells hslots kk, fun _ h => absurd h List.not_mem_nil⟩⟩⟩⟩⟩⟩⟩⟩⟩⟩⟩⟩⟩⟩⟩⟩⟩⟩⟩⟩⟩⟩⟩⟩⟩⟩⟩⟩⟩⟩⟩⟩⟩⟩⟩⟩⟩⟩⟩⟩⟩⟩
      exact key q hq
end
