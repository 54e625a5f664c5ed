/-! THE ABSTRACT MACHINE IS SOUND: what it comes to, the machine comes to -/
section
variable {p : Program} {l : Launch} {e : Env} {R : Room} {s : State} {m : MethodId} {args : Array Value} {below : List Frame} {meth : Method} {c : Code} {H H0 : Heap} {locs : List Loc} {cells slots : Nat} {Q : State → Prop}
variable {pc : Nat} {ls : Array Slot} {rest st0 : List Value} {mc ms : Nat} {D : va_G} {cI cZ : ClassId} {b : Nat}
theorem am_goon {vs : Array Value} {r : Option Value} {μ1 : am_M} (hr : va_Run p l e R s m args below meth c H locs cells slots mc ms (F0 m pc ls st0) rest (am_Q D cI cZ b r μ1 vs) (fun q => b ≤ q)) (hS : va_S (fun q => b ≤ q) H0 H locs)
    (kk : ∀ (H1 : Heap) (locs1 : List Loc), H1.size = b + am_nx μ1 → va_P D am_cls (am_ws b cI cZ μ1) H1 → va_S (fun q => b ≤ q) H0 H1 locs1 → W p l e R s m args below meth c H1 locs1 (cells + mc) (slots + ms) Q (F0 m (pc + 3) ls ((r.map (am_v b)).toList ++ rest))) : W p l e R s m args below meth c H locs cells slots Q (F0 m pc ls st0) := by
  intro T hT X
  obtain ⟨v, st₀, t, T', L, h0, X', hL, e1, e2, ⟨hv, g1, g2, hz, hk⟩, st⟩ := hr T hT X
  cases hv
  rw [h0] at hz hk
  obtain ⟨t2, a1, b1⟩ := kk T'.heap (locs ++ L) (by rw [e1]; exact g1) (by rw [e1]; exact g2)
    ⟨Nat.le_trans hS.1 (by rw [e1]; exact hz), fun q h1 h2 => by rw [e1, hk q (Nat.lt_of_lt_of_le h1 hS.1) h2]; exact hS.2.1 q h1 h2, fun q hq => by
      rcases List.mem_append.mp hq with h | h
      · exact hS.2.2 q h
      · exact hL q h⟩ T' rfl X'
  exact ⟨t2, st t2 a1, b1⟩
end
/-- soundness up to n steps -/
def am_SD (cs : List am_K) (n : Nat) : Prop := ∀ (d j : Nat) (i : am_I) (code : am_K) (pc : Nat) (L S : List Value) (μ : am_M) (r : Option Value) (μ1 : am_M), am_infos[j]? = some i → cs[j]? = some code → am_run cs n d code pc L S μ = some (r, μ1) →
  ∀ (l : Launch) (p : Program) (e : Env) (R : Room) (s : State) (m : MethodId) (args : Array Value) (below : List Frame) (meth : Method) (c : Code) (D : va_G) (cI cZ : ClassId) (b : Nat) (H : Heap) (locs : List Loc) (ls : Array Slot) (cells slots mc ms : Nat),
    am_C p s m args meth c R i.1.cls i.2.1 i.2.2.1 (am_ini i) D cI cZ b → meth.sig.returnType = i.2.2.2 → meth.locks = false → d + 1 ≤ R.frames → 64 * (d + 1) ≤ R.locals → mc ≤ R.cells → ms ≤ R.slots → cells + am_nx μ1 = mc + am_nx μ → slots + am_ns μ1 = ms + am_ns μ → am_B D cI cZ b s i.2.2.1 L μ H locs ls →
    W p l e R s m args below meth c H locs cells slots (MQ below (am_Q D cI cZ b r μ1) args s mc ms (fun q => b ≤ q)) (F0 m pc ls (S.map (am_v b)))
theorem am_met_n {cs : List am_K} (hall : am_All cs) {n : Nat} (ih : am_SD cs n) (l : Launch) (D : va_G) (cI cZ : ClassId) (b : Nat) {d j : Nat} {i : am_I} {code : am_K} {vs L0 : List Value} {μ : am_M} {r : Option Value} {μ1 : am_M} {mc ms : Nat} (hi : am_infos[j]? = some i) (hc : cs[j]? = some code) (hL0 : am_locs vs i.2.2.1 = some L0) (hrun : am_run cs n d code 0 L0 [] μ = some (r, μ1)) (hmc : am_nx μ1 = mc + am_nx μ) (hms : am_ns μ1 = ms + am_ns μ) :
    Met l i.1 (am_wsm i) (am_rm d mc ms) (va_Pc (vs.map (am_v b)) (am_In D cI cZ b μ)) (am_Q D cI cZ b r μ1) mc ms (fun q => b ≤ q) := by
  refine Met.ofW (cc := i.2.1) (maxL := i.2.2.1) (ret := i.2.2.2) (hall j i code hi hc).2.1 rfl ?_
  intro p e s m args below meth c s₁ B hml hv
  obtain ⟨rfl, hsz, hP, hK, hN⟩ := hv
  have hts := atoms_spec (ws := am_wsm i) B.pre
  have hC : am_C p s m ((vs.map (am_v b)).toArray) meth c (headSpec (am_wsm i) (am_rm d mc ms)).room i.1.cls i.2.1 i.2.2.1 (am_ini i) D cI cZ b :=
    ⟨B.exec, B.bytes, hml, findClass_of_methodNamed B.named, fun w hw => hts w (List.mem_cons_of_mem _ hw), hN, hK, by omega, fun h => by rw [(name_of_methodNamed B.named B.method).1]; exact eq_of_beq h, Nat.le_add_left 1 d, by show 64 ≤ 64 * (d + 1); omega⟩
  rw [lg_entry_eq]
  unfold am_locs at hL0
  cases hb : Nat.ble (am_sp vs).length i.2.2.1 with
  | false => rw [hb] at hL0; cases hL0
  | true =>
    rw [hb, cond_true] at hL0
    cases hL0
    have hle := Nat.le_of_ble_eq_true hb
    have hl := lv_entry (vs.map (am_v b)) (n := i.2.2.1) (by rw [am_sp_len]; exact hle)
    exact ih d j i code 0 _ [] μ r μ1 hi hc hrun l p e _ s m _ below meth c D cI cZ b s.heap [] _ 0 0 mc ms hC B.returns B.notSynchronized (Nat.le_refl _) (Nat.le_refl _) (Nat.le_refl _) (Nat.le_refl _) (by omega) (by omega) ⟨hl.le (am_sp_vl b _ vs 0), hsz, hP, va_S.rf⟩
theorem am_sd {cs : List am_K} (hall : am_All cs) : ∀ n : Nat, am_SD cs n := by
  intro n
  induction n with
  | zero => intro d j i code pc L S μ r μ1 _ _ h; cases h
  | succ n ih =>
    intro d j i code pc L S μ r μ1 hi hc h l p e R s m args below meth cd D cI cZ b H locs ls cells slots mc ms hC hr hlk hfr hlo hmc hms hc1 hs1 hB
    have hmem : i ∈ am_infos := List.mem_of_getElem? hi
    unfold am_run at h
    split at h
    · cases h
    · next f hf =>
      obtain ⟨hok, hmo⟩ := (hall j i code hi hc).1 _ (am_look_mem hf)
      split at h
      · cases h
      · next pc' L' S' μ' hs =>
        obtain ⟨a1, a2⟩ := hmo _ _ _ _ _ _ _ hs
        obtain ⟨b1, b2⟩ := am_run_mo hall n d j i code pc' L' S' μ' r μ1 hi hc h
        refine hok p l e R s m args below meth cd D cI cZ b _ L S μ pc' L' S' μ' H locs ls cells slots hC hs hB (by omega) (by omega) fun H' locs' ls' cells' slots' hB' e1 e2 => ?_
        exact ih d j i code pc' L' S' μ' r μ1 hi hc h l p e R s m args below meth cd D cI cZ b H' locs' ls' cells' slots' mc ms hC hr hlk hfr hlo hmc hms (by omega) (by omega) hB'
    · next j' na rc nxt nL hf =>
      have hk := (hall j i code hi hc).1 _ (am_look_mem hf)
      obtain ⟨i', hi', hnL, hnx, hpar, hini, hkind⟩ := hk
      simp only at hnL hnx hpar hkind
      split at h
      · cases h
      · next d' =>
        split at h
        · cases h
        · next vs rest hv =>
          split at h
          · cases h
          · next code' hc' =>
            split at h
            · cases h
            · next L0 hL0 =>
              split at h
              · cases h
              · next r' μ' hr' =>
                obtain ⟨a1, a2⟩ := am_run_mo hall n d' j' i' code' 0 L0 [] μ r' μ' hi' hc' hr'
                obtain ⟨b1, b2⟩ := am_run_mo hall n (d' + 1) j i code nxt L (r'.toList ++ rest) μ' r μ1 hi hc h
                obtain ⟨mc', hmc'⟩ : ∃ z, am_nx μ' = z + am_nx μ := ⟨am_nx μ' - am_nx μ, by omega⟩
                obtain ⟨ms', hms'⟩ : ∃ z, am_ns μ' = z + am_ns μ := ⟨am_ns μ' - am_ns μ, by omega⟩
                obtain ⟨-, hpl, hcls, h24⟩ := hall j' i' code' hi' hc'
                subst hnL
                have hM := am_met_n hall ih l D cI cZ b (d := d') (mc := mc') (ms := ms') hi' hc' hL0 hr' hmc' hms'
                obtain ⟨hx, hb, hml, ho, ht, hN, hK, hbs, hin, hf1, hl1⟩ := hC
                have hC : am_C p s m args meth cd R i.1.cls i.2.1 i.2.2.1 (am_ini i) D cI cZ b := ⟨hx, hb, hml, ho, ht, hN, hK, hbs, hin, hf1, hl1⟩
                obtain ⟨hl, hz, hP, hS⟩ := hB
                have hroom : (am_rm d' mc' ms').frames + 1 ≤ R.frames ∧ 8 + (i'.2.2.1 + 11) + (am_rm d' mc' ms').locals ≤ R.locals := ⟨by show d' + 1 + 1 ≤ _; omega, by show _ + 64 * (d' + 1) ≤ _; omega⟩
                have hfit : cells + mc' ≤ R.cells ∧ slots + ms' ≤ R.slots := ⟨by omega, by omega⟩
                have hG := am_good i' (List.mem_of_getElem? hi')
                have hfix : CallFix p m cd i.2.1 i.2.2.1 s args am_tbl i.1.cls := ⟨hx, hb, hml, ho, ht⟩
                have hpre : ∀ U : State, U.heap = H → s.WarmedH U.vm → va_Pc (vs.map (am_v b)) (am_In D cI cZ b μ) (vs.map (am_v b)).toArray U := fun U hU hW => ⟨rfl, am_In_warm hK hN hz hP hU hW⟩
                have hgo : ∀ (rest0 : List Value), rest0 = rest.map (am_v b) → va_Run p l e R s m args below meth cd H locs cells slots mc' ms' (F0 m pc ls (S.map (am_v b))) rest0 (am_Q D cI cZ b r' μ' (vs.map (am_v b)).toArray) (fun q => b ≤ q) → W p l e R s m args below meth cd H locs cells slots (MQ below (am_Q D cI cZ b r μ1) args s mc ms (fun q => b ≤ q)) (F0 m pc ls (S.map (am_v b))) := by
                  intro rest0 hrest0 hrun
                  refine am_goon hrun hS fun H1 locs1 z1 P1 S1 => ?_
                  have e9 : (r'.map (am_v b)).toList ++ rest0 = (r'.toList ++ rest).map (am_v b) := by
                    rw [hrest0, List.map_append]
                    cases r' <;> rfl
                  rw [e9, ← hnx]
                  exact ih (d' + 1) j i code nxt L (r'.toList ++ rest) μ' r μ1 hi hc h l p e R s m args below meth cd D cI cZ b H1 locs1 ls (cells + mc') (slots + ms') mc ms hC hr hlk hfr hlo hmc hms (by omega) (by omega) ⟨hl, z1, P1, S1⟩
                unfold am_call at hv
                obtain ⟨hv1, hv⟩ : (Nat.ble na S.length && Nat.ble ((S.drop (na + 1)).map (fun v => v.category)).sum 8) = true ∧ _ := by
                  cases hq : (Nat.ble na S.length && Nat.ble ((S.drop (na + 1)).map (fun v => v.category)).sum 8) with
                  | true => rw [hq, cond_true] at hv; exact ⟨rfl, hv⟩
                  | false => rw [hq] at hv; cases hv
                rw [Bool.and_eq_true] at hv1
                have hna := Nat.le_of_ble_eq_true hv1.1
                have hsum := Nat.le_of_ble_eq_true hv1.2
                have hcat : ∀ l : List Value, ((l.map (am_v b)).map fun v => v.category) = l.map fun v => v.category := fun l => by
                  rw [List.map_map]
                  apply List.map_congr_left
                  intro v _
                  exact am_v_cat b v
                have hlen : (((S.take na).reverse).map (am_v b)).length = na := by simp; omega
                have hSs : S.map (am_v b) = (((S.take na).reverse).map (am_v b)).reverse ++ (S.drop na).map (am_v b) := by
                  rw [← List.map_reverse, List.reverse_reverse, ← List.map_append, List.take_append_drop]
                rcases hkind with ⟨c, ix, w, h1, h2, h3, h4, h5, h6, h7⟩ | ⟨ix, h1, h4, h5, h6⟩ | ⟨ix, hh, h1, h4, h5, h6⟩ | ⟨c, ix, h1, h2, h3, h4, h5, h6⟩ | ⟨c, ix, hh, h1, h2, h3, h4, h5, h6⟩
                · subst h1
                  simp only at hv
                  split at hv
                  · next k9 rest9 hd9 =>
                    obtain ⟨hi9, hv⟩ := am_bif hv
                    cases hv
                    obtain ⟨g1, g2⟩ := am_is_of hi9
                    have he := am_ws_at (b := b) (cI := cI) (cZ := cZ) g2
                    rw [am_ent_c g1] at he
                    have hrc := va_recv hK hP h2 he
                    rw [h3] at hrc
                    rw [hd9] at hSs
                    have hr8 : ((rest.map (am_v b)).map fun v => v.category).sum ≤ 8 := by
                      rw [hcat]
                      have : S.drop (na + 1) = rest := by rw [← List.drop_drop, hd9]; rfl
                      rw [← this]; exact hsum
                    refine hgo _ rfl (va_runV (C := i'.1.cls) (As := ((S.take na).reverse).map (am_v b)) hfix hM ⟨callB_of na ht hG rfl rfl rfl (ht _ hini) (ht _ h5) ⟨hcls.1, hcls.2, hpar⟩ hroom, ht _ h6, ht _ h7⟩ ⟨am_blind D cI cZ b μ _, hrc, hpre⟩ rfl hlen hl.1 hSs (lv_room hr8) h4 hfit)
                  · cases hv
                · subst h1
                  simp only at hv
                  obtain ⟨hi9, hv⟩ := am_bif hv
                  cases hv
                  have hr8 : (((S.drop na).map (am_v b)).map fun v => v.category).sum ≤ 8 := by rw [hcat]; exact Nat.le_of_ble_eq_true hi9
                  refine hgo _ rfl (va_runS (As := ((S.take na).reverse).map (am_v b)) hfix hM ⟨callB_of na ht hG rfl rfl rfl (ht _ hini) (ht _ h5) ⟨hcls.1, hcls.2, hpar⟩ hroom, ht _ h6⟩ ⟨am_blind D cI cZ b μ _, hpre⟩ rfl hlen hl.1 hSs (lv_room hr8) h4 hfit)
                · subst h1
                  simp only at hv
                  obtain ⟨hi9, hv⟩ := am_bif hv
                  cases hv
                  have hr8 : (((S.drop na).map (am_v b)).map fun v => v.category).sum ≤ 8 := by rw [hcat]; exact Nat.le_of_ble_eq_true hi9
                  refine hgo _ rfl (va_runSN (As := ((S.take na).reverse).map (am_v b)) hfix hM ⟨va_cnB na ht hG rfl rfl rfl (hN _ h5) (ht _ hini) ⟨hcls.1, hcls.2, hpar⟩ hroom, ht _ h6, trivial⟩ ⟨am_blind D cI cZ b μ _, hpre⟩ rfl hlen hl.1 hSs (lv_room hr8) h4 hfit)
                · subst h1
                  simp only at hv
                  split at hv
                  · next k9 rest9 hd9 =>
                    obtain ⟨hi9, hv⟩ := am_bif hv
                    cases hv
                    rw [hd9] at hSs
                    have hr8 : ((rest.map (am_v b)).map fun v => v.category).sum ≤ 8 := by
                      rw [hcat]
                      have : S.drop (na + 1) = rest := by rw [← List.drop_drop, hd9]; rfl
                      rw [← this]; exact hsum
                    rw [show am_wsm i' = .code i'.1 i'.2.1 i'.2.2.1 none :: am_tbl by unfold am_wsm; rw [h2]] at hM hG
                    refine hgo _ rfl (va_runI (As := ((S.take na).reverse).map (am_v b)) hfix hM ⟨callB_of na ht hG rfl rfl rfl (ht _ hini) (ht _ h5) ⟨hcls.1, hcls.2, hpar⟩ hroom, h3, ht _ h6⟩ ⟨am_blind D cI cZ b μ _, hpre⟩ rfl hlen hl.1 hSs (lv_room hr8) h4 hfit)
                  · cases hv
                · subst h1
                  simp only at hv
                  split at hv
                  · next k9 rest9 hd9 =>
                    obtain ⟨hi9, hv⟩ := am_bif hv
                    cases hv
                    rw [hd9] at hSs
                    have hr8 : ((rest.map (am_v b)).map fun v => v.category).sum ≤ 8 := by
                      rw [hcat]
                      have : S.drop (na + 1) = rest := by rw [← List.drop_drop, hd9]; rfl
                      rw [← this]; exact hsum
                    rw [show am_wsm i' = .code i'.1 i'.2.1 i'.2.2.1 none :: am_tbl by unfold am_wsm; rw [h2]] at hM hG
                    refine hgo _ rfl (va_runIN (As := ((S.take na).reverse).map (am_v b)) hfix hM ⟨va_cnB na ht hG rfl rfl rfl (hN _ h5) (ht _ hini) ⟨hcls.1, hcls.2, hpar⟩ hroom, h3, ht _ h6⟩ ⟨am_blind D cI cZ b μ _, hpre⟩ rfl hlen hl.1 hSs (lv_room hr8) h4 hfit)
                  · cases hv
    · next k hf =>
      have hk : am_RetOK i pc k := (hall j i code hi hc).1 _ (am_look_mem hf)
      obtain ⟨hx, hb, -⟩ := hC
      obtain ⟨hl, hz, hP, hS⟩ := hB
      unfold am_ret at h
      split at h
      · cases h
        obtain rfl : cells = mc := by omega
        obtain rfl : slots = ms := by omega
        rcases hk with ⟨-, k1, k2⟩ | ⟨k0, -⟩ | ⟨k0, -⟩ | ⟨k0, -⟩ <;> first | cases k0 | skip
        exact W.vret hx hb (hr.trans k1) (fun t ht hW => ⟨rfl, by rw [ht]; exact hz, by rw [ht]; exact hP, hS.F ht⟩) hS.2.2 k2 hlk
      · cases h
        obtain rfl : cells = mc := by omega
        obtain rfl : slots = ms := by omega
        rcases hk with ⟨k0, -⟩ | ⟨-, k1, k2⟩ | ⟨k0, -⟩ | ⟨k0, -⟩ <;> first | cases k0 | skip
        exact W.iret hx hb (hr.trans k1) (fun t ht hW => ⟨rfl, by rw [ht]; exact hz, by rw [ht]; exact hP, hS.F ht⟩) hS.2.2 k2 hlk
      · obtain ⟨h01, h⟩ := am_bif h
        cases h
        obtain rfl : cells = mc := by omega
        obtain rfl : slots = ms := by omega
        rcases hk with ⟨k0, -⟩ | ⟨k0, -⟩ | ⟨-, k1, k2⟩ | ⟨k0, -⟩ <;> first | cases k0 | skip
        exact W.zret hx hb (hr.trans k1) (am_01 h01).1 (fun t ht hW => ⟨rfl, by rw [ht]; exact hz, by rw [ht]; exact hP, hS.F ht⟩) hS.2.2 k2 hlk
      · cases h
        obtain rfl : cells = mc := by omega
        obtain rfl : slots = ms := by omega
        rcases hk with ⟨k0, -⟩ | ⟨k0, -⟩ | ⟨k0, -⟩ | ⟨-, k1, k2⟩ <;> first | cases k0 | skip
        exact W.lret hx hb (hr.trans k1) (fun t ht hW => ⟨rfl, by rw [ht]; exact hz, by rw [ht]; exact hP, hS.F ht⟩) hS.2.2 k2 hlk
      · cases h
/-- a run of a method is its contract -/
theorem am_met {cs : List am_K} (hall : am_All cs) (l : Launch) (D : va_G) (cI cZ : ClassId) (b : Nat) {n d j : Nat} {i : am_I} {code : am_K} {vs L0 : List Value} {μ : am_M} {r : Option Value} {μ1 : am_M} {mc ms : Nat} (hi : am_infos[j]? = some i) (hc : cs[j]? = some code) (hL0 : am_locs vs i.2.2.1 = some L0) (hrun : am_run cs n d code 0 L0 [] μ = some (r, μ1)) (hmc : am_nx μ1 = mc + am_nx μ) (hms : am_ns μ1 = ms + am_ns μ) :
    Met l i.1 (am_wsm i) (am_rm d mc ms) (va_Pc (vs.map (am_v b)) (am_In D cI cZ b μ)) (am_Q D cI cZ b r μ1) mc ms (fun q => b ≤ q) := am_met_n hall (am_sd hall n) l D cI cZ b hi hc hL0 hrun hmc hms
