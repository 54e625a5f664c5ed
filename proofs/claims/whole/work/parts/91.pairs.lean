/-! PAIRS OF CALLS: excluded pairs; assign, off, idle -/
set_option linter.unusedVariables false
theorem pu_andC (x y : Int32) : x &&& y = y &&& x := pu_ext fun i hi => by rw [pu_and, pu_and, Bool.and_comm]
theorem pu_barred {F f' : Nat → Nat → Int32} (h : ∀ r, r < 20 → F 31 r = f' 89 (164 + r)) (bits : Int32) : fn_isBarred bits F = fn_m_isUnlike bits f' := by
  unfold fn_isBarred fn_m_isUnlike
  have : lf_isBarred_2 bits F = lf_m_isUnlike_2 bits f' := by
    unfold lf_isBarred_2 lf_m_isUnlike_2
    refine pu_forXC 20 0 () (fun j _ _ hj => ?_)
    unfold st_isBarred_2 st_m_isUnlike_2
    rw [pu_hm, h j (by omega), pu_andC]
  rw [this]
/-- the first that is so -/
def pu_any (p : Nat → Bool) : Nat → Nat → Bool
  | 0, _ => false
  | n + 1, i => p i || pu_any p n (i + 1)
theorem pu_anyX {β : Type} {st : Nat → Unit → Unit ⊕ (Unit ⊕ β)} {p : Nat → Bool} {a : β} (h : ∀ j, st j () = bif p j then .inr (.inr a) else .inl ()) (b : β) : ∀ n i, Sum.elim (fun (_ : Unit) => b) (fun (z : β) => z) (am_forX st n i ()) = bif pu_any p n i then a else b := by
  intro n
  induction n with
  | zero => intro i; rfl
  | succ n ih =>
    intro i
    rw [am_forX_s, h i, pu_any]
    cases p i with
    | true => rfl
    | false => exact ih (i + 1)
theorem pu_any_c {p p' : Nat → Bool} : ∀ n i, (∀ j, i ≤ j → j < i + n → p' j = p j) → pu_any p' n i = pu_any p n i := by
  intro n
  induction n with
  | zero => intro i _; rfl
  | succ n ih => intro i h; rw [pu_any, pu_any, h i (by omega) (by omega), ih (i + 1) (fun j h1 h2 => h j (by omega) (by omega))]
/-- whether some user holds an excluded pair, alike -/
theorem pu_some {f f' : Nat → Nat → Int32} {g : Nat → Nat → Int64} (ht : f 2 12 = f' 89 200) (hl : pu_Vln f (g 11 6) (f' 89)) (hc : pu_Cln (f' 89)) (ha : pu_Vass f (f' 89)) (hd : ∀ r, r < 20 → f 6 r = f' 92 r) (hb : ∀ r, r < 20 → f 31 r = f' 89 (164 + r)) : (fn_someBarred f g).1 = (fn_m_isAnyUnlike_153 f').1 := by
  unfold fn_someBarred fn_m_isAnyUnlike_153 lf_someBarred_13 lf_m_isAnyUnlike_153_6
  rw [pu_anyX (p := fun u => fn_isBarred ((fn_settle (f 2 12) f g).2.2.1 u) f) (fun j => rfl), pu_anyX (p := fun u => fn_m_isUnlike ((fn_m_holders_154 f').2.1 u) f') (fun j => rfl)]
  have hS := pu_settle hl hc ha hd _ rfl _ rfl
  have hH := pu_holders (f' := f')
  rw [pu_any_c 16 0 (p := fun u => fn_m_isUnlike ((fn_m_holders_154 f').2.1 u) f') (p' := fun u => fn_isBarred ((fn_settle (f 2 12) f g).2.2.1 u) f) (fun j _ hj => by
    rw [pu_barred hb, hH.2.2 j (by omega), ht]
    exact congrArg (fun x => fn_m_isUnlike x f') (hS.2.2.1 j (by omega)))]
  cases pu_any (fun u => fn_m_isUnlike ((fn_m_holders_154 f').2.1 u) f') 16 0 <;> rfl
theorem pu_xx (x y : Int32) : (x ^^^ y) ^^^ y = x := pu_ext fun i hi => by rw [pu_xor, pu_xor, Bool.xor_assoc, Bool.xor_self, Bool.xor_false]
theorem pp_assign : am_Pair pu_Inv 31 5 161 4 3 := pu_P3 fun f g hI u r w => by
  obtain ⟨hc, hv, hd, hk, ht, hg⟩ := hI
  obtain ⟨c1, c2, c3, c4, c5, c6, c7, c8⟩ := id hc
  obtain ⟨v1, v2, v3, v4, v5, v6, v7, v8, v9⟩ := id hv
  have hp := pu_pl c6 v7
  have hr := pu_pr c7 v8
  have hm := pu_mOK c6 c7
  have key : ∀ F1 : Nat → Nat → Int32, F1 89 = f 89 → F1 92 = f 92 → (fn_assign u r w f g).1 = (fn_m_assign u r w F1).1 ∧ (∀ j, ¬ (184 ≤ j ∧ j < 200) → (fn_m_assign u r w F1).2.1 j = f 89 j) ∧ pu_Cass (fn_m_assign u r w F1).2.1 ∧ ∀ t, t < 16 → (fn_assign u r w f g).2.2.1 t = (fn_m_assign u r w F1).2.1 (184 + t) := by
    intro F1 e1 e2
    unfold fn_assign fn_m_assign
    rw [show fn_isUser u = fn_m_isOne u from rfl, show fn_isRole r = fn_m_isRole r from rfl, pu_01, e1]
    cases h1 : fn_m_isOne u with
    | false => exact ⟨rfl, fun _ _ => rfl, c4, v5⟩
    | true =>
      rw [cond_true, cond_true]
      cases h2 : fn_m_isRole r with
      | false => exact ⟨rfl, fun _ _ => rfl, c4, v5⟩
      | true =>
        rw [cond_true, cond_true]
        cases h3 : fn_m_isIn w 0 1 with
        | false => exact ⟨rfl, fun _ _ => rfl, c4, v5⟩
        | true =>
          rw [cond_true, cond_true]
          obtain ⟨a, a1, a2⟩ := am_mOne h1
          obtain ⟨b, b1, b2⟩ := am_mRole h2
          subst a2; subst b2
          rw [nI_clamp (n := a) (by omega), pu_hm, v5 a a1]
          by_cases c : am_b (fn_m_has (f 89 (184 + a)) (nI b)) = am_b (if w = 1 then true else false)
          · rw [if_pos c, if_pos c]; exact ⟨rfl, fun _ _ => rfl, c4, v5⟩
          · rw [if_neg c, if_neg c]
            -- the new row
            have H : ∀ j, ¬ (184 ≤ j ∧ j < 200) → upd (f 89) (184 + a) (f 89 (184 + a) ^^^ 1 <<< (nI b &&& 31)) j = f 89 j := fun j hj => pu_un (by omega)
            have hn : ∀ t, t < 16 → upd (f 30) a (f 89 (184 + a) ^^^ 1 <<< (nI b &&& 31)) t = upd (f 89) (184 + a) (f 89 (184 + a) ^^^ 1 <<< (nI b &&& 31)) (184 + t) := fun t ht => by
              by_cases e : t = a
              · subst e; rw [pu_us, pu_us]
              · rw [pu_un e, pu_un (by omega)]; exact v5 t ht
            have hca : pu_Cass (upd (f 89) (184 + a) (f 89 (184 + a) ^^^ 1 <<< (nI b &&& 31))) := fun t ht q hq => by
              by_cases e : t = a
              · subst e; rw [pu_us, pu_xor, c4 t ht q hq, pu_one b (by omega), decide_eq_false (by omega)]; rfl
              · rw [pu_un (by omega)]; exact c4 t ht q hq
            have hcnt : fn_bitCount (upd (f 30) a (f 89 (184 + a) ^^^ 1 <<< (nI b &&& 31)) a) = fn_m_ones (upd (f 89) (184 + a) (f 89 (184 + a) ^^^ 1 <<< (nI b &&& 31)) (184 + a)) := by
              rw [hn a a1, pu_bitCount, pu_ones _ (hca a a1 31 (by omega))]
            by_cases d : w = 1
            · rw [if_pos d, if_pos d]
              have hs : (fn_someBarred (am_row f 30 (upd (f 30) a (f 89 (184 + a) ^^^ 1 <<< (nI b &&& 31)))) g).1 = (fn_m_isAnyUnlike_153 (am_row F1 89 (upd (f 89) (184 + a) (f 89 (184 + a) ^^^ 1 <<< (nI b &&& 31))))).1 := by
                refine pu_some ?_ (pu_Vln_c (H _ (by omega)) (fun j h1 h2 => H j (by omega)) v7) (pu_Cln_c (H _ (by omega)) (fun j h1 h2 => H j (by omega)) c6) hn ?_ ?_
                · exact Eq.trans v6 (H 200 (by omega)).symm
                · show ∀ r, r < 20 → f 6 r = F1 92 r
                  rw [e2]; exact pu_dn v3 hd
                · intro r hr
                  exact (v4.1 r hr).trans (H (164 + r) (by omega)).symm
              rw [hs]
              cases (fn_m_isAnyUnlike_153 (am_row F1 89 (upd (f 89) (184 + a) (f 89 (184 + a) ^^^ 1 <<< (nI b &&& 31))))).1 with
              | true =>
                rw [cond_true, cond_true]
                have hback : upd (upd (f 89) (184 + a) (f 89 (184 + a) ^^^ 1 <<< (nI b &&& 31))) (184 + a) ((upd (f 89) (184 + a) (f 89 (184 + a) ^^^ 1 <<< (nI b &&& 31)) (184 + a)) ^^^ 1 <<< (nI b &&& 31)) = f 89 := by
                  rw [pu_us, pu_xx, pu_uu, pu_uid]
                refine ⟨rfl, fun j hj => ?_, ?_, fun t ht => ?_⟩
                · exact congrFun hback j
                · show pu_Cass (upd _ _ _)
                  rw [hback]; exact c4
                · show upd (upd (f 30) a _) a (f 89 (184 + a)) t = upd _ _ _ (184 + t)
                  rw [hback, pu_uu]
                  by_cases e : t = a
                  · subst e; rw [pu_us]
                  · rw [pu_un e]; exact v5 t ht
              | false =>
                rw [cond_false, cond_false]
                exact ⟨hcnt, H, hca, hn⟩
            · rw [if_neg d, if_neg d]
              exact ⟨hcnt, H, hca, hn⟩
  obtain ⟨k1, H, k3, k4⟩ := key (am_row (am_row (am_row (am_row f 1 (fn_assign u r w f g).2.1) 30 (fn_assign u r w f g).2.2.1) 34 (fn_assign u r w f g).2.2.2.1) 35 (fn_assign u r w f g).2.2.2.2.1) rfl rfl
  exact ⟨_, _, _, _, _, pu_res (x_assign u r w f g hp.1 hp.2.1 hp.2.2.1 hp.2.2.2.1 hp.2.2.2.2 hr.1 hr.2.1) (by decide) k1, pu_res (x_m_assign u r w _ _ hm.1 hm.2.1 hm.2.2.1 hm.2.2.2.1 hm.2.2.2.2.1 hm.2.2.2.2.2.1 hm.2.2.2.2.2.2) (by decide) rfl, ⟨pu_Cpar_c (fun j h1 h2 => H j (by omega)) c1, pu_Crol_c (fun j h1 h2 => H j (by omega)) (H _ (by omega)) c2, pu_Cunl_c (fun j h1 h2 => H j (by omega)) (H _ (by omega)) c3, k3, pu_Ctick_c (H _ (by omega)) c5, pu_Cln_c (H _ (by omega)) (fun j h1 h2 => H j (by omega)) c6, pu_Crl_c (H _ (by omega)) (fun j h1 h2 => H j (by omega)) c7, pu_Cbk_c (H _ (by omega)) c8⟩, ⟨pu_Vatt_c (fun j h1 => H j (by omega)) v1, pu_Vpar_c (fun j h1 h2 => H j (by omega)) v2, pu_Vrol_c (fun j h1 h2 => H j (by omega)) (H _ (by omega)) v3, pu_Vbar_c (fun j h1 h2 => H j (by omega)) (H _ (by omega)) v4, k4, pu_Vtick_c (H _ (by omega)) v6, pu_Vln_c (H _ (by omega)) (fun j h1 h2 => H j (by omega)) v7, pu_Vrl_c (H _ (by omega)) c7 (fun j h1 h2 => H j (by omega)) v8, pu_Vbk_c (fun j h1 h2 => H j (by omega)) (fun j h1 h2 => H j (by omega)) v9⟩, pu_CL_c (fun j h1 h2 => H j (by omega)) hd, hk, ht, hg⟩
