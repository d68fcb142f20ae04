/-! The reference: cycles, brackets, the whole text. -/
set_option maxHeartbeats 4000000 in
set_option maxRecDepth 100000 in
theorem c_M_cycle (l : Launch) (D : va_G) (z : Nat → ClassId) (d : Nat → Nat) (n : Nat) {cd : Int32} {ty : Nat} {ft : Nat → Int32} {gc : Nat} {fg fo fh : Nat → Int32} {fs ff : Nat → Int64} {fq : Nat → Int32} {mk : Nat} {fm fi : Nat → Int32} {de ps : Nat} {re : Int32} {go : Bool} {kd pr fa fr : Nat → Int32} (sz : Nat) (tx : Nat → Nat) (g : Nat → pg_F) (hok : mOK tx ty n gc g ft fg) (hps : ps ≤ ty) (f : pr_Fr) (S : List pr_Fr) (hS9 : mSk n kd pr fa fr (f :: S)) (hde : de = S.length) (hle : S.length ≤ 4) : Met l yM_cycle wM_cycle (rmF 3) (va_Pc [.ref (d 0)] (fun U => U.heap.size = sz ∧ va_P D vC (mW z d n cd ty ft gc fg fo fh fs ff fq mk fm fi de ps re go kd pr fa fr) U.heap ∧ va_K D vC (tyL z) U ∧ va_D (fun _ => True) (mW z d n cd ty ft gc fg fo fh fs ff fq mk fm fi de ps re go kd pr fa fr))) (va_Qv (fun u : mRd => mAns n (match pr_cyc tx ty n (n + 1) ps pr_c0 with | some (x, a1) => some (a1, pr_take x f :: S) | none => none) u) (fun u t => va_P D vC (mW z d n cd ty ft gc fg fo fh fs ff fq mk fm fi u.1 u.2.1 re u.2.2.1 u.2.2.2.1 u.2.2.2.2.1 u.2.2.2.2.2.1 u.2.2.2.2.2.2) t.heap ∧ va_D (va_A (mW z d n cd ty ft gc fg fo fh fs ff fq mk fm fi de ps re go kd pr fa fr) sz) (mW z d n cd ty ft gc fg fo fh fs ff fq mk fm fi u.1 u.2.1 re u.2.2.1 u.2.2.2.1 u.2.2.2.2.1 u.2.2.2.2.2.1 u.2.2.2.2.2.2)) (va_A (mW z d n cd ty ft gc fg fo fh fs ff fq mk fm fi de ps re go kd pr fa fr) sz)) 0 0 (va_A (mW z d n cd ty ft gc fg fo fh fs ff fq mk fm fi de ps re go kd pr fa fr) sz) := by
  have hn := hok.2.2.1
  have hlen := hok.1
  generalize hRES : pr_cyc tx ty n (n + 1) ps pr_c0 = RES
  refine Met.ofW (cc := prog_9_method_17_code) (maxL := 6) (ret := none) (by decide) rfl ?_
  intro p e s m args below meth c s₁ B hml hv
  have hx := B.exec
  have hb := B.bytes
  have hr := B.returns
  have ht : ∀ w ∈ TB, w.before args s = true := fun w h => atoms_spec (ws := wM_cycle) B.pre w (List.mem_cons_of_mem _ h)
  have hown : s.vm.findClass "PermutationDeskModel" = some m.cls := findClass_of_methodNamed B.named
  have hlocks := B.notSynchronized
  obtain ⟨rfl, hsz, hP, hK, hD0⟩ := hv
  subst hsz
  have hD := hD0.self (sz := s.heap.size)
  generalize hAe : va_A (mW z d n cd ty ft gc fg fo fh fs ff fq mk fm fi de ps re go kd pr fa fr) s.heap.size = A at hD ⊢
  have hA : ∀ q : Nat, s.heap.size ≤ q → A q := fun q h => by rw [← hAe]; exact Or.inr h
  have hS : va_S A s.heap s.heap [] := va_S.rf
  have hl := lv_entry ([.ref (d 0)]) (n := 6) (Nat.le_of_ble_eq_true rfl)
  rw [lg_entry_eq]
  generalize (lg_sl ([.ref (d 0)]) ++ List.replicate (6 - (lg_sl ([.ref (d 0)])).length) Slot.unset).toArray = ls at hl ⊢
  have hl : lv_has ls 6 [(0, .ref (d 0))] := hl
  refine lv_aload_n hx hb dM_cycle_0 rfl (lv_at hl 0 rfl) ?_
  refine va_get (ci := 5) (C := RM) (T := TM) (N := 26) hx hb ht inM hown hK hP 0 rfl rfl 3 (by decide) (ht _ tw_652) (fun _ h9 => h9) rfl dM_cycle_1 ?_
  refine lv_iconst (v := 0) hx hb dM_cycle_4 (by decide) ?_
  refine va_iald hx hb hK hP 1 1 rfl rfl (vp_in_nI (n := 0) (N := 5040) (by decide) (by decide)) dM_cycle_5 ?_
  refine wti (x' := eI n pg_id) (mL_0 n) ?_
  refine lv_istore_n hx hb dM_cycle_6 rfl hl (by decide) rfl (fun ls hl => ?_)
  replace hl : lv_has ls 6 [(1, .int (eI n pg_id)), (0, .ref (d 0))] := hl
  refine lv_iconst (v := 0) hx hb dM_cycle_7 (by decide) ?_
  refine lv_istore_n hx hb dM_cycle_8 rfl hl (by decide) rfl (fun ls hl => ?_)
  replace hl : lv_has ls 6 [(2, .int (nI 0)), (1, .int (eI n pg_id)), (0, .ref (d 0))] := hl
  refine lv_iconst (v := (-1)) hx hb dM_cycle_9 (by decide) ?_
  refine lv_istore_n hx hb dM_cycle_10 rfl hl (by decide) rfl (fun ls hl => ?_)
  replace hl : lv_has ls 6 [(3, .int (cyF none 0)), (2, .int (nI 0)), (1, .int (eI n pg_id)), (0, .ref (d 0))] := hl
  refine lv_iconst (v := (-1)) hx hb dM_cycle_11 (by decide) ?_
  refine lv_istore hx hb dM_cycle_12 hl (by decide) rfl (fun ls hl => ?_)
  replace hl : lv_has ls 6 [(4, .int (cyF none 0)), (3, .int (cyF none 0)), (2, .int (nI 0)), (1, .int (eI n pg_id)), (0, .ref (d 0))] := hl
  refine wl (σ := Nat × pr_C × Nat × Nat) (I := fun q st H locs ls => q + st.1 = n + 1 ∧ ps + st.1 ≤ ty ∧ pr_cok n st.2.1 st.1 ∧ RES = pr_cyc tx ty n (n + 1 - st.1) (ps + st.1) st.2.1 ∧ (∀ p, st.2.2.1.testBit p = st.2.1.2.2.2 p) ∧ (∀ f, st.2.1.2.1 = some f → st.2.2.2 = f) ∧ va_P D vC (mW z d n cd ty ft gc fg fo fh fs ff fq mk fm fi de (ps + st.1) re go kd pr fa fr) H ∧ va_D A (mW z d n cd ty ft gc fg fo fh fs ff fq mk fm fi de (ps + st.1) re go kd pr fa fr) ∧ va_S A s.heap H locs ∧ lv_has ls 6 [(4, .int (cyF st.2.1.2.1 st.2.1.2.2.1)), (3, .int (cyF st.2.1.2.1 st.2.2.2)), (2, .int (nI st.2.2.1)), (1, .int (eI n st.2.1.1)), (0, .ref (d 0))]) ?_ (n + 1) (0, pr_c0, 0, 0) _ _ ls ⟨rfl, hps, pr_cok_0 n, hRES.symm, fun p => Nat.zero_testBit p, fun f e9 => (by cases e9), hP, hD, hS, hl⟩
  clear hP hD hS hl
  rintro q ⟨t, st, m9, f9⟩ H locs ls ⟨hdt, hpt, hcok, hcy, hbit, hff, hP, hD, hS, hl⟩ ih
  obtain ⟨x, fo9, last, seen⟩ := st
  replace hdt : q + t = n + 1 := hdt
  replace hpt : ps + t ≤ ty := hpt
  have htn : t ≤ n := pr_cok_le hcok
  replace hcok : pr_cok n (x, fo9, last, seen) t := hcok
  replace hcy : RES = pr_cyc tx ty n (n + 1 - t) (ps + t) (x, fo9, last, seen) := hcy
  replace hbit : ∀ p, m9.testBit p = seen p := hbit
  replace hff : ∀ f, fo9 = some f → f9 = f := hff
  replace hP : va_P D vC (mW z d n cd ty ft gc fg fo fh fs ff fq mk fm fi de (ps + t) re go kd pr fa fr) H := hP
  replace hD : va_D A (mW z d n cd ty ft gc fg fo fh fs ff fq mk fm fi de (ps + t) re go kd pr fa fr) := hD
  replace hl : lv_has ls 6 [(4, .int (cyF fo9 last)), (3, .int (cyF fo9 f9)), (2, .int (nI m9)), (1, .int (eI n x)), (0, .ref (d 0))] := hl
  have hseen : ∀ p, n ≤ p → seen p = false := hcok.2.1
  have hm9 : m9 < 2 ^ 31 := pe_lt31 (n := n) (by omega) (fun p hp => Classical.byContradiction (fun h9 => by rw [hbit p, hseen p (by omega)] at hp; cases hp))
  have hx9 : ∀ i, i < n → x i < 2 ^ 3 := fun i hi => by have : x i < n := hcok.2.2.2.1 i hi; omega
  obtain ⟨f', hf'⟩ : ∃ f', n + 1 - t = f' + 1 := ⟨n - t, by omega⟩
  rw [hf'] at hcy
  unfold pr_cyc at hcy
  -- the cycle is closed, or the text is at its end
  refine wj (σ := Unit) (pc := 127) (I := fun _ H1 locs1 ls1 => H = H1 ∧ locs = locs1 ∧ ls = ls1 ∧ ((ty ≤ ps + t ∧ RES = none) ∨ (ps + t < ty ∧ RES = some (pr_ce (x, fo9, last, seen), ps + t + 1)))) ?_ (fun jn => ?_)
  · rintro - H1 locs1 ls1 ⟨rfl, rfl, rfl, hend⟩
    refine wj (σ := Unit) (pc := 147) (I := fun _ H2 locs2 ls2 => va_P D vC (mW z d n cd ty ft gc fg fo fh fs ff fq mk fm fi de (ps + t) re (decide (ps + t < ty)) kd pr fa fr) H2 ∧ va_D A (mW z d n cd ty ft gc fg fo fh fs ff fq mk fm fi de (ps + t) re (decide (ps + t < ty)) kd pr fa fr) ∧ va_S A s.heap H2 locs2 ∧ lv_has ls2 6 [(4, .int (cyF fo9 last)), (3, .int (cyF fo9 f9)), (2, .int (nI m9)), (1, .int (eI n x)), (0, .ref (d 0))]) ?_ (fun jn2 => ?_)
    · clear hP hD hS hl
      rintro - H locs ls ⟨hP, hD, hS, hl⟩
      refine lv_aload_n hx hb dM_cycle_147 rfl (lv_at hl 4 rfl) ?_
      refine lv_dup hx hb dM_cycle_148 rfl ?_
      refine va_get (ci := 5) (C := RM) (T := TM) (N := 26) hx hb ht inM hown hK hP 0 rfl rfl 19 (by decide) (ht _ tw_668) (fun _ h9 => h9) rfl dM_cycle_149 ?_
      refine lv_iconst (v := 1) hx hb dM_cycle_152 (by decide) ?_
      refine lv_iadd hx hb dM_cycle_153 ?_
      refine wti (x' := nI (ps + t + 1)) (nI_1 (ps + t)) ?_
      refine va_put (ci := 5) (ty := .int) (C := RM) (T := TM) (N := 26) hx hb ht inM tyM tyM_ok nmM hown hK hP hD hS 0 rfl rfl 19 (by decide) (ht _ tw_668) (fun _ h9 => h9) rfl (by decide +kernel) rfl rfl (Nat.le_of_ble_eq_true rfl) dM_cycle_154 (fun H locs hP hD hS => ?_)
      have hP : va_P D vC (mW z d n cd ty ft gc fg fo fh fs ff fq mk fm fi de (ps + t + 1) re (decide (ps + t < ty)) kd pr fa fr) H := hP
      have hD : va_D A (mW z d n cd ty ft gc fg fo fh fs ff fq mk fm fi de (ps + t + 1) re (decide (ps + t < ty)) kd pr fa fr) := hD
      -- take what there is
      refine wj (σ := Unit) (pc := 170) (I := fun _ H2 locs2 ls2 => H = H2 ∧ locs = locs2 ∧ lv_has ls2 6 [(1, .int (eI n (pr_ce (x, fo9, last, seen)))), (0, .ref (d 0))]) ?_ (fun jn3 => ?_)
      · rintro - H2 locs2 ls2 ⟨rfl, rfl, hl⟩
        refine lv_aload_n hx hb dM_cycle_170 rfl (lv_at hl 1 rfl) ?_
        refine lv_iload_n hx hb dM_cycle_171 rfl (lv_at hl 0 rfl) ?_
        refine qM_v (ci := 5) (q0 := 0) (As := [.int (eI n (pr_ce (x, fo9, last, seen)))]) (rest := []) ⟨hx, hb, hml, hown, ht⟩ (c_M_take l D z d n _ hn (pr_ce (x, fo9, last, seen)) hcok.1 f S hS9 hde (by omega)) (cB 1 ht gM_take rfl tw_64 tw_757 (by decide +kernel) ⟨by decide, by decide⟩) tw_759 tw_33 hK hP hD hS hA rfl rfl rfl hl.1 rfl (Nat.le_of_ble_eq_true rfl) dM_cycle_172 ⟨by decide, by decide⟩ (fun u172 H locs h172 hP hD hS => ?_)
        obtain ⟨b1, b2, b3, b4⟩ := h172
        refine W.vret hx hb hr (fun t9 ht hW => ⟨⟨u172, rfl, ?_, by rw [ht]; exact hP, hD⟩, hS.F ht⟩) hS.2.2 dM_cycle_175
        rcases hend with ⟨h8, rfl⟩ | ⟨h8, rfl⟩
        · show u172.2.2.1 = false
          rw [b3]; exact decide_eq_false (by omega)
        · exact ⟨by rw [b3]; exact decide_eq_true h8, b2, by rw [b1, List.length_cons, hde], by rw [List.length_cons]; omega, b4⟩
      cases fo9 with
      | none =>
        replace hl : lv_has ls 6 [(4, .int (-1)), (3, .int (-1)), (2, .int (nI m9)), (1, .int (eI n x)), (0, .ref (d 0))] := hl
        refine lv_iload_n hx hb dM_cycle_157 rfl (lv_at hl 1 rfl) ?_
        refine lv_iconst (v := (-1)) hx hb dM_cycle_158 (by decide) ?_
        refine lv_icmp_eq (tgt := 170) hx hb dM_cycle_159 rfl (fun h9 => ?_) (fun h9 => absurd rfl h9)
        exact jn3 () _ _ ls ⟨rfl, rfl, lv_sub hl [3, 4] rfl⟩
      | some f8 =>
        have hf9 : f9 = f8 := hff f8 rfl
        subst hf9
        obtain ⟨hfn, hln, -⟩ := hcok.2.2.2.2.1
        have hfn : f9 < n := hfn
        have hln : last < n := hln
        replace hl : lv_has ls 6 [(4, .int (nI last)), (3, .int (nI f9)), (2, .int (nI m9)), (1, .int (eI n x)), (0, .ref (d 0))] := hl
        refine lv_iload_n hx hb dM_cycle_157 rfl (lv_at hl 1 rfl) ?_
        refine lv_iconst (v := (-1)) hx hb dM_cycle_158 (by decide) ?_
        refine lv_icmp_eq (tgt := 170) hx hb dM_cycle_159 rfl (fun h9 => absurd (by rw [h9]; decide) (nI_pos (n := f9) (by omega))) (fun h9 => ?_)
        refine lv_iload_n hx hb dM_cycle_162 rfl (lv_at hl 3 rfl) ?_
        refine lv_iload hx hb dM_cycle_163 (lv_at hl 0 rfl) ?_
        refine lv_iload_n hx hb dM_cycle_165 rfl (lv_at hl 1 rfl) ?_
        refine qS_i (As := [.int (eI n x), .int (nI last), .int (nI f9)]) (rest := []) ⟨hx, hb, hml, hown, ht⟩ (c_M_with l n last f9 x hn hx9 hln (by omega)) (cB 3 ht gM_with rfl tw_64 tw_773 (by decide +kernel) ⟨by decide, by decide⟩) tw_774 rfl hl.1 rfl (Nat.le_of_ble_eq_true rfl) dM_cycle_166 ⟨by decide, by decide⟩ (fun r166 h166 => ?_)
        subst h166
        refine lv_istore_n hx hb dM_cycle_169 rfl hl (by decide) rfl (fun ls hl => ?_)
        replace hl : lv_has ls 6 [(1, .int (eI n (va_up x last f9))), (4, .int (nI last)), (3, .int (nI f9)), (2, .int (nI m9)), (0, .ref (d 0))] := hl
        exact jn3 () _ _ ls ⟨rfl, rfl, lv_sub hl [0, 4] rfl⟩
    refine lv_aload_n hx hb dM_cycle_127 rfl (lv_at hl 4 rfl) ?_
    refine lv_aload_n hx hb dM_cycle_128 rfl (lv_at hl 4 rfl) ?_
    refine va_get (ci := 5) (C := RM) (T := TM) (N := 26) hx hb ht inM hown hK hP 0 rfl rfl 19 (by decide) (ht _ tw_668) (fun _ h9 => h9) rfl dM_cycle_129 ?_
    refine lv_aload_n hx hb dM_cycle_132 rfl (lv_at hl 4 rfl) ?_
    refine va_get (ci := 5) (C := RM) (T := TM) (N := 26) hx hb ht inM hown hK hP 0 rfl rfl 6 (by decide) (ht _ tw_655) (fun _ h9 => h9) rfl dM_cycle_133 ?_
    refine lv_icmp_ge (tgt := 143) hx hb dM_cycle_136 rfl (fun h136 => ?_) (fun h136 => ?_)
    · have h8 := (nI_leI (by omega) (by omega)).mp h136
      refine lv_iconst (v := 0) hx hb dM_cycle_143 (by decide) ?_
      refine va_put (ci := 5) (ty := .boolean) (C := RM) (T := TM) (N := 26) hx hb ht inM tyM tyM_ok nmM hown hK hP hD hS 0 rfl rfl 21 (by decide) (ht _ tw_670) (fun _ h9 => h9) rfl (by decide +kernel) rfl rfl (Nat.le_of_ble_eq_true rfl) dM_cycle_144 (fun H locs hP hD hS => ?_)
      have hP : va_P D vC (mW z d n cd ty ft gc fg fo fh fs ff fq mk fm fi de (ps + t) re false kd pr fa fr) H := hP
      have hD : va_D A (mW z d n cd ty ft gc fg fo fh fs ff fq mk fm fi de (ps + t) re false kd pr fa fr) := hD
      exact jn2 () _ _ ls ⟨by rw [decide_eq_false (by omega)]; exact hP, by rw [decide_eq_false (by omega)]; exact hD, hS, hl⟩
    have h8 : ps + t < ty := by
      rw [nI_leI (by omega) (by omega)] at h136
      omega
    refine lv_iconst (v := 1) hx hb dM_cycle_139 (by decide) ?_
    refine lv_goto (tgt := 144) hx hb dM_cycle_140 rfl ?_
    refine va_put (ci := 5) (ty := .boolean) (C := RM) (T := TM) (N := 26) hx hb ht inM tyM tyM_ok nmM hown hK hP hD hS 0 rfl rfl 21 (by decide) (ht _ tw_670) (fun _ h9 => h9) rfl (by decide +kernel) rfl rfl (Nat.le_of_ble_eq_true rfl) dM_cycle_144 (fun H locs hP hD hS => ?_)
    have hP : va_P D vC (mW z d n cd ty ft gc fg fo fh fs ff fq mk fm fi de (ps + t) re true kd pr fa fr) H := hP
    have hD : va_D A (mW z d n cd ty ft gc fg fo fh fs ff fq mk fm fi de (ps + t) re true kd pr fa fr) := hD
    exact jn2 () _ _ ls ⟨by rw [decide_eq_true h8]; exact hP, by rw [decide_eq_true h8]; exact hD, hS, hl⟩
  refine lv_aload_n hx hb dM_cycle_14 rfl (lv_at hl 4 rfl) ?_
  refine va_get (ci := 5) (C := RM) (T := TM) (N := 26) hx hb ht inM hown hK hP 0 rfl rfl 19 (by decide) (ht _ tw_668) (fun _ h9 => h9) rfl dM_cycle_15 ?_
  refine lv_aload_n hx hb dM_cycle_18 rfl (lv_at hl 4 rfl) ?_
  refine va_get (ci := 5) (C := RM) (T := TM) (N := 26) hx hb ht inM hown hK hP 0 rfl rfl 6 (by decide) (ht _ tw_655) (fun _ h9 => h9) rfl dM_cycle_19 ?_
  refine lv_icmp_ge (tgt := 127) hx hb dM_cycle_22 rfl (fun h22 => ?_) (fun h22 => ?_)
  · have h8 := (nI_leI (by omega) (by omega)).mp h22
    refine jn () _ _ ls ⟨rfl, rfl, rfl, Or.inl ⟨h8, ?_⟩⟩
    rw [hcy, pr_look_out h8, if_neg (by decide), if_neg (by omega)]
  have hlt : ps + t < ty := by
    rw [nI_leI (by omega) (by omega)] at h22
    omega
  obtain ⟨hc128, hft⟩ := hok.2.2.2.1 (ps + t) hlt
  rw [pr_look_in hlt] at hcy
  generalize tx (ps + t) = cc at hc128 hft hcy
  refine lv_aload_n hx hb dM_cycle_25 rfl (lv_at hl 4 rfl) ?_
  refine va_get (ci := 5) (C := RM) (T := TM) (N := 26) hx hb ht inM hown hK hP 0 rfl rfl 7 (by decide) (ht _ tw_656) (fun _ h9 => h9) rfl dM_cycle_26 ?_
  refine lv_aload_n hx hb dM_cycle_29 rfl (lv_at hl 4 rfl) ?_
  refine va_get (ci := 5) (C := RM) (T := TM) (N := 26) hx hb ht inM hown hK hP 0 rfl rfl 19 (by decide) (ht _ tw_668) (fun _ h9 => h9) rfl dM_cycle_30 ?_
  refine va_iald hx hb hK hP 4 1 rfl rfl (vp_in_nI (N := 24) (by omega) (by decide)) dM_cycle_33 ?_
  refine wti (x' := nI cc) (by rw [nI_clamp (by omega)]; exact hft) ?_
  refine lv_bipush (v := 41) hx hb dM_cycle_34 (by decide) ?_
  refine lv_icmp_eq (tgt := 127) hx hb dM_cycle_36 rfl (fun h36 => ?_) (fun h36 => ?_)
  · have h41 : cc = 41 := (nI_eq (a := cc) (b := 41) (by omega) (by omega)).mp h36
    refine jn () _ _ ls ⟨rfl, rfl, rfl, Or.inr ⟨hlt, ?_⟩⟩
    rw [hcy, if_pos h41]
  have h41 : cc ≠ 41 := fun e9 => h36 (by rw [e9]; rfl)
  rw [if_neg h41] at hcy
  clear jn
  -- a broken cycle
  refine wj (σ := Unit) (pc := 77) (I := fun _ H1 locs1 ls1 => H = H1 ∧ locs = locs1 ∧ RES = none ∧ lv_has ls1 6 [(0, .ref (d 0))]) ?_ (fun jn => ?_)
  · rintro - H1 locs1 ls1 ⟨rfl, rfl, hno, hl⟩
    refine lv_aload_n hx hb dM_cycle_77 rfl (lv_at hl 0 rfl) ?_
    refine lv_iconst (v := 0) hx hb dM_cycle_78 (by decide) ?_
    refine va_put (ci := 5) (ty := .boolean) (C := RM) (T := TM) (N := 26) hx hb ht inM tyM tyM_ok nmM hown hK hP hD hS 0 rfl rfl 21 (by decide) (ht _ tw_670) (fun _ h9 => h9) rfl (by decide +kernel) rfl rfl (Nat.le_of_ble_eq_true rfl) dM_cycle_79 (fun H locs hP hD hS => ?_)
    have hP : va_P D vC (mW z d n cd ty ft gc fg fo fh fs ff fq mk fm fi de (ps + t) re false kd pr fa fr) H := hP
    have hD : va_D A (mW z d n cd ty ft gc fg fo fh fs ff fq mk fm fi de (ps + t) re false kd pr fa fr) := hD
    refine W.vret hx hb hr (fun t9 ht hW => ⟨⟨(de, ps + t, false, kd, pr, fa, fr), rfl, ?_, by rw [ht]; exact hP, hD⟩, hS.F ht⟩) hS.2.2 dM_cycle_82
    rw [hno]
    rfl
  refine lv_aload_n hx hb dM_cycle_39 rfl (lv_at hl 4 rfl) ?_
  refine va_get (ci := 5) (C := RM) (T := TM) (N := 26) hx hb ht inM hown hK hP 0 rfl rfl 7 (by decide) (ht _ tw_656) (fun _ h9 => h9) rfl dM_cycle_40 ?_
  refine lv_aload_n hx hb dM_cycle_43 rfl (lv_at hl 4 rfl) ?_
  refine va_get (ci := 5) (C := RM) (T := TM) (N := 26) hx hb ht inM hown hK hP 0 rfl rfl 19 (by decide) (ht _ tw_668) (fun _ h9 => h9) rfl dM_cycle_44 ?_
  refine va_iald hx hb hK hP 4 1 rfl rfl (vp_in_nI (N := 24) (by omega) (by decide)) dM_cycle_47 ?_
  refine wti (x' := nI cc) (by rw [nI_clamp (by omega)]; exact hft) ?_
  refine lv_bipush (v := 48) hx hb dM_cycle_48 (by decide) ?_
  refine lv_isub hx hb dM_cycle_50 ?_
  by_cases h48 : cc < 48
  · refine wti (x' := nI cc - nI 48) rfl ?_
    refine lv_istore hx hb dM_cycle_51 hl (by decide) rfl (fun ls hl => ?_)
    replace hl : lv_has ls 6 [(5, .int (nI cc - nI 48)), (4, .int (cyF fo9 last)), (3, .int (cyF fo9 f9)), (2, .int (nI m9)), (1, .int (eI n x)), (0, .ref (d 0))] := hl
    refine lv_iload hx hb dM_cycle_53 (lv_at hl 0 rfl) ?_
    refine lv_if_lt (tgt := 77) hx hb dM_cycle_55 rfl (fun h55 => ?_) (fun h55 => ?_)
    · exact jn () _ _ ls ⟨rfl, rfl, by rw [hcy, if_neg (by omega)], lv_sub hl [5] rfl⟩
    exact absurd (pk_sneg (by decide) h48) h55
  refine wti (x' := nI (cc - 48)) (pk_sub (b := 48) (by omega)) ?_
  generalize hpp : cc - 48 = pp at hcy ⊢
  refine lv_istore hx hb dM_cycle_51 hl (by decide) rfl (fun ls hl => ?_)
  replace hl : lv_has ls 6 [(5, .int (nI pp)), (4, .int (cyF fo9 last)), (3, .int (cyF fo9 f9)), (2, .int (nI m9)), (1, .int (eI n x)), (0, .ref (d 0))] := hl
  refine lv_iload hx hb dM_cycle_53 (lv_at hl 0 rfl) ?_
  refine lv_if_lt (tgt := 77) hx hb dM_cycle_55 rfl (fun h55 => ?_) (fun h55 => ?_)
  · exact absurd h55 (nI_pos (by omega))
  refine lv_iload hx hb dM_cycle_58 (lv_at hl 0 rfl) ?_
  refine lv_aload_n hx hb dM_cycle_60 rfl (lv_at hl 5 rfl) ?_
  refine va_get (ci := 5) (C := RM) (T := TM) (N := 26) hx hb ht inM hown hK hP 0 rfl rfl 0 (by decide) (ht _ tw_649) (fun _ h9 => h9) rfl dM_cycle_61 ?_
  refine lv_icmp_ge (tgt := 77) hx hb dM_cycle_64 rfl (fun h64 => ?_) (fun h64 => ?_)
  · have h77 := (nI_leI (by omega) (by omega)).mp h64
    exact jn () _ _ ls ⟨rfl, rfl, by rw [hcy, if_neg (by omega)], lv_sub hl [5] rfl⟩
  have hpn : pp < n := by
    rw [nI_leI (by omega) (by omega)] at h64
    omega
  refine lv_iload_n hx hb dM_cycle_67 rfl (lv_at hl 3 rfl) ?_
  refine lv_iload hx hb dM_cycle_68 (lv_at hl 0 rfl) ?_
  refine lv_ishr hx hb dM_cycle_70 ?_
  refine lv_iconst (v := 1) hx hb dM_cycle_71 (by decide) ?_
  refine lv_iand hx hb dM_cycle_72 ?_
  refine wti (x' := nI (m9 / 2 ^ pp % 2)) (pe_bitS hm9 (by omega)) ?_
  refine lv_iconst (v := 1) hx hb dM_cycle_73 (by decide) ?_
  refine lv_icmp_ne (tgt := 83) hx hb dM_cycle_74 rfl (fun h74 => ?_) (fun h74 => ?_)
  · have hsp : seen pp = false := by
      rw [← hbit]
      cases e9 : m9.testBit pp with
      | false => rfl
      | true => exact absurd (pe_bit1.mpr e9) h74
    have hcond : 48 ≤ cc ∧ cc < 48 + n ∧ seen pp = false := ⟨by omega, by omega, hsp⟩
    rw [if_pos (by exact hcond)] at hcy
    have hcok2 := pr_cok_p hcok hpn hsp
    have hbit2 : ∀ p, (m9 ||| 2 ^ pp).testBit p = va_up seen pp true p := by
      intro p
      rw [Nat.testBit_or, Nat.testBit_two_pow, hbit]
      by_cases e9 : p = pp
      · rw [e9, va_up_self, decide_eq_true rfl, Bool.or_true]
      · rw [va_up_ne _ _ e9, decide_eq_false (fun e8 => e9 e8.symm), Bool.or_false]
    refine lv_iload_n hx hb dM_cycle_83 rfl (lv_at hl 3 rfl) ?_
    refine lv_iconst (v := 1) hx hb dM_cycle_84 (by decide) ?_
    refine lv_iload hx hb dM_cycle_85 (lv_at hl 0 rfl) ?_
    refine lv_ishl hx hb dM_cycle_87 ?_
    refine lv_ior hx hb dM_cycle_88 ?_
    refine wti (x' := nI (m9 ||| 2 ^ pp)) (by rw [pe_shl1 (by omega), pe_or]) ?_
    cases fo9 with
    | none =>
      replace hl : lv_has ls 6 [(5, .int (nI pp)), (4, .int (-1)), (3, .int (-1)), (2, .int (nI m9)), (1, .int (eI n x)), (0, .ref (d 0))] := hl
      refine lv_istore_n hx hb dM_cycle_89 rfl hl (by decide) rfl (fun ls hl => ?_)
      replace hl : lv_has ls 6 [(2, .int (nI (m9 ||| 2 ^ pp))), (5, .int (nI pp)), (4, .int (-1)), (3, .int (-1)), (1, .int (eI n x)), (0, .ref (d 0))] := hl
      refine lv_iload_n hx hb dM_cycle_90 rfl (lv_at hl 3 rfl) ?_
      refine lv_iconst (v := (-1)) hx hb dM_cycle_91 (by decide) ?_
      refine lv_icmp_ne (tgt := 101) hx hb dM_cycle_92 rfl (fun h9 => absurd rfl h9) (fun h9 => ?_)
      refine lv_iload hx hb dM_cycle_95 (lv_at hl 1 rfl) ?_
      refine lv_istore_n hx hb dM_cycle_97 rfl hl (by decide) rfl (fun ls hl => ?_)
      replace hl : lv_has ls 6 [(3, .int (nI pp)), (2, .int (nI (m9 ||| 2 ^ pp))), (5, .int (nI pp)), (4, .int (-1)), (1, .int (eI n x)), (0, .ref (d 0))] := hl
      refine lv_goto (tgt := 110) hx hb dM_cycle_98 rfl ?_
      refine lv_iload hx hb dM_cycle_110 (lv_at hl 2 rfl) ?_
      refine lv_istore hx hb dM_cycle_112 hl (by decide) rfl (fun ls hl => ?_)
      replace hl : lv_has ls 6 [(4, .int (nI pp)), (3, .int (nI pp)), (2, .int (nI (m9 ||| 2 ^ pp))), (5, .int (nI pp)), (1, .int (eI n x)), (0, .ref (d 0))] := hl
      refine lv_aload_n hx hb dM_cycle_114 rfl (lv_at hl 5 rfl) ?_
      refine lv_dup hx hb dM_cycle_115 rfl ?_
      refine va_get (ci := 5) (C := RM) (T := TM) (N := 26) hx hb ht inM hown hK hP 0 rfl rfl 19 (by decide) (ht _ tw_668) (fun _ h9 => h9) rfl dM_cycle_116 ?_
      refine lv_iconst (v := 1) hx hb dM_cycle_119 (by decide) ?_
      refine lv_iadd hx hb dM_cycle_120 ?_
      refine wti (x' := nI (ps + (t + 1))) (nI_1 (ps + t)) ?_
      refine va_put (ci := 5) (ty := .int) (C := RM) (T := TM) (N := 26) hx hb ht inM tyM tyM_ok nmM hown hK hP hD hS 0 rfl rfl 19 (by decide) (ht _ tw_668) (fun _ h9 => h9) rfl (by decide +kernel) rfl rfl (Nat.le_of_ble_eq_true rfl) dM_cycle_121 (fun H locs hP hD hS => ?_)
      have hP : va_P D vC (mW z d n cd ty ft gc fg fo fh fs ff fq mk fm fi de (ps + (t + 1)) re go kd pr fa fr) H := hP
      have hD : va_D A (mW z d n cd ty ft gc fg fo fh fs ff fq mk fm fi de (ps + (t + 1)) re go kd pr fa fr) := hD
      refine lv_goto (tgt := 14) hx hb dM_cycle_124 rfl ?_
      refine ih (q - 1) (t + 1, pr_cp (x, none, last, seen) pp, m9 ||| 2 ^ pp, pp) _ _ ls (by omega) ⟨by show q - 1 + (t + 1) = n + 1; omega, by show ps + (t + 1) ≤ ty; omega, hcok2, ?_, hbit2, fun f e9 => (by cases e9; rfl), hP, hD, hS, lv_sub hl [0, 1, 2, 4, 5] rfl⟩
      show _ = pr_cyc tx ty n (n + 1 - (t + 1)) (ps + (t + 1)) _
      rw [hcy, show n + 1 - (t + 1) = f' by omega]
      rfl
    | some f8 =>
      have hf9 : f9 = f8 := hff f8 rfl
      subst hf9
      obtain ⟨hfn, hln, -⟩ := hcok.2.2.2.2.1
      have hfn : f9 < n := hfn
      have hln : last < n := hln
      replace hl : lv_has ls 6 [(5, .int (nI pp)), (4, .int (nI last)), (3, .int (nI f9)), (2, .int (nI m9)), (1, .int (eI n x)), (0, .ref (d 0))] := hl
      refine lv_istore_n hx hb dM_cycle_89 rfl hl (by decide) rfl (fun ls hl => ?_)
      replace hl : lv_has ls 6 [(2, .int (nI (m9 ||| 2 ^ pp))), (5, .int (nI pp)), (4, .int (nI last)), (3, .int (nI f9)), (1, .int (eI n x)), (0, .ref (d 0))] := hl
      refine lv_iload_n hx hb dM_cycle_90 rfl (lv_at hl 3 rfl) ?_
      refine lv_iconst (v := (-1)) hx hb dM_cycle_91 (by decide) ?_
      refine lv_icmp_ne (tgt := 101) hx hb dM_cycle_92 rfl (fun h9 => ?_) (fun h9 => absurd (by rw [h9]; decide) (nI_pos (n := f9) (by omega)))
      refine lv_iload_n hx hb dM_cycle_101 rfl (lv_at hl 4 rfl) ?_
      refine lv_iload hx hb dM_cycle_102 (lv_at hl 2 rfl) ?_
      refine lv_iload hx hb dM_cycle_104 (lv_at hl 1 rfl) ?_
      refine qS_i (As := [.int (eI n x), .int (nI last), .int (nI pp)]) (rest := []) ⟨hx, hb, hml, hown, ht⟩ (c_M_with l n last pp x hn hx9 hln (by omega)) (cB 3 ht gM_with rfl tw_64 tw_773 (by decide +kernel) ⟨by decide, by decide⟩) tw_774 rfl hl.1 rfl (Nat.le_of_ble_eq_true rfl) dM_cycle_106 ⟨by decide, by decide⟩ (fun r106 h106 => ?_)
      subst h106
      refine lv_istore_n hx hb dM_cycle_109 rfl hl (by decide) rfl (fun ls hl => ?_)
      replace hl : lv_has ls 6 [(1, .int (eI n (va_up x last pp))), (2, .int (nI (m9 ||| 2 ^ pp))), (5, .int (nI pp)), (4, .int (nI last)), (3, .int (nI f9)), (0, .ref (d 0))] := hl
      refine lv_iload hx hb dM_cycle_110 (lv_at hl 2 rfl) ?_
      refine lv_istore hx hb dM_cycle_112 hl (by decide) rfl (fun ls hl => ?_)
      replace hl : lv_has ls 6 [(4, .int (nI pp)), (1, .int (eI n (va_up x last pp))), (2, .int (nI (m9 ||| 2 ^ pp))), (5, .int (nI pp)), (3, .int (nI f9)), (0, .ref (d 0))] := hl
      refine lv_aload_n hx hb dM_cycle_114 rfl (lv_at hl 5 rfl) ?_
      refine lv_dup hx hb dM_cycle_115 rfl ?_
      refine va_get (ci := 5) (C := RM) (T := TM) (N := 26) hx hb ht inM hown hK hP 0 rfl rfl 19 (by decide) (ht _ tw_668) (fun _ h9 => h9) rfl dM_cycle_116 ?_
      refine lv_iconst (v := 1) hx hb dM_cycle_119 (by decide) ?_
      refine lv_iadd hx hb dM_cycle_120 ?_
      refine wti (x' := nI (ps + (t + 1))) (nI_1 (ps + t)) ?_
      refine va_put (ci := 5) (ty := .int) (C := RM) (T := TM) (N := 26) hx hb ht inM tyM tyM_ok nmM hown hK hP hD hS 0 rfl rfl 19 (by decide) (ht _ tw_668) (fun _ h9 => h9) rfl (by decide +kernel) rfl rfl (Nat.le_of_ble_eq_true rfl) dM_cycle_121 (fun H locs hP hD hS => ?_)
      have hP : va_P D vC (mW z d n cd ty ft gc fg fo fh fs ff fq mk fm fi de (ps + (t + 1)) re go kd pr fa fr) H := hP
      have hD : va_D A (mW z d n cd ty ft gc fg fo fh fs ff fq mk fm fi de (ps + (t + 1)) re go kd pr fa fr) := hD
      refine lv_goto (tgt := 14) hx hb dM_cycle_124 rfl ?_
      refine ih (q - 1) (t + 1, pr_cp (x, some f9, last, seen) pp, m9 ||| 2 ^ pp, f9) _ _ ls (by omega) ⟨by show q - 1 + (t + 1) = n + 1; omega, by show ps + (t + 1) ≤ ty; omega, hcok2, ?_, hbit2, fun f e9 => (by cases e9; rfl), hP, hD, hS, lv_sub hl [0, 4, 2, 1, 5] rfl⟩
      show _ = pr_cyc tx ty n (n + 1 - (t + 1)) (ps + (t + 1)) _
      rw [hcy, show n + 1 - (t + 1) = f' by omega]
      rfl
  have hsp : seen pp = true := by
    rw [← hbit]; exact pe_bit1.mp h74
  exact jn () _ _ ls ⟨rfl, rfl, by rw [hcy, if_neg (fun r9 => by have r8 : seen pp = false := r9.2.2; rw [hsp] at r8; cases r8)], lv_sub hl [5] rfl⟩
def mClo (n ps c9 : Nat) (f : pr_Fr) (S : List pr_Fr) : Option (Nat × List pr_Fr) := match f.2.2.1 with
  | none => none
  | some y => if c9 = 44 then (if f.1 = 2 then some (ps, (3, pg_id, none, pg_mul f.2.1 y) :: S) else none) else match S with
    | [] => none
    | f2 :: S2 => if c9 = 125 then (if f.1 = 1 then some (ps, pr_take (pg_mul f.2.1 y) f2 :: S2) else none) else if c9 = 93 then (if f.1 = 3 then some (ps, pr_take (pg_comm n f.2.2.2 (pg_mul f.2.1 y)) f2 :: S2) else none) else none
def mDue (c9 : Nat) : Nat := if c9 = 44 then 2 else if c9 = 125 then 1 else 3
theorem mClo_no {n ps c9 κ : Nat} {p9 y fi9 : pg_F} {S : List pr_Fr} (hc9 : c9 = 44 ∨ c9 = 125 ∨ c9 = 93) (h : κ ≠ mDue c9) : mClo n ps c9 (κ, p9, some y, fi9) S = none := by
  rcases hc9 with rfl | rfl | rfl <;> cases S <;> simp_all [mClo, mDue]
set_option maxHeartbeats 4000000 in
set_option maxRecDepth 100000 in
theorem c_M_close (l : Launch) (D : va_G) (z : Nat → ClassId) (d : Nat → Nat) (n : Nat) {cd : Int32} {ty : Nat} {ft : Nat → Int32} {gc : Nat} {fg fo fh : Nat → Int32} {fs ff : Nat → Int64} {fq : Nat → Int32} {mk : Nat} {fm fi : Nat → Int32} {de ps : Nat} {re : Int32} {go : Bool} {kd pr fa fr : Nat → Int32} (sz : Nat) (hn : n ≤ 7) (f : pr_Fr) (S : List pr_Fr) (hS9 : mSk n kd pr fa fr (f :: S)) (hde : de = S.length) (hle : S.length ≤ 4) (c9 : Nat) (hc9 : c9 = 44 ∨ c9 = 125 ∨ c9 = 93) : Met l yM_close wM_close (rmF 3) (va_Pc [.ref (d 0), .int (nI c9)] (fun U => U.heap.size = sz ∧ va_P D vC (mW z d n cd ty ft gc fg fo fh fs ff fq mk fm fi de ps re go kd pr fa fr) U.heap ∧ va_K D vC (tyL z) U ∧ va_D (fun _ => True) (mW z d n cd ty ft gc fg fo fh fs ff fq mk fm fi de ps re go kd pr fa fr))) (va_Qv (fun u : mRd => mAns n (mClo n ps c9 f S) u) (fun u t => va_P D vC (mW z d n cd ty ft gc fg fo fh fs ff fq mk fm fi u.1 u.2.1 re u.2.2.1 u.2.2.2.1 u.2.2.2.2.1 u.2.2.2.2.2.1 u.2.2.2.2.2.2) t.heap ∧ va_D (va_A (mW z d n cd ty ft gc fg fo fh fs ff fq mk fm fi de ps re go kd pr fa fr) sz) (mW z d n cd ty ft gc fg fo fh fs ff fq mk fm fi u.1 u.2.1 re u.2.2.1 u.2.2.2.1 u.2.2.2.2.1 u.2.2.2.2.2.1 u.2.2.2.2.2.2)) (va_A (mW z d n cd ty ft gc fg fo fh fs ff fq mk fm fi de ps re go kd pr fa fr) sz)) 0 0 (va_A (mW z d n cd ty ft gc fg fo fh fs ff fq mk fm fi de ps re go kd pr fa fr) sz) := by
  have hS8 := hS9
  obtain ⟨h1, hS9⟩ := hS9
  rw [← hde] at h1
  obtain ⟨κ, p9, fo9, fi9⟩ := f
  obtain ⟨a1, a2, a3, a4, a5, a6, a7, a8⟩ := h1
  replace a1 : kd de = nI κ := a1
  replace a2 : κ < 4 := a2
  replace a5 : fa de = oI n fo9 := a5
  replace a6 : ∀ x, fo9 = some x → pg_P n x := a6
  replace a7 : κ = 3 → fr de = eI n fi9 ∧ pg_P n fi9 := a7
  replace a8 : de = 0 → κ = 0 := a8
  have hdu : mDue c9 < 4 := by unfold mDue; split; decide; split <;> decide
  refine Met.ofW (cc := prog_9_method_20_code) (maxL := 5) (ret := none) (by decide) rfl ?_
  intro p e s m args below meth c s₁ B hml hv
  have hx := B.exec
  have hb := B.bytes
  have hr := B.returns
  have ht : ∀ w ∈ TB, w.before args s = true := fun w h => atoms_spec (ws := wM_close) B.pre w (List.mem_cons_of_mem _ h)
  have hown : s.vm.findClass "PermutationDeskModel" = some m.cls := findClass_of_methodNamed B.named
  have hlocks := B.notSynchronized
  obtain ⟨rfl, hsz, hP, hK, hD0⟩ := hv
  subst hsz
  have hD := hD0.self (sz := s.heap.size)
  generalize hAe : va_A (mW z d n cd ty ft gc fg fo fh fs ff fq mk fm fi de ps re go kd pr fa fr) s.heap.size = A at hD ⊢
  have hA : ∀ q : Nat, s.heap.size ≤ q → A q := fun q h => by rw [← hAe]; exact Or.inr h
  have hS : va_S A s.heap s.heap [] := va_S.rf
  have hl := lv_entry ([.ref (d 0), .int (nI c9)]) (n := 5) (Nat.le_of_ble_eq_true rfl)
  rw [lg_entry_eq]
  generalize (lg_sl ([.ref (d 0), .int (nI c9)]) ++ List.replicate (5 - (lg_sl ([.ref (d 0), .int (nI c9)])).length) Slot.unset).toArray = ls at hl ⊢
  have hl : lv_has ls 5 [(0, .ref (d 0)), (1, .int (nI c9))] := hl
  refine wjv (σ := Unit) (pc := 21) (fun _ => [.int (nI (mDue c9))]) (I := fun _ H1 locs1 ls1 => H1 = s.heap ∧ locs1 = [] ∧ ls = ls1) ?_ (fun jn => ?_)
  · rintro - H1 locs1 ls1 ⟨rfl, rfl, rfl⟩
    refine lv_istore_n hx hb dM_close_21 rfl hl (by decide) rfl (fun ls hl => ?_)
    replace hl : lv_has ls 5 [(2, .int (nI (mDue c9))), (0, .ref (d 0)), (1, .int (nI c9))] := hl
    refine wjv (σ := Unit) (pc := 53) (fun _ => [.ref (d 0)]) (I := fun _ H1 locs1 ls1 => H1 = s.heap ∧ locs1 = [] ∧ ls = ls1 ∧ mClo n ps c9 (κ, p9, fo9, fi9) S = none) ?_ (fun jn => ?_)
    · rintro - H1 locs1 ls1 ⟨rfl, rfl, rfl, hno⟩
      refine lv_iconst (v := 0) hx hb dM_close_53 (by decide) ?_
      refine va_put (ci := 5) (ty := .boolean) (C := RM) (T := TM) (N := 26) hx hb ht inM tyM tyM_ok nmM hown hK hP hD hS 0 rfl rfl 21 (by decide) (ht _ tw_670) (fun _ h9 => h9) rfl (by decide +kernel) rfl rfl (Nat.le_of_ble_eq_true rfl) dM_close_54 (fun H locs hP hD hS => ?_)
      have hP : va_P D vC (mW z d n cd ty ft gc fg fo fh fs ff fq mk fm fi de ps re false kd pr fa fr) H := hP
      have hD : va_D A (mW z d n cd ty ft gc fg fo fh fs ff fq mk fm fi de ps re false kd pr fa fr) := hD
      refine lv_aload_n hx hb dM_close_57 rfl (lv_at hl 1 rfl) ?_
      refine va_get (ci := 5) (C := RM) (T := TM) (N := 26) hx hb ht inM hown hK hP 0 rfl rfl 21 (by decide) (ht _ tw_670) (fun _ h9 => h9) rfl dM_close_58 ?_
      refine lv_if_ne (tgt := 65) hx hb dM_close_61 rfl (fun h61 => absurd rfl h61) (fun h61 => ?_)
      refine W.vret hx hb hr (fun t9 ht hW => ⟨⟨(de, ps, false, kd, pr, fa, fr), rfl, ?_, by rw [ht]; exact hP, hD⟩, hS.F ht⟩) hS.2.2 dM_close_64
      rw [hno]
      rfl
    refine lv_aload_n hx hb dM_close_22 rfl (lv_at hl 1 rfl) ?_
    refine lv_aload_n hx hb dM_close_23 rfl (lv_at hl 1 rfl) ?_
    refine va_get (ci := 5) (C := RM) (T := TM) (N := 26) hx hb ht inM hown hK hP 0 rfl rfl 24 (by decide) (ht _ tw_673) (fun _ h9 => h9) rfl dM_close_24 ?_
    refine lv_aload_n hx hb dM_close_27 rfl (lv_at hl 1 rfl) ?_
    refine va_get (ci := 5) (C := RM) (T := TM) (N := 26) hx hb ht inM hown hK hP 0 rfl rfl 18 (by decide) (ht _ tw_667) (fun _ h9 => h9) rfl dM_close_28 ?_
    refine va_iald hx hb hK hP 15 1 rfl rfl (vp_in_nI (N := 6) (by omega) (by decide)) dM_close_31 ?_
    refine wti (x' := oI n fo9) (by rw [nI_clamp (by omega)]; exact a5) ?_
    refine lv_iconst (v := (-1)) hx hb dM_close_32 (by decide) ?_
    refine lv_icmp_eq (tgt := 53) hx hb dM_close_33 rfl (fun h33 => ?_) (fun h33 => ?_)
    · have h9 := (oI_none hn a6).mp h33
      subst h9
      exact jn () _ _ ls ⟨rfl, rfl, rfl, rfl⟩
    cases fo9 with
    | none => exact absurd rfl h33
    | some y =>
      have hyP := a6 y rfl
      refine lv_aload_n hx hb dM_close_36 rfl (lv_at hl 1 rfl) ?_
      refine va_get (ci := 5) (C := RM) (T := TM) (N := 26) hx hb ht inM hown hK hP 0 rfl rfl 22 (by decide) (ht _ tw_671) (fun _ h9 => h9) rfl dM_close_37 ?_
      refine lv_aload_n hx hb dM_close_40 rfl (lv_at hl 1 rfl) ?_
      refine va_get (ci := 5) (C := RM) (T := TM) (N := 26) hx hb ht inM hown hK hP 0 rfl rfl 18 (by decide) (ht _ tw_667) (fun _ h9 => h9) rfl dM_close_41 ?_
      refine va_iald hx hb hK hP 13 1 rfl rfl (vp_in_nI (N := 6) (by omega) (by decide)) dM_close_44 ?_
      refine wti (x' := nI κ) (by rw [nI_clamp (by omega)]; exact a1) ?_
      refine lv_iload_n hx hb dM_close_45 rfl (lv_at hl 0 rfl) ?_
      refine lv_icmp_ne (tgt := 53) hx hb dM_close_46 rfl (fun h46 => ?_) (fun h46 => ?_)
      · have h9 : κ ≠ mDue c9 := fun e9 => h46 (by rw [e9])
        refine jn () _ _ ls ⟨rfl, rfl, rfl, ?_⟩
        exact mClo_no hc9 h9
      have hκ : κ = mDue c9 := (nI_eq (by omega) (by omega)).mp h46
      clear jn
      have hκ0 : κ ≠ 0 := by
        rw [hκ]
        unfold mDue
        split
        · decide
        · split <;> decide
      have hde0 : de ≠ 0 := fun e9 => hκ0 (a8 e9)
      refine lv_iconst (v := 1) hx hb dM_close_49 (by decide) ?_
      refine lv_goto (tgt := 54) hx hb dM_close_50 rfl ?_
      refine va_put (ci := 5) (ty := .boolean) (C := RM) (T := TM) (N := 26) hx hb ht inM tyM tyM_ok nmM hown hK hP hD hS 0 rfl rfl 21 (by decide) (ht _ tw_670) (fun _ h9 => h9) rfl (by decide +kernel) rfl rfl (Nat.le_of_ble_eq_true rfl) dM_close_54 (fun H locs hP hD hS => ?_)
      have hP : va_P D vC (mW z d n cd ty ft gc fg fo fh fs ff fq mk fm fi de ps re true kd pr fa fr) H := hP
      have hD : va_D A (mW z d n cd ty ft gc fg fo fh fs ff fq mk fm fi de ps re true kd pr fa fr) := hD
      refine lv_aload_n hx hb dM_close_57 rfl (lv_at hl 1 rfl) ?_
      refine va_get (ci := 5) (C := RM) (T := TM) (N := 26) hx hb ht inM hown hK hP 0 rfl rfl 21 (by decide) (ht _ tw_670) (fun _ h9 => h9) rfl dM_close_58 ?_
      refine lv_if_ne (tgt := 65) hx hb dM_close_61 rfl (fun h61 => ?_) (fun h61 => absurd h61 (by decide))
      refine lv_aload_n hx hb dM_close_65 rfl (lv_at hl 1 rfl) ?_
      refine qV_i (ci := 5) (q0 := 0) (As := []) (rest := []) ⟨hx, hb, hml, hown, ht⟩ (c_M_whole l D z d n hn κ p9 y fi9 S hS8 hde (by omega)) (cB 0 ht gM_whole rfl tw_64 tw_788 (by decide +kernel) ⟨by decide, by decide⟩) tw_790 tw_40 hK (hP) rfl rfl rfl hl.1 rfl (Nat.le_of_ble_eq_true rfl) dM_close_66 ⟨by decide, by decide⟩ (fun r66 h66 => ?_)
      subst h66
      refine lv_istore_n hx hb dM_close_69 rfl hl (by decide) rfl (fun ls hl => ?_)
      replace hl : lv_has ls 5 [(3, .int (eI n (pg_mul p9 y))), (2, .int (nI (mDue c9))), (0, .ref (d 0)), (1, .int (nI c9))] := hl
      refine lv_iload_n hx hb dM_close_70 rfl (lv_at hl 3 rfl) ?_
      refine lv_bipush (v := 44) hx hb dM_close_71 (by decide) ?_
      refine lv_icmp_ne (tgt := 92) hx hb dM_close_73 rfl (fun h73 => ?_) (fun h73 => ?_)
      · have hc44 : c9 ≠ 44 := fun e9 => h73 (by rw [e9]; rfl)
        cases S with
        | nil => exact absurd hde hde0
        | cons f2 S2 =>
          have hde2 : de - 1 = S2.length := by rw [hde, List.length_cons]; omega
          have hl5 : S2.length < 6 := by rw [List.length_cons] at hle; omega
          refine lv_aload_n hx hb dM_close_92 rfl (lv_at hl 2 rfl) ?_
          refine va_get (ci := 5) (C := RM) (T := TM) (N := 26) hx hb ht inM hown hK hP 0 rfl rfl 25 (by decide) (ht _ tw_674) (fun _ h9 => h9) rfl dM_close_93 ?_
          refine lv_aload_n hx hb dM_close_96 rfl (lv_at hl 2 rfl) ?_
          refine va_get (ci := 5) (C := RM) (T := TM) (N := 26) hx hb ht inM hown hK hP 0 rfl rfl 18 (by decide) (ht _ tw_667) (fun _ h9 => h9) rfl dM_close_97 ?_
          refine va_iald hx hb hK hP 16 1 rfl rfl (vp_in_nI (N := 6) (by omega) (by decide)) dM_close_100 ?_
          refine wti (x' := fr de) (by rw [nI_clamp (by omega)]) ?_
          refine lv_istore hx hb dM_close_101 hl (by decide) rfl (fun ls hl => ?_)
          replace hl : lv_has ls 5 [(4, .int (fr de)), (3, .int (eI n (pg_mul p9 y))), (2, .int (nI (mDue c9))), (0, .ref (d 0)), (1, .int (nI c9))] := hl
          refine lv_aload_n hx hb dM_close_103 rfl (lv_at hl 3 rfl) ?_
          refine lv_dup hx hb dM_close_104 rfl ?_
          refine va_get (ci := 5) (C := RM) (T := TM) (N := 26) hx hb ht inM hown hK hP 0 rfl rfl 18 (by decide) (ht _ tw_667) (fun _ h9 => h9) rfl dM_close_105 ?_
          refine lv_iconst (v := 1) hx hb dM_close_108 (by decide) ?_
          refine lv_isub hx hb dM_close_109 ?_
          refine wti (x' := nI (de - 1)) (pk_sub (b := 1) (by omega)) ?_
          refine va_put (ci := 5) (ty := .int) (C := RM) (T := TM) (N := 26) hx hb ht inM tyM tyM_ok nmM hown hK hP hD hS 0 rfl rfl 18 (by decide) (ht _ tw_667) (fun _ h9 => h9) rfl (by decide +kernel) rfl rfl (Nat.le_of_ble_eq_true rfl) dM_close_110 (fun H locs hP hD hS => ?_)
          have hP : va_P D vC (mW z d n cd ty ft gc fg fo fh fs ff fq mk fm fi (de - 1) ps re true kd pr fa fr) H := hP
          have hD : va_D A (mW z d n cd ty ft gc fg fo fh fs ff fq mk fm fi (de - 1) ps re true kd pr fa fr) := hD
          refine lv_aload_n hx hb dM_close_113 rfl (lv_at hl 3 rfl) ?_
          refine lv_iload_n hx hb dM_close_114 rfl (lv_at hl 4 rfl) ?_
          refine lv_bipush (v := 125) hx hb dM_close_115 (by decide) ?_
          refine lv_icmp_ne (tgt := 124) hx hb dM_close_117 rfl (fun h117 => ?_) (fun h117 => ?_)
          · have hc93 : c9 = 93 := by
              rcases hc9 with e9 | e9 | e9
              · exact absurd e9 hc44
              · exact absurd (by rw [e9]; rfl) h117
              · exact e9
            subst hc93
            have hκ3 : κ = 3 := hκ
            obtain ⟨b1, b2⟩ := a7 hκ3
            refine lv_aload_n hx hb dM_close_124 rfl (lv_at hl 3 rfl) ?_
            refine lv_iload hx hb dM_close_125 (lv_at hl 0 rfl) ?_
            refine lv_iload_n hx hb dM_close_127 rfl (lv_at hl 1 rfl) ?_
            refine W.eq (g2 := F0 m 128 ls [.int (eI n (pg_mul p9 y)), .int (eI n fi9), .ref (d 0), .ref (d 0)]) (by rw [b1]) ?_
            refine qV_i (ci := 5) (q0 := 0) (As := [.int (eI n fi9), .int (eI n (pg_mul p9 y))]) (rest := [.ref (d 0)]) ⟨hx, hb, hml, hown, ht⟩ (c_M_commutator l D z d n fi9 (pg_mul p9 y) hn b2 (pg_P_mul a4 hyP)) (cB 2 ht gM_commutator rfl tw_64 tw_792 (by decide +kernel) ⟨by decide, by decide⟩) tw_794 tw_41 hK (hP) rfl rfl rfl hl.1 rfl (Nat.le_of_ble_eq_true rfl) dM_close_128 ⟨by decide, by decide⟩ (fun r128 h128 => ?_)
            subst h128
            refine qM_v (ci := 5) (q0 := 0) (As := [.int (eI n (pg_comm n fi9 (pg_mul p9 y)))]) (rest := []) ⟨hx, hb, hml, hown, ht⟩ (c_M_take l D z d n _ hn (pg_comm n fi9 (pg_mul p9 y)) (pg_P_comm b2 (pg_P_mul a4 hyP)) f2 S2 hS9 hde2 hl5) (cB 1 ht gM_take rfl tw_64 tw_757 (by decide +kernel) ⟨by decide, by decide⟩) tw_759 tw_33 hK hP hD hS hA rfl rfl rfl hl.1 rfl (Nat.le_of_ble_eq_true rfl) dM_close_131 ⟨by decide, by decide⟩ (fun u131 H locs h131 hP hD hS => ?_)
            obtain ⟨c1, c2, c3, c4⟩ := h131
            refine W.vret hx hb hr (fun t9 ht hW => ⟨⟨u131, rfl, ?_, by rw [ht]; exact hP, hD⟩, hS.F ht⟩) hS.2.2 dM_close_134
            have e9 : mClo n ps 93 (κ, p9, some y, fi9) (f2 :: S2) = some (ps, pr_take (pg_comm n fi9 (pg_mul p9 y)) f2 :: S2) := by simp [mClo, hκ3]
            rw [e9]
            exact ⟨c3, c2, by rw [c1, List.length_cons, ← hde2], by rw [List.length_cons] at hle ⊢; omega, c4⟩
          have hc125 : c9 = 125 := by
            rcases hc9 with e9 | e9 | e9
            · exact absurd e9 hc44
            · exact e9
            · rw [e9] at h117; exact absurd h117 (by decide)
          subst hc125
          have hκ1 : κ = 1 := hκ
          refine lv_iload_n hx hb dM_close_120 rfl (lv_at hl 1 rfl) ?_
          refine lv_goto (tgt := 131) hx hb dM_close_121 rfl ?_
          refine qM_v (ci := 5) (q0 := 0) (As := [.int (eI n (pg_mul p9 y))]) (rest := []) ⟨hx, hb, hml, hown, ht⟩ (c_M_take l D z d n _ hn (pg_mul p9 y) (pg_P_mul a4 hyP) f2 S2 hS9 hde2 hl5) (cB 1 ht gM_take rfl tw_64 tw_757 (by decide +kernel) ⟨by decide, by decide⟩) tw_759 tw_33 hK hP hD hS hA rfl rfl rfl hl.1 rfl (Nat.le_of_ble_eq_true rfl) dM_close_131 ⟨by decide, by decide⟩ (fun u131 H locs h131 hP hD hS => ?_)
          obtain ⟨c1, c2, c3, c4⟩ := h131
          refine W.vret hx hb hr (fun t9 ht hW => ⟨⟨u131, rfl, ?_, by rw [ht]; exact hP, hD⟩, hS.F ht⟩) hS.2.2 dM_close_134
          have e9 : mClo n ps 125 (κ, p9, some y, fi9) (f2 :: S2) = some (ps, pr_take (pg_mul p9 y) f2 :: S2) := by simp [mClo, hκ1]
          rw [e9]
          exact ⟨c3, c2, by rw [c1, List.length_cons, ← hde2], by rw [List.length_cons] at hle ⊢; omega, c4⟩
      have hc44 : c9 = 44 := by
        rcases hc9 with e9 | e9 | e9
        · exact e9
        · rw [e9] at h73; exact absurd h73 (by decide)
        · rw [e9] at h73; exact absurd h73 (by decide)
      subst hc44
      have hκ2 : κ = 2 := hκ
      refine lv_aload_n hx hb dM_close_76 rfl (lv_at hl 2 rfl) ?_
      refine va_get (ci := 5) (C := RM) (T := TM) (N := 26) hx hb ht inM hown hK hP 0 rfl rfl 25 (by decide) (ht _ tw_674) (fun _ h9 => h9) rfl dM_close_77 ?_
      refine lv_aload_n hx hb dM_close_80 rfl (lv_at hl 2 rfl) ?_
      refine va_get (ci := 5) (C := RM) (T := TM) (N := 26) hx hb ht inM hown hK hP 0 rfl rfl 18 (by decide) (ht _ tw_667) (fun _ h9 => h9) rfl dM_close_81 ?_
      refine lv_iload_n hx hb dM_close_84 rfl (lv_at hl 0 rfl) ?_
      refine va_iast hx hb hK hP hD hS 16 1 rfl rfl (vp_in_nI (N := 6) (by omega) (by decide)) dM_close_85 (fun H locs hP hD hS => ?_)
      rw [nI_clamp (by omega)] at hP hD
      replace hP : va_P D vC (mW z d n cd ty ft gc fg fo fh fs ff fq mk fm fi de ps re true kd pr fa (upd fr de (eI n (pg_mul p9 y)))) H := hP
      replace hD : va_D A (mW z d n cd ty ft gc fg fo fh fs ff fq mk fm fi de ps re true kd pr fa (upd fr de (eI n (pg_mul p9 y)))) := hD
      refine lv_aload_n hx hb dM_close_86 rfl (lv_at hl 2 rfl) ?_
      refine lv_iconst (v := 3) hx hb dM_close_87 (by decide) ?_
      refine qM_v (ci := 5) (q0 := 0) (As := [.int (nI 3)]) (rest := []) ⟨hx, hb, hml, hown, ht⟩ (c_M_open l D z d n _ 3 (by decide) (pg_mul p9 y) S (hS9.congr (fun j hj => ⟨rfl, rfl, rfl, pk_un (by omega)⟩)) hde (by omega) (fun _ => ⟨by rw [← hde]; exact pk_us, pg_P_mul a4 hyP⟩) (fun e9 => absurd (hde.trans e9) hde0)) (cB 1 ht gM_open rfl tw_64 tw_749 (by decide +kernel) ⟨by decide, by decide⟩) tw_751 tw_31 hK hP hD hS hA rfl rfl rfl hl.1 rfl (Nat.le_of_ble_eq_true rfl) dM_close_88 ⟨by decide, by decide⟩ (fun u88 H locs h88 hP hD hS => ?_)
      obtain ⟨c1, c2, c3, c4⟩ := h88
      refine W.vret hx hb hr (fun t9 ht hW => ⟨⟨u88, rfl, ?_, by rw [ht]; exact hP, hD⟩, hS.F ht⟩) hS.2.2 dM_close_91
      have e9 : mClo n ps 44 (κ, p9, some y, fi9) S = some (ps, (3, pg_id, none, pg_mul p9 y) :: S) := by simp [mClo, hκ2]
      rw [e9]
      exact ⟨c3, c2, by rw [c1, List.length_cons, hde], by rw [List.length_cons]; omega, c4⟩
  refine lv_iload_n hx hb dM_close_0 rfl (lv_at hl 1 rfl) ?_
  refine lv_bipush (v := 44) hx hb dM_close_1 (by decide) ?_
  refine lv_icmp_ne (tgt := 10) hx hb dM_close_3 rfl (fun h3 => ?_) (fun h3 => ?_)
  · have hc44 : c9 ≠ 44 := fun e9 => h3 (by rw [e9]; rfl)
    refine lv_iload_n hx hb dM_close_10 rfl (lv_at hl 1 rfl) ?_
    refine lv_bipush (v := 125) hx hb dM_close_11 (by decide) ?_
    refine lv_icmp_ne (tgt := 20) hx hb dM_close_13 rfl (fun h13 => ?_) (fun h13 => ?_)
    · have hc125 : c9 ≠ 125 := fun e9 => h13 (by rw [e9]; rfl)
      refine lv_iconst (v := 3) hx hb dM_close_20 (by decide) ?_
      refine wti (x' := nI (mDue c9)) (by unfold mDue; rw [if_neg hc44, if_neg hc125]; rfl) ?_
      exact jn () _ _ ls ⟨rfl, rfl, rfl⟩
    have hc125 : c9 = 125 := by
      rcases hc9 with e9 | e9 | e9
      · exact absurd e9 hc44
      · exact e9
      · rw [e9] at h13; exact absurd h13 (by decide)
    refine lv_iconst (v := 1) hx hb dM_close_16 (by decide) ?_
    refine lv_goto (tgt := 21) hx hb dM_close_17 rfl ?_
    refine wti (x' := nI (mDue c9)) (by unfold mDue; rw [if_neg hc44, if_pos hc125]; rfl) ?_
    exact jn () _ _ ls ⟨rfl, rfl, rfl⟩
  have hc44 : c9 = 44 := by
    rcases hc9 with e9 | e9 | e9
    · exact e9
    · rw [e9] at h3; exact absurd h3 (by decide)
    · rw [e9] at h3; exact absurd h3 (by decide)
  refine lv_iconst (v := 2) hx hb dM_close_6 (by decide) ?_
  refine lv_goto (tgt := 21) hx hb dM_close_7 rfl ?_
  refine wti (x' := nI (mDue c9)) (by unfold mDue; rw [if_pos hc44]; rfl) ?_
  exact jn () _ _ ls ⟨rfl, rfl, rfl⟩
/-! A step. -/
theorem pr_step_ltr {tx : Nat → Nat} {len n gc : Nat} {g : Nat → pg_F} {a : Nat} {f : pr_Fr} {S : List pr_Fr} (h : 97 ≤ tx a ∧ tx a ≤ 102) : pr_step tx len n gc g a (f :: S) = if tx a < 97 + gc then some (a + 1, pr_take (g (tx a - 97)) f :: S) else none := by
  simp only [pr_step]
  rw [if_pos h]
theorem pr_step_cyc {tx : Nat → Nat} {len n gc : Nat} {g : Nat → pg_F} {a : Nat} {f : pr_Fr} {S : List pr_Fr} (h : tx a = 40) : pr_step tx len n gc g a (f :: S) = match pr_cyc tx len n (n + 1) (a + 1) pr_c0 with
    | some (x, a1) => some (a1, pr_take x f :: S)
    | none => none := by
  simp only [pr_step]
  rw [if_neg (by omega), if_pos h]
  rcases pr_cyc tx len n (n + 1) (a + 1) pr_c0 with _ | ⟨x, a1⟩ <;> rfl
theorem pr_step_opn {tx : Nat → Nat} {len n gc : Nat} {g : Nat → pg_F} {a : Nat} {f : pr_Fr} {S : List pr_Fr} (h : tx a = 123 ∨ tx a = 91) : pr_step tx len n gc g a (f :: S) = if S.length < 4 then some (a + 1, ((if tx a = 123 then 1 else 2), pg_id, none, pg_id) :: f :: S) else none := by
  simp only [pr_step]
  rcases h with h | h <;> simp [h]
theorem pr_step_sig {tx : Nat → Nat} {len n gc : Nat} {g : Nat → pg_F} {a κ : Nat} {p9 fi9 : pg_F} {fo9 : Option pg_F} {S : List pr_Fr} (h : tx a = 39 ∨ tx a = 94) : pr_step tx len n gc g a ((κ, p9, fo9, fi9) :: S) = mSig tx n len (a + 1) (tx a) κ p9 fo9 fi9 S := by
  simp only [pr_step]
  cases fo9 <;> rcases h with h | h <;> simp [h, mSig]
theorem pr_step_clo {tx : Nat → Nat} {len n gc : Nat} {g : Nat → pg_F} {a : Nat} {f : pr_Fr} {S : List pr_Fr} (h : tx a = 44 ∨ tx a = 125 ∨ tx a = 93) : pr_step tx len n gc g a (f :: S) = mClo n (a + 1) (tx a) f S := by
  obtain ⟨κ, p9, fo9, fi9⟩ := f
  simp only [pr_step, mClo]
  cases fo9 <;> cases S <;> rcases h with h | h | h <;> simp [h]
theorem pr_step_bad {tx : Nat → Nat} {len n gc : Nat} {g : Nat → pg_F} {a : Nat} {f : pr_Fr} {S : List pr_Fr} (h0 : ¬ (97 ≤ tx a ∧ tx a ≤ 102)) (h1 : tx a ≠ 39) (h2 : tx a ≠ 40) (h3 : tx a ≠ 44) (h4 : tx a ≠ 91) (h5 : tx a ≠ 93) (h6 : tx a ≠ 94) (h7 : tx a ≠ 123) (h8 : tx a ≠ 125) : pr_step tx len n gc g a (f :: S) = none := by
  simp only [pr_step]
  rw [if_neg h0, if_neg h2, if_neg h7, if_neg h4]
  cases f.2.2.1 with
  | none => rfl
  | some x =>
    simp only
    rw [if_neg h1, if_neg h6, if_neg h3]
    cases S with
    | nil => rfl
    | cons f2 S2 => simp only; rw [if_neg h8, if_neg h5]
set_option maxHeartbeats 4000000 in
set_option maxRecDepth 100000 in
theorem c_M_step (l : Launch) (D : va_G) (z : Nat → ClassId) (d : Nat → Nat) (n : Nat) {cd : Int32} {ty : Nat} {ft : Nat → Int32} {gc : Nat} {fg fo fh : Nat → Int32} {fs ff : Nat → Int64} {fq : Nat → Int32} {mk : Nat} {fm fi : Nat → Int32} {de ps : Nat} {re : Int32} {go : Bool} {kd pr fa fr : Nat → Int32} (sz : Nat) (tx : Nat → Nat) (g : Nat → pg_F) (hok : mOK tx ty n gc g ft fg) (hps : ps < ty) (f : pr_Fr) (S : List pr_Fr) (hS9 : mSk n kd pr fa fr (f :: S)) (hde : de = S.length) (hle : S.length ≤ 4) : Met l yM_step wM_step (rmF 4) (va_Pc [.ref (d 0), .int (nI (tx ps))] (fun U => U.heap.size = sz ∧ va_P D vC (mW z d n cd ty ft gc fg fo fh fs ff fq mk fm fi de ps re go kd pr fa fr) U.heap ∧ va_K D vC (tyL z) U ∧ va_D (fun _ => True) (mW z d n cd ty ft gc fg fo fh fs ff fq mk fm fi de ps re go kd pr fa fr))) (va_Qv (fun u : mRd => mAns n (pr_step tx ty n gc g ps (f :: S)) u) (fun u t => va_P D vC (mW z d n cd ty ft gc fg fo fh fs ff fq mk fm fi u.1 u.2.1 re u.2.2.1 u.2.2.2.1 u.2.2.2.2.1 u.2.2.2.2.2.1 u.2.2.2.2.2.2) t.heap ∧ va_D (va_A (mW z d n cd ty ft gc fg fo fh fs ff fq mk fm fi de ps re go kd pr fa fr) sz) (mW z d n cd ty ft gc fg fo fh fs ff fq mk fm fi u.1 u.2.1 re u.2.2.1 u.2.2.2.1 u.2.2.2.2.1 u.2.2.2.2.2.1 u.2.2.2.2.2.2)) (va_A (mW z d n cd ty ft gc fg fo fh fs ff fq mk fm fi de ps re go kd pr fa fr) sz)) 0 0 (va_A (mW z d n cd ty ft gc fg fo fh fs ff fq mk fm fi de ps re go kd pr fa fr) sz) := by
  have hn := hok.2.2.1
  have hlen := hok.1
  have hgc := hok.2.1
  have hc128 := (hok.2.2.2.1 ps hps).1
  obtain ⟨c9, hc9⟩ : ∃ c9, c9 = tx ps := ⟨_, rfl⟩
  rw [← hc9] at hc128 ⊢
  refine Met.ofW (cc := prog_9_method_16_code) (maxL := 2) (ret := none) (by decide) rfl ?_
  intro p e s m args below meth c s₁ B hml hv
  have hx := B.exec
  have hb := B.bytes
  have hr := B.returns
  have ht : ∀ w ∈ TB, w.before args s = true := fun w h => atoms_spec (ws := wM_step) B.pre w (List.mem_cons_of_mem _ h)
  have hown : s.vm.findClass "PermutationDeskModel" = some m.cls := findClass_of_methodNamed B.named
  have hlocks := B.notSynchronized
  obtain ⟨rfl, hsz, hP, hK, hD0⟩ := hv
  subst hsz
  have hD := hD0.self (sz := s.heap.size)
  generalize hAe : va_A (mW z d n cd ty ft gc fg fo fh fs ff fq mk fm fi de ps re go kd pr fa fr) s.heap.size = A at hD ⊢
  have hA : ∀ q : Nat, s.heap.size ≤ q → A q := fun q h => by rw [← hAe]; exact Or.inr h
  have hS : va_S A s.heap s.heap [] := va_S.rf
  have hl := lv_entry ([.ref (d 0), .int (nI c9)]) (n := 2) (Nat.le_of_ble_eq_true rfl)
  rw [lg_entry_eq]
  generalize (lg_sl ([.ref (d 0), .int (nI c9)]) ++ List.replicate (2 - (lg_sl ([.ref (d 0), .int (nI c9)])).length) Slot.unset).toArray = ls at hl ⊢
  have hl : lv_has ls 2 [(0, .ref (d 0)), (1, .int (nI c9))] := hl
  refine lv_aload_n hx hb dM_step_0 rfl (lv_at hl 0 rfl) ?_
  refine lv_dup hx hb dM_step_1 rfl ?_
  refine va_get (ci := 5) (C := RM) (T := TM) (N := 26) hx hb ht inM hown hK hP 0 rfl rfl 19 (by decide) (ht _ tw_668) (fun _ h9 => h9) rfl dM_step_2 ?_
  refine lv_iconst (v := 1) hx hb dM_step_5 (by decide) ?_
  refine lv_iadd hx hb dM_step_6 ?_
  refine wti (x' := nI (ps + 1)) (nI_1 ps) ?_
  refine va_put (ci := 5) (ty := .int) (C := RM) (T := TM) (N := 26) hx hb ht inM tyM tyM_ok nmM hown hK hP hD hS 0 rfl rfl 19 (by decide) (ht _ tw_668) (fun _ h9 => h9) rfl (by decide +kernel) rfl rfl (Nat.le_of_ble_eq_true rfl) dM_step_7 (fun H locs hP hD hS => ?_)
  have hP : va_P D vC (mW z d n cd ty ft gc fg fo fh fs ff fq mk fm fi de (ps + 1) re go kd pr fa fr) H := hP
  have hD : va_D A (mW z d n cd ty ft gc fg fo fh fs ff fq mk fm fi de (ps + 1) re go kd pr fa fr) := hD
  refine wj (σ := Unit) (pc := 63) (I := fun _ H1 locs1 ls1 => H = H1 ∧ locs = locs1 ∧ ls = ls1 ∧ ¬ (97 ≤ c9 ∧ c9 ≤ 102)) ?_ (fun jn => ?_)
  · rintro - H1 locs1 ls1 ⟨rfl, rfl, rfl, hnl⟩
    refine lv_iload_n hx hb dM_step_63 rfl (lv_at hl 1 rfl) ?_
    by_cases h40 : c9 = 40
    · subst h40
      refine lv_lookup (tgt := 140) (off := 76) hx hb dM_step_64 (by decide) (by decide +kernel) rfl ?_
      refine lv_aload_n hx hb dM_step_140 rfl (lv_at hl 0 rfl) ?_
      refine qM_v (ci := 5) (q0 := 0) (As := []) (rest := []) ⟨hx, hb, hml, hown, ht⟩ (c_M_cycle l D z d n _ tx g hok (by omega) f S hS9 hde hle) (cB 0 ht gM_cycle rfl tw_64 tw_769 (by decide +kernel) ⟨by decide, by decide⟩) tw_771 tw_36 hK hP hD hS hA rfl rfl rfl hl.1 rfl (Nat.le_of_ble_eq_true rfl) dM_step_141 ⟨by decide, by decide⟩ (fun u141 H locs h141 hP hD hS => ?_)
      rw [← pr_step_cyc (gc := gc) (g := g) hc9.symm] at h141
      refine lv_goto (tgt := 221) hx hb dM_step_144 rfl ?_
      exact W.vret hx hb hr (fun t9 ht hW => ⟨⟨u141, rfl, h141, by rw [ht]; exact hP, hD⟩, hS.F ht⟩) hS.2.2 dM_step_221
    by_cases hop : c9 = 123 ∨ c9 = 91
    · have e8 := pr_step_opn (len := ty) (n := n) (gc := gc) (g := g) (f := f) (S := S) (show tx ps = 123 ∨ tx ps = 91 by rw [← hc9]; exact hop)
      rw [← hc9] at e8
      refine lv_lookup (tgt := 147) (off := 83) hx hb dM_step_64 (by decide) (by rcases hop with e9 | e9 <;> (rw [e9]; decide +kernel)) rfl ?_
      refine lv_aload_n hx hb dM_step_147 rfl (lv_at hl 0 rfl) ?_
      refine lv_aload_n hx hb dM_step_148 rfl (lv_at hl 0 rfl) ?_
      refine va_get (ci := 5) (C := RM) (T := TM) (N := 26) hx hb ht inM hown hK hP 0 rfl rfl 18 (by decide) (ht _ tw_667) (fun _ h9 => h9) rfl dM_step_149 ?_
      refine lv_iconst (v := 4) hx hb dM_step_152 (by decide) ?_
      refine lv_icmp_ge (tgt := 160) hx hb dM_step_153 rfl (fun h153 => ?_) (fun h153 => ?_)
      · have h9 : ¬ S.length < 4 := by
          have := (nI_leI (a := 4) (by omega) (by omega)).mp h153
          omega
        refine lv_iconst (v := 0) hx hb dM_step_160 (by decide) ?_
        refine va_put (ci := 5) (ty := .boolean) (C := RM) (T := TM) (N := 26) hx hb ht inM tyM tyM_ok nmM hown hK hP hD hS 0 rfl rfl 21 (by decide) (ht _ tw_670) (fun _ h9 => h9) rfl (by decide +kernel) rfl rfl (Nat.le_of_ble_eq_true rfl) dM_step_161 (fun H locs hP hD hS => ?_)
        have hP : va_P D vC (mW z d n cd ty ft gc fg fo fh fs ff fq mk fm fi de (ps + 1) re false kd pr fa fr) H := hP
        have hD : va_D A (mW z d n cd ty ft gc fg fo fh fs ff fq mk fm fi de (ps + 1) re false kd pr fa fr) := hD
        refine lv_aload_n hx hb dM_step_164 rfl (lv_at hl 0 rfl) ?_
        refine va_get (ci := 5) (C := RM) (T := TM) (N := 26) hx hb ht inM hown hK hP 0 rfl rfl 21 (by decide) (ht _ tw_670) (fun _ h9 => h9) rfl dM_step_165 ?_
        refine lv_if_ne (tgt := 172) hx hb dM_step_168 rfl (fun h61 => absurd rfl h61) (fun h61 => ?_)
        refine W.vret hx hb hr (fun t9 ht hW => ⟨⟨(de, ps + 1, false, kd, pr, fa, fr), rfl, ?_, by rw [ht]; exact hP, hD⟩, hS.F ht⟩) hS.2.2 dM_step_171
        rw [e8, if_neg h9]
        rfl
      have h9 : S.length < 4 := by
        have : ¬ _ := fun q => h153 ((nI_leI (a := 4) (b := de) (by omega) (by omega)).mpr q)
        omega
      rw [if_pos h9] at e8
      refine lv_iconst (v := 1) hx hb dM_step_156 (by decide) ?_
      refine lv_goto (tgt := 161) hx hb dM_step_157 rfl ?_
      refine va_put (ci := 5) (ty := .boolean) (C := RM) (T := TM) (N := 26) hx hb ht inM tyM tyM_ok nmM hown hK hP hD hS 0 rfl rfl 21 (by decide) (ht _ tw_670) (fun _ h9 => h9) rfl (by decide +kernel) rfl rfl (Nat.le_of_ble_eq_true rfl) dM_step_161 (fun H locs hP hD hS => ?_)
      have hP : va_P D vC (mW z d n cd ty ft gc fg fo fh fs ff fq mk fm fi de (ps + 1) re true kd pr fa fr) H := hP
      have hD : va_D A (mW z d n cd ty ft gc fg fo fh fs ff fq mk fm fi de (ps + 1) re true kd pr fa fr) := hD
      refine lv_aload_n hx hb dM_step_164 rfl (lv_at hl 0 rfl) ?_
      refine va_get (ci := 5) (C := RM) (T := TM) (N := 26) hx hb ht inM hown hK hP 0 rfl rfl 21 (by decide) (ht _ tw_670) (fun _ h9 => h9) rfl dM_step_165 ?_
      refine lv_if_ne (tgt := 172) hx hb dM_step_168 rfl (fun h61 => ?_) (fun h61 => absurd h61 (by decide))
      refine lv_aload_n hx hb dM_step_172 rfl (lv_at hl 0 rfl) ?_
      refine lv_dup hx hb dM_step_173 rfl ?_
      refine va_get (ci := 5) (C := RM) (T := TM) (N := 26) hx hb ht inM hown hK hP 0 rfl rfl 18 (by decide) (ht _ tw_667) (fun _ h9 => h9) rfl dM_step_174 ?_
      refine lv_iconst (v := 1) hx hb dM_step_177 (by decide) ?_
      refine lv_iadd hx hb dM_step_178 ?_
      refine wti (x' := nI (de + 1)) (nI_1 de) ?_
      refine va_put (ci := 5) (ty := .int) (C := RM) (T := TM) (N := 26) hx hb ht inM tyM tyM_ok nmM hown hK hP hD hS 0 rfl rfl 18 (by decide) (ht _ tw_667) (fun _ h9 => h9) rfl (by decide +kernel) rfl rfl (Nat.le_of_ble_eq_true rfl) dM_step_179 (fun H locs hP hD hS => ?_)
      have hP : va_P D vC (mW z d n cd ty ft gc fg fo fh fs ff fq mk fm fi (de + 1) (ps + 1) re true kd pr fa fr) H := hP
      have hD : va_D A (mW z d n cd ty ft gc fg fo fh fs ff fq mk fm fi (de + 1) (ps + 1) re true kd pr fa fr) := hD
      refine lv_aload_n hx hb dM_step_182 rfl (lv_at hl 0 rfl) ?_
      refine lv_iload_n hx hb dM_step_183 rfl (lv_at hl 1 rfl) ?_
      refine lv_bipush (v := 123) hx hb dM_step_184 (by decide) ?_
      refine wjv (σ := Unit) (pc := 194) (fun _ => [.int (nI (if c9 = 123 then 1 else 2)), .ref (d 0)]) (I := fun _ H1 locs1 ls1 => H = H1 ∧ locs = locs1 ∧ ls = ls1) ?_ (fun jn => ?_)
      · rintro - H1 locs1 ls1 ⟨rfl, rfl, rfl⟩
        have hk12 : (if c9 = 123 then 1 else 2) = 1 ∨ (if c9 = 123 then 1 else 2) = 2 := by split; exact Or.inl rfl; exact Or.inr rfl
        generalize hkk : (if c9 = 123 then 1 else 2) = kk at hk12 e8 ⊢
        refine qM_v (ci := 5) (q0 := 0) (As := [.int (nI kk)]) (rest := []) ⟨hx, hb, hml, hown, ht⟩ (c_M_open l D z d n _ kk (by omega) pg_id (f :: S) hS9 (by rw [List.length_cons, hde]) (by rw [List.length_cons]; omega) (fun q => by omega) (fun q => by rw [List.length_cons] at q; omega)) (cB 1 ht gM_open rfl tw_64 tw_749 (by decide +kernel) ⟨by decide, by decide⟩) tw_751 tw_31 hK hP hD hS hA rfl rfl rfl hl.1 rfl (Nat.le_of_ble_eq_true rfl) dM_step_194 ⟨by decide, by decide⟩ (fun u194 H locs h194 hP hD hS => ?_)
        obtain ⟨c1, c2, c3, c4⟩ := h194
        refine lv_goto (tgt := 221) hx hb dM_step_197 rfl ?_
        refine W.vret hx hb hr (fun t9 ht hW => ⟨⟨u194, rfl, ?_, by rw [ht]; exact hP, hD⟩, hS.F ht⟩) hS.2.2 dM_step_221
        rw [e8]
        exact ⟨c3, c2, by rw [c1, List.length_cons, List.length_cons, hde], by rw [List.length_cons, List.length_cons]; omega, c4⟩
      refine lv_icmp_ne (tgt := 193) hx hb dM_step_186 rfl (fun h186 => ?_) (fun h186 => ?_)
      · have h8 : c9 ≠ 123 := fun e9 => h186 (by rw [e9]; rfl)
        refine lv_iconst (v := 2) hx hb dM_step_193 (by decide) ?_
        refine wti (x' := nI (if c9 = 123 then 1 else 2)) (by rw [if_neg h8]; rfl) ?_
        exact jn () _ _ ls ⟨rfl, rfl, rfl⟩
      have h8 : c9 = 123 := (nI_eq (a := c9) (b := 123) (by omega) (by omega)).mp h186
      refine lv_iconst (v := 1) hx hb dM_step_189 (by decide) ?_
      refine lv_goto (tgt := 194) hx hb dM_step_190 rfl ?_
      refine wti (x' := nI (if c9 = 123 then 1 else 2)) (by rw [if_pos h8]; rfl) ?_
      exact jn () _ _ ls ⟨rfl, rfl, rfl⟩
    by_cases hsg : c9 = 39 ∨ c9 = 94
    · refine lv_lookup (tgt := 200) (off := 136) hx hb dM_step_64 (by decide) (by rcases hsg with e9 | e9 <;> (rw [e9]; decide +kernel)) rfl ?_
      obtain ⟨κ, p9, fo9, fi9⟩ := f
      have e8 := pr_step_sig (len := ty) (n := n) (gc := gc) (g := g) (κ := κ) (p9 := p9) (fi9 := fi9) (fo9 := fo9) (S := S) (show tx ps = 39 ∨ tx ps = 94 by rw [← hc9]; exact hsg)
      rw [← hc9] at e8
      refine lv_aload_n hx hb dM_step_200 rfl (lv_at hl 0 rfl) ?_
      refine lv_iload_n hx hb dM_step_201 rfl (lv_at hl 1 rfl) ?_
      refine qM_v (ci := 5) (q0 := 0) (As := [.int (nI c9)]) (rest := []) ⟨hx, hb, hml, hown, ht⟩ (c_M_sign l D z d n _ tx g hok (by omega) κ p9 fi9 fo9 S hS9 hde hle c9 hsg) (cB 1 ht gM_sign rfl tw_64 tw_776 (by decide +kernel) ⟨by decide, by decide⟩) tw_778 tw_37 hK hP hD hS hA rfl rfl rfl hl.1 rfl (Nat.le_of_ble_eq_true rfl) dM_step_202 ⟨by decide, by decide⟩ (fun u202 H locs h202 hP hD hS => ?_)
      refine lv_goto (tgt := 221) hx hb dM_step_205 rfl ?_
      refine W.vret hx hb hr (fun t9 ht hW => ⟨⟨u202, rfl, ?_, by rw [ht]; exact hP, hD⟩, hS.F ht⟩) hS.2.2 dM_step_221
      rw [e8]
      exact h202
    by_cases hcl : c9 = 44 ∨ c9 = 125 ∨ c9 = 93
    · refine lv_lookup (tgt := 208) (off := 144) hx hb dM_step_64 (by decide) (by rcases hcl with e9 | e9 | e9 <;> (rw [e9]; decide +kernel)) rfl ?_
      have e8 := pr_step_clo (len := ty) (n := n) (gc := gc) (g := g) (f := f) (S := S) (show tx ps = 44 ∨ tx ps = 125 ∨ tx ps = 93 by rw [← hc9]; exact hcl)
      rw [← hc9] at e8
      refine lv_aload_n hx hb dM_step_208 rfl (lv_at hl 0 rfl) ?_
      refine lv_iload_n hx hb dM_step_209 rfl (lv_at hl 1 rfl) ?_
      refine qM_v (ci := 5) (q0 := 0) (As := [.int (nI c9)]) (rest := []) ⟨hx, hb, hml, hown, ht⟩ (c_M_close l D z d n _ hn f S hS9 hde hle c9 hcl) (cB 1 ht gM_close rfl tw_64 tw_784 (by decide +kernel) ⟨by decide, by decide⟩) tw_786 tw_39 hK hP hD hS hA rfl rfl rfl hl.1 rfl (Nat.le_of_ble_eq_true rfl) dM_step_210 ⟨by decide, by decide⟩ (fun u210 H locs h210 hP hD hS => ?_)
      refine lv_goto (tgt := 221) hx hb dM_step_213 rfl ?_
      refine W.vret hx hb hr (fun t9 ht hW => ⟨⟨u210, rfl, ?_, by rw [ht]; exact hP, hD⟩, hS.F ht⟩) hS.2.2 dM_step_221
      rw [e8]
      exact h210
    have hne : ∀ k : Nat, k < 128 → c9 ≠ k → ¬ nI c9 = nI k := fun k hk h9 q => h9 ((nI_eq (by omega) (by omega)).mp q)
    refine lv_lookup (tgt := 216) (off := 152) hx hb dM_step_64 (by decide) (by
      show Op.lookupswitch.offset [(39, 136), (40, 76), (44, 144), (91, 83), (93, 144), (94, 136), (123, 83), (125, 144)] 152 (nI c9).toInt = 152
      rw [lv_osw (k := nI 39) (hne 39 (by decide) (by omega)) (by decide), lv_osw (k := nI 40) (hne 40 (by decide) (by omega)) (by decide), lv_osw (k := nI 44) (hne 44 (by decide) (by omega)) (by decide), lv_osw (k := nI 91) (hne 91 (by decide) (by omega)) (by decide), lv_osw (k := nI 93) (hne 93 (by decide) (by omega)) (by decide), lv_osw (k := nI 94) (hne 94 (by decide) (by omega)) (by decide), lv_osw (k := nI 123) (hne 123 (by decide) (by omega)) (by decide), lv_osw (k := nI 125) (hne 125 (by decide) (by omega)) (by decide)]
      rfl) rfl ?_
    refine lv_aload_n hx hb dM_step_216 rfl (lv_at hl 0 rfl) ?_
    refine lv_iconst (v := 0) hx hb dM_step_217 (by decide) ?_
    refine va_put (ci := 5) (ty := .boolean) (C := RM) (T := TM) (N := 26) hx hb ht inM tyM tyM_ok nmM hown hK hP hD hS 0 rfl rfl 21 (by decide) (ht _ tw_670) (fun _ h9 => h9) rfl (by decide +kernel) rfl rfl (Nat.le_of_ble_eq_true rfl) dM_step_218 (fun H locs hP hD hS => ?_)
    have hP : va_P D vC (mW z d n cd ty ft gc fg fo fh fs ff fq mk fm fi de (ps + 1) re false kd pr fa fr) H := hP
    have hD : va_D A (mW z d n cd ty ft gc fg fo fh fs ff fq mk fm fi de (ps + 1) re false kd pr fa fr) := hD
    refine W.vret hx hb hr (fun t9 ht hW => ⟨⟨(de, ps + 1, false, kd, pr, fa, fr), rfl, ?_, by rw [ht]; exact hP, hD⟩, hS.F ht⟩) hS.2.2 dM_step_221
    rw [pr_step_bad (by omega) (by omega) (by omega) (by omega) (by omega) (by omega) (by omega) (by omega) (by omega)]
    rfl
  refine lv_iload_n hx hb dM_step_10 rfl (lv_at hl 1 rfl) ?_
  refine lv_bipush (v := 97) hx hb dM_step_11 (by decide) ?_
  refine lv_icmp_lt (tgt := 63) hx hb dM_step_13 rfl (fun h13 => ?_) (fun h13 => ?_)
  · have h9 := (nI_ltI (a := c9) (b := 97) (by omega) (by omega)).mp h13
    exact jn () _ _ ls ⟨rfl, rfl, rfl, by omega⟩
  have h97 : 97 ≤ c9 := by
    have : ¬ _ := fun q => h13 ((nI_ltI (a := c9) (b := 97) (by omega) (by omega)).mpr q)
    omega
  refine lv_iload_n hx hb dM_step_16 rfl (lv_at hl 1 rfl) ?_
  refine lv_bipush (v := 102) hx hb dM_step_17 (by decide) ?_
  refine lv_icmp_gt (tgt := 63) hx hb dM_step_19 rfl (fun h19 => ?_) (fun h19 => ?_)
  · have h9 := (nI_ltI (a := 102) (b := c9) (by omega) (by omega)).mp h19
    exact jn () _ _ ls ⟨rfl, rfl, rfl, by omega⟩
  have h102 : c9 ≤ 102 := by
    have : ¬ _ := fun q => h19 ((nI_ltI (a := 102) (b := c9) (by omega) (by omega)).mpr q)
    omega
  clear jn
  have e8 := pr_step_ltr (len := ty) (n := n) (gc := gc) (g := g) (f := f) (S := S) (show 97 ≤ tx ps ∧ tx ps ≤ 102 by rw [← hc9]; exact ⟨h97, h102⟩)
  rw [← hc9] at e8
  refine lv_aload_n hx hb dM_step_22 rfl (lv_at hl 0 rfl) ?_
  refine lv_iload_n hx hb dM_step_23 rfl (lv_at hl 1 rfl) ?_
  refine lv_bipush (v := 97) hx hb dM_step_24 (by decide) ?_
  refine lv_isub hx hb dM_step_26 ?_
  refine wti (x' := nI (c9 - 97)) (pk_sub (b := 97) h97) ?_
  refine lv_aload_n hx hb dM_step_27 rfl (lv_at hl 0 rfl) ?_
  refine va_get (ci := 5) (C := RM) (T := TM) (N := 26) hx hb ht inM hown hK hP 0 rfl rfl 8 (by decide) (ht _ tw_657) (fun _ h9 => h9) rfl dM_step_28 ?_
  refine lv_icmp_ge (tgt := 38) hx hb dM_step_31 rfl (fun h31 => ?_) (fun h31 => ?_)
  · have h9 := (nI_leI (by omega) (by omega)).mp h31
    refine lv_iconst (v := 0) hx hb dM_step_38 (by decide) ?_
    refine va_put (ci := 5) (ty := .boolean) (C := RM) (T := TM) (N := 26) hx hb ht inM tyM tyM_ok nmM hown hK hP hD hS 0 rfl rfl 21 (by decide) (ht _ tw_670) (fun _ h9 => h9) rfl (by decide +kernel) rfl rfl (Nat.le_of_ble_eq_true rfl) dM_step_39 (fun H locs hP hD hS => ?_)
    have hP : va_P D vC (mW z d n cd ty ft gc fg fo fh fs ff fq mk fm fi de (ps + 1) re false kd pr fa fr) H := hP
    have hD : va_D A (mW z d n cd ty ft gc fg fo fh fs ff fq mk fm fi de (ps + 1) re false kd pr fa fr) := hD
    refine lv_aload_n hx hb dM_step_42 rfl (lv_at hl 0 rfl) ?_
    refine va_get (ci := 5) (C := RM) (T := TM) (N := 26) hx hb ht inM hown hK hP 0 rfl rfl 21 (by decide) (ht _ tw_670) (fun _ h9 => h9) rfl dM_step_43 ?_
    refine lv_if_eq (tgt := 62) hx hb dM_step_46 rfl (fun h61 => ?_) (fun h61 => absurd rfl h61)
    refine W.vret hx hb hr (fun t9 ht hW => ⟨⟨(de, ps + 1, false, kd, pr, fa, fr), rfl, ?_, by rw [ht]; exact hP, hD⟩, hS.F ht⟩) hS.2.2 dM_step_62
    rw [e8, if_neg (by omega)]
    rfl
  have h9 : c9 - 97 < gc := by
    rw [nI_leI (by omega) (by omega)] at h31
    omega
  rw [if_pos (by omega)] at e8
  obtain ⟨hgP, hgf⟩ := hok.2.2.2.2 (c9 - 97) h9
  refine lv_iconst (v := 1) hx hb dM_step_34 (by decide) ?_
  refine lv_goto (tgt := 39) hx hb dM_step_35 rfl ?_
  refine va_put (ci := 5) (ty := .boolean) (C := RM) (T := TM) (N := 26) hx hb ht inM tyM tyM_ok nmM hown hK hP hD hS 0 rfl rfl 21 (by decide) (ht _ tw_670) (fun _ h9 => h9) rfl (by decide +kernel) rfl rfl (Nat.le_of_ble_eq_true rfl) dM_step_39 (fun H locs hP hD hS => ?_)
  have hP : va_P D vC (mW z d n cd ty ft gc fg fo fh fs ff fq mk fm fi de (ps + 1) re true kd pr fa fr) H := hP
  have hD : va_D A (mW z d n cd ty ft gc fg fo fh fs ff fq mk fm fi de (ps + 1) re true kd pr fa fr) := hD
  refine lv_aload_n hx hb dM_step_42 rfl (lv_at hl 0 rfl) ?_
  refine va_get (ci := 5) (C := RM) (T := TM) (N := 26) hx hb ht inM hown hK hP 0 rfl rfl 21 (by decide) (ht _ tw_670) (fun _ h9 => h9) rfl dM_step_43 ?_
  refine lv_if_eq (tgt := 62) hx hb dM_step_46 rfl (fun h61 => absurd h61 (by decide)) (fun h61 => ?_)
  refine lv_aload_n hx hb dM_step_49 rfl (lv_at hl 0 rfl) ?_
  refine lv_aload_n hx hb dM_step_50 rfl (lv_at hl 0 rfl) ?_
  refine va_get (ci := 5) (C := RM) (T := TM) (N := 26) hx hb ht inM hown hK hP 0 rfl rfl 9 (by decide) (ht _ tw_658) (fun _ h9 => h9) rfl dM_step_51 ?_
  refine lv_iload_n hx hb dM_step_54 rfl (lv_at hl 1 rfl) ?_
  refine lv_bipush (v := 97) hx hb dM_step_55 (by decide) ?_
  refine lv_isub hx hb dM_step_57 ?_
  refine wti (x' := nI (c9 - 97)) (pk_sub (b := 97) h97) ?_
  refine va_iald hx hb hK hP 5 1 rfl rfl (vp_in_nI (N := 6) (by omega) (by decide)) dM_step_58 ?_
  refine wti (x' := eI n (g (c9 - 97))) (by rw [nI_clamp (by omega)]; exact hgf) ?_
  refine qM_v (ci := 5) (q0 := 0) (As := [.int (eI n (g (c9 - 97)))]) (rest := []) ⟨hx, hb, hml, hown, ht⟩ (c_M_take l D z d n _ hn (g (c9 - 97)) hgP f S hS9 hde (by omega)) (cB 1 ht gM_take rfl tw_64 tw_757 (by decide +kernel) ⟨by decide, by decide⟩) tw_759 tw_33 hK hP hD hS hA rfl rfl rfl hl.1 rfl (Nat.le_of_ble_eq_true rfl) dM_step_59 ⟨by decide, by decide⟩ (fun u59 H locs h59 hP hD hS => ?_)
  obtain ⟨c1, c2, c3, c4⟩ := h59
  refine W.vret hx hb hr (fun t9 ht hW => ⟨⟨u59, rfl, ?_, by rw [ht]; exact hP, hD⟩, hS.F ht⟩) hS.2.2 dM_step_62
  rw [e8]
  exact ⟨c3, c2, by rw [c1, List.length_cons, hde], by rw [List.length_cons]; omega, c4⟩
theorem pr_step_le {tx : Nat → Nat} {len n gc : Nat} {g : Nat → pg_F} {a : Nat} {S S1 : List pr_Fr} {a1 : Nat} (ha : a < len) (h : pr_step tx len n gc g a S = some (a1, S1)) : a1 ≤ len := by
  unfold pr_step at h
  cases S with
  | nil => cases h
  | cons fr S =>
    simp only at h
    split at h
    · split at h <;> cases h
      omega
    · split at h
      · split at h
        · rename_i x a2 hx
          cases h
          have := pr_cyc_gt _ _ _ _ _ hx
          omega
        · cases h
      · split at h
        · split at h <;> cases h
          omega
        · split at h
          · split at h <;> cases h
            omega
          · split at h
            · cases h
            · split at h
              · cases h; omega
              · split at h
                · split at h
                  · rename_i hd
                    have : a + 1 < len := Classical.byContradiction (fun r => by rw [pr_look_out (by omega)] at hd; omega)
                    cases h
                    omega
                  · cases h
                · split at h
                  · split at h <;> cases h
                    omega
                  · split at h
                    · cases h
                    · split at h
                      · split at h <;> cases h
                        omega
                      · split at h
                        · split at h <;> cases h
                          omega
                        · cases h
/-! The whole text. -/
set_option maxHeartbeats 4000000 in
set_option maxRecDepth 100000 in
theorem c_M_read (l : Launch) (D : va_G) (z : Nat → ClassId) (d : Nat → Nat) (n : Nat) {cd : Int32} {ty : Nat} {ft : Nat → Int32} {gc : Nat} {fg fo fh : Nat → Int32} {fs ff : Nat → Int64} {fq : Nat → Int32} {mk : Nat} {fm fi : Nat → Int32} {de ps : Nat} {re : Int32} {go : Bool} {kd pr fa fr : Nat → Int32} (sz : Nat) (tx : Nat → Nat) (g : Nat → pg_F) (hok : mOK tx ty n gc g ft fg) : Met l yM_read wM_read (rmF 5) (va_Pc [.ref (d 0)] (fun U => U.heap.size = sz ∧ va_P D vC (mW z d n cd ty ft gc fg fo fh fs ff fq mk fm fi de ps re go kd pr fa fr) U.heap ∧ va_K D vC (tyL z) U ∧ va_D (fun _ => True) (mW z d n cd ty ft gc fg fo fh fs ff fq mk fm fi de ps re go kd pr fa fr))) (va_Qi (fun r (u : mRd × Int32) => (r = 1 ∧ ∃ y, pr_text tx ty n gc g = some y ∧ u.2 = eI n y) ∨ (r = 0 ∧ pr_text tx ty n gc g = none)) (fun u t => va_P D vC (mW z d n cd ty ft gc fg fo fh fs ff fq mk fm fi u.1.1 u.1.2.1 u.2 u.1.2.2.1 u.1.2.2.2.1 u.1.2.2.2.2.1 u.1.2.2.2.2.2.1 u.1.2.2.2.2.2.2) t.heap ∧ va_D (va_A (mW z d n cd ty ft gc fg fo fh fs ff fq mk fm fi de ps re go kd pr fa fr) sz) (mW z d n cd ty ft gc fg fo fh fs ff fq mk fm fi u.1.1 u.1.2.1 u.2 u.1.2.2.1 u.1.2.2.2.1 u.1.2.2.2.2.1 u.1.2.2.2.2.2.1 u.1.2.2.2.2.2.2)) (va_A (mW z d n cd ty ft gc fg fo fh fs ff fq mk fm fi de ps re go kd pr fa fr) sz)) 0 0 (va_A (mW z d n cd ty ft gc fg fo fh fs ff fq mk fm fi de ps re go kd pr fa fr) sz) := by
  have hn := hok.2.2.1
  have hlen := hok.1
  have hgc := hok.2.1
  generalize hRES : pr_text tx ty n gc g = RES
  have hR0 := pr_same (tx := tx) (n := n) (g := g) hgc hlen pg_id
  rw [hRES] at hR0
  refine Met.ofW (cc := prog_9_method_15_code) (maxL := 1) (ret := (some .boolean)) (by decide) rfl ?_
  intro p e s m args below meth c s₁ B hml hv
  have hx := B.exec
  have hb := B.bytes
  have hr := B.returns
  have ht : ∀ w ∈ TB, w.before args s = true := fun w h => atoms_spec (ws := wM_read) B.pre w (List.mem_cons_of_mem _ h)
  have hown : s.vm.findClass "PermutationDeskModel" = some m.cls := findClass_of_methodNamed B.named
  have hlocks := B.notSynchronized
  obtain ⟨rfl, hsz, hP, hK, hD0⟩ := hv
  subst hsz
  have hD := hD0.self (sz := s.heap.size)
  generalize hAe : va_A (mW z d n cd ty ft gc fg fo fh fs ff fq mk fm fi de ps re go kd pr fa fr) s.heap.size = A at hD ⊢
  have hA : ∀ q : Nat, s.heap.size ≤ q → A q := fun q h => by rw [← hAe]; exact Or.inr h
  have hS : va_S A s.heap s.heap [] := va_S.rf
  have hl := lv_entry ([.ref (d 0)]) (n := 1) (Nat.le_of_ble_eq_true rfl)
  rw [lg_entry_eq]
  generalize (lg_sl ([.ref (d 0)]) ++ List.replicate (1 - (lg_sl ([.ref (d 0)])).length) Slot.unset).toArray = ls at hl ⊢
  have hl : lv_has ls 1 [(0, .ref (d 0))] := hl
  refine lv_aload_n hx hb dM_read_0 rfl (lv_at hl 0 rfl) ?_
  refine lv_iconst (v := 0) hx hb dM_read_1 (by decide) ?_
  refine va_put (ci := 5) (ty := .int) (C := RM) (T := TM) (N := 26) hx hb ht inM tyM tyM_ok nmM hown hK hP hD hS 0 rfl rfl 18 (by decide) (ht _ tw_667) (fun _ h9 => h9) rfl (by decide +kernel) rfl rfl (Nat.le_of_ble_eq_true rfl) dM_read_2 (fun H locs hP hD hS => ?_)
  have hP : va_P D vC (mW z d n cd ty ft gc fg fo fh fs ff fq mk fm fi 0 ps re go kd pr fa fr) H := hP
  have hD : va_D A (mW z d n cd ty ft gc fg fo fh fs ff fq mk fm fi 0 ps re go kd pr fa fr) := hD
  refine lv_aload_n hx hb dM_read_5 rfl (lv_at hl 0 rfl) ?_
  refine lv_iconst (v := 0) hx hb dM_read_6 (by decide) ?_
  refine va_put (ci := 5) (ty := .int) (C := RM) (T := TM) (N := 26) hx hb ht inM tyM tyM_ok nmM hown hK hP hD hS 0 rfl rfl 19 (by decide) (ht _ tw_668) (fun _ h9 => h9) rfl (by decide +kernel) rfl rfl (Nat.le_of_ble_eq_true rfl) dM_read_7 (fun H locs hP hD hS => ?_)
  have hP : va_P D vC (mW z d n cd ty ft gc fg fo fh fs ff fq mk fm fi 0 0 re go kd pr fa fr) H := hP
  have hD : va_D A (mW z d n cd ty ft gc fg fo fh fs ff fq mk fm fi 0 0 re go kd pr fa fr) := hD
  refine lv_aload_n hx hb dM_read_10 rfl (lv_at hl 0 rfl) ?_
  refine lv_iconst (v := 1) hx hb dM_read_11 (by decide) ?_
  refine va_put (ci := 5) (ty := .boolean) (C := RM) (T := TM) (N := 26) hx hb ht inM tyM tyM_ok nmM hown hK hP hD hS 0 rfl rfl 21 (by decide) (ht _ tw_670) (fun _ h9 => h9) rfl (by decide +kernel) rfl rfl (Nat.le_of_ble_eq_true rfl) dM_read_12 (fun H locs hP hD hS => ?_)
  have hP : va_P D vC (mW z d n cd ty ft gc fg fo fh fs ff fq mk fm fi 0 0 re true kd pr fa fr) H := hP
  have hD : va_D A (mW z d n cd ty ft gc fg fo fh fs ff fq mk fm fi 0 0 re true kd pr fa fr) := hD
  refine lv_aload_n hx hb dM_read_15 rfl (lv_at hl 0 rfl) ?_
  refine lv_iconst (v := 0) hx hb dM_read_16 (by decide) ?_
  refine qM_v (ci := 5) (q0 := 0) (As := [.int (nI 0)]) (rest := []) ⟨hx, hb, hml, hown, ht⟩ (c_M_open l D z d n _ 0 (by decide) pg_id [] trivial rfl (by decide) (fun q => by omega) (fun _ => rfl)) (cB 1 ht gM_open rfl tw_64 tw_749 (by decide +kernel) ⟨by decide, by decide⟩) tw_751 tw_31 hK hP hD hS hA rfl rfl rfl hl.1 rfl (Nat.le_of_ble_eq_true rfl) dM_read_17 ⟨by decide, by decide⟩ (fun u17 H locs h17 hP hD hS => ?_)
  obtain ⟨c1, c2, c3, c4⟩ := h17
  refine wl (σ := mRd) (I := fun q u H locs ls => ((u.2.2.1 = true ∧ q = ty - u.2.1 + 1 ∧ u.2.1 ≤ ty ∧ ∃ S, u.1 + 1 = S.length ∧ S.length ≤ 5 ∧ mSk n u.2.2.2.1 u.2.2.2.2.1 u.2.2.2.2.2.1 u.2.2.2.2.2.2 S ∧ RES = pr_res tx ty n gc g u.2.1 S) ∨ (u.2.2.1 = false ∧ q = 0 ∧ RES = none)) ∧ va_P D vC (mW z d n cd ty ft gc fg fo fh fs ff fq mk fm fi u.1 u.2.1 re u.2.2.1 u.2.2.2.1 u.2.2.2.2.1 u.2.2.2.2.2.1 u.2.2.2.2.2.2) H ∧ va_D A (mW z d n cd ty ft gc fg fo fh fs ff fq mk fm fi u.1 u.2.1 re u.2.2.1 u.2.2.2.1 u.2.2.2.2.1 u.2.2.2.2.2.1 u.2.2.2.2.2.2) ∧ va_S A s.heap H locs ∧ lv_has ls 1 [(0, .ref (d 0))]) ?_ (ty + 1) u17 _ _ ls ⟨Or.inl ⟨c3, by rw [c2]; rfl, by rw [c2]; exact Nat.zero_le _, _, by rw [c1]; rfl, by decide, c4, by rw [c2]; exact hR0.symm⟩, hP, hD, hS, hl⟩
  clear hP hD hS hl c1 c2 c3 c4 u17
  rintro q ⟨de9, ps9, go9, kd9, pr9, fa9, fr9⟩ H locs ls ⟨hst, hP, hD, hS, hl⟩ ih
  replace hP : va_P D vC (mW z d n cd ty ft gc fg fo fh fs ff fq mk fm fi de9 ps9 re go9 kd9 pr9 fa9 fr9) H := hP
  replace hD : va_D A (mW z d n cd ty ft gc fg fo fh fs ff fq mk fm fi de9 ps9 re go9 kd9 pr9 fa9 fr9) := hD
  -- the end
  refine wj (σ := Unit) (pc := 54) (I := fun _ H1 locs1 ls1 => H = H1 ∧ locs = locs1 ∧ ls = ls1 ∧ ((go9 = true ∧ ∃ S, de9 + 1 = S.length ∧ S.length ≤ 5 ∧ mSk n kd9 pr9 fa9 fr9 S ∧ RES = pr_end S) ∨ (go9 = false ∧ RES = none))) ?_ (fun jn => ?_)
  · rintro - H1 locs1 ls1 ⟨rfl, rfl, rfl, hend⟩
    -- bad
    refine wjv (σ := Unit) (pc := 83) (fun _ => [.ref (d 0)]) (I := fun _ H1 locs1 ls1 => H = H1 ∧ locs = locs1 ∧ ls = ls1 ∧ RES = none) ?_ (fun jn => ?_)
    · rintro - H1 locs1 ls1 ⟨rfl, rfl, rfl, hno⟩
      refine lv_iconst (v := 0) hx hb dM_read_83 (by decide) ?_
      refine va_put (ci := 5) (ty := .boolean) (C := RM) (T := TM) (N := 26) hx hb ht inM tyM tyM_ok nmM hown hK hP hD hS 0 rfl rfl 21 (by decide) (ht _ tw_670) (fun _ h9 => h9) rfl (by decide +kernel) rfl rfl (Nat.le_of_ble_eq_true rfl) dM_read_84 (fun H locs hP hD hS => ?_)
      have hP : va_P D vC (mW z d n cd ty ft gc fg fo fh fs ff fq mk fm fi de9 ps9 re false kd9 pr9 fa9 fr9) H := hP
      have hD : va_D A (mW z d n cd ty ft gc fg fo fh fs ff fq mk fm fi de9 ps9 re false kd9 pr9 fa9 fr9) := hD
      refine lv_aload_n hx hb dM_read_87 rfl (lv_at hl 0 rfl) ?_
      refine va_get (ci := 5) (C := RM) (T := TM) (N := 26) hx hb ht inM hown hK hP 0 rfl rfl 21 (by decide) (ht _ tw_670) (fun _ h9 => h9) rfl dM_read_88 ?_
      refine lv_if_eq (tgt := 102) hx hb dM_read_91 rfl (fun h61 => ?_) (fun h61 => absurd rfl h61)
      refine lv_aload_n hx hb dM_read_102 rfl (lv_at hl 0 rfl) ?_
      refine va_get (ci := 5) (C := RM) (T := TM) (N := 26) hx hb ht inM hown hK hP 0 rfl rfl 21 (by decide) (ht _ tw_670) (fun _ h9 => h9) rfl dM_read_103 ?_
      exact W.zret (v := 0) hx hb hr rfl (fun t9 ht hW => ⟨⟨_, ((de9, ps9, false, kd9, pr9, fa9, fr9), re), rfl, Or.inr ⟨rfl, hno⟩, by rw [ht]; exact hP, hD⟩, hS.F ht⟩) hS.2.2 dM_read_106
    rcases hend with ⟨rfl, S, hl1, hl5, hsk, hE⟩ | ⟨rfl, hE⟩
    · skip
      refine lv_aload_n hx hb dM_read_54 rfl (lv_at hl 0 rfl) ?_
      refine lv_aload_n hx hb dM_read_55 rfl (lv_at hl 0 rfl) ?_
      refine va_get (ci := 5) (C := RM) (T := TM) (N := 26) hx hb ht inM hown hK hP 0 rfl rfl 21 (by decide) (ht _ tw_670) (fun _ h9 => h9) rfl dM_read_56 ?_
      refine lv_if_eq (tgt := 83) hx hb dM_read_59 rfl (fun h61 => absurd h61 (by decide)) (fun h61 => ?_)
      refine lv_aload_n hx hb dM_read_62 rfl (lv_at hl 0 rfl) ?_
      refine va_get (ci := 5) (C := RM) (T := TM) (N := 26) hx hb ht inM hown hK hP 0 rfl rfl 18 (by decide) (ht _ tw_667) (fun _ h9 => h9) rfl dM_read_63 ?_
      refine lv_if_ne (tgt := 83) hx hb dM_read_66 rfl (fun h66 => ?_) (fun h66 => ?_)
      · refine jn () _ _ ls ⟨rfl, rfl, rfl, ?_⟩
        have h8 : de9 ≠ 0 := fun e9 => h66 (by rw [e9]; rfl)
        rw [hE]
        match S, hl1 with
        | [], _ => rfl
        | [f8], hl1 => exact absurd (by simpa using hl1) h8
        | _ :: _ :: _, _ => unfold pr_end; split; simp_all; rfl
      have h8 : de9 = 0 := (nI_eq (a := de9) (b := 0) (by omega) (by omega)).mp h66
      subst h8
      obtain ⟨f8, rfl⟩ : ∃ f8, S = [f8] := by
        match S, hl1 with
        | [f8], _ => exact ⟨f8, rfl⟩
        | [], hl1 => simp at hl1
        | _ :: _ :: _, hl1 => simp at hl1
      obtain ⟨κ, p9, fo9, fi9⟩ := f8
      have hsk8 := hsk
      obtain ⟨⟨a1, a2, a3, a4, a5, a6, a7, a8⟩, -⟩ := hsk
      replace a5 : fa9 0 = oI n fo9 := a5
      replace a6 : ∀ x, fo9 = some x → pg_P n x := a6
      refine lv_aload_n hx hb dM_read_69 rfl (lv_at hl 0 rfl) ?_
      refine va_get (ci := 5) (C := RM) (T := TM) (N := 26) hx hb ht inM hown hK hP 0 rfl rfl 24 (by decide) (ht _ tw_673) (fun _ h9 => h9) rfl dM_read_70 ?_
      refine lv_iconst (v := 0) hx hb dM_read_73 (by decide) ?_
      refine va_iald hx hb hK hP 15 1 rfl rfl (vp_in_nI (n := 0) (N := 6) (by decide) (by decide)) dM_read_74 ?_
      refine wti (x' := oI n fo9) a5 ?_
      refine lv_iconst (v := (-1)) hx hb dM_read_75 (by decide) ?_
      refine lv_icmp_eq (tgt := 83) hx hb dM_read_76 rfl (fun h76 => ?_) (fun h76 => ?_)
      · have h9 := (oI_none hn a6).mp h76
        subst h9
        exact jn () _ _ ls ⟨rfl, rfl, rfl, hE⟩
      cases fo9 with
      | none => exact absurd rfl h76
      | some y =>
        refine lv_iconst (v := 1) hx hb dM_read_79 (by decide) ?_
        refine lv_goto (tgt := 84) hx hb dM_read_80 rfl ?_
        refine va_put (ci := 5) (ty := .boolean) (C := RM) (T := TM) (N := 26) hx hb ht inM tyM tyM_ok nmM hown hK hP hD hS 0 rfl rfl 21 (by decide) (ht _ tw_670) (fun _ h9 => h9) rfl (by decide +kernel) rfl rfl (Nat.le_of_ble_eq_true rfl) dM_read_84 (fun H locs hP hD hS => ?_)
        have hP : va_P D vC (mW z d n cd ty ft gc fg fo fh fs ff fq mk fm fi 0 ps9 re true kd9 pr9 fa9 fr9) H := hP
        have hD : va_D A (mW z d n cd ty ft gc fg fo fh fs ff fq mk fm fi 0 ps9 re true kd9 pr9 fa9 fr9) := hD
        refine lv_aload_n hx hb dM_read_87 rfl (lv_at hl 0 rfl) ?_
        refine va_get (ci := 5) (C := RM) (T := TM) (N := 26) hx hb ht inM hown hK hP 0 rfl rfl 21 (by decide) (ht _ tw_670) (fun _ h9 => h9) rfl dM_read_88 ?_
        refine lv_if_eq (tgt := 102) hx hb dM_read_91 rfl (fun h61 => absurd h61 (by decide)) (fun h61 => ?_)
        refine lv_aload_n hx hb dM_read_94 rfl (lv_at hl 0 rfl) ?_
        refine lv_aload_n hx hb dM_read_95 rfl (lv_at hl 0 rfl) ?_
        refine qV_i (ci := 5) (q0 := 0) (As := []) (rest := [.ref (d 0)]) ⟨hx, hb, hml, hown, ht⟩ (c_M_whole l D z d n hn κ p9 y fi9 [] hsk8 rfl (by decide)) (cB 0 ht gM_whole rfl tw_64 tw_788 (by decide +kernel) ⟨by decide, by decide⟩) tw_790 tw_40 hK (hP) rfl rfl rfl hl.1 rfl (Nat.le_of_ble_eq_true rfl) dM_read_96 ⟨by decide, by decide⟩ (fun r96 h96 => ?_)
        subst h96
        refine va_put (ci := 5) (ty := .int) (C := RM) (T := TM) (N := 26) hx hb ht inM tyM tyM_ok nmM hown hK hP hD hS 0 rfl rfl 20 (by decide) (ht _ tw_669) (fun _ h9 => h9) rfl (by decide +kernel) rfl rfl (Nat.le_of_ble_eq_true rfl) dM_read_99 (fun H locs hP hD hS => ?_)
        have hP : va_P D vC (mW z d n cd ty ft gc fg fo fh fs ff fq mk fm fi 0 ps9 (eI n (pg_mul p9 y)) true kd9 pr9 fa9 fr9) H := hP
        have hD : va_D A (mW z d n cd ty ft gc fg fo fh fs ff fq mk fm fi 0 ps9 (eI n (pg_mul p9 y)) true kd9 pr9 fa9 fr9) := hD
        refine lv_aload_n hx hb dM_read_102 rfl (lv_at hl 0 rfl) ?_
        refine va_get (ci := 5) (C := RM) (T := TM) (N := 26) hx hb ht inM hown hK hP 0 rfl rfl 21 (by decide) (ht _ tw_670) (fun _ h9 => h9) rfl dM_read_103 ?_
        exact W.zret (v := 1) hx hb hr rfl (fun t9 ht hW => ⟨⟨_, ((0, ps9, true, kd9, pr9, fa9, fr9), eI n (pg_mul p9 y)), rfl, Or.inl ⟨rfl, pg_mul p9 y, hE, rfl⟩, by rw [ht]; exact hP, hD⟩, hS.F ht⟩) hS.2.2 dM_read_106
    refine lv_aload_n hx hb dM_read_54 rfl (lv_at hl 0 rfl) ?_
    refine lv_aload_n hx hb dM_read_55 rfl (lv_at hl 0 rfl) ?_
    refine va_get (ci := 5) (C := RM) (T := TM) (N := 26) hx hb ht inM hown hK hP 0 rfl rfl 21 (by decide) (ht _ tw_670) (fun _ h9 => h9) rfl dM_read_56 ?_
    refine lv_if_eq (tgt := 83) hx hb dM_read_59 rfl (fun h61 => ?_) (fun h61 => absurd rfl h61)
    exact jn () _ _ ls ⟨rfl, rfl, rfl, hE⟩
  refine lv_aload_n hx hb dM_read_20 rfl (lv_at hl 0 rfl) ?_
  refine va_get (ci := 5) (C := RM) (T := TM) (N := 26) hx hb ht inM hown hK hP 0 rfl rfl 19 (by decide) (ht _ tw_668) (fun _ h9 => h9) rfl dM_read_21 ?_
  refine lv_aload_n hx hb dM_read_24 rfl (lv_at hl 0 rfl) ?_
  refine va_get (ci := 5) (C := RM) (T := TM) (N := 26) hx hb ht inM hown hK hP 0 rfl rfl 6 (by decide) (ht _ tw_655) (fun _ h9 => h9) rfl dM_read_25 ?_
  rcases hst with ⟨hgo, hq, hpl, S, hl1, hl5, hsk, hE⟩ | ⟨hgo, hq, hE⟩
  · replace hgo : go9 = true := hgo
    replace hq : q = ty - ps9 + 1 := hq
    replace hpl : ps9 ≤ ty := hpl
    replace hl1 : de9 + 1 = S.length := hl1
    replace hsk : mSk n kd9 pr9 fa9 fr9 S := hsk
    replace hE : RES = pr_res tx ty n gc g ps9 S := hE
    subst hgo
    refine lv_icmp_ge (tgt := 54) hx hb dM_read_28 rfl (fun h28 => ?_) (fun h28 => ?_)
    · have h9 := (nI_leI (by omega) (by omega)).mp h28
      exact jn () _ _ ls ⟨rfl, rfl, rfl, Or.inl ⟨rfl, S, hl1, hl5, hsk, by rw [hE, pr_res_end h9]⟩⟩
    have hlt : ps9 < ty := by
      rw [nI_leI (by omega) (by omega)] at h28
      omega
    refine lv_aload_n hx hb dM_read_31 rfl (lv_at hl 0 rfl) ?_
    refine va_get (ci := 5) (C := RM) (T := TM) (N := 26) hx hb ht inM hown hK hP 0 rfl rfl 21 (by decide) (ht _ tw_670) (fun _ h9 => h9) rfl dM_read_32 ?_
    refine lv_if_eq (tgt := 54) hx hb dM_read_35 rfl (fun h61 => absurd h61 (by decide)) (fun h61 => ?_)
    refine lv_aload_n hx hb dM_read_38 rfl (lv_at hl 0 rfl) ?_
    refine lv_aload_n hx hb dM_read_39 rfl (lv_at hl 0 rfl) ?_
    refine va_get (ci := 5) (C := RM) (T := TM) (N := 26) hx hb ht inM hown hK hP 0 rfl rfl 7 (by decide) (ht _ tw_656) (fun _ h9 => h9) rfl dM_read_40 ?_
    refine lv_aload_n hx hb dM_read_43 rfl (lv_at hl 0 rfl) ?_
    refine va_get (ci := 5) (C := RM) (T := TM) (N := 26) hx hb ht inM hown hK hP 0 rfl rfl 19 (by decide) (ht _ tw_668) (fun _ h9 => h9) rfl dM_read_44 ?_
    refine va_iald hx hb hK hP 4 1 rfl rfl (vp_in_nI (N := 24) (by omega) (by decide)) dM_read_47 ?_
    refine wti (x' := nI (tx ps9)) (by rw [nI_clamp (by omega)]; exact (hok.2.2.2.1 ps9 hlt).2) ?_
    cases S with
    | nil => exact absurd hl1 (by rw [List.length_nil]; omega)
    | cons f S =>
      rw [List.length_cons] at hl1 hl5
      refine qM_v (ci := 5) (q0 := 0) (As := [.int (nI (tx ps9))]) (rest := []) ⟨hx, hb, hml, hown, ht⟩ (c_M_step l D z d n _ tx g hok hlt f S hsk (by omega) (by omega)) (cB 1 ht gM_step rfl tw_64 tw_753 (by decide +kernel) ⟨by decide, by decide⟩) tw_755 tw_32 hK hP hD hS hA rfl rfl rfl hl.1 rfl (Nat.le_of_ble_eq_true rfl) dM_read_48 ⟨by decide, by decide⟩ (fun u48 H locs h48 hP hD hS => ?_)
      refine lv_goto (tgt := 20) hx hb dM_read_51 rfl ?_
      cases e9 : pr_step tx ty n gc g ps9 (f :: S) with
      | none =>
        rw [e9] at h48
        exact ih 0 u48 _ _ ls (by omega) ⟨Or.inr ⟨h48, rfl, by rw [hE, pr_res_none hlt e9]⟩, hP, hD, hS, hl⟩
      | some r =>
        obtain ⟨a1, S1⟩ := r
        rw [e9] at h48
        obtain ⟨c1, c2, c3, c4, c5⟩ := h48
        have hgt := pr_step_gt hlt e9
        have hle9 := pr_step_le hlt e9
        refine ih (ty - u48.2.1 + 1) u48 _ _ ls (by omega) ⟨Or.inl ⟨c1, rfl, by omega, S1, c3, c4, c5, by rw [hE, pr_res_some hlt e9, c2]⟩, hP, hD, hS, hl⟩
  replace hgo : go9 = false := hgo
  replace hE : RES = none := hE
  subst hgo
  refine lv_icmp_ge (tgt := 54) hx hb dM_read_28 rfl (fun h28 => ?_) (fun h28 => ?_)
  · exact jn () _ _ ls ⟨rfl, rfl, rfl, Or.inr ⟨rfl, hE⟩⟩
  refine lv_aload_n hx hb dM_read_31 rfl (lv_at hl 0 rfl) ?_
  refine va_get (ci := 5) (C := RM) (T := TM) (N := 26) hx hb ht inM hown hK hP 0 rfl rfl 21 (by decide) (ht _ tw_670) (fun _ h9 => h9) rfl dM_read_32 ?_
  refine lv_if_eq (tgt := 54) hx hb dM_read_35 rfl (fun h61 => ?_) (fun h61 => absurd rfl h61)
  exact jn () _ _ ls ⟨rfl, rfl, rfl, Or.inr ⟨rfl, hE⟩⟩
