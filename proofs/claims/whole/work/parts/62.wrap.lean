/-! The law's wrappers. -/
set_option maxHeartbeats 4000000 in
set_option maxRecDepth 100000 in
theorem c_L_value (l : Launch) (hst : l.stackTraces = false) (D : va_G) (z : Nat → ClassId) (d : Nat → Nat) (sz n len gc : Nat) (ft : Nat → Int32) (fg fo : Nat → Int64) (gs : Nat → Nat → Nat) (us : Nat → gSt) (tx : Nat → Nat) (g : Nat → pg_F) (tg : Nat → Option pg_F) (Gs : Nat → pg_F → Prop) (hR : dR n tx len g gc tg Gs ft fg fo us) (o : Nat) (fO : Nat → Int64) (x : Int32) : Met l yL_value wL_value (rmX 26 3 19) (va_Pc [.ref (d 0), .int x, .ref o] (xPc D (tyL z) (dW z d n (len, ft, gc, fg, fo, gs, us) ++ [(o, .inl (z 0, 1, .inr (.inl fO)))]) sz)) (va_Qi (fun r (v : dSt × (Nat → Int64)) => (r = 0 ∧ ∃ r0 : Int32, v.2 0 = r0.toInt64 ∧ (∃ (y : pg_F) (k : Nat), pr_text tx len n gc g = some y ∧ x = nI k ∧ k < n ∧ r0 = nI (y k)) ∧ dRp n (tx, len, g, gc, tg, Gs) v.1) ∨ (r = 1 ∧ pr_text tx len n gc g = none ∧ dRp n (tx, len, g, gc, tg, Gs) v.1) ∨ (r = 2 ∧ (pr_text tx len n gc g ≠ none ∧ ¬ iN x n) ∧ dRp n (tx, len, g, gc, tg, Gs) v.1)) (fun v t => va_P D vC (dW z d n v.1 ++ [(o, .inl (z 0, 1, .inr (.inl v.2)))]) t.heap ∧ va_D (va_A (dW z d n (len, ft, gc, fg, fo, gs, us) ++ [(o, .inl (z 0, 1, .inr (.inl fO)))]) sz) (dW z d n v.1 ++ [(o, .inl (z 0, 1, .inr (.inl v.2)))])) (va_A (dW z d n (len, ft, gc, fg, fo, gs, us) ++ [(o, .inl (z 0, 1, .inr (.inl fO)))]) sz)) 3 19 (va_A (dW z d n (len, ft, gc, fg, fo, gs, us) ++ [(o, .inl (z 0, 1, .inr (.inl fO)))]) sz) := by
  refine va_MetW (cc := method_3_code) (maxL := 4) (ret := (some .int)) (hh := [(0, 9, 12, 13), (0, 9, 15, 15)]) (by decide) rfl ?_
  intro p e s m args below meth c s₁ B hml hv
  have hx := B.exec
  have hb := B.bytes
  have hr := B.returns
  have ht : ∀ w ∈ TB, w.before args s = true := fun w h => atoms_spec (ws := wL_value) B.pre w (List.mem_cons_of_mem _ h)
  have hown : s.vm.findClass "PermutationDeskLaw" = some m.cls := findClass_of_methodNamed B.named
  have hT := vx_table (x := yL_value) B (atoms_spec (ws := wL_value) B.pre _ List.mem_cons_self)
  obtain ⟨rfl, ⟨hsz, hP, hK, hD0⟩, hV, hH⟩ := hv
  subst hsz
  have hD := hD0.self (sz := s.heap.size)
  generalize hAe : va_A (dW z d n (len, ft, gc, fg, fo, gs, us) ++ [(o, .inl (z 0, 1, .inr (.inl fO)))]) s.heap.size = A at hD hH ⊢
  have hA : ∀ q : Nat, s.heap.size ≤ q → A q := fun q h => by rw [← hAe]; exact Or.inr h
  have hS : va_S A s.heap s.heap [] := va_S.rf
  have hl := lv_entry ([.ref (d 0), .int x, .ref o]) (n := 4) (Nat.le_of_ble_eq_true rfl)
  rw [lg_entry_eq]
  generalize (lg_sl ([.ref (d 0), .int x, .ref o]) ++ List.replicate (4 - (lg_sl ([.ref (d 0), .int x, .ref o])).length) Slot.unset).toArray = ls at hl ⊢
  have hl : lv_has ls 4 [(0, .ref (d 0)), (1, .int x), (2, .ref o)] := hl
  refine lv_aload_n hx hb dL_value_0 rfl (lv_at hl 2 rfl) ?_
  refine lv_iconst (v := 0) hx hb dL_value_1 (by decide) ?_
  refine lv_aload_n hx hb dL_value_2 rfl (lv_at hl 0 rfl) ?_
  refine lv_iload_n hx hb dL_value_3 rfl (lv_at hl 1 rfl) ?_
  refine qX_i (ci := 2) (q0 := 0) (wr := [(o, .inl (z 0, 1, .inr (.inl fO)))]) (As := [.int x]) (rest := [.int 0, .ref o]) ⟨hx, hb, hml, hown, ht⟩ (c_D_value l hst D z d s.heap.size n len gc ft fg fo gs us tx g tg Gs hR x) (cB 1 ht gD_value rfl tw_59 tw_174 (by decide +kernel) ⟨by decide, by decide⟩) tw_175 tw_176 hK hP hD hS hA hV hH [0, 1, 2, 3, 4, 5, 6, 7, 8, 9, 10, 11, 12, 13, 14, 15, 16, 17, 18, 19, 20, 21, 22, 23, 24, 25, 26, 27, 28, 29, 30, 31, 32] [33] rfl rfl rfl rfl (by decide) rfl rfl rfl rfl hl.1 rfl (Nat.le_of_ble_eq_true rfl) dL_value_4 ⟨by decide, by decide⟩ (fun E9 ce q9 u4 H locs h4 hP hD hS k1 k2 k3 => ?_) (fun r4 u4 H locs h4 hP hD hS => ?_)
  · rcases h4 with ⟨(⟨rfl, hc⟩ | ⟨rfl, hc⟩), hv9⟩
    · skip
      subst hv9
      replace hP := hP.sub (ws' := dW z d n (len, ft, gc, fg, fo, gs, us) ++ [(o, .inl (z 0, 1, .inr (.inl fO)))]) [1, 2, 3, 4, 5, 6, 7, 8, 9, 10, 11, 12, 13, 14, 15, 16, 17, 18, 19, 20, 21, 22, 23, 24, 25, 26, 27, 28, 29, 30, 31, 32, 33, 0] rfl
      replace hD := hD.sub (ws' := dW z d n (len, ft, gc, fg, fo, gs, us) ++ [(o, .inl (z 0, 1, .inr (.inl fO)))]) [1, 2, 3, 4, 5, 6, 7, 8, 9, 10, 11, 12, 13, 14, 15, 16, 17, 18, 19, 20, 21, 22, 23, 24, 25, 26, 27, 28, 29, 30, 31, 32, 33, 0] rfl rfl
      refine vx_catch (E := eIA) (name := eIA) hown [] ⟨0, 9, 12, 13⟩ [⟨0, 9, 15, 15⟩] hT (fun z hz => absurd hz List.not_mem_nil) (by decide) (by decide) (ht _ tw_172) (va_Nw.use rfl (hV.2.1 eIA (by decide))) k1 k2 k3 ?_
      refine lv_astore_n hx hb dL_value_12 rfl hl (by decide) rfl (fun ls hl => ?_)
      replace hl : lv_has ls 4 [(3, .ref q9), (0, .ref (d 0)), (1, .int x), (2, .ref o)] := hl
      refine lv_iconst (v := 1) hx hb dL_value_13 (by decide) ?_
      exact W.iret hx hb hr (fun t9 ht hW => ⟨⟨_, ((len, ft, gc, fg, fo, gs, us), fO), rfl, Or.inr (Or.inl (⟨rfl, hc, hR.rp gs⟩)), by rw [ht]; exact hP, hD⟩, hS.F ht⟩) hS.2.2 dL_value_14
    · skip
      subst hv9
      replace hP := hP.sub (ws' := dW z d n (len, ft, gc, fg, fo, gs, us) ++ [(o, .inl (z 0, 1, .inr (.inl fO)))]) [1, 2, 3, 4, 5, 6, 7, 8, 9, 10, 11, 12, 13, 14, 15, 16, 17, 18, 19, 20, 21, 22, 23, 24, 25, 26, 27, 28, 29, 30, 31, 32, 33, 0] rfl
      replace hD := hD.sub (ws' := dW z d n (len, ft, gc, fg, fo, gs, us) ++ [(o, .inl (z 0, 1, .inr (.inl fO)))]) [1, 2, 3, 4, 5, 6, 7, 8, 9, 10, 11, 12, 13, 14, 15, 16, 17, 18, 19, 20, 21, 22, 23, 24, 25, 26, 27, 28, 29, 30, 31, 32, 33, 0] rfl rfl
      refine vx_catch (E := eIO) (name := eIO) hown [⟨0, 9, 12, 13⟩] ⟨0, 9, 15, 15⟩ [] hT (fun z hz => Or.inr ⟨by rw [List.mem_singleton.mp hz]; decide, eIA, by rw [List.mem_singleton.mp hz]; exact ht _ tw_172, hV.2.2.2.2.2.2.2 (eIO, eIA) (by decide)⟩) (by decide) (by decide) (ht _ tw_173) (va_Nw.use rfl (hV.2.1 eIO (by decide))) k1 k2 k3 ?_
      refine lv_astore_n hx hb dL_value_15 rfl hl (by decide) rfl (fun ls hl => ?_)
      replace hl : lv_has ls 4 [(3, .ref q9), (0, .ref (d 0)), (1, .int x), (2, .ref o)] := hl
      refine lv_iconst (v := 2) hx hb dL_value_16 (by decide) ?_
      exact W.iret hx hb hr (fun t9 ht hW => ⟨⟨_, ((len, ft, gc, fg, fo, gs, us), fO), rfl, Or.inr (Or.inr (⟨rfl, hc, hR.rp gs⟩)), by rw [ht]; exact hP, hD⟩, hS.F ht⟩) hS.2.2 dL_value_17
  obtain ⟨hex, rfl⟩ := h4
  replace hP := hP.sub (ws' := dW z d n (len, ft, gc, fg, fo, gs, us) ++ [(o, .inl (z 0, 1, .inr (.inl fO)))]) [1, 2, 3, 4, 5, 6, 7, 8, 9, 10, 11, 12, 13, 14, 15, 16, 17, 18, 19, 20, 21, 22, 23, 24, 25, 26, 27, 28, 29, 30, 31, 32, 33, 0] rfl
  replace hD := hD.sub (ws' := dW z d n (len, ft, gc, fg, fo, gs, us) ++ [(o, .inl (z 0, 1, .inr (.inl fO)))]) [1, 2, 3, 4, 5, 6, 7, 8, 9, 10, 11, 12, 13, 14, 15, 16, 17, 18, 19, 20, 21, 22, 23, 24, 25, 26, 27, 28, 29, 30, 31, 32, 33, 0] rfl rfl
  refine lv_i2l hx hb dL_value_7 rfl ?_
  refine va_last hx hb hK hP hD hS 33 0 rfl rfl (vp_in_nI (n := 0) (N := 1) (by decide) (by decide)) dL_value_8 (fun H locs hP hD hS => ?_)
  refine lv_goto (tgt := 18) hx hb dL_value_9 rfl ?_
  refine lv_iconst (v := 0) hx hb dL_value_18 (by decide) ?_
  exact W.iret hx hb hr (fun t9 ht hW => ⟨⟨_, ((len, ft, gc, fg, fo, gs, us), vp_updL fO 0 r4.toInt64), rfl, Or.inl ⟨rfl, r4, rfl, hex, hR.rp gs⟩, by rw [ht]; exact hP, hD⟩, hS.F ht⟩) hS.2.2 dL_value_19
set_option maxHeartbeats 4000000 in
set_option maxRecDepth 100000 in
theorem c_L_generate (l : Launch) (hst : l.stackTraces = false) (D : va_G) (z : Nat → ClassId) (d : Nat → Nat) (sz n len gc : Nat) (ft : Nat → Int32) (fg fo : Nat → Int64) (gs : Nat → Nat → Nat) (us : Nat → gSt) (tx : Nat → Nat) (g : Nat → pg_F) (tg : Nat → Option pg_F) (Gs : Nat → pg_F → Prop) (hR : dR n tx len g gc tg Gs ft fg fo us) (o : Nat) (fO : Nat → Int64) : Met l yL_generate wL_generate (rmX 26 3 19) (va_Pc [.ref (d 0), .ref o] (xPc D (tyL z) (dW z d n (len, ft, gc, fg, fo, gs, us) ++ [(o, .inl (z 0, 1, .inr (.inl fO)))]) sz)) (va_Qi (fun r (v : dSt × (Nat → Int64)) => (r = 0 ∧ ∃ r0 : Int32, v.2 0 = r0.toInt64 ∧ ∃ y : pg_F, pr_text tx len n gc g = some y ∧ gc < 6 ∧ r0 = nI (gc + 1) ∧ dRp n (tx, len, va_up g gc y, gc + 1, va_up tg gc none, va_up Gs 0 (pg_and (Gs 0) y)) v.1) ∨ (r = 1 ∧ pr_text tx len n gc g = none ∧ dRp n (tx, len, g, gc, tg, Gs) v.1) ∨ (r = 2 ∧ (pr_text tx len n gc g ≠ none ∧ ¬ gc < 6) ∧ dRp n (tx, len, g, gc, tg, Gs) v.1)) (fun v t => va_P D vC (dW z d n v.1 ++ [(o, .inl (z 0, 1, .inr (.inl v.2)))]) t.heap ∧ va_D (va_A (dW z d n (len, ft, gc, fg, fo, gs, us) ++ [(o, .inl (z 0, 1, .inr (.inl fO)))]) sz) (dW z d n v.1 ++ [(o, .inl (z 0, 1, .inr (.inl v.2)))])) (va_A (dW z d n (len, ft, gc, fg, fo, gs, us) ++ [(o, .inl (z 0, 1, .inr (.inl fO)))]) sz)) 3 19 (va_A (dW z d n (len, ft, gc, fg, fo, gs, us) ++ [(o, .inl (z 0, 1, .inr (.inl fO)))]) sz) := by
  refine va_MetW (cc := method_4_code) (maxL := 3) (ret := (some .int)) (hh := [(0, 8, 11, 13), (0, 8, 14, 21)]) (by decide) rfl ?_
  intro p e s m args below meth c s₁ B hml hv
  have hx := B.exec
  have hb := B.bytes
  have hr := B.returns
  have ht : ∀ w ∈ TB, w.before args s = true := fun w h => atoms_spec (ws := wL_generate) B.pre w (List.mem_cons_of_mem _ h)
  have hown : s.vm.findClass "PermutationDeskLaw" = some m.cls := findClass_of_methodNamed B.named
  have hT := vx_table (x := yL_generate) B (atoms_spec (ws := wL_generate) B.pre _ List.mem_cons_self)
  obtain ⟨rfl, ⟨hsz, hP, hK, hD0⟩, hV, hH⟩ := hv
  subst hsz
  have hD := hD0.self (sz := s.heap.size)
  generalize hAe : va_A (dW z d n (len, ft, gc, fg, fo, gs, us) ++ [(o, .inl (z 0, 1, .inr (.inl fO)))]) s.heap.size = A at hD hH ⊢
  have hA : ∀ q : Nat, s.heap.size ≤ q → A q := fun q h => by rw [← hAe]; exact Or.inr h
  have hS : va_S A s.heap s.heap [] := va_S.rf
  have hl := lv_entry ([.ref (d 0), .ref o]) (n := 3) (Nat.le_of_ble_eq_true rfl)
  rw [lg_entry_eq]
  generalize (lg_sl ([.ref (d 0), .ref o]) ++ List.replicate (3 - (lg_sl ([.ref (d 0), .ref o])).length) Slot.unset).toArray = ls at hl ⊢
  have hl : lv_has ls 3 [(0, .ref (d 0)), (1, .ref o)] := hl
  refine lv_aload_n hx hb dL_generate_0 rfl (lv_at hl 1 rfl) ?_
  refine lv_iconst (v := 0) hx hb dL_generate_1 (by decide) ?_
  refine lv_aload_n hx hb dL_generate_2 rfl (lv_at hl 0 rfl) ?_
  refine qX_i (ci := 2) (q0 := 0) (wr := [(o, .inl (z 0, 1, .inr (.inl fO)))]) (As := []) (rest := [.int 0, .ref o]) ⟨hx, hb, hml, hown, ht⟩ (c_D_generate l hst D z d s.heap.size n len gc ft fg fo gs us tx g tg Gs hR) (cB 0 ht gD_generate rfl tw_59 tw_372 (by decide +kernel) ⟨by decide, by decide⟩) tw_373 tw_374 hK hP hD hS hA hV hH [0, 1, 2, 3, 4, 5, 6, 7, 8, 9, 10, 11, 12, 13, 14, 15, 16, 17, 18, 19, 20, 21, 22, 23, 24, 25, 26, 27, 28, 29, 30, 31, 32] [33] rfl rfl rfl rfl (by decide) rfl rfl rfl rfl hl.1 rfl (Nat.le_of_ble_eq_true rfl) dL_generate_3 ⟨by decide, by decide⟩ (fun E9 ce q9 u3 H locs h3 hP hD hS k1 k2 k3 => ?_) (fun r3 u3 H locs h3 hP hD hS => ?_)
  · rcases h3 with ⟨(⟨rfl, hc⟩ | ⟨rfl, hc⟩), hv9⟩
    · skip
      replace hP := hP.sub (ws' := dW z d n u3 ++ [(o, .inl (z 0, 1, .inr (.inl fO)))]) [1, 2, 3, 4, 5, 6, 7, 8, 9, 10, 11, 12, 13, 14, 15, 16, 17, 18, 19, 20, 21, 22, 23, 24, 25, 26, 27, 28, 29, 30, 31, 32, 33, 0] rfl
      replace hD := hD.sub (ws' := dW z d n u3 ++ [(o, .inl (z 0, 1, .inr (.inl fO)))]) [1, 2, 3, 4, 5, 6, 7, 8, 9, 10, 11, 12, 13, 14, 15, 16, 17, 18, 19, 20, 21, 22, 23, 24, 25, 26, 27, 28, 29, 30, 31, 32, 33, 0] rfl rfl
      refine vx_catch (E := eIA) (name := eIA) hown [] ⟨0, 8, 11, 13⟩ [⟨0, 8, 14, 21⟩] hT (fun z hz => absurd hz List.not_mem_nil) (by decide) (by decide) (ht _ tw_172) (va_Nw.use rfl (hV.2.1 eIA (by decide))) k1 k2 k3 ?_
      refine lv_astore_n hx hb dL_generate_11 rfl hl (by decide) rfl (fun ls hl => ?_)
      replace hl : lv_has ls 3 [(2, .ref q9), (0, .ref (d 0)), (1, .ref o)] := hl
      refine lv_iconst (v := 1) hx hb dL_generate_12 (by decide) ?_
      exact W.iret hx hb hr (fun t9 ht hW => ⟨⟨_, (u3, fO), rfl, Or.inr (Or.inl (⟨rfl, hc, hv9⟩)), by rw [ht]; exact hP, hD⟩, hS.F ht⟩) hS.2.2 dL_generate_13
    · skip
      replace hP := hP.sub (ws' := dW z d n u3 ++ [(o, .inl (z 0, 1, .inr (.inl fO)))]) [1, 2, 3, 4, 5, 6, 7, 8, 9, 10, 11, 12, 13, 14, 15, 16, 17, 18, 19, 20, 21, 22, 23, 24, 25, 26, 27, 28, 29, 30, 31, 32, 33, 0] rfl
      replace hD := hD.sub (ws' := dW z d n u3 ++ [(o, .inl (z 0, 1, .inr (.inl fO)))]) [1, 2, 3, 4, 5, 6, 7, 8, 9, 10, 11, 12, 13, 14, 15, 16, 17, 18, 19, 20, 21, 22, 23, 24, 25, 26, 27, 28, 29, 30, 31, 32, 33, 0] rfl rfl
      refine vx_catch (E := eIS) (name := eIS) hown [⟨0, 8, 11, 13⟩] ⟨0, 8, 14, 21⟩ [] hT (fun z hz => Or.inr ⟨by rw [List.mem_singleton.mp hz]; decide, eIA, by rw [List.mem_singleton.mp hz]; exact ht _ tw_172, hV.2.2.2.2.2.2.2 (eIS, eIA) (by decide)⟩) (by decide) (by decide) (ht _ tw_371) (va_Nw.use rfl (hV.2.1 eIS (by decide))) k1 k2 k3 ?_
      refine lv_astore_n hx hb dL_generate_14 rfl hl (by decide) rfl (fun ls hl => ?_)
      replace hl : lv_has ls 3 [(2, .ref q9), (0, .ref (d 0)), (1, .ref o)] := hl
      refine lv_iconst (v := 2) hx hb dL_generate_15 (by decide) ?_
      exact W.iret hx hb hr (fun t9 ht hW => ⟨⟨_, (u3, fO), rfl, Or.inr (Or.inr (⟨rfl, hc, hv9⟩)), by rw [ht]; exact hP, hD⟩, hS.F ht⟩) hS.2.2 dL_generate_16
  replace hP := hP.sub (ws' := dW z d n u3 ++ [(o, .inl (z 0, 1, .inr (.inl fO)))]) [1, 2, 3, 4, 5, 6, 7, 8, 9, 10, 11, 12, 13, 14, 15, 16, 17, 18, 19, 20, 21, 22, 23, 24, 25, 26, 27, 28, 29, 30, 31, 32, 33, 0] rfl
  replace hD := hD.sub (ws' := dW z d n u3 ++ [(o, .inl (z 0, 1, .inr (.inl fO)))]) [1, 2, 3, 4, 5, 6, 7, 8, 9, 10, 11, 12, 13, 14, 15, 16, 17, 18, 19, 20, 21, 22, 23, 24, 25, 26, 27, 28, 29, 30, 31, 32, 33, 0] rfl rfl
  refine lv_i2l hx hb dL_generate_6 rfl ?_
  refine va_last hx hb hK hP hD hS 33 0 rfl rfl (vp_in_nI (n := 0) (N := 1) (by decide) (by decide)) dL_generate_7 (fun H locs hP hD hS => ?_)
  refine lv_goto (tgt := 17) hx hb dL_generate_8 rfl ?_
  refine lv_iconst (v := 0) hx hb dL_generate_17 (by decide) ?_
  exact W.iret hx hb hr (fun t9 ht hW => ⟨⟨_, (u3, vp_updL fO 0 r3.toInt64), rfl, Or.inl ⟨rfl, r3, rfl, h3⟩, by rw [ht]; exact hP, hD⟩, hS.F ht⟩) hS.2.2 dL_generate_18
set_option maxHeartbeats 4000000 in
set_option maxRecDepth 100000 in
theorem c_L_kernel (l : Launch) (hst : l.stackTraces = false) (D : va_G) (z : Nat → ClassId) (d : Nat → Nat) (sz n len gc : Nat) (ft : Nat → Int32) (fg fo : Nat → Int64) (gs : Nat → Nat → Nat) (us : Nat → gSt) (tx : Nat → Nat) (g : Nat → pg_F) (tg : Nat → Option pg_F) (Gs : Nat → pg_F → Prop) (hR : dR n tx len g gc tg Gs ft fg fo us) (o : Nat) (fO : Nat → Int64) (x : Int32) : Met l yL_kernel wL_kernel (rmX 26 3 18) (va_Pc [.ref (d 0), .int x, .ref o] (xPc D (tyL z) (dW z d n (len, ft, gc, fg, fo, gs, us) ++ [(o, .inl (z 0, 1, .inr (.inl fO)))]) sz)) (va_Qi (fun r (v : dSt × (Nat → Int64)) => (r = 0 ∧ ∃ r0 : Int32, v.2 0 = r0.toInt64 ∧ ∃ (tt : Nat → pg_F) (i : Nat), aTg gc tg tt ∧ x = nI i ∧ i < 5 ∧ i ≠ 0 ∧ pg_hom n gc tt g ∧ gOrd n (aKer n gc tt g) r0 ∧ dRp n (tx, len, g, gc, tg, va_up Gs i (aKer n gc tt g)) v.1) ∨ (r = 1 ∧ ¬ (iN x 5 ∧ x ≠ 0) ∧ dRp n (tx, len, g, gc, tg, Gs) v.1) ∨ (r = 2 ∧ ((iN x 5 ∧ x ≠ 0) ∧ (¬ (∀ k, k < gc → tg k ≠ none) ∨ ∃ tt, aTg gc tg tt ∧ ¬ pg_hom n gc tt g)) ∧ dRp n (tx, len, g, gc, tg, Gs) v.1)) (fun v t => va_P D vC (dW z d n v.1 ++ [(o, .inl (z 0, 1, .inr (.inl v.2)))]) t.heap ∧ va_D (va_A (dW z d n (len, ft, gc, fg, fo, gs, us) ++ [(o, .inl (z 0, 1, .inr (.inl fO)))]) sz) (dW z d n v.1 ++ [(o, .inl (z 0, 1, .inr (.inl v.2)))])) (va_A (dW z d n (len, ft, gc, fg, fo, gs, us) ++ [(o, .inl (z 0, 1, .inr (.inl fO)))]) sz)) 3 18 (va_A (dW z d n (len, ft, gc, fg, fo, gs, us) ++ [(o, .inl (z 0, 1, .inr (.inl fO)))]) sz) := by
  refine va_MetW (cc := method_7_code) (maxL := 4) (ret := (some .int)) (hh := [(0, 9, 12, 15), (0, 9, 15, 21)]) (by decide) rfl ?_
  intro p e s m args below meth c s₁ B hml hv
  have hx := B.exec
  have hb := B.bytes
  have hr := B.returns
  have ht : ∀ w ∈ TB, w.before args s = true := fun w h => atoms_spec (ws := wL_kernel) B.pre w (List.mem_cons_of_mem _ h)
  have hown : s.vm.findClass "PermutationDeskLaw" = some m.cls := findClass_of_methodNamed B.named
  have hT := vx_table (x := yL_kernel) B (atoms_spec (ws := wL_kernel) B.pre _ List.mem_cons_self)
  obtain ⟨rfl, ⟨hsz, hP, hK, hD0⟩, hV, hH⟩ := hv
  subst hsz
  have hD := hD0.self (sz := s.heap.size)
  generalize hAe : va_A (dW z d n (len, ft, gc, fg, fo, gs, us) ++ [(o, .inl (z 0, 1, .inr (.inl fO)))]) s.heap.size = A at hD hH ⊢
  have hA : ∀ q : Nat, s.heap.size ≤ q → A q := fun q h => by rw [← hAe]; exact Or.inr h
  have hS : va_S A s.heap s.heap [] := va_S.rf
  have hl := lv_entry ([.ref (d 0), .int x, .ref o]) (n := 4) (Nat.le_of_ble_eq_true rfl)
  rw [lg_entry_eq]
  generalize (lg_sl ([.ref (d 0), .int x, .ref o]) ++ List.replicate (4 - (lg_sl ([.ref (d 0), .int x, .ref o])).length) Slot.unset).toArray = ls at hl ⊢
  have hl : lv_has ls 4 [(0, .ref (d 0)), (1, .int x), (2, .ref o)] := hl
  refine lv_aload_n hx hb dL_kernel_0 rfl (lv_at hl 2 rfl) ?_
  refine lv_iconst (v := 0) hx hb dL_kernel_1 (by decide) ?_
  refine lv_aload_n hx hb dL_kernel_2 rfl (lv_at hl 0 rfl) ?_
  refine lv_iload_n hx hb dL_kernel_3 rfl (lv_at hl 1 rfl) ?_
  refine qX_i (ci := 2) (q0 := 0) (wr := [(o, .inl (z 0, 1, .inr (.inl fO)))]) (As := [.int x]) (rest := [.int 0, .ref o]) ⟨hx, hb, hml, hown, ht⟩ (c_D_kernel l hst D z d s.heap.size n len gc ft fg fo gs us tx g tg Gs hR x) (cB 1 ht gD_kernel rfl tw_59 tw_458 (by decide +kernel) ⟨by decide, by decide⟩) tw_459 tw_460 hK hP hD hS hA hV hH [0, 1, 2, 3, 4, 5, 6, 7, 8, 9, 10, 11, 12, 13, 14, 15, 16, 17, 18, 19, 20, 21, 22, 23, 24, 25, 26, 27, 28, 29, 30, 31, 32] [33] rfl rfl rfl rfl (by decide) rfl rfl rfl rfl hl.1 rfl (Nat.le_of_ble_eq_true rfl) dL_kernel_4 ⟨by decide, by decide⟩ (fun E9 ce q9 u4 H locs h4 hP hD hS k1 k2 k3 => ?_) (fun r4 u4 H locs h4 hP hD hS => ?_)
  · rcases h4 with ⟨(⟨rfl, hc⟩ | ⟨rfl, hc⟩), hv9⟩
    · skip
      replace hP := hP.sub (ws' := dW z d n u4 ++ [(o, .inl (z 0, 1, .inr (.inl fO)))]) [1, 2, 3, 4, 5, 6, 7, 8, 9, 10, 11, 12, 13, 14, 15, 16, 17, 18, 19, 20, 21, 22, 23, 24, 25, 26, 27, 28, 29, 30, 31, 32, 33, 0] rfl
      replace hD := hD.sub (ws' := dW z d n u4 ++ [(o, .inl (z 0, 1, .inr (.inl fO)))]) [1, 2, 3, 4, 5, 6, 7, 8, 9, 10, 11, 12, 13, 14, 15, 16, 17, 18, 19, 20, 21, 22, 23, 24, 25, 26, 27, 28, 29, 30, 31, 32, 33, 0] rfl rfl
      refine vx_catch (E := eIO) (name := eIO) hown [] ⟨0, 9, 12, 15⟩ [⟨0, 9, 15, 21⟩] hT (fun z hz => absurd hz List.not_mem_nil) (by decide) (by decide) (ht _ tw_173) (va_Nw.use rfl (hV.2.1 eIO (by decide))) k1 k2 k3 ?_
      refine lv_astore_n hx hb dL_kernel_12 rfl hl (by decide) rfl (fun ls hl => ?_)
      replace hl : lv_has ls 4 [(3, .ref q9), (0, .ref (d 0)), (1, .int x), (2, .ref o)] := hl
      refine lv_iconst (v := 1) hx hb dL_kernel_13 (by decide) ?_
      exact W.iret hx hb hr (fun t9 ht hW => ⟨⟨_, (u4, fO), rfl, Or.inr (Or.inl (⟨rfl, hc, hv9⟩)), by rw [ht]; exact hP, hD⟩, hS.F ht⟩) hS.2.2 dL_kernel_14
    · skip
      replace hP := hP.sub (ws' := dW z d n u4 ++ [(o, .inl (z 0, 1, .inr (.inl fO)))]) [1, 2, 3, 4, 5, 6, 7, 8, 9, 10, 11, 12, 13, 14, 15, 16, 17, 18, 19, 20, 21, 22, 23, 24, 25, 26, 27, 28, 29, 30, 31, 32, 33, 0] rfl
      replace hD := hD.sub (ws' := dW z d n u4 ++ [(o, .inl (z 0, 1, .inr (.inl fO)))]) [1, 2, 3, 4, 5, 6, 7, 8, 9, 10, 11, 12, 13, 14, 15, 16, 17, 18, 19, 20, 21, 22, 23, 24, 25, 26, 27, 28, 29, 30, 31, 32, 33, 0] rfl rfl
      refine vx_catch (E := eIS) (name := eIS) hown [⟨0, 9, 12, 15⟩] ⟨0, 9, 15, 21⟩ [] hT (fun z hz => Or.inr ⟨by rw [List.mem_singleton.mp hz]; decide, eIO, by rw [List.mem_singleton.mp hz]; exact ht _ tw_173, hV.2.2.2.2.2.2.2 (eIS, eIO) (by decide)⟩) (by decide) (by decide) (ht _ tw_371) (va_Nw.use rfl (hV.2.1 eIS (by decide))) k1 k2 k3 ?_
      refine lv_astore_n hx hb dL_kernel_15 rfl hl (by decide) rfl (fun ls hl => ?_)
      replace hl : lv_has ls 4 [(3, .ref q9), (0, .ref (d 0)), (1, .int x), (2, .ref o)] := hl
      refine lv_iconst (v := 2) hx hb dL_kernel_16 (by decide) ?_
      exact W.iret hx hb hr (fun t9 ht hW => ⟨⟨_, (u4, fO), rfl, Or.inr (Or.inr (⟨rfl, hc, hv9⟩)), by rw [ht]; exact hP, hD⟩, hS.F ht⟩) hS.2.2 dL_kernel_17
  replace hP := hP.sub (ws' := dW z d n u4 ++ [(o, .inl (z 0, 1, .inr (.inl fO)))]) [1, 2, 3, 4, 5, 6, 7, 8, 9, 10, 11, 12, 13, 14, 15, 16, 17, 18, 19, 20, 21, 22, 23, 24, 25, 26, 27, 28, 29, 30, 31, 32, 33, 0] rfl
  replace hD := hD.sub (ws' := dW z d n u4 ++ [(o, .inl (z 0, 1, .inr (.inl fO)))]) [1, 2, 3, 4, 5, 6, 7, 8, 9, 10, 11, 12, 13, 14, 15, 16, 17, 18, 19, 20, 21, 22, 23, 24, 25, 26, 27, 28, 29, 30, 31, 32, 33, 0] rfl rfl
  refine lv_i2l hx hb dL_kernel_7 rfl ?_
  refine va_last hx hb hK hP hD hS 33 0 rfl rfl (vp_in_nI (n := 0) (N := 1) (by decide) (by decide)) dL_kernel_8 (fun H locs hP hD hS => ?_)
  refine lv_goto (tgt := 18) hx hb dL_kernel_9 rfl ?_
  refine lv_iconst (v := 0) hx hb dL_kernel_18 (by decide) ?_
  exact W.iret hx hb hr (fun t9 ht hW => ⟨⟨_, (u4, vp_updL fO 0 r4.toInt64), rfl, Or.inl ⟨rfl, r4, rfl, h4⟩, by rw [ht]; exact hP, hD⟩, hS.F ht⟩) hS.2.2 dL_kernel_19
set_option maxHeartbeats 4000000 in
set_option maxRecDepth 100000 in
theorem c_L_images (l : Launch) (hst : l.stackTraces = false) (D : va_G) (z : Nat → ClassId) (d : Nat → Nat) (sz n len gc : Nat) (ft : Nat → Int32) (fg fo : Nat → Int64) (gs : Nat → Nat → Nat) (us : Nat → gSt) (tx : Nat → Nat) (g : Nat → pg_F) (tg : Nat → Option pg_F) (Gs : Nat → pg_F → Prop) (hR : dR n tx len g gc tg Gs ft fg fo us) (o : Nat) (fO : Nat → Int64) (x : Int32) : Met l yL_images wL_images (rmX 26 2 12) (va_Pc [.ref (d 0), .int x, .ref o] (xPc D (tyL z) (dW z d n (len, ft, gc, fg, fo, gs, us) ++ [(o, .inl (z 0, 1, .inr (.inl fO)))]) sz)) (va_Qi (fun r (v : dSt × (Nat → Int64)) => (r = 0 ∧ ∃ r0 : Int32, v.2 0 = r0.toInt64 ∧ ∃ (tt : Nat → pg_F) (i : Nat), aTg gc tg tt ∧ x = nI i ∧ i < 5 ∧ i ≠ 0 ∧ gOrd n (pg_Gen (pg_GS gc tt)) r0 ∧ dRp n (tx, len, g, gc, tg, va_up Gs i (pg_Gen (pg_GS gc tt))) v.1) ∨ (r = 1 ∧ ¬ (iN x 5 ∧ x ≠ 0) ∧ dRp n (tx, len, g, gc, tg, Gs) v.1) ∨ (r = 2 ∧ ((iN x 5 ∧ x ≠ 0) ∧ ¬ (∀ k, k < gc → tg k ≠ none)) ∧ dRp n (tx, len, g, gc, tg, Gs) v.1)) (fun v t => va_P D vC (dW z d n v.1 ++ [(o, .inl (z 0, 1, .inr (.inl v.2)))]) t.heap ∧ va_D (va_A (dW z d n (len, ft, gc, fg, fo, gs, us) ++ [(o, .inl (z 0, 1, .inr (.inl fO)))]) sz) (dW z d n v.1 ++ [(o, .inl (z 0, 1, .inr (.inl v.2)))])) (va_A (dW z d n (len, ft, gc, fg, fo, gs, us) ++ [(o, .inl (z 0, 1, .inr (.inl fO)))]) sz)) 2 12 (va_A (dW z d n (len, ft, gc, fg, fo, gs, us) ++ [(o, .inl (z 0, 1, .inr (.inl fO)))]) sz) := by
  refine va_MetW (cc := method_8_code) (maxL := 4) (ret := (some .int)) (hh := [(0, 9, 12, 15), (0, 9, 15, 21)]) (by decide) rfl ?_
  intro p e s m args below meth c s₁ B hml hv
  have hx := B.exec
  have hb := B.bytes
  have hr := B.returns
  have ht : ∀ w ∈ TB, w.before args s = true := fun w h => atoms_spec (ws := wL_images) B.pre w (List.mem_cons_of_mem _ h)
  have hown : s.vm.findClass "PermutationDeskLaw" = some m.cls := findClass_of_methodNamed B.named
  have hT := vx_table (x := yL_images) B (atoms_spec (ws := wL_images) B.pre _ List.mem_cons_self)
  obtain ⟨rfl, ⟨hsz, hP, hK, hD0⟩, hV, hH⟩ := hv
  subst hsz
  have hD := hD0.self (sz := s.heap.size)
  generalize hAe : va_A (dW z d n (len, ft, gc, fg, fo, gs, us) ++ [(o, .inl (z 0, 1, .inr (.inl fO)))]) s.heap.size = A at hD hH ⊢
  have hA : ∀ q : Nat, s.heap.size ≤ q → A q := fun q h => by rw [← hAe]; exact Or.inr h
  have hS : va_S A s.heap s.heap [] := va_S.rf
  have hl := lv_entry ([.ref (d 0), .int x, .ref o]) (n := 4) (Nat.le_of_ble_eq_true rfl)
  rw [lg_entry_eq]
  generalize (lg_sl ([.ref (d 0), .int x, .ref o]) ++ List.replicate (4 - (lg_sl ([.ref (d 0), .int x, .ref o])).length) Slot.unset).toArray = ls at hl ⊢
  have hl : lv_has ls 4 [(0, .ref (d 0)), (1, .int x), (2, .ref o)] := hl
  refine lv_aload_n hx hb dL_images_0 rfl (lv_at hl 2 rfl) ?_
  refine lv_iconst (v := 0) hx hb dL_images_1 (by decide) ?_
  refine lv_aload_n hx hb dL_images_2 rfl (lv_at hl 0 rfl) ?_
  refine lv_iload_n hx hb dL_images_3 rfl (lv_at hl 1 rfl) ?_
  refine qX_i (ci := 2) (q0 := 0) (wr := [(o, .inl (z 0, 1, .inr (.inl fO)))]) (As := [.int x]) (rest := [.int 0, .ref o]) ⟨hx, hb, hml, hown, ht⟩ (c_D_images l hst D z d s.heap.size n len gc ft fg fo gs us tx g tg Gs hR x) (cB 1 ht gD_images rfl tw_59 tw_482 (by decide +kernel) ⟨by decide, by decide⟩) tw_483 tw_484 hK hP hD hS hA hV hH [0, 1, 2, 3, 4, 5, 6, 7, 8, 9, 10, 11, 12, 13, 14, 15, 16, 17, 18, 19, 20, 21, 22, 23, 24, 25, 26, 27, 28, 29, 30, 31, 32] [33] rfl rfl rfl rfl (by decide) rfl rfl rfl rfl hl.1 rfl (Nat.le_of_ble_eq_true rfl) dL_images_4 ⟨by decide, by decide⟩ (fun E9 ce q9 u4 H locs h4 hP hD hS k1 k2 k3 => ?_) (fun r4 u4 H locs h4 hP hD hS => ?_)
  · rcases h4 with ⟨(⟨rfl, hc⟩ | ⟨rfl, hc⟩), hv9⟩
    · skip
      replace hP := hP.sub (ws' := dW z d n u4 ++ [(o, .inl (z 0, 1, .inr (.inl fO)))]) [1, 2, 3, 4, 5, 6, 7, 8, 9, 10, 11, 12, 13, 14, 15, 16, 17, 18, 19, 20, 21, 22, 23, 24, 25, 26, 27, 28, 29, 30, 31, 32, 33, 0] rfl
      replace hD := hD.sub (ws' := dW z d n u4 ++ [(o, .inl (z 0, 1, .inr (.inl fO)))]) [1, 2, 3, 4, 5, 6, 7, 8, 9, 10, 11, 12, 13, 14, 15, 16, 17, 18, 19, 20, 21, 22, 23, 24, 25, 26, 27, 28, 29, 30, 31, 32, 33, 0] rfl rfl
      refine vx_catch (E := eIO) (name := eIO) hown [] ⟨0, 9, 12, 15⟩ [⟨0, 9, 15, 21⟩] hT (fun z hz => absurd hz List.not_mem_nil) (by decide) (by decide) (ht _ tw_173) (va_Nw.use rfl (hV.2.1 eIO (by decide))) k1 k2 k3 ?_
      refine lv_astore_n hx hb dL_images_12 rfl hl (by decide) rfl (fun ls hl => ?_)
      replace hl : lv_has ls 4 [(3, .ref q9), (0, .ref (d 0)), (1, .int x), (2, .ref o)] := hl
      refine lv_iconst (v := 1) hx hb dL_images_13 (by decide) ?_
      exact W.iret hx hb hr (fun t9 ht hW => ⟨⟨_, (u4, fO), rfl, Or.inr (Or.inl (⟨rfl, hc, hv9⟩)), by rw [ht]; exact hP, hD⟩, hS.F ht⟩) hS.2.2 dL_images_14
    · skip
      replace hP := hP.sub (ws' := dW z d n u4 ++ [(o, .inl (z 0, 1, .inr (.inl fO)))]) [1, 2, 3, 4, 5, 6, 7, 8, 9, 10, 11, 12, 13, 14, 15, 16, 17, 18, 19, 20, 21, 22, 23, 24, 25, 26, 27, 28, 29, 30, 31, 32, 33, 0] rfl
      replace hD := hD.sub (ws' := dW z d n u4 ++ [(o, .inl (z 0, 1, .inr (.inl fO)))]) [1, 2, 3, 4, 5, 6, 7, 8, 9, 10, 11, 12, 13, 14, 15, 16, 17, 18, 19, 20, 21, 22, 23, 24, 25, 26, 27, 28, 29, 30, 31, 32, 33, 0] rfl rfl
      refine vx_catch (E := eIS) (name := eIS) hown [⟨0, 9, 12, 15⟩] ⟨0, 9, 15, 21⟩ [] hT (fun z hz => Or.inr ⟨by rw [List.mem_singleton.mp hz]; decide, eIO, by rw [List.mem_singleton.mp hz]; exact ht _ tw_173, hV.2.2.2.2.2.2.2 (eIS, eIO) (by decide)⟩) (by decide) (by decide) (ht _ tw_371) (va_Nw.use rfl (hV.2.1 eIS (by decide))) k1 k2 k3 ?_
      refine lv_astore_n hx hb dL_images_15 rfl hl (by decide) rfl (fun ls hl => ?_)
      replace hl : lv_has ls 4 [(3, .ref q9), (0, .ref (d 0)), (1, .int x), (2, .ref o)] := hl
      refine lv_iconst (v := 2) hx hb dL_images_16 (by decide) ?_
      exact W.iret hx hb hr (fun t9 ht hW => ⟨⟨_, (u4, fO), rfl, Or.inr (Or.inr (⟨rfl, hc, hv9⟩)), by rw [ht]; exact hP, hD⟩, hS.F ht⟩) hS.2.2 dL_images_17
  replace hP := hP.sub (ws' := dW z d n u4 ++ [(o, .inl (z 0, 1, .inr (.inl fO)))]) [1, 2, 3, 4, 5, 6, 7, 8, 9, 10, 11, 12, 13, 14, 15, 16, 17, 18, 19, 20, 21, 22, 23, 24, 25, 26, 27, 28, 29, 30, 31, 32, 33, 0] rfl
  replace hD := hD.sub (ws' := dW z d n u4 ++ [(o, .inl (z 0, 1, .inr (.inl fO)))]) [1, 2, 3, 4, 5, 6, 7, 8, 9, 10, 11, 12, 13, 14, 15, 16, 17, 18, 19, 20, 21, 22, 23, 24, 25, 26, 27, 28, 29, 30, 31, 32, 33, 0] rfl rfl
  refine lv_i2l hx hb dL_images_7 rfl ?_
  refine va_last hx hb hK hP hD hS 33 0 rfl rfl (vp_in_nI (n := 0) (N := 1) (by decide) (by decide)) dL_images_8 (fun H locs hP hD hS => ?_)
  refine lv_goto (tgt := 18) hx hb dL_images_9 rfl ?_
  refine lv_iconst (v := 0) hx hb dL_images_18 (by decide) ?_
  exact W.iret hx hb hr (fun t9 ht hW => ⟨⟨_, (u4, vp_updL fO 0 r4.toInt64), rfl, Or.inl ⟨rfl, r4, rfl, h4⟩, by rw [ht]; exact hP, hD⟩, hS.F ht⟩) hS.2.2 dL_images_19
set_option maxHeartbeats 4000000 in
set_option maxRecDepth 100000 in
theorem c_L_stabiliser (l : Launch) (hst : l.stackTraces = false) (D : va_G) (z : Nat → ClassId) (d : Nat → Nat) (sz n len gc : Nat) (ft : Nat → Int32) (fg fo : Nat → Int64) (gs : Nat → Nat → Nat) (us : Nat → gSt) (tx : Nat → Nat) (g : Nat → pg_F) (tg : Nat → Option pg_F) (Gs : Nat → pg_F → Prop) (hR : dR n tx len g gc tg Gs ft fg fo us) (o : Nat) (fO : Nat → Int64) (x y w : Int32) (wh : Bool) : Met l yL_stabiliser wL_stabiliser (rmX 26 3 18) (va_Pc [.ref (d 0), .int x, .int y, .int (bI wh), .int w, .ref o] (xPc D (tyL z) (dW z d n (len, ft, gc, fg, fo, gs, us) ++ [(o, .inl (z 0, 1, .inr (.inl fO)))]) sz)) (va_Qi (fun r (v : dSt × (Nat → Int64)) => (r = 0 ∧ ∃ r0 : Int32, v.2 0 = r0.toInt64 ∧ ∃ (i j m9 : Nat), x = nI i ∧ i < 5 ∧ w = nI j ∧ j < 5 ∧ j ≠ 0 ∧ y = nI m9 ∧ m9 < 2 ^ n ∧ gOrd n (aStb n m9 wh (Gs i)) r0 ∧ dRp n (tx, len, g, gc, tg, va_up Gs j (aStb n m9 wh (Gs i))) v.1) ∨ (r = 1 ∧ ¬ (iN x 5 ∧ iN w 5 ∧ w ≠ 0) ∧ dRp n (tx, len, g, gc, tg, Gs) v.1) ∨ (r = 2 ∧ ((iN x 5 ∧ iN w 5 ∧ w ≠ 0) ∧ ¬ iN y (2 ^ n)) ∧ dRp n (tx, len, g, gc, tg, Gs) v.1)) (fun v t => va_P D vC (dW z d n v.1 ++ [(o, .inl (z 0, 1, .inr (.inl v.2)))]) t.heap ∧ va_D (va_A (dW z d n (len, ft, gc, fg, fo, gs, us) ++ [(o, .inl (z 0, 1, .inr (.inl fO)))]) sz) (dW z d n v.1 ++ [(o, .inl (z 0, 1, .inr (.inl v.2)))])) (va_A (dW z d n (len, ft, gc, fg, fo, gs, us) ++ [(o, .inl (z 0, 1, .inr (.inl fO)))]) sz)) 3 18 (va_A (dW z d n (len, ft, gc, fg, fo, gs, us) ++ [(o, .inl (z 0, 1, .inr (.inl fO)))]) sz) := by
  refine va_MetW (cc := method_9_code) (maxL := 7) (ret := (some .int)) (hh := [(0, 14, 17, 15), (0, 14, 21, 13)]) (by decide) rfl ?_
  intro p e s m args below meth c s₁ B hml hv
  have hx := B.exec
  have hb := B.bytes
  have hr := B.returns
  have ht : ∀ w ∈ TB, w.before args s = true := fun w h => atoms_spec (ws := wL_stabiliser) B.pre w (List.mem_cons_of_mem _ h)
  have hown : s.vm.findClass "PermutationDeskLaw" = some m.cls := findClass_of_methodNamed B.named
  have hT := vx_table (x := yL_stabiliser) B (atoms_spec (ws := wL_stabiliser) B.pre _ List.mem_cons_self)
  obtain ⟨rfl, ⟨hsz, hP, hK, hD0⟩, hV, hH⟩ := hv
  subst hsz
  have hD := hD0.self (sz := s.heap.size)
  generalize hAe : va_A (dW z d n (len, ft, gc, fg, fo, gs, us) ++ [(o, .inl (z 0, 1, .inr (.inl fO)))]) s.heap.size = A at hD hH ⊢
  have hA : ∀ q : Nat, s.heap.size ≤ q → A q := fun q h => by rw [← hAe]; exact Or.inr h
  have hS : va_S A s.heap s.heap [] := va_S.rf
  have hl := lv_entry ([.ref (d 0), .int x, .int y, .int (bI wh), .int w, .ref o]) (n := 7) (Nat.le_of_ble_eq_true rfl)
  rw [lg_entry_eq]
  generalize (lg_sl ([.ref (d 0), .int x, .int y, .int (bI wh), .int w, .ref o]) ++ List.replicate (7 - (lg_sl ([.ref (d 0), .int x, .int y, .int (bI wh), .int w, .ref o])).length) Slot.unset).toArray = ls at hl ⊢
  have hl : lv_has ls 7 [(0, .ref (d 0)), (1, .int x), (2, .int y), (3, .int (bI wh)), (4, .int w), (5, .ref o)] := hl
  refine lv_aload hx hb dL_stabiliser_0 (lv_at hl 5 rfl) ?_
  refine lv_iconst (v := 0) hx hb dL_stabiliser_2 (by decide) ?_
  refine lv_aload_n hx hb dL_stabiliser_3 rfl (lv_at hl 0 rfl) ?_
  refine lv_iload_n hx hb dL_stabiliser_4 rfl (lv_at hl 1 rfl) ?_
  refine lv_iload_n hx hb dL_stabiliser_5 rfl (lv_at hl 2 rfl) ?_
  refine lv_iload_n hx hb dL_stabiliser_6 rfl (lv_at hl 3 rfl) ?_
  refine lv_iload hx hb dL_stabiliser_7 (lv_at hl 4 rfl) ?_
  refine qX_i (ci := 2) (q0 := 0) (wr := [(o, .inl (z 0, 1, .inr (.inl fO)))]) (As := [.int x, .int y, .int (bI wh), .int w]) (rest := [.int 0, .ref o]) ⟨hx, hb, hml, hown, ht⟩ (c_D_stabiliser l hst D z d s.heap.size n len gc ft fg fo gs us tx g tg Gs hR x y w wh) (cB 4 ht gD_stabiliser rfl tw_59 tw_489 (by decide +kernel) ⟨by decide, by decide⟩) tw_490 tw_491 hK hP hD hS hA hV hH [0, 1, 2, 3, 4, 5, 6, 7, 8, 9, 10, 11, 12, 13, 14, 15, 16, 17, 18, 19, 20, 21, 22, 23, 24, 25, 26, 27, 28, 29, 30, 31, 32] [33] rfl rfl rfl rfl (by decide) rfl rfl rfl rfl hl.1 rfl (Nat.le_of_ble_eq_true rfl) dL_stabiliser_9 ⟨by decide, by decide⟩ (fun E9 ce q9 u9 H locs h9 hP hD hS k1 k2 k3 => ?_) (fun r9 u9 H locs h9 hP hD hS => ?_)
  · rcases h9 with ⟨(⟨rfl, hc⟩ | ⟨rfl, hc⟩), hv9⟩
    · skip
      replace hP := hP.sub (ws' := dW z d n u9 ++ [(o, .inl (z 0, 1, .inr (.inl fO)))]) [1, 2, 3, 4, 5, 6, 7, 8, 9, 10, 11, 12, 13, 14, 15, 16, 17, 18, 19, 20, 21, 22, 23, 24, 25, 26, 27, 28, 29, 30, 31, 32, 33, 0] rfl
      replace hD := hD.sub (ws' := dW z d n u9 ++ [(o, .inl (z 0, 1, .inr (.inl fO)))]) [1, 2, 3, 4, 5, 6, 7, 8, 9, 10, 11, 12, 13, 14, 15, 16, 17, 18, 19, 20, 21, 22, 23, 24, 25, 26, 27, 28, 29, 30, 31, 32, 33, 0] rfl rfl
      refine vx_catch (E := eIO) (name := eIO) hown [] ⟨0, 14, 17, 15⟩ [⟨0, 14, 21, 13⟩] hT (fun z hz => absurd hz List.not_mem_nil) (by decide) (by decide) (ht _ tw_173) (va_Nw.use rfl (hV.2.1 eIO (by decide))) k1 k2 k3 ?_
      refine lv_astore hx hb dL_stabiliser_17 hl (by decide) rfl (fun ls hl => ?_)
      replace hl : lv_has ls 7 [(6, .ref q9), (0, .ref (d 0)), (1, .int x), (2, .int y), (3, .int (bI wh)), (4, .int w), (5, .ref o)] := hl
      refine lv_iconst (v := 1) hx hb dL_stabiliser_19 (by decide) ?_
      exact W.iret hx hb hr (fun t9 ht hW => ⟨⟨_, (u9, fO), rfl, Or.inr (Or.inl (⟨rfl, hc, hv9⟩)), by rw [ht]; exact hP, hD⟩, hS.F ht⟩) hS.2.2 dL_stabiliser_20
    · skip
      replace hP := hP.sub (ws' := dW z d n u9 ++ [(o, .inl (z 0, 1, .inr (.inl fO)))]) [1, 2, 3, 4, 5, 6, 7, 8, 9, 10, 11, 12, 13, 14, 15, 16, 17, 18, 19, 20, 21, 22, 23, 24, 25, 26, 27, 28, 29, 30, 31, 32, 33, 0] rfl
      replace hD := hD.sub (ws' := dW z d n u9 ++ [(o, .inl (z 0, 1, .inr (.inl fO)))]) [1, 2, 3, 4, 5, 6, 7, 8, 9, 10, 11, 12, 13, 14, 15, 16, 17, 18, 19, 20, 21, 22, 23, 24, 25, 26, 27, 28, 29, 30, 31, 32, 33, 0] rfl rfl
      refine vx_catch (E := eIA) (name := eIA) hown [⟨0, 14, 17, 15⟩] ⟨0, 14, 21, 13⟩ [] hT (fun z hz => Or.inr ⟨by rw [List.mem_singleton.mp hz]; decide, eIO, by rw [List.mem_singleton.mp hz]; exact ht _ tw_173, hV.2.2.2.2.2.2.2 (eIA, eIO) (by decide)⟩) (by decide) (by decide) (ht _ tw_172) (va_Nw.use rfl (hV.2.1 eIA (by decide))) k1 k2 k3 ?_
      refine lv_astore hx hb dL_stabiliser_21 hl (by decide) rfl (fun ls hl => ?_)
      replace hl : lv_has ls 7 [(6, .ref q9), (0, .ref (d 0)), (1, .int x), (2, .int y), (3, .int (bI wh)), (4, .int w), (5, .ref o)] := hl
      refine lv_iconst (v := 2) hx hb dL_stabiliser_23 (by decide) ?_
      exact W.iret hx hb hr (fun t9 ht hW => ⟨⟨_, (u9, fO), rfl, Or.inr (Or.inr (⟨rfl, hc, hv9⟩)), by rw [ht]; exact hP, hD⟩, hS.F ht⟩) hS.2.2 dL_stabiliser_24
  replace hP := hP.sub (ws' := dW z d n u9 ++ [(o, .inl (z 0, 1, .inr (.inl fO)))]) [1, 2, 3, 4, 5, 6, 7, 8, 9, 10, 11, 12, 13, 14, 15, 16, 17, 18, 19, 20, 21, 22, 23, 24, 25, 26, 27, 28, 29, 30, 31, 32, 33, 0] rfl
  replace hD := hD.sub (ws' := dW z d n u9 ++ [(o, .inl (z 0, 1, .inr (.inl fO)))]) [1, 2, 3, 4, 5, 6, 7, 8, 9, 10, 11, 12, 13, 14, 15, 16, 17, 18, 19, 20, 21, 22, 23, 24, 25, 26, 27, 28, 29, 30, 31, 32, 33, 0] rfl rfl
  refine lv_i2l hx hb dL_stabiliser_12 rfl ?_
  refine va_last hx hb hK hP hD hS 33 0 rfl rfl (vp_in_nI (n := 0) (N := 1) (by decide) (by decide)) dL_stabiliser_13 (fun H locs hP hD hS => ?_)
  refine lv_goto (tgt := 25) hx hb dL_stabiliser_14 rfl ?_
  refine lv_iconst (v := 0) hx hb dL_stabiliser_25 (by decide) ?_
  exact W.iret hx hb hr (fun t9 ht hW => ⟨⟨_, (u9, vp_updL fO 0 r9.toInt64), rfl, Or.inl ⟨rfl, r9, rfl, h9⟩, by rw [ht]; exact hP, hD⟩, hS.F ht⟩) hS.2.2 dL_stabiliser_26
set_option maxHeartbeats 4000000 in
set_option maxRecDepth 100000 in
theorem c_L_centraliser (l : Launch) (hst : l.stackTraces = false) (D : va_G) (z : Nat → ClassId) (d : Nat → Nat) (sz n len gc : Nat) (ft : Nat → Int32) (fg fo : Nat → Int64) (gs : Nat → Nat → Nat) (us : Nat → gSt) (tx : Nat → Nat) (g : Nat → pg_F) (tg : Nat → Option pg_F) (Gs : Nat → pg_F → Prop) (hR : dR n tx len g gc tg Gs ft fg fo us) (o : Nat) (fO : Nat → Int64) (x w : Int32) : Met l yL_centraliser wL_centraliser (rmX 26 5 26) (va_Pc [.ref (d 0), .int x, .int w, .ref o] (xPc D (tyL z) (dW z d n (len, ft, gc, fg, fo, gs, us) ++ [(o, .inl (z 0, 1, .inr (.inl fO)))]) sz)) (va_Qi (fun r (v : dSt × (Nat → Int64)) => (r = 0 ∧ ∃ r0 : Int32, v.2 0 = r0.toInt64 ∧ ∃ (i j : Nat) (y : pg_F), pr_text tx len n gc g = some y ∧ x = nI i ∧ i < 5 ∧ w = nI j ∧ j < 5 ∧ j ≠ 0 ∧ gOrd n (aCen y (Gs i)) r0 ∧ dRp n (tx, len, g, gc, tg, va_up Gs j (aCen y (Gs i))) v.1) ∨ (r = 1 ∧ ¬ (iN x 5 ∧ iN w 5 ∧ w ≠ 0) ∧ dRp n (tx, len, g, gc, tg, Gs) v.1) ∨ (r = 2 ∧ ((iN x 5 ∧ iN w 5 ∧ w ≠ 0) ∧ pr_text tx len n gc g = none) ∧ dRp n (tx, len, g, gc, tg, Gs) v.1)) (fun v t => va_P D vC (dW z d n v.1 ++ [(o, .inl (z 0, 1, .inr (.inl v.2)))]) t.heap ∧ va_D (va_A (dW z d n (len, ft, gc, fg, fo, gs, us) ++ [(o, .inl (z 0, 1, .inr (.inl fO)))]) sz) (dW z d n v.1 ++ [(o, .inl (z 0, 1, .inr (.inl v.2)))])) (va_A (dW z d n (len, ft, gc, fg, fo, gs, us) ++ [(o, .inl (z 0, 1, .inr (.inl fO)))]) sz)) 5 26 (va_A (dW z d n (len, ft, gc, fg, fo, gs, us) ++ [(o, .inl (z 0, 1, .inr (.inl fO)))]) sz) := by
  refine va_MetW (cc := method_10_code) (maxL := 5) (ret := (some .int)) (hh := [(0, 10, 13, 15), (0, 10, 17, 13)]) (by decide) rfl ?_
  intro p e s m args below meth c s₁ B hml hv
  have hx := B.exec
  have hb := B.bytes
  have hr := B.returns
  have ht : ∀ w ∈ TB, w.before args s = true := fun w h => atoms_spec (ws := wL_centraliser) B.pre w (List.mem_cons_of_mem _ h)
  have hown : s.vm.findClass "PermutationDeskLaw" = some m.cls := findClass_of_methodNamed B.named
  have hT := vx_table (x := yL_centraliser) B (atoms_spec (ws := wL_centraliser) B.pre _ List.mem_cons_self)
  obtain ⟨rfl, ⟨hsz, hP, hK, hD0⟩, hV, hH⟩ := hv
  subst hsz
  have hD := hD0.self (sz := s.heap.size)
  generalize hAe : va_A (dW z d n (len, ft, gc, fg, fo, gs, us) ++ [(o, .inl (z 0, 1, .inr (.inl fO)))]) s.heap.size = A at hD hH ⊢
  have hA : ∀ q : Nat, s.heap.size ≤ q → A q := fun q h => by rw [← hAe]; exact Or.inr h
  have hS : va_S A s.heap s.heap [] := va_S.rf
  have hl := lv_entry ([.ref (d 0), .int x, .int w, .ref o]) (n := 5) (Nat.le_of_ble_eq_true rfl)
  rw [lg_entry_eq]
  generalize (lg_sl ([.ref (d 0), .int x, .int w, .ref o]) ++ List.replicate (5 - (lg_sl ([.ref (d 0), .int x, .int w, .ref o])).length) Slot.unset).toArray = ls at hl ⊢
  have hl : lv_has ls 5 [(0, .ref (d 0)), (1, .int x), (2, .int w), (3, .ref o)] := hl
  refine lv_aload_n hx hb dL_centraliser_0 rfl (lv_at hl 3 rfl) ?_
  refine lv_iconst (v := 0) hx hb dL_centraliser_1 (by decide) ?_
  refine lv_aload_n hx hb dL_centraliser_2 rfl (lv_at hl 0 rfl) ?_
  refine lv_iload_n hx hb dL_centraliser_3 rfl (lv_at hl 1 rfl) ?_
  refine lv_iload_n hx hb dL_centraliser_4 rfl (lv_at hl 2 rfl) ?_
  refine qX_i (ci := 2) (q0 := 0) (wr := [(o, .inl (z 0, 1, .inr (.inl fO)))]) (As := [.int x, .int w]) (rest := [.int 0, .ref o]) ⟨hx, hb, hml, hown, ht⟩ (c_D_centraliser l hst D z d s.heap.size n len gc ft fg fo gs us tx g tg Gs hR x w) (cB 2 ht gD_centraliser rfl tw_59 tw_549 (by decide +kernel) ⟨by decide, by decide⟩) tw_550 tw_551 hK hP hD hS hA hV hH [0, 1, 2, 3, 4, 5, 6, 7, 8, 9, 10, 11, 12, 13, 14, 15, 16, 17, 18, 19, 20, 21, 22, 23, 24, 25, 26, 27, 28, 29, 30, 31, 32] [33] rfl rfl rfl rfl (by decide) rfl rfl rfl rfl hl.1 rfl (Nat.le_of_ble_eq_true rfl) dL_centraliser_5 ⟨by decide, by decide⟩ (fun E9 ce q9 u5 H locs h5 hP hD hS k1 k2 k3 => ?_) (fun r5 u5 H locs h5 hP hD hS => ?_)
  · rcases h5 with ⟨(⟨rfl, hc⟩ | ⟨rfl, hc⟩), hv9⟩
    · skip
      replace hP := hP.sub (ws' := dW z d n u5 ++ [(o, .inl (z 0, 1, .inr (.inl fO)))]) [1, 2, 3, 4, 5, 6, 7, 8, 9, 10, 11, 12, 13, 14, 15, 16, 17, 18, 19, 20, 21, 22, 23, 24, 25, 26, 27, 28, 29, 30, 31, 32, 33, 0] rfl
      replace hD := hD.sub (ws' := dW z d n u5 ++ [(o, .inl (z 0, 1, .inr (.inl fO)))]) [1, 2, 3, 4, 5, 6, 7, 8, 9, 10, 11, 12, 13, 14, 15, 16, 17, 18, 19, 20, 21, 22, 23, 24, 25, 26, 27, 28, 29, 30, 31, 32, 33, 0] rfl rfl
      refine vx_catch (E := eIO) (name := eIO) hown [] ⟨0, 10, 13, 15⟩ [⟨0, 10, 17, 13⟩] hT (fun z hz => absurd hz List.not_mem_nil) (by decide) (by decide) (ht _ tw_173) (va_Nw.use rfl (hV.2.1 eIO (by decide))) k1 k2 k3 ?_
      refine lv_astore hx hb dL_centraliser_13 hl (by decide) rfl (fun ls hl => ?_)
      replace hl : lv_has ls 5 [(4, .ref q9), (0, .ref (d 0)), (1, .int x), (2, .int w), (3, .ref o)] := hl
      refine lv_iconst (v := 1) hx hb dL_centraliser_15 (by decide) ?_
      exact W.iret hx hb hr (fun t9 ht hW => ⟨⟨_, (u5, fO), rfl, Or.inr (Or.inl (⟨rfl, hc, hv9⟩)), by rw [ht]; exact hP, hD⟩, hS.F ht⟩) hS.2.2 dL_centraliser_16
    · skip
      replace hP := hP.sub (ws' := dW z d n u5 ++ [(o, .inl (z 0, 1, .inr (.inl fO)))]) [1, 2, 3, 4, 5, 6, 7, 8, 9, 10, 11, 12, 13, 14, 15, 16, 17, 18, 19, 20, 21, 22, 23, 24, 25, 26, 27, 28, 29, 30, 31, 32, 33, 0] rfl
      replace hD := hD.sub (ws' := dW z d n u5 ++ [(o, .inl (z 0, 1, .inr (.inl fO)))]) [1, 2, 3, 4, 5, 6, 7, 8, 9, 10, 11, 12, 13, 14, 15, 16, 17, 18, 19, 20, 21, 22, 23, 24, 25, 26, 27, 28, 29, 30, 31, 32, 33, 0] rfl rfl
      refine vx_catch (E := eIA) (name := eIA) hown [⟨0, 10, 13, 15⟩] ⟨0, 10, 17, 13⟩ [] hT (fun z hz => Or.inr ⟨by rw [List.mem_singleton.mp hz]; decide, eIO, by rw [List.mem_singleton.mp hz]; exact ht _ tw_173, hV.2.2.2.2.2.2.2 (eIA, eIO) (by decide)⟩) (by decide) (by decide) (ht _ tw_172) (va_Nw.use rfl (hV.2.1 eIA (by decide))) k1 k2 k3 ?_
      refine lv_astore hx hb dL_centraliser_17 hl (by decide) rfl (fun ls hl => ?_)
      replace hl : lv_has ls 5 [(4, .ref q9), (0, .ref (d 0)), (1, .int x), (2, .int w), (3, .ref o)] := hl
      refine lv_iconst (v := 2) hx hb dL_centraliser_19 (by decide) ?_
      exact W.iret hx hb hr (fun t9 ht hW => ⟨⟨_, (u5, fO), rfl, Or.inr (Or.inr (⟨rfl, hc, hv9⟩)), by rw [ht]; exact hP, hD⟩, hS.F ht⟩) hS.2.2 dL_centraliser_20
  replace hP := hP.sub (ws' := dW z d n u5 ++ [(o, .inl (z 0, 1, .inr (.inl fO)))]) [1, 2, 3, 4, 5, 6, 7, 8, 9, 10, 11, 12, 13, 14, 15, 16, 17, 18, 19, 20, 21, 22, 23, 24, 25, 26, 27, 28, 29, 30, 31, 32, 33, 0] rfl
  replace hD := hD.sub (ws' := dW z d n u5 ++ [(o, .inl (z 0, 1, .inr (.inl fO)))]) [1, 2, 3, 4, 5, 6, 7, 8, 9, 10, 11, 12, 13, 14, 15, 16, 17, 18, 19, 20, 21, 22, 23, 24, 25, 26, 27, 28, 29, 30, 31, 32, 33, 0] rfl rfl
  refine lv_i2l hx hb dL_centraliser_8 rfl ?_
  refine va_last hx hb hK hP hD hS 33 0 rfl rfl (vp_in_nI (n := 0) (N := 1) (by decide) (by decide)) dL_centraliser_9 (fun H locs hP hD hS => ?_)
  refine lv_goto (tgt := 21) hx hb dL_centraliser_10 rfl ?_
  refine lv_iconst (v := 0) hx hb dL_centraliser_21 (by decide) ?_
  exact W.iret hx hb hr (fun t9 ht hW => ⟨⟨_, (u5, vp_updL fO 0 r5.toInt64), rfl, Or.inl ⟨rfl, r5, rfl, h5⟩, by rw [ht]; exact hP, hD⟩, hS.F ht⟩) hS.2.2 dL_centraliser_22
set_option maxHeartbeats 4000000 in
set_option maxRecDepth 100000 in
theorem c_L_closure (l : Launch) (hst : l.stackTraces = false) (D : va_G) (z : Nat → ClassId) (d : Nat → Nat) (sz n len gc : Nat) (ft : Nat → Int32) (fg fo : Nat → Int64) (gs : Nat → Nat → Nat) (us : Nat → gSt) (tx : Nat → Nat) (g : Nat → pg_F) (tg : Nat → Option pg_F) (Gs : Nat → pg_F → Prop) (hR : dR n tx len g gc tg Gs ft fg fo us) (o : Nat) (fO : Nat → Int64) (x w : Int32) : Met l yL_closure wL_closure (rmX 26 4 25) (va_Pc [.ref (d 0), .int x, .int w, .ref o] (xPc D (tyL z) (dW z d n (len, ft, gc, fg, fo, gs, us) ++ [(o, .inl (z 0, 1, .inr (.inl fO)))]) sz)) (va_Qi (fun r (v : dSt × (Nat → Int64)) => (r = 0 ∧ ∃ r0 : Int32, v.2 0 = r0.toInt64 ∧ ∃ (y : pg_F) (i j : Nat) (N : pg_F → Prop), pr_text tx len n gc g = some y ∧ x = nI i ∧ i < 5 ∧ w = nI j ∧ j < 5 ∧ j ≠ 0 ∧ pg_ncl n (pg_and (fun x => x = pg_id) y) (Gs i) N ∧ gOrd n N r0 ∧ dRp n (tx, len, g, gc, tg, va_up Gs j N) v.1) ∨ (r = 1 ∧ ¬ (iN x 5 ∧ iN w 5 ∧ w ≠ 0) ∧ dRp n (tx, len, g, gc, tg, Gs) v.1) ∨ (r = 2 ∧ ((iN x 5 ∧ iN w 5 ∧ w ≠ 0) ∧ pr_text tx len n gc g = none) ∧ dRp n (tx, len, g, gc, tg, Gs) v.1)) (fun v t => va_P D vC (dW z d n v.1 ++ [(o, .inl (z 0, 1, .inr (.inl v.2)))]) t.heap ∧ va_D (va_A (dW z d n (len, ft, gc, fg, fo, gs, us) ++ [(o, .inl (z 0, 1, .inr (.inl fO)))]) sz) (dW z d n v.1 ++ [(o, .inl (z 0, 1, .inr (.inl v.2)))])) (va_A (dW z d n (len, ft, gc, fg, fo, gs, us) ++ [(o, .inl (z 0, 1, .inr (.inl fO)))]) sz)) 4 25 (va_A (dW z d n (len, ft, gc, fg, fo, gs, us) ++ [(o, .inl (z 0, 1, .inr (.inl fO)))]) sz) := by
  refine va_MetW (cc := method_11_code) (maxL := 5) (ret := (some .int)) (hh := [(0, 10, 13, 15), (0, 10, 17, 13)]) (by decide) rfl ?_
  intro p e s m args below meth c s₁ B hml hv
  have hx := B.exec
  have hb := B.bytes
  have hr := B.returns
  have ht : ∀ w ∈ TB, w.before args s = true := fun w h => atoms_spec (ws := wL_closure) B.pre w (List.mem_cons_of_mem _ h)
  have hown : s.vm.findClass "PermutationDeskLaw" = some m.cls := findClass_of_methodNamed B.named
  have hT := vx_table (x := yL_closure) B (atoms_spec (ws := wL_closure) B.pre _ List.mem_cons_self)
  obtain ⟨rfl, ⟨hsz, hP, hK, hD0⟩, hV, hH⟩ := hv
  subst hsz
  have hD := hD0.self (sz := s.heap.size)
  generalize hAe : va_A (dW z d n (len, ft, gc, fg, fo, gs, us) ++ [(o, .inl (z 0, 1, .inr (.inl fO)))]) s.heap.size = A at hD hH ⊢
  have hA : ∀ q : Nat, s.heap.size ≤ q → A q := fun q h => by rw [← hAe]; exact Or.inr h
  have hS : va_S A s.heap s.heap [] := va_S.rf
  have hl := lv_entry ([.ref (d 0), .int x, .int w, .ref o]) (n := 5) (Nat.le_of_ble_eq_true rfl)
  rw [lg_entry_eq]
  generalize (lg_sl ([.ref (d 0), .int x, .int w, .ref o]) ++ List.replicate (5 - (lg_sl ([.ref (d 0), .int x, .int w, .ref o])).length) Slot.unset).toArray = ls at hl ⊢
  have hl : lv_has ls 5 [(0, .ref (d 0)), (1, .int x), (2, .int w), (3, .ref o)] := hl
  refine lv_aload_n hx hb dL_closure_0 rfl (lv_at hl 3 rfl) ?_
  refine lv_iconst (v := 0) hx hb dL_closure_1 (by decide) ?_
  refine lv_aload_n hx hb dL_closure_2 rfl (lv_at hl 0 rfl) ?_
  refine lv_iload_n hx hb dL_closure_3 rfl (lv_at hl 1 rfl) ?_
  refine lv_iload_n hx hb dL_closure_4 rfl (lv_at hl 2 rfl) ?_
  refine qX_i (ci := 2) (q0 := 0) (wr := [(o, .inl (z 0, 1, .inr (.inl fO)))]) (As := [.int x, .int w]) (rest := [.int 0, .ref o]) ⟨hx, hb, hml, hown, ht⟩ (c_D_closure l hst D z d s.heap.size n len gc ft fg fo gs us tx g tg Gs hR x w) (cB 2 ht gD_closure rfl tw_59 tw_566 (by decide +kernel) ⟨by decide, by decide⟩) tw_567 tw_568 hK hP hD hS hA hV hH [0, 1, 2, 3, 4, 5, 6, 7, 8, 9, 10, 11, 12, 13, 14, 15, 16, 17, 18, 19, 20, 21, 22, 23, 24, 25, 26, 27, 28, 29, 30, 31, 32] [33] rfl rfl rfl rfl (by decide) rfl rfl rfl rfl hl.1 rfl (Nat.le_of_ble_eq_true rfl) dL_closure_5 ⟨by decide, by decide⟩ (fun E9 ce q9 u5 H locs h5 hP hD hS k1 k2 k3 => ?_) (fun r5 u5 H locs h5 hP hD hS => ?_)
  · rcases h5 with ⟨(⟨rfl, hc⟩ | ⟨rfl, hc⟩), hv9⟩
    · skip
      replace hP := hP.sub (ws' := dW z d n u5 ++ [(o, .inl (z 0, 1, .inr (.inl fO)))]) [1, 2, 3, 4, 5, 6, 7, 8, 9, 10, 11, 12, 13, 14, 15, 16, 17, 18, 19, 20, 21, 22, 23, 24, 25, 26, 27, 28, 29, 30, 31, 32, 33, 0] rfl
      replace hD := hD.sub (ws' := dW z d n u5 ++ [(o, .inl (z 0, 1, .inr (.inl fO)))]) [1, 2, 3, 4, 5, 6, 7, 8, 9, 10, 11, 12, 13, 14, 15, 16, 17, 18, 19, 20, 21, 22, 23, 24, 25, 26, 27, 28, 29, 30, 31, 32, 33, 0] rfl rfl
      refine vx_catch (E := eIO) (name := eIO) hown [] ⟨0, 10, 13, 15⟩ [⟨0, 10, 17, 13⟩] hT (fun z hz => absurd hz List.not_mem_nil) (by decide) (by decide) (ht _ tw_173) (va_Nw.use rfl (hV.2.1 eIO (by decide))) k1 k2 k3 ?_
      refine lv_astore hx hb dL_closure_13 hl (by decide) rfl (fun ls hl => ?_)
      replace hl : lv_has ls 5 [(4, .ref q9), (0, .ref (d 0)), (1, .int x), (2, .int w), (3, .ref o)] := hl
      refine lv_iconst (v := 1) hx hb dL_closure_15 (by decide) ?_
      exact W.iret hx hb hr (fun t9 ht hW => ⟨⟨_, (u5, fO), rfl, Or.inr (Or.inl (⟨rfl, hc, hv9⟩)), by rw [ht]; exact hP, hD⟩, hS.F ht⟩) hS.2.2 dL_closure_16
    · skip
      replace hP := hP.sub (ws' := dW z d n u5 ++ [(o, .inl (z 0, 1, .inr (.inl fO)))]) [1, 2, 3, 4, 5, 6, 7, 8, 9, 10, 11, 12, 13, 14, 15, 16, 17, 18, 19, 20, 21, 22, 23, 24, 25, 26, 27, 28, 29, 30, 31, 32, 33, 0] rfl
      replace hD := hD.sub (ws' := dW z d n u5 ++ [(o, .inl (z 0, 1, .inr (.inl fO)))]) [1, 2, 3, 4, 5, 6, 7, 8, 9, 10, 11, 12, 13, 14, 15, 16, 17, 18, 19, 20, 21, 22, 23, 24, 25, 26, 27, 28, 29, 30, 31, 32, 33, 0] rfl rfl
      refine vx_catch (E := eIA) (name := eIA) hown [⟨0, 10, 13, 15⟩] ⟨0, 10, 17, 13⟩ [] hT (fun z hz => Or.inr ⟨by rw [List.mem_singleton.mp hz]; decide, eIO, by rw [List.mem_singleton.mp hz]; exact ht _ tw_173, hV.2.2.2.2.2.2.2 (eIA, eIO) (by decide)⟩) (by decide) (by decide) (ht _ tw_172) (va_Nw.use rfl (hV.2.1 eIA (by decide))) k1 k2 k3 ?_
      refine lv_astore hx hb dL_closure_17 hl (by decide) rfl (fun ls hl => ?_)
      replace hl : lv_has ls 5 [(4, .ref q9), (0, .ref (d 0)), (1, .int x), (2, .int w), (3, .ref o)] := hl
      refine lv_iconst (v := 2) hx hb dL_closure_19 (by decide) ?_
      exact W.iret hx hb hr (fun t9 ht hW => ⟨⟨_, (u5, fO), rfl, Or.inr (Or.inr (⟨rfl, hc, hv9⟩)), by rw [ht]; exact hP, hD⟩, hS.F ht⟩) hS.2.2 dL_closure_20
  replace hP := hP.sub (ws' := dW z d n u5 ++ [(o, .inl (z 0, 1, .inr (.inl fO)))]) [1, 2, 3, 4, 5, 6, 7, 8, 9, 10, 11, 12, 13, 14, 15, 16, 17, 18, 19, 20, 21, 22, 23, 24, 25, 26, 27, 28, 29, 30, 31, 32, 33, 0] rfl
  replace hD := hD.sub (ws' := dW z d n u5 ++ [(o, .inl (z 0, 1, .inr (.inl fO)))]) [1, 2, 3, 4, 5, 6, 7, 8, 9, 10, 11, 12, 13, 14, 15, 16, 17, 18, 19, 20, 21, 22, 23, 24, 25, 26, 27, 28, 29, 30, 31, 32, 33, 0] rfl rfl
  refine lv_i2l hx hb dL_closure_8 rfl ?_
  refine va_last hx hb hK hP hD hS 33 0 rfl rfl (vp_in_nI (n := 0) (N := 1) (by decide) (by decide)) dL_closure_9 (fun H locs hP hD hS => ?_)
  refine lv_goto (tgt := 21) hx hb dL_closure_10 rfl ?_
  refine lv_iconst (v := 0) hx hb dL_closure_21 (by decide) ?_
  exact W.iret hx hb hr (fun t9 ht hW => ⟨⟨_, (u5, vp_updL fO 0 r5.toInt64), rfl, Or.inl ⟨rfl, r5, rfl, h5⟩, by rw [ht]; exact hP, hD⟩, hS.F ht⟩) hS.2.2 dL_closure_22
set_option maxHeartbeats 4000000 in
set_option maxRecDepth 100000 in
theorem c_L_derived (l : Launch) (hst : l.stackTraces = false) (D : va_G) (z : Nat → ClassId) (d : Nat → Nat) (sz n len gc : Nat) (ft : Nat → Int32) (fg fo : Nat → Int64) (gs : Nat → Nat → Nat) (us : Nat → gSt) (tx : Nat → Nat) (g : Nat → pg_F) (tg : Nat → Option pg_F) (Gs : Nat → pg_F → Prop) (hR : dR n tx len g gc tg Gs ft fg fo us) (o : Nat) (fO : Nat → Int64) (x w : Int32) : Met l yL_derived wL_derived (rmX 26 2 12) (va_Pc [.ref (d 0), .int x, .int w, .ref o] (xPc D (tyL z) (dW z d n (len, ft, gc, fg, fo, gs, us) ++ [(o, .inl (z 0, 1, .inr (.inl fO)))]) sz)) (va_Qi (fun r (v : dSt × (Nat → Int64)) => (r = 0 ∧ ∃ r0 : Int32, v.2 0 = r0.toInt64 ∧ ∃ (i j : Nat), x = nI i ∧ i < 5 ∧ w = nI j ∧ j < 5 ∧ j ≠ 0 ∧ gOrd n (aDer n (Gs i)) r0 ∧ dRp n (tx, len, g, gc, tg, va_up Gs j (aDer n (Gs i))) v.1) ∨ (r = 1 ∧ ¬ (iN x 5 ∧ iN w 5 ∧ w ≠ 0) ∧ dRp n (tx, len, g, gc, tg, Gs) v.1)) (fun v t => va_P D vC (dW z d n v.1 ++ [(o, .inl (z 0, 1, .inr (.inl v.2)))]) t.heap ∧ va_D (va_A (dW z d n (len, ft, gc, fg, fo, gs, us) ++ [(o, .inl (z 0, 1, .inr (.inl fO)))]) sz) (dW z d n v.1 ++ [(o, .inl (z 0, 1, .inr (.inl v.2)))])) (va_A (dW z d n (len, ft, gc, fg, fo, gs, us) ++ [(o, .inl (z 0, 1, .inr (.inl fO)))]) sz)) 2 12 (va_A (dW z d n (len, ft, gc, fg, fo, gs, us) ++ [(o, .inl (z 0, 1, .inr (.inl fO)))]) sz) := by
  refine va_MetW (cc := method_12_code) (maxL := 5) (ret := (some .int)) (hh := [(0, 10, 13, 15)]) (by decide) rfl ?_
  intro p e s m args below meth c s₁ B hml hv
  have hx := B.exec
  have hb := B.bytes
  have hr := B.returns
  have ht : ∀ w ∈ TB, w.before args s = true := fun w h => atoms_spec (ws := wL_derived) B.pre w (List.mem_cons_of_mem _ h)
  have hown : s.vm.findClass "PermutationDeskLaw" = some m.cls := findClass_of_methodNamed B.named
  have hT := vx_table (x := yL_derived) B (atoms_spec (ws := wL_derived) B.pre _ List.mem_cons_self)
  obtain ⟨rfl, ⟨hsz, hP, hK, hD0⟩, hV, hH⟩ := hv
  subst hsz
  have hD := hD0.self (sz := s.heap.size)
  generalize hAe : va_A (dW z d n (len, ft, gc, fg, fo, gs, us) ++ [(o, .inl (z 0, 1, .inr (.inl fO)))]) s.heap.size = A at hD hH ⊢
  have hA : ∀ q : Nat, s.heap.size ≤ q → A q := fun q h => by rw [← hAe]; exact Or.inr h
  have hS : va_S A s.heap s.heap [] := va_S.rf
  have hl := lv_entry ([.ref (d 0), .int x, .int w, .ref o]) (n := 5) (Nat.le_of_ble_eq_true rfl)
  rw [lg_entry_eq]
  generalize (lg_sl ([.ref (d 0), .int x, .int w, .ref o]) ++ List.replicate (5 - (lg_sl ([.ref (d 0), .int x, .int w, .ref o])).length) Slot.unset).toArray = ls at hl ⊢
  have hl : lv_has ls 5 [(0, .ref (d 0)), (1, .int x), (2, .int w), (3, .ref o)] := hl
  refine lv_aload_n hx hb dL_derived_0 rfl (lv_at hl 3 rfl) ?_
  refine lv_iconst (v := 0) hx hb dL_derived_1 (by decide) ?_
  refine lv_aload_n hx hb dL_derived_2 rfl (lv_at hl 0 rfl) ?_
  refine lv_iload_n hx hb dL_derived_3 rfl (lv_at hl 1 rfl) ?_
  refine lv_iload_n hx hb dL_derived_4 rfl (lv_at hl 2 rfl) ?_
  refine qX_i (ci := 2) (q0 := 0) (wr := [(o, .inl (z 0, 1, .inr (.inl fO)))]) (As := [.int x, .int w]) (rest := [.int 0, .ref o]) ⟨hx, hb, hml, hown, ht⟩ (c_D_derived l hst D z d s.heap.size n len gc ft fg fo gs us tx g tg Gs hR x w) (cB 2 ht gD_derived rfl tw_59 tw_581 (by decide +kernel) ⟨by decide, by decide⟩) tw_582 tw_583 hK hP hD hS hA hV hH [0, 1, 2, 3, 4, 5, 6, 7, 8, 9, 10, 11, 12, 13, 14, 15, 16, 17, 18, 19, 20, 21, 22, 23, 24, 25, 26, 27, 28, 29, 30, 31, 32] [33] rfl rfl rfl rfl (by decide) rfl rfl rfl rfl hl.1 rfl (Nat.le_of_ble_eq_true rfl) dL_derived_5 ⟨by decide, by decide⟩ (fun E9 ce q9 u5 H locs h5 hP hD hS k1 k2 k3 => ?_) (fun r5 u5 H locs h5 hP hD hS => ?_)
  · obtain ⟨⟨rfl, hc⟩, hv9⟩ := h5
    replace hP := hP.sub (ws' := dW z d n u5 ++ [(o, .inl (z 0, 1, .inr (.inl fO)))]) [1, 2, 3, 4, 5, 6, 7, 8, 9, 10, 11, 12, 13, 14, 15, 16, 17, 18, 19, 20, 21, 22, 23, 24, 25, 26, 27, 28, 29, 30, 31, 32, 33, 0] rfl
    replace hD := hD.sub (ws' := dW z d n u5 ++ [(o, .inl (z 0, 1, .inr (.inl fO)))]) [1, 2, 3, 4, 5, 6, 7, 8, 9, 10, 11, 12, 13, 14, 15, 16, 17, 18, 19, 20, 21, 22, 23, 24, 25, 26, 27, 28, 29, 30, 31, 32, 33, 0] rfl rfl
    refine vx_catch (E := eIO) (name := eIO) hown [] ⟨0, 10, 13, 15⟩ [] hT (fun z hz => absurd hz List.not_mem_nil) (by decide) (by decide) (ht _ tw_173) (va_Nw.use rfl (hV.2.1 eIO (by decide))) k1 k2 k3 ?_
    refine lv_astore hx hb dL_derived_13 hl (by decide) rfl (fun ls hl => ?_)
    replace hl : lv_has ls 5 [(4, .ref q9), (0, .ref (d 0)), (1, .int x), (2, .int w), (3, .ref o)] := hl
    refine lv_iconst (v := 1) hx hb dL_derived_15 (by decide) ?_
    exact W.iret hx hb hr (fun t9 ht hW => ⟨⟨_, (u5, fO), rfl, Or.inr (⟨rfl, hc, hv9⟩), by rw [ht]; exact hP, hD⟩, hS.F ht⟩) hS.2.2 dL_derived_16
  replace hP := hP.sub (ws' := dW z d n u5 ++ [(o, .inl (z 0, 1, .inr (.inl fO)))]) [1, 2, 3, 4, 5, 6, 7, 8, 9, 10, 11, 12, 13, 14, 15, 16, 17, 18, 19, 20, 21, 22, 23, 24, 25, 26, 27, 28, 29, 30, 31, 32, 33, 0] rfl
  replace hD := hD.sub (ws' := dW z d n u5 ++ [(o, .inl (z 0, 1, .inr (.inl fO)))]) [1, 2, 3, 4, 5, 6, 7, 8, 9, 10, 11, 12, 13, 14, 15, 16, 17, 18, 19, 20, 21, 22, 23, 24, 25, 26, 27, 28, 29, 30, 31, 32, 33, 0] rfl rfl
  refine lv_i2l hx hb dL_derived_8 rfl ?_
  refine va_last hx hb hK hP hD hS 33 0 rfl rfl (vp_in_nI (n := 0) (N := 1) (by decide) (by decide)) dL_derived_9 (fun H locs hP hD hS => ?_)
  refine lv_goto (tgt := 17) hx hb dL_derived_10 rfl ?_
  refine lv_iconst (v := 0) hx hb dL_derived_17 (by decide) ?_
  exact W.iret hx hb hr (fun t9 ht hW => ⟨⟨_, (u5, vp_updL fO 0 r5.toInt64), rfl, Or.inl ⟨rfl, r5, rfl, h5⟩, by rw [ht]; exact hP, hD⟩, hS.F ht⟩) hS.2.2 dL_derived_18
set_option maxHeartbeats 4000000 in
set_option maxRecDepth 100000 in
theorem c_L_order (l : Launch) (hst : l.stackTraces = false) (D : va_G) (z : Nat → ClassId) (d : Nat → Nat) (sz n len gc : Nat) (ft : Nat → Int32) (fg fo : Nat → Int64) (gs : Nat → Nat → Nat) (us : Nat → gSt) (tx : Nat → Nat) (g : Nat → pg_F) (tg : Nat → Option pg_F) (Gs : Nat → pg_F → Prop) (hR : dR n tx len g gc tg Gs ft fg fo us) (o : Nat) (fO : Nat → Int64) (x : Int32) : Met l yL_order wL_order (rmX 26 1 6) (va_Pc [.ref (d 0), .int x, .ref o] (xPc D (tyL z) (dW z d n (len, ft, gc, fg, fo, gs, us) ++ [(o, .inl (z 0, 1, .inr (.inl fO)))]) sz)) (va_Qi (fun r (v : dSt × (Nat → Int64)) => (r = 0 ∧ ∃ r0 : Int32, v.2 0 = r0.toInt64 ∧ (∃ i : Nat, x = nI i ∧ i < 5 ∧ gOrd n (Gs i) r0) ∧ dRp n (tx, len, g, gc, tg, Gs) v.1) ∨ (r = 1 ∧ ¬ iN x 5 ∧ dRp n (tx, len, g, gc, tg, Gs) v.1)) (fun v t => va_P D vC (dW z d n v.1 ++ [(o, .inl (z 0, 1, .inr (.inl v.2)))]) t.heap ∧ va_D (va_A (dW z d n (len, ft, gc, fg, fo, gs, us) ++ [(o, .inl (z 0, 1, .inr (.inl fO)))]) sz) (dW z d n v.1 ++ [(o, .inl (z 0, 1, .inr (.inl v.2)))])) (va_A (dW z d n (len, ft, gc, fg, fo, gs, us) ++ [(o, .inl (z 0, 1, .inr (.inl fO)))]) sz)) 1 6 (va_A (dW z d n (len, ft, gc, fg, fo, gs, us) ++ [(o, .inl (z 0, 1, .inr (.inl fO)))]) sz) := by
  refine va_MetW (cc := method_13_code) (maxL := 4) (ret := (some .int)) (hh := [(0, 9, 12, 15)]) (by decide) rfl ?_
  intro p e s m args below meth c s₁ B hml hv
  have hx := B.exec
  have hb := B.bytes
  have hr := B.returns
  have ht : ∀ w ∈ TB, w.before args s = true := fun w h => atoms_spec (ws := wL_order) B.pre w (List.mem_cons_of_mem _ h)
  have hown : s.vm.findClass "PermutationDeskLaw" = some m.cls := findClass_of_methodNamed B.named
  have hT := vx_table (x := yL_order) B (atoms_spec (ws := wL_order) B.pre _ List.mem_cons_self)
  obtain ⟨rfl, ⟨hsz, hP, hK, hD0⟩, hV, hH⟩ := hv
  subst hsz
  have hD := hD0.self (sz := s.heap.size)
  generalize hAe : va_A (dW z d n (len, ft, gc, fg, fo, gs, us) ++ [(o, .inl (z 0, 1, .inr (.inl fO)))]) s.heap.size = A at hD hH ⊢
  have hA : ∀ q : Nat, s.heap.size ≤ q → A q := fun q h => by rw [← hAe]; exact Or.inr h
  have hS : va_S A s.heap s.heap [] := va_S.rf
  have hl := lv_entry ([.ref (d 0), .int x, .ref o]) (n := 4) (Nat.le_of_ble_eq_true rfl)
  rw [lg_entry_eq]
  generalize (lg_sl ([.ref (d 0), .int x, .ref o]) ++ List.replicate (4 - (lg_sl ([.ref (d 0), .int x, .ref o])).length) Slot.unset).toArray = ls at hl ⊢
  have hl : lv_has ls 4 [(0, .ref (d 0)), (1, .int x), (2, .ref o)] := hl
  refine lv_aload_n hx hb dL_order_0 rfl (lv_at hl 2 rfl) ?_
  refine lv_iconst (v := 0) hx hb dL_order_1 (by decide) ?_
  refine lv_aload_n hx hb dL_order_2 rfl (lv_at hl 0 rfl) ?_
  refine lv_iload_n hx hb dL_order_3 rfl (lv_at hl 1 rfl) ?_
  refine qX_i (ci := 2) (q0 := 0) (wr := [(o, .inl (z 0, 1, .inr (.inl fO)))]) (As := [.int x]) (rest := [.int 0, .ref o]) ⟨hx, hb, hml, hown, ht⟩ (c_D_order l hst D z d s.heap.size n len gc ft fg fo gs us tx g tg Gs hR x) (cB 1 ht gD_order rfl tw_59 tw_593 (by decide +kernel) ⟨by decide, by decide⟩) tw_594 tw_595 hK hP hD hS hA hV hH [0, 1, 2, 3, 4, 5, 6, 7, 8, 9, 10, 11, 12, 13, 14, 15, 16, 17, 18, 19, 20, 21, 22, 23, 24, 25, 26, 27, 28, 29, 30, 31, 32] [33] rfl rfl rfl rfl (by decide) rfl rfl rfl rfl hl.1 rfl (Nat.le_of_ble_eq_true rfl) dL_order_4 ⟨by decide, by decide⟩ (fun E9 ce q9 u4 H locs h4 hP hD hS k1 k2 k3 => ?_) (fun r4 u4 H locs h4 hP hD hS => ?_)
  · obtain ⟨⟨rfl, hc⟩, hv9⟩ := h4
    subst hv9
    replace hP := hP.sub (ws' := dW z d n (len, ft, gc, fg, fo, gs, us) ++ [(o, .inl (z 0, 1, .inr (.inl fO)))]) [1, 2, 3, 4, 5, 6, 7, 8, 9, 10, 11, 12, 13, 14, 15, 16, 17, 18, 19, 20, 21, 22, 23, 24, 25, 26, 27, 28, 29, 30, 31, 32, 33, 0] rfl
    replace hD := hD.sub (ws' := dW z d n (len, ft, gc, fg, fo, gs, us) ++ [(o, .inl (z 0, 1, .inr (.inl fO)))]) [1, 2, 3, 4, 5, 6, 7, 8, 9, 10, 11, 12, 13, 14, 15, 16, 17, 18, 19, 20, 21, 22, 23, 24, 25, 26, 27, 28, 29, 30, 31, 32, 33, 0] rfl rfl
    refine vx_catch (E := eIO) (name := eIO) hown [] ⟨0, 9, 12, 15⟩ [] hT (fun z hz => absurd hz List.not_mem_nil) (by decide) (by decide) (ht _ tw_173) (va_Nw.use rfl (hV.2.1 eIO (by decide))) k1 k2 k3 ?_
    refine lv_astore_n hx hb dL_order_12 rfl hl (by decide) rfl (fun ls hl => ?_)
    replace hl : lv_has ls 4 [(3, .ref q9), (0, .ref (d 0)), (1, .int x), (2, .ref o)] := hl
    refine lv_iconst (v := 1) hx hb dL_order_13 (by decide) ?_
    exact W.iret hx hb hr (fun t9 ht hW => ⟨⟨_, ((len, ft, gc, fg, fo, gs, us), fO), rfl, Or.inr (⟨rfl, hc, hR.rp gs⟩), by rw [ht]; exact hP, hD⟩, hS.F ht⟩) hS.2.2 dL_order_14
  obtain ⟨hex, rfl⟩ := h4
  replace hP := hP.sub (ws' := dW z d n (len, ft, gc, fg, fo, gs, us) ++ [(o, .inl (z 0, 1, .inr (.inl fO)))]) [1, 2, 3, 4, 5, 6, 7, 8, 9, 10, 11, 12, 13, 14, 15, 16, 17, 18, 19, 20, 21, 22, 23, 24, 25, 26, 27, 28, 29, 30, 31, 32, 33, 0] rfl
  replace hD := hD.sub (ws' := dW z d n (len, ft, gc, fg, fo, gs, us) ++ [(o, .inl (z 0, 1, .inr (.inl fO)))]) [1, 2, 3, 4, 5, 6, 7, 8, 9, 10, 11, 12, 13, 14, 15, 16, 17, 18, 19, 20, 21, 22, 23, 24, 25, 26, 27, 28, 29, 30, 31, 32, 33, 0] rfl rfl
  refine lv_i2l hx hb dL_order_7 rfl ?_
  refine va_last hx hb hK hP hD hS 33 0 rfl rfl (vp_in_nI (n := 0) (N := 1) (by decide) (by decide)) dL_order_8 (fun H locs hP hD hS => ?_)
  refine lv_goto (tgt := 15) hx hb dL_order_9 rfl ?_
  refine lv_iconst (v := 0) hx hb dL_order_15 (by decide) ?_
  exact W.iret hx hb hr (fun t9 ht hW => ⟨⟨_, ((len, ft, gc, fg, fo, gs, us), vp_updL fO 0 r4.toInt64), rfl, Or.inl ⟨rfl, r4, rfl, hex, hR.rp gs⟩, by rw [ht]; exact hP, hD⟩, hS.F ht⟩) hS.2.2 dL_order_16
set_option maxHeartbeats 4000000 in
set_option maxRecDepth 100000 in
theorem c_L_rank (l : Launch) (hst : l.stackTraces = false) (D : va_G) (z : Nat → ClassId) (d : Nat → Nat) (sz n len gc : Nat) (ft : Nat → Int32) (fg fo : Nat → Int64) (gs : Nat → Nat → Nat) (us : Nat → gSt) (tx : Nat → Nat) (g : Nat → pg_F) (tg : Nat → Option pg_F) (Gs : Nat → pg_F → Prop) (hR : dR n tx len g gc tg Gs ft fg fo us) (o : Nat) (fO : Nat → Int64) (x : Int32) : Met l yL_rank wL_rank (rmX 26 3 19) (va_Pc [.ref (d 0), .int x, .ref o] (xPc D (tyL z) (dW z d n (len, ft, gc, fg, fo, gs, us) ++ [(o, .inl (z 0, 1, .inr (.inl fO)))]) sz)) (va_Qi (fun r (v : dSt × (Nat → Int64)) => (r = 0 ∧ ∃ r0 : Int32, v.2 0 = r0.toInt64 ∧ (∃ (i : Nat) (y : pg_F), x = nI i ∧ i < 5 ∧ pr_text tx len n gc g = some y ∧ ((∃ (L : List pg_F) (j : Nat), pg_row n (Gs i) L ∧ L[j]? = some y ∧ r0 = nI j) ∨ (¬ Gs i y ∧ r0 = -1))) ∧ dRp n (tx, len, g, gc, tg, Gs) v.1) ∨ (r = 1 ∧ ¬ iN x 5 ∧ dRp n (tx, len, g, gc, tg, Gs) v.1) ∨ (r = 2 ∧ (iN x 5 ∧ pr_text tx len n gc g = none) ∧ dRp n (tx, len, g, gc, tg, Gs) v.1)) (fun v t => va_P D vC (dW z d n v.1 ++ [(o, .inl (z 0, 1, .inr (.inl v.2)))]) t.heap ∧ va_D (va_A (dW z d n (len, ft, gc, fg, fo, gs, us) ++ [(o, .inl (z 0, 1, .inr (.inl fO)))]) sz) (dW z d n v.1 ++ [(o, .inl (z 0, 1, .inr (.inl v.2)))])) (va_A (dW z d n (len, ft, gc, fg, fo, gs, us) ++ [(o, .inl (z 0, 1, .inr (.inl fO)))]) sz)) 3 19 (va_A (dW z d n (len, ft, gc, fg, fo, gs, us) ++ [(o, .inl (z 0, 1, .inr (.inl fO)))]) sz) := by
  refine va_MetW (cc := method_14_code) (maxL := 4) (ret := (some .int)) (hh := [(0, 9, 12, 15), (0, 9, 15, 13)]) (by decide) rfl ?_
  intro p e s m args below meth c s₁ B hml hv
  have hx := B.exec
  have hb := B.bytes
  have hr := B.returns
  have ht : ∀ w ∈ TB, w.before args s = true := fun w h => atoms_spec (ws := wL_rank) B.pre w (List.mem_cons_of_mem _ h)
  have hown : s.vm.findClass "PermutationDeskLaw" = some m.cls := findClass_of_methodNamed B.named
  have hT := vx_table (x := yL_rank) B (atoms_spec (ws := wL_rank) B.pre _ List.mem_cons_self)
  obtain ⟨rfl, ⟨hsz, hP, hK, hD0⟩, hV, hH⟩ := hv
  subst hsz
  have hD := hD0.self (sz := s.heap.size)
  generalize hAe : va_A (dW z d n (len, ft, gc, fg, fo, gs, us) ++ [(o, .inl (z 0, 1, .inr (.inl fO)))]) s.heap.size = A at hD hH ⊢
  have hA : ∀ q : Nat, s.heap.size ≤ q → A q := fun q h => by rw [← hAe]; exact Or.inr h
  have hS : va_S A s.heap s.heap [] := va_S.rf
  have hl := lv_entry ([.ref (d 0), .int x, .ref o]) (n := 4) (Nat.le_of_ble_eq_true rfl)
  rw [lg_entry_eq]
  generalize (lg_sl ([.ref (d 0), .int x, .ref o]) ++ List.replicate (4 - (lg_sl ([.ref (d 0), .int x, .ref o])).length) Slot.unset).toArray = ls at hl ⊢
  have hl : lv_has ls 4 [(0, .ref (d 0)), (1, .int x), (2, .ref o)] := hl
  refine lv_aload_n hx hb dL_rank_0 rfl (lv_at hl 2 rfl) ?_
  refine lv_iconst (v := 0) hx hb dL_rank_1 (by decide) ?_
  refine lv_aload_n hx hb dL_rank_2 rfl (lv_at hl 0 rfl) ?_
  refine lv_iload_n hx hb dL_rank_3 rfl (lv_at hl 1 rfl) ?_
  refine qX_i (ci := 2) (q0 := 0) (wr := [(o, .inl (z 0, 1, .inr (.inl fO)))]) (As := [.int x]) (rest := [.int 0, .ref o]) ⟨hx, hb, hml, hown, ht⟩ (c_D_rank l hst D z d s.heap.size n len gc ft fg fo gs us tx g tg Gs hR x) (cB 1 ht gD_rank rfl tw_59 tw_600 (by decide +kernel) ⟨by decide, by decide⟩) tw_601 tw_602 hK hP hD hS hA hV hH [0, 1, 2, 3, 4, 5, 6, 7, 8, 9, 10, 11, 12, 13, 14, 15, 16, 17, 18, 19, 20, 21, 22, 23, 24, 25, 26, 27, 28, 29, 30, 31, 32] [33] rfl rfl rfl rfl (by decide) rfl rfl rfl rfl hl.1 rfl (Nat.le_of_ble_eq_true rfl) dL_rank_4 ⟨by decide, by decide⟩ (fun E9 ce q9 u4 H locs h4 hP hD hS k1 k2 k3 => ?_) (fun r4 u4 H locs h4 hP hD hS => ?_)
  · rcases h4 with ⟨(⟨rfl, hc⟩ | ⟨rfl, hc⟩), hv9⟩
    · skip
      subst hv9
      replace hP := hP.sub (ws' := dW z d n (len, ft, gc, fg, fo, gs, us) ++ [(o, .inl (z 0, 1, .inr (.inl fO)))]) [1, 2, 3, 4, 5, 6, 7, 8, 9, 10, 11, 12, 13, 14, 15, 16, 17, 18, 19, 20, 21, 22, 23, 24, 25, 26, 27, 28, 29, 30, 31, 32, 33, 0] rfl
      replace hD := hD.sub (ws' := dW z d n (len, ft, gc, fg, fo, gs, us) ++ [(o, .inl (z 0, 1, .inr (.inl fO)))]) [1, 2, 3, 4, 5, 6, 7, 8, 9, 10, 11, 12, 13, 14, 15, 16, 17, 18, 19, 20, 21, 22, 23, 24, 25, 26, 27, 28, 29, 30, 31, 32, 33, 0] rfl rfl
      refine vx_catch (E := eIO) (name := eIO) hown [] ⟨0, 9, 12, 15⟩ [⟨0, 9, 15, 13⟩] hT (fun z hz => absurd hz List.not_mem_nil) (by decide) (by decide) (ht _ tw_173) (va_Nw.use rfl (hV.2.1 eIO (by decide))) k1 k2 k3 ?_
      refine lv_astore_n hx hb dL_rank_12 rfl hl (by decide) rfl (fun ls hl => ?_)
      replace hl : lv_has ls 4 [(3, .ref q9), (0, .ref (d 0)), (1, .int x), (2, .ref o)] := hl
      refine lv_iconst (v := 1) hx hb dL_rank_13 (by decide) ?_
      exact W.iret hx hb hr (fun t9 ht hW => ⟨⟨_, ((len, ft, gc, fg, fo, gs, us), fO), rfl, Or.inr (Or.inl (⟨rfl, hc, hR.rp gs⟩)), by rw [ht]; exact hP, hD⟩, hS.F ht⟩) hS.2.2 dL_rank_14
    · skip
      subst hv9
      replace hP := hP.sub (ws' := dW z d n (len, ft, gc, fg, fo, gs, us) ++ [(o, .inl (z 0, 1, .inr (.inl fO)))]) [1, 2, 3, 4, 5, 6, 7, 8, 9, 10, 11, 12, 13, 14, 15, 16, 17, 18, 19, 20, 21, 22, 23, 24, 25, 26, 27, 28, 29, 30, 31, 32, 33, 0] rfl
      replace hD := hD.sub (ws' := dW z d n (len, ft, gc, fg, fo, gs, us) ++ [(o, .inl (z 0, 1, .inr (.inl fO)))]) [1, 2, 3, 4, 5, 6, 7, 8, 9, 10, 11, 12, 13, 14, 15, 16, 17, 18, 19, 20, 21, 22, 23, 24, 25, 26, 27, 28, 29, 30, 31, 32, 33, 0] rfl rfl
      refine vx_catch (E := eIA) (name := eIA) hown [⟨0, 9, 12, 15⟩] ⟨0, 9, 15, 13⟩ [] hT (fun z hz => Or.inr ⟨by rw [List.mem_singleton.mp hz]; decide, eIO, by rw [List.mem_singleton.mp hz]; exact ht _ tw_173, hV.2.2.2.2.2.2.2 (eIA, eIO) (by decide)⟩) (by decide) (by decide) (ht _ tw_172) (va_Nw.use rfl (hV.2.1 eIA (by decide))) k1 k2 k3 ?_
      refine lv_astore_n hx hb dL_rank_15 rfl hl (by decide) rfl (fun ls hl => ?_)
      replace hl : lv_has ls 4 [(3, .ref q9), (0, .ref (d 0)), (1, .int x), (2, .ref o)] := hl
      refine lv_iconst (v := 2) hx hb dL_rank_16 (by decide) ?_
      exact W.iret hx hb hr (fun t9 ht hW => ⟨⟨_, ((len, ft, gc, fg, fo, gs, us), fO), rfl, Or.inr (Or.inr (⟨rfl, hc, hR.rp gs⟩)), by rw [ht]; exact hP, hD⟩, hS.F ht⟩) hS.2.2 dL_rank_17
  obtain ⟨hex, rfl⟩ := h4
  replace hP := hP.sub (ws' := dW z d n (len, ft, gc, fg, fo, gs, us) ++ [(o, .inl (z 0, 1, .inr (.inl fO)))]) [1, 2, 3, 4, 5, 6, 7, 8, 9, 10, 11, 12, 13, 14, 15, 16, 17, 18, 19, 20, 21, 22, 23, 24, 25, 26, 27, 28, 29, 30, 31, 32, 33, 0] rfl
  replace hD := hD.sub (ws' := dW z d n (len, ft, gc, fg, fo, gs, us) ++ [(o, .inl (z 0, 1, .inr (.inl fO)))]) [1, 2, 3, 4, 5, 6, 7, 8, 9, 10, 11, 12, 13, 14, 15, 16, 17, 18, 19, 20, 21, 22, 23, 24, 25, 26, 27, 28, 29, 30, 31, 32, 33, 0] rfl rfl
  refine lv_i2l hx hb dL_rank_7 rfl ?_
  refine va_last hx hb hK hP hD hS 33 0 rfl rfl (vp_in_nI (n := 0) (N := 1) (by decide) (by decide)) dL_rank_8 (fun H locs hP hD hS => ?_)
  refine lv_goto (tgt := 18) hx hb dL_rank_9 rfl ?_
  refine lv_iconst (v := 0) hx hb dL_rank_18 (by decide) ?_
  exact W.iret hx hb hr (fun t9 ht hW => ⟨⟨_, ((len, ft, gc, fg, fo, gs, us), vp_updL fO 0 r4.toInt64), rfl, Or.inl ⟨rfl, r4, rfl, hex, hR.rp gs⟩, by rw [ht]; exact hP, hD⟩, hS.F ht⟩) hS.2.2 dL_rank_19
set_option maxHeartbeats 4000000 in
set_option maxRecDepth 100000 in
theorem c_L_element (l : Launch) (hst : l.stackTraces = false) (D : va_G) (z : Nat → ClassId) (d : Nat → Nat) (sz n len gc : Nat) (ft : Nat → Int32) (fg fo : Nat → Int64) (gs : Nat → Nat → Nat) (us : Nat → gSt) (tx : Nat → Nat) (g : Nat → pg_F) (tg : Nat → Option pg_F) (Gs : Nat → pg_F → Prop) (hR : dR n tx len g gc tg Gs ft fg fo us) (o : Nat) (fO : Nat → Int64) (x y w : Int32) : Met l yL_element wL_element (rmX 26 3 18) (va_Pc [.ref (d 0), .int x, .int y, .int w, .ref o] (xPc D (tyL z) (dW z d n (len, ft, gc, fg, fo, gs, us) ++ [(o, .inl (z 0, 1, .inr (.inl fO)))]) sz)) (va_Qi (fun r (v : dSt × (Nat → Int64)) => (r = 0 ∧ ∃ r0 : Int32, v.2 0 = r0.toInt64 ∧ (∃ (i j k : Nat) (L : List pg_F) (q : pg_F), x = nI i ∧ i < 5 ∧ w = nI k ∧ k < n ∧ pg_row n (Gs i) L ∧ y = nI j ∧ L[j]? = some q ∧ r0 = nI (q k)) ∧ dRp n (tx, len, g, gc, tg, Gs) v.1) ∨ (r = 1 ∧ (¬ ∃ (i : Nat) (L : List pg_F), x = nI i ∧ i < 5 ∧ iN w n ∧ pg_row n (Gs i) L ∧ iN y L.length) ∧ dRp n (tx, len, g, gc, tg, Gs) v.1)) (fun v t => va_P D vC (dW z d n v.1 ++ [(o, .inl (z 0, 1, .inr (.inl v.2)))]) t.heap ∧ va_D (va_A (dW z d n (len, ft, gc, fg, fo, gs, us) ++ [(o, .inl (z 0, 1, .inr (.inl fO)))]) sz) (dW z d n v.1 ++ [(o, .inl (z 0, 1, .inr (.inl v.2)))])) (va_A (dW z d n (len, ft, gc, fg, fo, gs, us) ++ [(o, .inl (z 0, 1, .inr (.inl fO)))]) sz)) 3 18 (va_A (dW z d n (len, ft, gc, fg, fo, gs, us) ++ [(o, .inl (z 0, 1, .inr (.inl fO)))]) sz) := by
  refine va_MetW (cc := method_15_code) (maxL := 6) (ret := (some .int)) (hh := [(0, 12, 15, 15)]) (by decide) rfl ?_
  intro p e s m args below meth c s₁ B hml hv
  have hx := B.exec
  have hb := B.bytes
  have hr := B.returns
  have ht : ∀ w ∈ TB, w.before args s = true := fun w h => atoms_spec (ws := wL_element) B.pre w (List.mem_cons_of_mem _ h)
  have hown : s.vm.findClass "PermutationDeskLaw" = some m.cls := findClass_of_methodNamed B.named
  have hT := vx_table (x := yL_element) B (atoms_spec (ws := wL_element) B.pre _ List.mem_cons_self)
  obtain ⟨rfl, ⟨hsz, hP, hK, hD0⟩, hV, hH⟩ := hv
  subst hsz
  have hD := hD0.self (sz := s.heap.size)
  generalize hAe : va_A (dW z d n (len, ft, gc, fg, fo, gs, us) ++ [(o, .inl (z 0, 1, .inr (.inl fO)))]) s.heap.size = A at hD hH ⊢
  have hA : ∀ q : Nat, s.heap.size ≤ q → A q := fun q h => by rw [← hAe]; exact Or.inr h
  have hS : va_S A s.heap s.heap [] := va_S.rf
  have hl := lv_entry ([.ref (d 0), .int x, .int y, .int w, .ref o]) (n := 6) (Nat.le_of_ble_eq_true rfl)
  rw [lg_entry_eq]
  generalize (lg_sl ([.ref (d 0), .int x, .int y, .int w, .ref o]) ++ List.replicate (6 - (lg_sl ([.ref (d 0), .int x, .int y, .int w, .ref o])).length) Slot.unset).toArray = ls at hl ⊢
  have hl : lv_has ls 6 [(0, .ref (d 0)), (1, .int x), (2, .int y), (3, .int w), (4, .ref o)] := hl
  refine lv_aload hx hb dL_element_0 (lv_at hl 4 rfl) ?_
  refine lv_iconst (v := 0) hx hb dL_element_2 (by decide) ?_
  refine lv_aload_n hx hb dL_element_3 rfl (lv_at hl 0 rfl) ?_
  refine lv_iload_n hx hb dL_element_4 rfl (lv_at hl 1 rfl) ?_
  refine lv_iload_n hx hb dL_element_5 rfl (lv_at hl 2 rfl) ?_
  refine lv_iload_n hx hb dL_element_6 rfl (lv_at hl 3 rfl) ?_
  refine qX_i (ci := 2) (q0 := 0) (wr := [(o, .inl (z 0, 1, .inr (.inl fO)))]) (As := [.int x, .int y, .int w]) (rest := [.int 0, .ref o]) ⟨hx, hb, hml, hown, ht⟩ (c_D_element l hst D z d s.heap.size n len gc ft fg fo gs us tx g tg Gs hR x y w) (cB 3 ht gD_element rfl tw_59 tw_615 (by decide +kernel) ⟨by decide, by decide⟩) tw_616 tw_617 hK hP hD hS hA hV hH [0, 1, 2, 3, 4, 5, 6, 7, 8, 9, 10, 11, 12, 13, 14, 15, 16, 17, 18, 19, 20, 21, 22, 23, 24, 25, 26, 27, 28, 29, 30, 31, 32] [33] rfl rfl rfl rfl (by decide) rfl rfl rfl rfl hl.1 rfl (Nat.le_of_ble_eq_true rfl) dL_element_7 ⟨by decide, by decide⟩ (fun E9 ce q9 u7 H locs h7 hP hD hS k1 k2 k3 => ?_) (fun r7 u7 H locs h7 hP hD hS => ?_)
  · obtain ⟨⟨rfl, hc⟩, hv9⟩ := h7
    subst hv9
    replace hP := hP.sub (ws' := dW z d n (len, ft, gc, fg, fo, gs, us) ++ [(o, .inl (z 0, 1, .inr (.inl fO)))]) [1, 2, 3, 4, 5, 6, 7, 8, 9, 10, 11, 12, 13, 14, 15, 16, 17, 18, 19, 20, 21, 22, 23, 24, 25, 26, 27, 28, 29, 30, 31, 32, 33, 0] rfl
    replace hD := hD.sub (ws' := dW z d n (len, ft, gc, fg, fo, gs, us) ++ [(o, .inl (z 0, 1, .inr (.inl fO)))]) [1, 2, 3, 4, 5, 6, 7, 8, 9, 10, 11, 12, 13, 14, 15, 16, 17, 18, 19, 20, 21, 22, 23, 24, 25, 26, 27, 28, 29, 30, 31, 32, 33, 0] rfl rfl
    refine vx_catch (E := eIO) (name := eIO) hown [] ⟨0, 12, 15, 15⟩ [] hT (fun z hz => absurd hz List.not_mem_nil) (by decide) (by decide) (ht _ tw_173) (va_Nw.use rfl (hV.2.1 eIO (by decide))) k1 k2 k3 ?_
    refine lv_astore hx hb dL_element_15 hl (by decide) rfl (fun ls hl => ?_)
    replace hl : lv_has ls 6 [(5, .ref q9), (0, .ref (d 0)), (1, .int x), (2, .int y), (3, .int w), (4, .ref o)] := hl
    refine lv_iconst (v := 1) hx hb dL_element_17 (by decide) ?_
    exact W.iret hx hb hr (fun t9 ht hW => ⟨⟨_, ((len, ft, gc, fg, fo, gs, us), fO), rfl, Or.inr (⟨rfl, hc, hR.rp gs⟩), by rw [ht]; exact hP, hD⟩, hS.F ht⟩) hS.2.2 dL_element_18
  obtain ⟨hex, rfl⟩ := h7
  replace hP := hP.sub (ws' := dW z d n (len, ft, gc, fg, fo, gs, us) ++ [(o, .inl (z 0, 1, .inr (.inl fO)))]) [1, 2, 3, 4, 5, 6, 7, 8, 9, 10, 11, 12, 13, 14, 15, 16, 17, 18, 19, 20, 21, 22, 23, 24, 25, 26, 27, 28, 29, 30, 31, 32, 33, 0] rfl
  replace hD := hD.sub (ws' := dW z d n (len, ft, gc, fg, fo, gs, us) ++ [(o, .inl (z 0, 1, .inr (.inl fO)))]) [1, 2, 3, 4, 5, 6, 7, 8, 9, 10, 11, 12, 13, 14, 15, 16, 17, 18, 19, 20, 21, 22, 23, 24, 25, 26, 27, 28, 29, 30, 31, 32, 33, 0] rfl rfl
  refine lv_i2l hx hb dL_element_10 rfl ?_
  refine va_last hx hb hK hP hD hS 33 0 rfl rfl (vp_in_nI (n := 0) (N := 1) (by decide) (by decide)) dL_element_11 (fun H locs hP hD hS => ?_)
  refine lv_goto (tgt := 19) hx hb dL_element_12 rfl ?_
  refine lv_iconst (v := 0) hx hb dL_element_19 (by decide) ?_
  exact W.iret hx hb hr (fun t9 ht hW => ⟨⟨_, ((len, ft, gc, fg, fo, gs, us), vp_updL fO 0 r7.toInt64), rfl, Or.inl ⟨rfl, r7, rfl, hex, hR.rp gs⟩, by rw [ht]; exact hP, hD⟩, hS.F ht⟩) hS.2.2 dL_element_20
set_option maxHeartbeats 4000000 in
set_option maxRecDepth 100000 in
theorem c_L_orbit (l : Launch) (hst : l.stackTraces = false) (D : va_G) (z : Nat → ClassId) (d : Nat → Nat) (sz n len gc : Nat) (ft : Nat → Int32) (fg fo : Nat → Int64) (gs : Nat → Nat → Nat) (us : Nat → gSt) (tx : Nat → Nat) (g : Nat → pg_F) (tg : Nat → Option pg_F) (Gs : Nat → pg_F → Prop) (hR : dR n tx len g gc tg Gs ft fg fo us) (o : Nat) (fO : Nat → Int64) (x y : Int32) : Met l yL_orbit wL_orbit (rmX 26 2 12) (va_Pc [.ref (d 0), .int x, .int y, .ref o] (xPc D (tyL z) (dW z d n (len, ft, gc, fg, fo, gs, us) ++ [(o, .inl (z 0, 1, .inr (.inl fO)))]) sz)) (va_Qi (fun r (v : dSt × (Nat → Int64)) => (r = 0 ∧ ∃ r0 : Int32, v.2 0 = r0.toInt64 ∧ (∃ i k t : Nat, x = nI i ∧ i < 5 ∧ y = nI k ∧ k < n ∧ r0 = nI t ∧ ∀ q, t.testBit q = true ↔ ∃ w, Gs i w ∧ w k = q) ∧ dRp n (tx, len, g, gc, tg, Gs) v.1) ∨ (r = 1 ∧ ¬ (iN x 5 ∧ iN y n) ∧ dRp n (tx, len, g, gc, tg, Gs) v.1)) (fun v t => va_P D vC (dW z d n v.1 ++ [(o, .inl (z 0, 1, .inr (.inl v.2)))]) t.heap ∧ va_D (va_A (dW z d n (len, ft, gc, fg, fo, gs, us) ++ [(o, .inl (z 0, 1, .inr (.inl fO)))]) sz) (dW z d n v.1 ++ [(o, .inl (z 0, 1, .inr (.inl v.2)))])) (va_A (dW z d n (len, ft, gc, fg, fo, gs, us) ++ [(o, .inl (z 0, 1, .inr (.inl fO)))]) sz)) 2 12 (va_A (dW z d n (len, ft, gc, fg, fo, gs, us) ++ [(o, .inl (z 0, 1, .inr (.inl fO)))]) sz) := by
  refine va_MetW (cc := method_16_code) (maxL := 5) (ret := (some .int)) (hh := [(0, 10, 13, 15)]) (by decide) rfl ?_
  intro p e s m args below meth c s₁ B hml hv
  have hx := B.exec
  have hb := B.bytes
  have hr := B.returns
  have ht : ∀ w ∈ TB, w.before args s = true := fun w h => atoms_spec (ws := wL_orbit) B.pre w (List.mem_cons_of_mem _ h)
  have hown : s.vm.findClass "PermutationDeskLaw" = some m.cls := findClass_of_methodNamed B.named
  have hT := vx_table (x := yL_orbit) B (atoms_spec (ws := wL_orbit) B.pre _ List.mem_cons_self)
  obtain ⟨rfl, ⟨hsz, hP, hK, hD0⟩, hV, hH⟩ := hv
  subst hsz
  have hD := hD0.self (sz := s.heap.size)
  generalize hAe : va_A (dW z d n (len, ft, gc, fg, fo, gs, us) ++ [(o, .inl (z 0, 1, .inr (.inl fO)))]) s.heap.size = A at hD hH ⊢
  have hA : ∀ q : Nat, s.heap.size ≤ q → A q := fun q h => by rw [← hAe]; exact Or.inr h
  have hS : va_S A s.heap s.heap [] := va_S.rf
  have hl := lv_entry ([.ref (d 0), .int x, .int y, .ref o]) (n := 5) (Nat.le_of_ble_eq_true rfl)
  rw [lg_entry_eq]
  generalize (lg_sl ([.ref (d 0), .int x, .int y, .ref o]) ++ List.replicate (5 - (lg_sl ([.ref (d 0), .int x, .int y, .ref o])).length) Slot.unset).toArray = ls at hl ⊢
  have hl : lv_has ls 5 [(0, .ref (d 0)), (1, .int x), (2, .int y), (3, .ref o)] := hl
  refine lv_aload_n hx hb dL_orbit_0 rfl (lv_at hl 3 rfl) ?_
  refine lv_iconst (v := 0) hx hb dL_orbit_1 (by decide) ?_
  refine lv_aload_n hx hb dL_orbit_2 rfl (lv_at hl 0 rfl) ?_
  refine lv_iload_n hx hb dL_orbit_3 rfl (lv_at hl 1 rfl) ?_
  refine lv_iload_n hx hb dL_orbit_4 rfl (lv_at hl 2 rfl) ?_
  refine qX_i (ci := 2) (q0 := 0) (wr := [(o, .inl (z 0, 1, .inr (.inl fO)))]) (As := [.int x, .int y]) (rest := [.int 0, .ref o]) ⟨hx, hb, hml, hown, ht⟩ (c_D_orbit l hst D z d s.heap.size n len gc ft fg fo gs us tx g tg Gs hR x y) (cB 2 ht gD_orbit rfl tw_59 tw_627 (by decide +kernel) ⟨by decide, by decide⟩) tw_628 tw_629 hK hP hD hS hA hV hH [0, 1, 2, 3, 4, 5, 6, 7, 8, 9, 10, 11, 12, 13, 14, 15, 16, 17, 18, 19, 20, 21, 22, 23, 24, 25, 26, 27, 28, 29, 30, 31, 32] [33] rfl rfl rfl rfl (by decide) rfl rfl rfl rfl hl.1 rfl (Nat.le_of_ble_eq_true rfl) dL_orbit_5 ⟨by decide, by decide⟩ (fun E9 ce q9 u5 H locs h5 hP hD hS k1 k2 k3 => ?_) (fun r5 u5 H locs h5 hP hD hS => ?_)
  · obtain ⟨⟨rfl, hc⟩, hv9⟩ := h5
    subst hv9
    replace hP := hP.sub (ws' := dW z d n (len, ft, gc, fg, fo, gs, us) ++ [(o, .inl (z 0, 1, .inr (.inl fO)))]) [1, 2, 3, 4, 5, 6, 7, 8, 9, 10, 11, 12, 13, 14, 15, 16, 17, 18, 19, 20, 21, 22, 23, 24, 25, 26, 27, 28, 29, 30, 31, 32, 33, 0] rfl
    replace hD := hD.sub (ws' := dW z d n (len, ft, gc, fg, fo, gs, us) ++ [(o, .inl (z 0, 1, .inr (.inl fO)))]) [1, 2, 3, 4, 5, 6, 7, 8, 9, 10, 11, 12, 13, 14, 15, 16, 17, 18, 19, 20, 21, 22, 23, 24, 25, 26, 27, 28, 29, 30, 31, 32, 33, 0] rfl rfl
    refine vx_catch (E := eIO) (name := eIO) hown [] ⟨0, 10, 13, 15⟩ [] hT (fun z hz => absurd hz List.not_mem_nil) (by decide) (by decide) (ht _ tw_173) (va_Nw.use rfl (hV.2.1 eIO (by decide))) k1 k2 k3 ?_
    refine lv_astore hx hb dL_orbit_13 hl (by decide) rfl (fun ls hl => ?_)
    replace hl : lv_has ls 5 [(4, .ref q9), (0, .ref (d 0)), (1, .int x), (2, .int y), (3, .ref o)] := hl
    refine lv_iconst (v := 1) hx hb dL_orbit_15 (by decide) ?_
    exact W.iret hx hb hr (fun t9 ht hW => ⟨⟨_, ((len, ft, gc, fg, fo, gs, us), fO), rfl, Or.inr (⟨rfl, hc, hR.rp gs⟩), by rw [ht]; exact hP, hD⟩, hS.F ht⟩) hS.2.2 dL_orbit_16
  obtain ⟨hex, rfl⟩ := h5
  replace hP := hP.sub (ws' := dW z d n (len, ft, gc, fg, fo, gs, us) ++ [(o, .inl (z 0, 1, .inr (.inl fO)))]) [1, 2, 3, 4, 5, 6, 7, 8, 9, 10, 11, 12, 13, 14, 15, 16, 17, 18, 19, 20, 21, 22, 23, 24, 25, 26, 27, 28, 29, 30, 31, 32, 33, 0] rfl
  replace hD := hD.sub (ws' := dW z d n (len, ft, gc, fg, fo, gs, us) ++ [(o, .inl (z 0, 1, .inr (.inl fO)))]) [1, 2, 3, 4, 5, 6, 7, 8, 9, 10, 11, 12, 13, 14, 15, 16, 17, 18, 19, 20, 21, 22, 23, 24, 25, 26, 27, 28, 29, 30, 31, 32, 33, 0] rfl rfl
  refine lv_i2l hx hb dL_orbit_8 rfl ?_
  refine va_last hx hb hK hP hD hS 33 0 rfl rfl (vp_in_nI (n := 0) (N := 1) (by decide) (by decide)) dL_orbit_9 (fun H locs hP hD hS => ?_)
  refine lv_goto (tgt := 17) hx hb dL_orbit_10 rfl ?_
  refine lv_iconst (v := 0) hx hb dL_orbit_17 (by decide) ?_
  exact W.iret hx hb hr (fun t9 ht hW => ⟨⟨_, ((len, ft, gc, fg, fo, gs, us), vp_updL fO 0 r5.toInt64), rfl, Or.inl ⟨rfl, r5, rfl, hex, hR.rp gs⟩, by rw [ht]; exact hP, hD⟩, hS.F ht⟩) hS.2.2 dL_orbit_18
set_option maxHeartbeats 4000000 in
set_option maxRecDepth 100000 in
theorem c_L_image (l : Launch) (hst : l.stackTraces = false) (D : va_G) (z : Nat → ClassId) (d : Nat → Nat) (sz n len gc : Nat) (ft : Nat → Int32) (fg fo : Nat → Int64) (gs : Nat → Nat → Nat) (us : Nat → gSt) (tx : Nat → Nat) (g : Nat → pg_F) (tg : Nat → Option pg_F) (Gs : Nat → pg_F → Prop) (hR : dR n tx len g gc tg Gs ft fg fo us) (o : Nat) (fO : Nat → Int64) (x : Int32) : Met l yL_image wL_image (rmX 26 3 19) (va_Pc [.ref (d 0), .int x] (xPc D (tyL z) (dW z d n (len, ft, gc, fg, fo, gs, us)) sz)) (va_Qi (fun r (v : dSt) => (r = 0 ∧ ∃ (y : pg_F) (k : Nat), pr_text tx len n gc g = some y ∧ x = nI k ∧ k < gc ∧ dRp n (tx, len, g, gc, va_up tg k (some y), Gs) v) ∨ (r = 1 ∧ pr_text tx len n gc g = none ∧ dRp n (tx, len, g, gc, tg, Gs) v) ∨ (r = 2 ∧ (pr_text tx len n gc g ≠ none ∧ ¬ iN x gc) ∧ dRp n (tx, len, g, gc, tg, Gs) v)) (fun v t => va_P D vC (dW z d n v) t.heap ∧ va_D (va_A (dW z d n (len, ft, gc, fg, fo, gs, us)) sz) (dW z d n v)) (va_A (dW z d n (len, ft, gc, fg, fo, gs, us)) sz)) 3 19 (va_A (dW z d n (len, ft, gc, fg, fo, gs, us)) sz) := by
  refine va_MetW (cc := method_5_code) (maxL := 3) (ret := (some .int)) (hh := [(0, 5, 8, 13), (0, 5, 11, 15)]) (by decide) rfl ?_
  intro p e s m args below meth c s₁ B hml hv
  have hx := B.exec
  have hb := B.bytes
  have hr := B.returns
  have ht : ∀ w ∈ TB, w.before args s = true := fun w h => atoms_spec (ws := wL_image) B.pre w (List.mem_cons_of_mem _ h)
  have hown : s.vm.findClass "PermutationDeskLaw" = some m.cls := findClass_of_methodNamed B.named
  have hT := vx_table (x := yL_image) B (atoms_spec (ws := wL_image) B.pre _ List.mem_cons_self)
  obtain ⟨rfl, ⟨hsz, hP, hK, hD0⟩, hV, hH⟩ := hv
  subst hsz
  have hD := hD0.self (sz := s.heap.size)
  generalize hAe : va_A (dW z d n (len, ft, gc, fg, fo, gs, us)) s.heap.size = A at hD hH ⊢
  have hA : ∀ q : Nat, s.heap.size ≤ q → A q := fun q h => by rw [← hAe]; exact Or.inr h
  have hS : va_S A s.heap s.heap [] := va_S.rf
  have hl := lv_entry ([.ref (d 0), .int x]) (n := 3) (Nat.le_of_ble_eq_true rfl)
  rw [lg_entry_eq]
  generalize (lg_sl ([.ref (d 0), .int x]) ++ List.replicate (3 - (lg_sl ([.ref (d 0), .int x])).length) Slot.unset).toArray = ls at hl ⊢
  have hl : lv_has ls 3 [(0, .ref (d 0)), (1, .int x)] := hl
  refine lv_aload_n hx hb dL_image_0 rfl (lv_at hl 0 rfl) ?_
  refine lv_iload_n hx hb dL_image_1 rfl (lv_at hl 1 rfl) ?_
  refine qX_v (ci := 2) (q0 := 0) (wr := []) (As := [.int x]) (rest := []) ⟨hx, hb, hml, hown, ht⟩ (c_D_image l hst D z d s.heap.size n len gc ft fg fo gs us tx g tg Gs hR x) (cB 1 ht gD_image rfl tw_59 tw_419 (by decide +kernel) ⟨by decide, by decide⟩) tw_420 tw_421 hK hP hD hS hA hV hH [0, 1, 2, 3, 4, 5, 6, 7, 8, 9, 10, 11, 12, 13, 14, 15, 16, 17, 18, 19, 20, 21, 22, 23, 24, 25, 26, 27, 28, 29, 30, 31, 32] [] rfl rfl rfl rfl (by decide) rfl rfl rfl rfl hl.1 rfl (Nat.le_of_ble_eq_true rfl) dL_image_2 ⟨by decide, by decide⟩ (fun E9 ce q9 u2 H locs h2 hP hD hS k1 k2 k3 => ?_) (fun u2 H locs h2 hP hD hS => ?_)
  · rcases h2 with ⟨(⟨rfl, hc⟩ | ⟨rfl, hc⟩), hv9⟩
    · skip
      replace hP : va_P D vC (dW z d n u2) H := hP
      replace hD : va_D A (dW z d n u2) := hD
      refine vx_catch (E := eIA) (name := eIA) hown [] ⟨0, 5, 8, 13⟩ [⟨0, 5, 11, 15⟩] hT (fun z hz => absurd hz List.not_mem_nil) (by decide) (by decide) (ht _ tw_172) (va_Nw.use rfl (hV.2.1 eIA (by decide))) k1 k2 k3 ?_
      refine lv_astore_n hx hb dL_image_8 rfl hl (by decide) rfl (fun ls hl => ?_)
      replace hl : lv_has ls 3 [(2, .ref q9), (0, .ref (d 0)), (1, .int x)] := hl
      refine lv_iconst (v := 1) hx hb dL_image_9 (by decide) ?_
      exact W.iret hx hb hr (fun t9 ht hW => ⟨⟨_, u2, rfl, Or.inr (Or.inl (⟨rfl, hc, hv9⟩)), by rw [ht]; exact hP, hD⟩, hS.F ht⟩) hS.2.2 dL_image_10
    · skip
      replace hP : va_P D vC (dW z d n u2) H := hP
      replace hD : va_D A (dW z d n u2) := hD
      refine vx_catch (E := eIO) (name := eIO) hown [⟨0, 5, 8, 13⟩] ⟨0, 5, 11, 15⟩ [] hT (fun z hz => Or.inr ⟨by rw [List.mem_singleton.mp hz]; decide, eIA, by rw [List.mem_singleton.mp hz]; exact ht _ tw_172, hV.2.2.2.2.2.2.2 (eIO, eIA) (by decide)⟩) (by decide) (by decide) (ht _ tw_173) (va_Nw.use rfl (hV.2.1 eIO (by decide))) k1 k2 k3 ?_
      refine lv_astore_n hx hb dL_image_11 rfl hl (by decide) rfl (fun ls hl => ?_)
      replace hl : lv_has ls 3 [(2, .ref q9), (0, .ref (d 0)), (1, .int x)] := hl
      refine lv_iconst (v := 2) hx hb dL_image_12 (by decide) ?_
      exact W.iret hx hb hr (fun t9 ht hW => ⟨⟨_, u2, rfl, Or.inr (Or.inr (⟨rfl, hc, hv9⟩)), by rw [ht]; exact hP, hD⟩, hS.F ht⟩) hS.2.2 dL_image_13
  replace hP : va_P D vC (dW z d n u2) H := hP
  replace hD : va_D A (dW z d n u2) := hD
  refine lv_goto (tgt := 14) hx hb dL_image_5 rfl ?_
  refine lv_iconst (v := 0) hx hb dL_image_14 (by decide) ?_
  exact W.iret hx hb hr (fun t9 ht hW => ⟨⟨_, u2, rfl, Or.inl ⟨rfl, h2⟩, by rw [ht]; exact hP, hD⟩, hS.F ht⟩) hS.2.2 dL_image_15
set_option maxHeartbeats 4000000 in
set_option maxRecDepth 100000 in
theorem c_L_extend (l : Launch) (hst : l.stackTraces = false) (D : va_G) (z : Nat → ClassId) (d : Nat → Nat) (sz n len gc : Nat) (ft : Nat → Int32) (fg fo : Nat → Int64) (gs : Nat → Nat → Nat) (us : Nat → gSt) (tx : Nat → Nat) (g : Nat → pg_F) (tg : Nat → Option pg_F) (Gs : Nat → pg_F → Prop) (hR : dR n tx len g gc tg Gs ft fg fo us) (o : Nat) (fO : Nat → Int64) : Met l yL_extend wL_extend (rmX 26 1 6) (va_Pc [.ref (d 0), .ref o] (xPc D (tyL z) (dW z d n (len, ft, gc, fg, fo, gs, us) ++ [(o, .inl (z 0, 1, .inr (.inl fO)))]) sz)) (va_Qi (fun r (v : dSt × (Nat → Int64)) => (r = 0 ∧ ∃ (tt : Nat → pg_F) (b : Bool), v.2 0 = (bI b).toInt64 ∧ aTg gc tg tt ∧ (b = true ↔ pg_hom n gc tt g) ∧ dRp n (tx, len, g, gc, tg, Gs) v.1) ∨ (r = 1 ∧ ¬ (∀ k, k < gc → tg k ≠ none) ∧ dRp n (tx, len, g, gc, tg, Gs) v.1)) (fun v t => va_P D vC (dW z d n v.1 ++ [(o, .inl (z 0, 1, .inr (.inl v.2)))]) t.heap ∧ va_D (va_A (dW z d n (len, ft, gc, fg, fo, gs, us) ++ [(o, .inl (z 0, 1, .inr (.inl fO)))]) sz) (dW z d n v.1 ++ [(o, .inl (z 0, 1, .inr (.inl v.2)))])) (va_A (dW z d n (len, ft, gc, fg, fo, gs, us) ++ [(o, .inl (z 0, 1, .inr (.inl fO)))]) sz)) 1 6 (va_A (dW z d n (len, ft, gc, fg, fo, gs, us) ++ [(o, .inl (z 0, 1, .inr (.inl fO)))]) sz) := by
  refine va_MetW (cc := method_6_code) (maxL := 3) (ret := (some .int)) (hh := [(0, 15, 18, 21)]) (by decide) rfl ?_
  intro p e s m args below meth c s₁ B hml hv
  have hx := B.exec
  have hb := B.bytes
  have hr := B.returns
  have ht : ∀ w ∈ TB, w.before args s = true := fun w h => atoms_spec (ws := wL_extend) B.pre w (List.mem_cons_of_mem _ h)
  have hown : s.vm.findClass "PermutationDeskLaw" = some m.cls := findClass_of_methodNamed B.named
  have hT := vx_table (x := yL_extend) B (atoms_spec (ws := wL_extend) B.pre _ List.mem_cons_self)
  obtain ⟨rfl, ⟨hsz, hP, hK, hD0⟩, hV, hH⟩ := hv
  subst hsz
  have hD := hD0.self (sz := s.heap.size)
  generalize hAe : va_A (dW z d n (len, ft, gc, fg, fo, gs, us) ++ [(o, .inl (z 0, 1, .inr (.inl fO)))]) s.heap.size = A at hD hH ⊢
  have hA : ∀ q : Nat, s.heap.size ≤ q → A q := fun q h => by rw [← hAe]; exact Or.inr h
  have hS : va_S A s.heap s.heap [] := va_S.rf
  have hl := lv_entry ([.ref (d 0), .ref o]) (n := 3) (Nat.le_of_ble_eq_true rfl)
  rw [lg_entry_eq]
  generalize (lg_sl ([.ref (d 0), .ref o]) ++ List.replicate (3 - (lg_sl ([.ref (d 0), .ref o])).length) Slot.unset).toArray = ls at hl ⊢
  have hl : lv_has ls 3 [(0, .ref (d 0)), (1, .ref o)] := hl
  refine lv_aload_n hx hb dL_extend_0 rfl (lv_at hl 1 rfl) ?_
  refine lv_iconst (v := 0) hx hb dL_extend_1 (by decide) ?_
  refine lv_aload_n hx hb dL_extend_2 rfl (lv_at hl 0 rfl) ?_
  refine qX_i (ci := 2) (q0 := 0) (wr := [(o, .inl (z 0, 1, .inr (.inl fO)))]) (As := []) (rest := [.int 0, .ref o]) ⟨hx, hb, hml, hown, ht⟩ (c_D_extend l hst D z d s.heap.size n len gc ft fg fo gs us tx g tg Gs hR) (cB 0 ht gD_extend rfl tw_59 tw_427 (by decide +kernel) ⟨by decide, by decide⟩) tw_428 tw_429 hK hP hD hS hA hV hH [0, 1, 2, 3, 4, 5, 6, 7, 8, 9, 10, 11, 12, 13, 14, 15, 16, 17, 18, 19, 20, 21, 22, 23, 24, 25, 26, 27, 28, 29, 30, 31, 32] [33] rfl rfl rfl rfl (by decide) rfl rfl rfl rfl hl.1 rfl (Nat.le_of_ble_eq_true rfl) dL_extend_3 ⟨by decide, by decide⟩ (fun E9 ce q9 u3 H locs h3 hP hD hS k1 k2 k3 => ?_) (fun r3 u3 H locs h3 hP hD hS => ?_)
  · obtain ⟨⟨rfl, hc⟩, hv9⟩ := h3
    replace hP := hP.sub (ws' := dW z d n u3 ++ [(o, .inl (z 0, 1, .inr (.inl fO)))]) [1, 2, 3, 4, 5, 6, 7, 8, 9, 10, 11, 12, 13, 14, 15, 16, 17, 18, 19, 20, 21, 22, 23, 24, 25, 26, 27, 28, 29, 30, 31, 32, 33, 0] rfl
    replace hD := hD.sub (ws' := dW z d n u3 ++ [(o, .inl (z 0, 1, .inr (.inl fO)))]) [1, 2, 3, 4, 5, 6, 7, 8, 9, 10, 11, 12, 13, 14, 15, 16, 17, 18, 19, 20, 21, 22, 23, 24, 25, 26, 27, 28, 29, 30, 31, 32, 33, 0] rfl rfl
    refine vx_catch (E := eIS) (name := eIS) hown [] ⟨0, 15, 18, 21⟩ [] hT (fun z hz => absurd hz List.not_mem_nil) (by decide) (by decide) (ht _ tw_371) (va_Nw.use rfl (hV.2.1 eIS (by decide))) k1 k2 k3 ?_
    refine lv_astore_n hx hb dL_extend_18 rfl hl (by decide) rfl (fun ls hl => ?_)
    replace hl : lv_has ls 3 [(2, .ref q9), (0, .ref (d 0)), (1, .ref o)] := hl
    refine lv_iconst (v := 1) hx hb dL_extend_19 (by decide) ?_
    exact W.iret hx hb hr (fun t9 ht hW => ⟨⟨_, (u3, fO), rfl, Or.inr (⟨rfl, hc, hv9⟩), by rw [ht]; exact hP, hD⟩, hS.F ht⟩) hS.2.2 dL_extend_20
  replace hP := hP.sub (ws' := dW z d n u3 ++ [(o, .inl (z 0, 1, .inr (.inl fO)))]) [1, 2, 3, 4, 5, 6, 7, 8, 9, 10, 11, 12, 13, 14, 15, 16, 17, 18, 19, 20, 21, 22, 23, 24, 25, 26, 27, 28, 29, 30, 31, 32, 33, 0] rfl
  replace hD := hD.sub (ws' := dW z d n u3 ++ [(o, .inl (z 0, 1, .inr (.inl fO)))]) [1, 2, 3, 4, 5, 6, 7, 8, 9, 10, 11, 12, 13, 14, 15, 16, 17, 18, 19, 20, 21, 22, 23, 24, 25, 26, 27, 28, 29, 30, 31, 32, 33, 0] rfl rfl
  obtain ⟨⟨tt, b, htt, rfl, hb9⟩, hdr⟩ := h3
  cases b with
  | false =>
    refine lv_if_eq (tgt := 13) hx hb dL_extend_6 rfl (fun h9 => ?_) (fun h9 => absurd rfl h9)
    refine lv_lconst (v := 0) hx hb dL_extend_13 (by decide) ?_
    refine va_last hx hb hK hP hD hS 33 0 rfl rfl (vp_in_nI (n := 0) (N := 1) (by decide) (by decide)) dL_extend_14 (fun H locs hP hD hS => ?_)
    refine lv_goto (tgt := 21) hx hb dL_extend_15 rfl ?_
    refine lv_iconst (v := 0) hx hb dL_extend_21 (by decide) ?_
    exact W.iret hx hb hr (fun t9 ht hW => ⟨⟨_, (u3, vp_updL fO 0 0), rfl, Or.inl ⟨rfl, tt, false, rfl, htt, hb9, hdr⟩, by rw [ht]; exact hP, hD⟩, hS.F ht⟩) hS.2.2 dL_extend_22
  | true =>
    refine lv_if_eq (tgt := 13) hx hb dL_extend_6 rfl (fun h9 => absurd h9 (by decide)) (fun h9 => ?_)
    refine lv_lconst (v := 1) hx hb dL_extend_9 (by decide) ?_
    refine lv_goto (tgt := 14) hx hb dL_extend_10 rfl ?_
    refine va_last hx hb hK hP hD hS 33 0 rfl rfl (vp_in_nI (n := 0) (N := 1) (by decide) (by decide)) dL_extend_14 (fun H locs hP hD hS => ?_)
    refine lv_goto (tgt := 21) hx hb dL_extend_15 rfl ?_
    refine lv_iconst (v := 0) hx hb dL_extend_21 (by decide) ?_
    exact W.iret hx hb hr (fun t9 ht hW => ⟨⟨_, (u3, vp_updL fO 0 1), rfl, Or.inl ⟨rfl, tt, true, rfl, htt, hb9, hdr⟩, by rw [ht]; exact hP, hD⟩, hS.F ht⟩) hS.2.2 dL_extend_22
set_option maxHeartbeats 4000000 in
set_option maxRecDepth 100000 in
theorem c_L_cell (l : Launch) (q0 N9 k : Nat) (f : Nat → Int32) (hN : N9 < 2 ^ 31) (hk : k < 2 ^ 31) : Met l yL_cell wL_cell rmZ (va_Pc [.ref q0, .int (nI k)] (fun U => va_X q0 N9 f U U.heap)) (vp_Si (fun r => r = if k < N9 then f k else 0)) 0 0 (fun _ => False) := by
  refine Met.ofW (cc := method_2_code) (maxL := 2) (ret := (some .int)) (by decide) rfl ?_
  intro p e s m args below meth c s₁ B hml hv
  have hx := B.exec
  have hb := B.bytes
  have hr := B.returns
  have ht : ∀ w ∈ TB, w.before args s = true := fun w h => atoms_spec (ws := wL_cell) B.pre w (List.mem_cons_of_mem _ h)
  have hown : s.vm.findClass "PermutationDeskLaw" = some m.cls := findClass_of_methodNamed B.named
  have hlocks := B.notSynchronized
  obtain ⟨rfl, hX⟩ := hv
  have hbl : q0 < s.heap.size := by
    obtain ⟨scr, h9, -⟩ := hX
    exact (Array.getElem?_eq_some_iff.mp h9).1
  have hS : va_S (fun _ => False) s.heap s.heap [] := va_S.rf
  have hl := lv_entry ([.ref q0, .int (nI k)]) (n := 2) (Nat.le_of_ble_eq_true rfl)
  rw [lg_entry_eq]
  generalize (lg_sl ([.ref q0, .int (nI k)]) ++ List.replicate (2 - (lg_sl ([.ref q0, .int (nI k)])).length) Slot.unset).toArray = ls at hl ⊢
  have hl : lv_has ls 2 [(0, .ref q0), (1, .int (nI k))] := hl
  refine lv_iload_n hx hb dL_cell_0 rfl (lv_at hl 1 rfl) ?_
  refine lv_aload_n hx hb dL_cell_1 rfl (lv_at hl 0 rfl) ?_
  refine va_slen hx hb hX hbl (fun q9 => q9) hS dL_cell_2 ?_
  refine wti (x' := nI N9) rfl ?_
  refine lv_icmp_ge (tgt := 12) hx hb dL_cell_3 rfl (fun h => ?_) (fun h => ?_)
  · have h9 := (nI_leI hN hk).mp h
    refine lv_iconst (v := 0) hx hb dL_cell_12 (by decide) ?_
    exact W.iret (v := 0) hx hb hr (fun t h _ => ⟨_, rfl, (if_neg (by omega)).symm, h⟩) (fun q h => by cases h) dL_cell_13
  have h9 : k < N9 := by
    rw [nI_leI hN hk] at h
    omega
  refine lv_aload_n hx hb dL_cell_6 rfl (lv_at hl 0 rfl) ?_
  refine lv_iload_n hx hb dL_cell_7 rfl (lv_at hl 1 rfl) ?_
  refine va_sld hx hb hX hbl (fun q9 => q9) hS (vp_in_nI h9 hN) dL_cell_8 ?_
  refine wti (x' := f k) (by rw [nI_clamp hk]) ?_
  refine lv_goto (tgt := 13) hx hb dL_cell_9 rfl ?_
  exact W.iret hx hb hr (fun t h _ => ⟨_, rfl, (if_pos h9).symm, h⟩) (fun q h => by cases h) dL_cell_13
