/-! Desk: the calls that only ask. -/
def dR (n : Nat) (tx : Nat → Nat) (len : Nat) (g : Nat → pg_F) (gc : Nat) (tg : Nat → Option pg_F) (Gs : Nat → pg_F → Prop) (ft : Nat → Int32) (fg fo : Nat → Int64) (us : Nat → gSt) : Prop := 1 ≤ n ∧ rOK tx len n gc g ft fg ∧ dTg n gc fo tg ∧ (∀ i, i < 5 → gGp n (us i) (Gs i)) ∧ Gs 0 = pg_Gen (pg_GS gc g)
set_option maxHeartbeats 2000000 in
set_option maxRecDepth 100000 in
theorem c_D_value (l : Launch) (hst : l.stackTraces = false) (D : va_G) (z : Nat → ClassId) (d : Nat → Nat) (sz n len gc : Nat) (ft : Nat → Int32) (fg fo : Nat → Int64) (gs : Nat → Nat → Nat) (us : Nat → gSt) (tx : Nat → Nat) (g : Nat → pg_F) (tg : Nat → Option pg_F) (Gs : Nat → pg_F → Prop) (hR : dR n tx len g gc tg Gs ft fg fo us) (x : Int32) : vx_Met l yD_value wD_value (rmX 24 3 19) (va_Pc [.ref (d 0), .int x] (xPc D (tyL z) (dW z d n (len, ft, gc, fg, fo, gs, us)) sz)) (va_Qi (fun r (v : dSt) => (∃ (y : pg_F) (k : Nat), pr_text tx len n gc g = some y ∧ x = nI k ∧ k < n ∧ r = nI (y k)) ∧ v = (len, ft, gc, fg, fo, gs, us)) (fun v t => va_P D vC (dW z d n v) t.heap ∧ va_D (va_A (dW z d n (len, ft, gc, fg, fo, gs, us)) sz) (dW z d n v)) (va_A (dW z d n (len, ft, gc, fg, fo, gs, us)) sz)) (xX D (fun E (v : dSt) => ((E = eIA ∧ pr_text tx len n gc g = none) ∨ (E = eIO ∧ pr_text tx len n gc g ≠ none ∧ ¬ iN x n)) ∧ v = (len, ft, gc, fg, fo, gs, us)) (fun v => dW z d n v) (va_A (dW z d n (len, ft, gc, fg, fo, gs, us)) sz)) 3 19 (va_A (dW z d n (len, ft, gc, fg, fo, gs, us)) sz) := by
  obtain ⟨h1n, hok, htg, hgr, hg0⟩ := hR
  have hn7 := hok.2.2.1
  refine vx_ofW (cc := prog_1_method_4_code) (maxL := 4) (ret := (some .int)) (by decide) rfl ?_
  intro p e s m args below meth c s₁ B hml hout hv
  have hx := B.exec
  have hb := B.bytes
  have hr := B.returns
  have ht : ∀ w ∈ TB, w.before args s = true := fun w h => atoms_spec (ws := wD_value) B.pre w (List.mem_cons_of_mem _ h)
  have hown : s.vm.findClass "PermutationDesk" = some m.cls := findClass_of_methodNamed B.named
  have hlocks := B.notSynchronized
  obtain ⟨rfl, ⟨hsz, hP, hK, hD0⟩, hV, hH⟩ := hv
  subst hsz
  have hD := hD0.self (sz := s.heap.size)
  generalize hAe : va_A (dW z d n (len, ft, gc, fg, fo, gs, us)) s.heap.size = A at hD hH ⊢
  have hA : ∀ q : Nat, s.heap.size ≤ q → A q := fun q h => by rw [← hAe]; exact Or.inr h
  have hS : va_S A s.heap s.heap [] := va_S.rf
  have hl := lv_entry ([.ref (d 0), .int x]) (n := 4) (Nat.le_of_ble_eq_true rfl)
  rw [lg_entry_eq]
  generalize (lg_sl ([.ref (d 0), .int x]) ++ List.replicate (4 - (lg_sl ([.ref (d 0), .int x])).length) Slot.unset).toArray = ls at hl ⊢
  have hl : lv_has ls 4 [(0, .ref (d 0)), (1, .int x)] := hl
  refine lv_aload_n hx hb dD_value_0 rfl (lv_at hl 0 rfl) ?_
  refine qX_l (ci := 2) (q0 := 0) (wr := ([(d 3, .inl (z 0, 6, .inr (.inl (fo)))), (d 4, .inl (z 3, 5, .inr (.inr (.inr (.inr (dF (gs)))))))] ++ (gWu z (gs 5) n (us 5) ++ (gWu z (gs 6) (n + n) (us 6) ++ (gWu z (gs 0) n (us 0) ++ (gWu z (gs 1) n (us 1) ++ (gWu z (gs 2) n (us 2) ++ (gWu z (gs 3) n (us 3) ++ (gWu z (gs 4) n (us 4)))))))))) (As := []) (rest := []) ⟨hx, hb, hml, hown, ht⟩ (c_D_textElement l hst D z d s.heap.size n len gc (gs 5 0) (gs 6 0) ft fg tx g hok) (cB 0 ht gD_textElement rfl tw_59 tw_178 (by decide +kernel) ⟨by decide, by decide⟩) tw_180 tw_0 hK hP hD hS hA hV hH [0, 1, 2] [3, 4, 5, 6, 7, 8, 9, 10, 11, 12, 13, 14, 15, 16, 17, 18, 19, 20, 21, 22, 23, 24, 25, 26, 27, 28, 29, 30, 31, 32] rfl rfl rfl rfl (by decide) rfl rfl rfl rfl hl.1 rfl (Nat.le_of_ble_eq_true rfl) dD_value_1 ⟨by decide, by decide⟩ (fun E9 ce q9 u1 H locs h1 hP hD hS k1 k2 k3 => qO hout hlocks ((len, ft, gc, fg, fo, gs, us)) (⟨Or.inl h1, rfl⟩) (hP.sub (ws' := dW z d n ((len, ft, gc, fg, fo, gs, us))) [30, 31, 32, 0, 1, 2, 3, 4, 5, 6, 7, 8, 9, 10, 11, 12, 13, 14, 15, 16, 17, 18, 19, 20, 21, 22, 23, 24, 25, 26, 27, 28, 29] rfl) (hD.sub (ws' := dW z d n ((len, ft, gc, fg, fo, gs, us))) [30, 31, 32, 0, 1, 2, 3, 4, 5, 6, 7, 8, 9, 10, 11, 12, 13, 14, 15, 16, 17, 18, 19, 20, 21, 22, 23, 24, 25, 26, 27, 28, 29] rfl rfl) hS k1 k2 k3 hS.2.2 (by decide)) (fun r1 u1 H locs h1 hP hD hS => ?_)
  replace hP := hP.sub (ws' := dW z d n (len, ft, gc, fg, fo, gs, us)) [30, 31, 32, 0, 1, 2, 3, 4, 5, 6, 7, 8, 9, 10, 11, 12, 13, 14, 15, 16, 17, 18, 19, 20, 21, 22, 23, 24, 25, 26, 27, 28, 29] rfl
  replace hD := hD.sub (ws' := dW z d n (len, ft, gc, fg, fo, gs, us)) [30, 31, 32, 0, 1, 2, 3, 4, 5, 6, 7, 8, 9, 10, 11, 12, 13, 14, 15, 16, 17, 18, 19, 20, 21, 22, 23, 24, 25, 26, 27, 28, 29] rfl rfl
  obtain ⟨y, rfl, hy⟩ := h1
  have hyP := pr_text_P (fun i hi => (hok.2.2.2.2 i hi).1) hy
  refine lv_lstore_n hx hb dD_value_4 rfl hl (by decide) rfl (fun ls hl => ?_)
  replace hl : lv_has ls 4 [(2, .long (eL n y)), (0, .ref (d 0)), (1, .int x)] := hl
  refine lv_aload_n hx hb dD_value_5 rfl (lv_at hl 1 rfl) ?_
  refine lv_iload_n hx hb dD_value_6 rfl (lv_at hl 2 rfl) ?_
  refine qX_v (ci := 2) (q0 := 0) (wr := ([(d 1, .inl (z 2, 24, .inl (ft))), (d 2, .inl (z 0, 6, .inr (.inl (fg)))), (d 3, .inl (z 0, 6, .inr (.inl (fo)))), (d 4, .inl (z 3, 5, .inr (.inr (.inr (.inr (dF (gs)))))))] ++ (gWu z (gs 5) n (us 5) ++ (gWu z (gs 6) (n + n) (us 6) ++ (gWu z (gs 0) n (us 0) ++ (gWu z (gs 1) n (us 1) ++ (gWu z (gs 2) n (us 2) ++ (gWu z (gs 3) n (us 3) ++ (gWu z (gs 4) n (us 4)))))))))) (As := [.int x]) (rest := []) ⟨hx, hb, hml, hown, ht⟩ (c_D_needPoint l hst D z d H.size n len gc (gs 5 0) (gs 6 0) hn7 x) (cB 1 ht gD_needPoint rfl tw_59 tw_347 (by decide +kernel) ⟨by decide, by decide⟩) tw_349 tw_12 hK hP hD hS hA hV hH [0] [1, 2, 3, 4, 5, 6, 7, 8, 9, 10, 11, 12, 13, 14, 15, 16, 17, 18, 19, 20, 21, 22, 23, 24, 25, 26, 27, 28, 29, 30, 31, 32] rfl rfl rfl rfl (by decide) rfl rfl rfl rfl hl.1 rfl (Nat.le_of_ble_eq_true rfl) dD_value_7 ⟨by decide, by decide⟩ (fun E9 ce q9 u7 H locs h7 hP hD hS k1 k2 k3 => qO hout hlocks ((len, ft, gc, fg, fo, gs, us)) (⟨Or.inr ⟨h7.1, (by rw [hy]; exact fun q => nomatch q), h7.2⟩, rfl⟩) (hP.sub (ws' := dW z d n ((len, ft, gc, fg, fo, gs, us))) [32, 0, 1, 2, 3, 4, 5, 6, 7, 8, 9, 10, 11, 12, 13, 14, 15, 16, 17, 18, 19, 20, 21, 22, 23, 24, 25, 26, 27, 28, 29, 30, 31] rfl) (hD.sub (ws' := dW z d n ((len, ft, gc, fg, fo, gs, us))) [32, 0, 1, 2, 3, 4, 5, 6, 7, 8, 9, 10, 11, 12, 13, 14, 15, 16, 17, 18, 19, 20, 21, 22, 23, 24, 25, 26, 27, 28, 29, 30, 31] rfl rfl) hS k1 k2 k3 hS.2.2 (by decide)) (fun u7 H locs h7 hP hD hS => ?_)
  replace hP := hP.sub (ws' := dW z d n (len, ft, gc, fg, fo, gs, us)) [32, 0, 1, 2, 3, 4, 5, 6, 7, 8, 9, 10, 11, 12, 13, 14, 15, 16, 17, 18, 19, 20, 21, 22, 23, 24, 25, 26, 27, 28, 29, 30, 31] rfl
  replace hD := hD.sub (ws' := dW z d n (len, ft, gc, fg, fo, gs, us)) [32, 0, 1, 2, 3, 4, 5, 6, 7, 8, 9, 10, 11, 12, 13, 14, 15, 16, 17, 18, 19, 20, 21, 22, 23, 24, 25, 26, 27, 28, 29, 30, 31] rfl rfl
  obtain ⟨k, rfl, hk⟩ := h7
  refine lv_lload_n hx hb dD_value_10 rfl (lv_at hl 0 rfl) ?_
  refine lv_iload_n hx hb dD_value_11 rfl (lv_at hl 2 rfl) ?_
  refine qS_i (As := [.long (eL n y), .int (nI k)]) (rest := []) ⟨hx, hb, hml, hown, ht⟩ (c_E_at l n k y (by omega) (fun p hp => by have := hyP.1 p hp; omega) hk) (cB 2 ht gE_at rfl tw_62 tw_367 (by decide +kernel) ⟨by decide, by decide⟩) tw_254 rfl hl.1 rfl (Nat.le_of_ble_eq_true rfl) dD_value_12 ⟨by decide, by decide⟩ (fun r12 h12 => ?_)
  subst h12
  refine vx_ret (W.widen (k := 3) (n := 19) (by decide) (by decide) ?_)
  exact W.iret hx hb hr (fun t ht hW => ⟨⟨_, (len, ft, gc, fg, fo, gs, us), rfl, ⟨⟨y, k, hy, rfl, hk, rfl⟩, rfl⟩, by rw [ht]; exact hP, hD⟩, hS.F ht⟩) hS.2.2 dD_value_15
set_option maxHeartbeats 2000000 in
set_option maxRecDepth 100000 in
theorem c_D_order (l : Launch) (hst : l.stackTraces = false) (D : va_G) (z : Nat → ClassId) (d : Nat → Nat) (sz n len gc : Nat) (ft : Nat → Int32) (fg fo : Nat → Int64) (gs : Nat → Nat → Nat) (us : Nat → gSt) (tx : Nat → Nat) (g : Nat → pg_F) (tg : Nat → Option pg_F) (Gs : Nat → pg_F → Prop) (hR : dR n tx len g gc tg Gs ft fg fo us) (x : Int32) : vx_Met l yD_order wD_order (rmX 24 1 6) (va_Pc [.ref (d 0), .int x] (xPc D (tyL z) (dW z d n (len, ft, gc, fg, fo, gs, us)) sz)) (va_Qi (fun r (v : dSt) => (∃ i : Nat, x = nI i ∧ i < 5 ∧ gOrd n (Gs i) r) ∧ v = (len, ft, gc, fg, fo, gs, us)) (fun v t => va_P D vC (dW z d n v) t.heap ∧ va_D (va_A (dW z d n (len, ft, gc, fg, fo, gs, us)) sz) (dW z d n v)) (va_A (dW z d n (len, ft, gc, fg, fo, gs, us)) sz)) (xX D (fun E (v : dSt) => (E = eIO ∧ ¬ iN x 5) ∧ v = (len, ft, gc, fg, fo, gs, us)) (fun v => dW z d n v) (va_A (dW z d n (len, ft, gc, fg, fo, gs, us)) sz)) 1 6 (va_A (dW z d n (len, ft, gc, fg, fo, gs, us)) sz) := by
  obtain ⟨h1n, hok, htg, hgr, hg0⟩ := hR
  have hn7 := hok.2.2.1
  refine vx_ofW (cc := prog_1_method_15_code) (maxL := 2) (ret := (some .int)) (by decide) rfl ?_
  intro p e s m args below meth c s₁ B hml hout hv
  have hx := B.exec
  have hb := B.bytes
  have hr := B.returns
  have ht : ∀ w ∈ TB, w.before args s = true := fun w h => atoms_spec (ws := wD_order) B.pre w (List.mem_cons_of_mem _ h)
  have hown : s.vm.findClass "PermutationDesk" = some m.cls := findClass_of_methodNamed B.named
  have hlocks := B.notSynchronized
  obtain ⟨rfl, ⟨hsz, hP, hK, hD0⟩, hV, hH⟩ := hv
  subst hsz
  have hD := hD0.self (sz := s.heap.size)
  generalize hAe : va_A (dW z d n (len, ft, gc, fg, fo, gs, us)) s.heap.size = A at hD hH ⊢
  have hA : ∀ q : Nat, s.heap.size ≤ q → A q := fun q h => by rw [← hAe]; exact Or.inr h
  have hS : va_S A s.heap s.heap [] := va_S.rf
  have hl := lv_entry ([.ref (d 0), .int x]) (n := 2) (Nat.le_of_ble_eq_true rfl)
  rw [lg_entry_eq]
  generalize (lg_sl ([.ref (d 0), .int x]) ++ List.replicate (2 - (lg_sl ([.ref (d 0), .int x])).length) Slot.unset).toArray = ls at hl ⊢
  have hl : lv_has ls 2 [(0, .ref (d 0)), (1, .int x)] := hl
  refine lv_aload_n hx hb dD_order_0 rfl (lv_at hl 0 rfl) ?_
  refine lv_iload_n hx hb dD_order_1 rfl (lv_at hl 1 rfl) ?_
  refine qX_v (ci := 2) (q0 := 0) (wr := ([(d 1, .inl (z 2, 24, .inl (ft))), (d 2, .inl (z 0, 6, .inr (.inl (fg)))), (d 3, .inl (z 0, 6, .inr (.inl (fo)))), (d 4, .inl (z 3, 5, .inr (.inr (.inr (.inr (dF (gs)))))))] ++ (gWu z (gs 5) n (us 5) ++ (gWu z (gs 6) (n + n) (us 6) ++ (gWu z (gs 0) n (us 0) ++ (gWu z (gs 1) n (us 1) ++ (gWu z (gs 2) n (us 2) ++ (gWu z (gs 3) n (us 3) ++ (gWu z (gs 4) n (us 4)))))))))) (As := [.int x]) (rest := []) ⟨hx, hb, hml, hown, ht⟩ (c_D_needSlot l hst D z d s.heap.size n len gc (gs 5 0) (gs 6 0) x) (cB 1 ht gD_needSlot rfl tw_59 tw_493 (by decide +kernel) ⟨by decide, by decide⟩) tw_495 tw_23 hK hP hD hS hA hV hH [0] [1, 2, 3, 4, 5, 6, 7, 8, 9, 10, 11, 12, 13, 14, 15, 16, 17, 18, 19, 20, 21, 22, 23, 24, 25, 26, 27, 28, 29, 30, 31, 32] rfl rfl rfl rfl (by decide) rfl rfl rfl rfl hl.1 rfl (Nat.le_of_ble_eq_true rfl) dD_order_2 ⟨by decide, by decide⟩ (fun E9 ce q9 u2 H locs h2 hP hD hS k1 k2 k3 => qO hout hlocks ((len, ft, gc, fg, fo, gs, us)) (⟨h2, rfl⟩) (hP.sub (ws' := dW z d n ((len, ft, gc, fg, fo, gs, us))) [32, 0, 1, 2, 3, 4, 5, 6, 7, 8, 9, 10, 11, 12, 13, 14, 15, 16, 17, 18, 19, 20, 21, 22, 23, 24, 25, 26, 27, 28, 29, 30, 31] rfl) (hD.sub (ws' := dW z d n ((len, ft, gc, fg, fo, gs, us))) [32, 0, 1, 2, 3, 4, 5, 6, 7, 8, 9, 10, 11, 12, 13, 14, 15, 16, 17, 18, 19, 20, 21, 22, 23, 24, 25, 26, 27, 28, 29, 30, 31] rfl rfl) hS k1 k2 k3 hS.2.2 (by decide)) (fun u2 H locs h2 hP hD hS => ?_)
  replace hP := hP.sub (ws' := dW z d n (len, ft, gc, fg, fo, gs, us)) [32, 0, 1, 2, 3, 4, 5, 6, 7, 8, 9, 10, 11, 12, 13, 14, 15, 16, 17, 18, 19, 20, 21, 22, 23, 24, 25, 26, 27, 28, 29, 30, 31] rfl
  replace hD := hD.sub (ws' := dW z d n (len, ft, gc, fg, fo, gs, us)) [32, 0, 1, 2, 3, 4, 5, 6, 7, 8, 9, 10, 11, 12, 13, 14, 15, 16, 17, 18, 19, 20, 21, 22, 23, 24, 25, 26, 27, 28, 29, 30, 31] rfl rfl
  obtain ⟨i, rfl, hi⟩ := h2
  have hG := hgr i hi
  refine lv_aload_n hx hb dD_order_5 rfl (lv_at hl 0 rfl) ?_
  refine va_get (ci := 2) (C := RD) (T := TD) (N := 9) hx hb ht inD hown hK hP 0 rfl rfl 6 (by decide) (ht _ tw_131) (fun _ h9 => h9) rfl dD_order_6 ?_
  refine lv_iload_n hx hb dD_order_9 rfl (lv_at hl 1 rfl) ?_
  refine va_aldq hx hb hK hP 4 3 rfl rfl (vp_in_nI (N := 5) hi (by decide)) dD_order_10 ?_
  refine wtv (x' := .ref (gs i 0)) (by rw [dF_i hi]; rfl) ?_
  refine qV_i (ci := 0) (q0 := 0) (As := []) (rest := []) ⟨hx, hb, hml, hown, ht⟩ (c_G_size l D z (gs i) n (us i).2.1 (us i).2.2.2.2.1 (us i).2.2.2.2.2.1 (us i).2.2.2.2.2.2 (us i).1 (by omega) hG.1.1 hG.1.2.2.1) (cB 0 ht gG_size rfl tw_61 tw_443 (by decide +kernel) ⟨by decide, by decide⟩) tw_444 tw_445 hK ((sw_P hi hP).sub (ws' := gWu z (gs i) n (us i)) [13, 14, 15, 16] rfl) rfl rfl rfl hl.1 rfl (Nat.le_of_ble_eq_true rfl) dD_order_11 ⟨by decide, by decide⟩ (fun r11 h11 => ?_)
  subst h11
  refine vx_ret ?_
  exact W.iret hx hb hr (fun t ht hW => ⟨⟨_, (len, ft, gc, fg, fo, gs, us), rfl, ⟨⟨i, rfl, hi, _, hG.row.1, by rw [hG.row.2]⟩, rfl⟩, by rw [ht]; exact hP, hD⟩, hS.F ht⟩) hS.2.2 dD_order_14
set_option maxHeartbeats 2000000 in
set_option maxRecDepth 100000 in
theorem c_D_orbit (l : Launch) (hst : l.stackTraces = false) (D : va_G) (z : Nat → ClassId) (d : Nat → Nat) (sz n len gc : Nat) (ft : Nat → Int32) (fg fo : Nat → Int64) (gs : Nat → Nat → Nat) (us : Nat → gSt) (tx : Nat → Nat) (g : Nat → pg_F) (tg : Nat → Option pg_F) (Gs : Nat → pg_F → Prop) (hR : dR n tx len g gc tg Gs ft fg fo us) (x y : Int32) : vx_Met l yD_orbit wD_orbit (rmX 24 2 12) (va_Pc [.ref (d 0), .int x, .int y] (xPc D (tyL z) (dW z d n (len, ft, gc, fg, fo, gs, us)) sz)) (va_Qi (fun r (v : dSt) => (∃ i k t : Nat, x = nI i ∧ i < 5 ∧ y = nI k ∧ k < n ∧ r = nI t ∧ ∀ q, t.testBit q = true ↔ ∃ w, Gs i w ∧ w k = q) ∧ v = (len, ft, gc, fg, fo, gs, us)) (fun v t => va_P D vC (dW z d n v) t.heap ∧ va_D (va_A (dW z d n (len, ft, gc, fg, fo, gs, us)) sz) (dW z d n v)) (va_A (dW z d n (len, ft, gc, fg, fo, gs, us)) sz)) (xX D (fun E (v : dSt) => (E = eIO ∧ ¬ (iN x 5 ∧ iN y n)) ∧ v = (len, ft, gc, fg, fo, gs, us)) (fun v => dW z d n v) (va_A (dW z d n (len, ft, gc, fg, fo, gs, us)) sz)) 2 12 (va_A (dW z d n (len, ft, gc, fg, fo, gs, us)) sz) := by
  obtain ⟨h1n, hok, htg, hgr, hg0⟩ := hR
  have hn7 := hok.2.2.1
  refine vx_ofW (cc := prog_1_method_18_code) (maxL := 3) (ret := (some .int)) (by decide) rfl ?_
  intro p e s m args below meth c s₁ B hml hout hv
  have hx := B.exec
  have hb := B.bytes
  have hr := B.returns
  have ht : ∀ w ∈ TB, w.before args s = true := fun w h => atoms_spec (ws := wD_orbit) B.pre w (List.mem_cons_of_mem _ h)
  have hown : s.vm.findClass "PermutationDesk" = some m.cls := findClass_of_methodNamed B.named
  have hlocks := B.notSynchronized
  obtain ⟨rfl, ⟨hsz, hP, hK, hD0⟩, hV, hH⟩ := hv
  subst hsz
  have hD := hD0.self (sz := s.heap.size)
  generalize hAe : va_A (dW z d n (len, ft, gc, fg, fo, gs, us)) s.heap.size = A at hD hH ⊢
  have hA : ∀ q : Nat, s.heap.size ≤ q → A q := fun q h => by rw [← hAe]; exact Or.inr h
  have hS : va_S A s.heap s.heap [] := va_S.rf
  have hl := lv_entry ([.ref (d 0), .int x, .int y]) (n := 3) (Nat.le_of_ble_eq_true rfl)
  rw [lg_entry_eq]
  generalize (lg_sl ([.ref (d 0), .int x, .int y]) ++ List.replicate (3 - (lg_sl ([.ref (d 0), .int x, .int y])).length) Slot.unset).toArray = ls at hl ⊢
  have hl : lv_has ls 3 [(0, .ref (d 0)), (1, .int x), (2, .int y)] := hl
  refine lv_aload_n hx hb dD_orbit_0 rfl (lv_at hl 0 rfl) ?_
  refine lv_iload_n hx hb dD_orbit_1 rfl (lv_at hl 1 rfl) ?_
  refine qX_v (ci := 2) (q0 := 0) (wr := ([(d 1, .inl (z 2, 24, .inl (ft))), (d 2, .inl (z 0, 6, .inr (.inl (fg)))), (d 3, .inl (z 0, 6, .inr (.inl (fo)))), (d 4, .inl (z 3, 5, .inr (.inr (.inr (.inr (dF (gs)))))))] ++ (gWu z (gs 5) n (us 5) ++ (gWu z (gs 6) (n + n) (us 6) ++ (gWu z (gs 0) n (us 0) ++ (gWu z (gs 1) n (us 1) ++ (gWu z (gs 2) n (us 2) ++ (gWu z (gs 3) n (us 3) ++ (gWu z (gs 4) n (us 4)))))))))) (As := [.int x]) (rest := []) ⟨hx, hb, hml, hown, ht⟩ (c_D_needSlot l hst D z d s.heap.size n len gc (gs 5 0) (gs 6 0) x) (cB 1 ht gD_needSlot rfl tw_59 tw_493 (by decide +kernel) ⟨by decide, by decide⟩) tw_495 tw_23 hK hP hD hS hA hV hH [0] [1, 2, 3, 4, 5, 6, 7, 8, 9, 10, 11, 12, 13, 14, 15, 16, 17, 18, 19, 20, 21, 22, 23, 24, 25, 26, 27, 28, 29, 30, 31, 32] rfl rfl rfl rfl (by decide) rfl rfl rfl rfl hl.1 rfl (Nat.le_of_ble_eq_true rfl) dD_orbit_2 ⟨by decide, by decide⟩ (fun E9 ce q9 u2 H locs h2 hP hD hS k1 k2 k3 => qO hout hlocks ((len, ft, gc, fg, fo, gs, us)) (⟨⟨h2.1, fun q => h2.2 q.1⟩, rfl⟩) (hP.sub (ws' := dW z d n ((len, ft, gc, fg, fo, gs, us))) [32, 0, 1, 2, 3, 4, 5, 6, 7, 8, 9, 10, 11, 12, 13, 14, 15, 16, 17, 18, 19, 20, 21, 22, 23, 24, 25, 26, 27, 28, 29, 30, 31] rfl) (hD.sub (ws' := dW z d n ((len, ft, gc, fg, fo, gs, us))) [32, 0, 1, 2, 3, 4, 5, 6, 7, 8, 9, 10, 11, 12, 13, 14, 15, 16, 17, 18, 19, 20, 21, 22, 23, 24, 25, 26, 27, 28, 29, 30, 31] rfl rfl) hS k1 k2 k3 hS.2.2 (by decide)) (fun u2 H locs h2 hP hD hS => ?_)
  replace hP := hP.sub (ws' := dW z d n (len, ft, gc, fg, fo, gs, us)) [32, 0, 1, 2, 3, 4, 5, 6, 7, 8, 9, 10, 11, 12, 13, 14, 15, 16, 17, 18, 19, 20, 21, 22, 23, 24, 25, 26, 27, 28, 29, 30, 31] rfl
  replace hD := hD.sub (ws' := dW z d n (len, ft, gc, fg, fo, gs, us)) [32, 0, 1, 2, 3, 4, 5, 6, 7, 8, 9, 10, 11, 12, 13, 14, 15, 16, 17, 18, 19, 20, 21, 22, 23, 24, 25, 26, 27, 28, 29, 30, 31] rfl rfl
  obtain ⟨i, rfl, hi⟩ := h2
  have hG := hgr i hi
  refine lv_aload_n hx hb dD_orbit_5 rfl (lv_at hl 0 rfl) ?_
  refine lv_iload_n hx hb dD_orbit_6 rfl (lv_at hl 2 rfl) ?_
  refine qX_v (ci := 2) (q0 := 0) (wr := ([(d 1, .inl (z 2, 24, .inl (ft))), (d 2, .inl (z 0, 6, .inr (.inl (fg)))), (d 3, .inl (z 0, 6, .inr (.inl (fo)))), (d 4, .inl (z 3, 5, .inr (.inr (.inr (.inr (dF (gs)))))))] ++ (gWu z (gs 5) n (us 5) ++ (gWu z (gs 6) (n + n) (us 6) ++ (gWu z (gs 0) n (us 0) ++ (gWu z (gs 1) n (us 1) ++ (gWu z (gs 2) n (us 2) ++ (gWu z (gs 3) n (us 3) ++ (gWu z (gs 4) n (us 4)))))))))) (As := [.int y]) (rest := []) ⟨hx, hb, hml, hown, ht⟩ (c_D_needPoint l hst D z d H.size n len gc (gs 5 0) (gs 6 0) hn7 y) (cB 1 ht gD_needPoint rfl tw_59 tw_347 (by decide +kernel) ⟨by decide, by decide⟩) tw_349 tw_12 hK hP hD hS hA hV hH [0] [1, 2, 3, 4, 5, 6, 7, 8, 9, 10, 11, 12, 13, 14, 15, 16, 17, 18, 19, 20, 21, 22, 23, 24, 25, 26, 27, 28, 29, 30, 31, 32] rfl rfl rfl rfl (by decide) rfl rfl rfl rfl hl.1 rfl (Nat.le_of_ble_eq_true rfl) dD_orbit_7 ⟨by decide, by decide⟩ (fun E9 ce q9 u7 H locs h7 hP hD hS k1 k2 k3 => qO hout hlocks ((len, ft, gc, fg, fo, gs, us)) (⟨⟨h7.1, fun q => h7.2 q.2⟩, rfl⟩) (hP.sub (ws' := dW z d n ((len, ft, gc, fg, fo, gs, us))) [32, 0, 1, 2, 3, 4, 5, 6, 7, 8, 9, 10, 11, 12, 13, 14, 15, 16, 17, 18, 19, 20, 21, 22, 23, 24, 25, 26, 27, 28, 29, 30, 31] rfl) (hD.sub (ws' := dW z d n ((len, ft, gc, fg, fo, gs, us))) [32, 0, 1, 2, 3, 4, 5, 6, 7, 8, 9, 10, 11, 12, 13, 14, 15, 16, 17, 18, 19, 20, 21, 22, 23, 24, 25, 26, 27, 28, 29, 30, 31] rfl rfl) hS k1 k2 k3 hS.2.2 (by decide)) (fun u7 H locs h7 hP hD hS => ?_)
  replace hP := hP.sub (ws' := dW z d n (len, ft, gc, fg, fo, gs, us)) [32, 0, 1, 2, 3, 4, 5, 6, 7, 8, 9, 10, 11, 12, 13, 14, 15, 16, 17, 18, 19, 20, 21, 22, 23, 24, 25, 26, 27, 28, 29, 30, 31] rfl
  replace hD := hD.sub (ws' := dW z d n (len, ft, gc, fg, fo, gs, us)) [32, 0, 1, 2, 3, 4, 5, 6, 7, 8, 9, 10, 11, 12, 13, 14, 15, 16, 17, 18, 19, 20, 21, 22, 23, 24, 25, 26, 27, 28, 29, 30, 31] rfl rfl
  obtain ⟨k, rfl, hk⟩ := h7
  refine lv_aload_n hx hb dD_orbit_10 rfl (lv_at hl 0 rfl) ?_
  refine va_get (ci := 2) (C := RD) (T := TD) (N := 9) hx hb ht inD hown hK hP 0 rfl rfl 6 (by decide) (ht _ tw_131) (fun _ h9 => h9) rfl dD_orbit_11 ?_
  refine lv_iload_n hx hb dD_orbit_14 rfl (lv_at hl 1 rfl) ?_
  refine va_aldq hx hb hK hP 4 3 rfl rfl (vp_in_nI (N := 5) hi (by decide)) dD_orbit_15 ?_
  refine wtv (x' := .ref (gs i 0)) (by rw [dF_i hi]; rfl) ?_
  refine lv_iload_n hx hb dD_orbit_16 rfl (lv_at hl 2 rfl) ?_
  refine qV_i (ci := 0) (q0 := 0) (As := [.int (nI k)]) (rest := []) ⟨hx, hb, hml, hown, ht⟩ (c_G_reach l D z (gs i) n (us i).2.1 (us i).2.2.2.2.1 (us i).2.2.2.2.2.1 (us i).2.2.2.2.2.2 (by omega) (us i).1 (us i).2.2.1 (us i).2.2.2.1 (Gs i) hG k hk) (cB 1 ht gG_reach rfl tw_61 tw_631 (by decide +kernel) ⟨by decide, by decide⟩) tw_632 tw_633 hK ((sw_P hi hP).sub (ws' := gWu z (gs i) n (us i)) [13, 14, 15, 16] rfl) rfl rfl rfl hl.1 rfl (Nat.le_of_ble_eq_true rfl) dD_orbit_17 ⟨by decide, by decide⟩ (fun r17 h17 => ?_)
  obtain ⟨t9, rfl, ht9⟩ := h17
  refine vx_ret ?_
  exact W.iret hx hb hr (fun t ht hW => ⟨⟨_, (len, ft, gc, fg, fo, gs, us), rfl, ⟨⟨i, k, t9, rfl, hi, rfl, hk, rfl, ht9⟩, rfl⟩, by rw [ht]; exact hP, hD⟩, hS.F ht⟩) hS.2.2 dD_orbit_20
set_option maxHeartbeats 2000000 in
set_option maxRecDepth 100000 in
theorem c_D_rank (l : Launch) (hst : l.stackTraces = false) (D : va_G) (z : Nat → ClassId) (d : Nat → Nat) (sz n len gc : Nat) (ft : Nat → Int32) (fg fo : Nat → Int64) (gs : Nat → Nat → Nat) (us : Nat → gSt) (tx : Nat → Nat) (g : Nat → pg_F) (tg : Nat → Option pg_F) (Gs : Nat → pg_F → Prop) (hR : dR n tx len g gc tg Gs ft fg fo us) (x : Int32) : vx_Met l yD_rank wD_rank (rmX 24 3 19) (va_Pc [.ref (d 0), .int x] (xPc D (tyL z) (dW z d n (len, ft, gc, fg, fo, gs, us)) sz)) (va_Qi (fun r (v : dSt) => (∃ (i : Nat) (y : pg_F), x = nI i ∧ i < 5 ∧ pr_text tx len n gc g = some y ∧ ((∃ (L : List pg_F) (j : Nat), pg_row n (Gs i) L ∧ L[j]? = some y ∧ r = nI j) ∨ (¬ Gs i y ∧ r = -1))) ∧ v = (len, ft, gc, fg, fo, gs, us)) (fun v t => va_P D vC (dW z d n v) t.heap ∧ va_D (va_A (dW z d n (len, ft, gc, fg, fo, gs, us)) sz) (dW z d n v)) (va_A (dW z d n (len, ft, gc, fg, fo, gs, us)) sz)) (xX D (fun E (v : dSt) => ((E = eIO ∧ ¬ iN x 5) ∨ (E = eIA ∧ iN x 5 ∧ pr_text tx len n gc g = none)) ∧ v = (len, ft, gc, fg, fo, gs, us)) (fun v => dW z d n v) (va_A (dW z d n (len, ft, gc, fg, fo, gs, us)) sz)) 3 19 (va_A (dW z d n (len, ft, gc, fg, fo, gs, us)) sz) := by
  obtain ⟨h1n, hok, htg, hgr, hg0⟩ := hR
  have hn7 := hok.2.2.1
  refine vx_ofW (cc := prog_1_method_16_code) (maxL := 2) (ret := (some .int)) (by decide) rfl ?_
  intro p e s m args below meth c s₁ B hml hout hv
  have hx := B.exec
  have hb := B.bytes
  have hr := B.returns
  have ht : ∀ w ∈ TB, w.before args s = true := fun w h => atoms_spec (ws := wD_rank) B.pre w (List.mem_cons_of_mem _ h)
  have hown : s.vm.findClass "PermutationDesk" = some m.cls := findClass_of_methodNamed B.named
  have hlocks := B.notSynchronized
  obtain ⟨rfl, ⟨hsz, hP, hK, hD0⟩, hV, hH⟩ := hv
  subst hsz
  have hD := hD0.self (sz := s.heap.size)
  generalize hAe : va_A (dW z d n (len, ft, gc, fg, fo, gs, us)) s.heap.size = A at hD hH ⊢
  have hA : ∀ q : Nat, s.heap.size ≤ q → A q := fun q h => by rw [← hAe]; exact Or.inr h
  have hS : va_S A s.heap s.heap [] := va_S.rf
  have hl := lv_entry ([.ref (d 0), .int x]) (n := 2) (Nat.le_of_ble_eq_true rfl)
  rw [lg_entry_eq]
  generalize (lg_sl ([.ref (d 0), .int x]) ++ List.replicate (2 - (lg_sl ([.ref (d 0), .int x])).length) Slot.unset).toArray = ls at hl ⊢
  have hl : lv_has ls 2 [(0, .ref (d 0)), (1, .int x)] := hl
  refine lv_aload_n hx hb dD_rank_0 rfl (lv_at hl 0 rfl) ?_
  refine lv_iload_n hx hb dD_rank_1 rfl (lv_at hl 1 rfl) ?_
  refine qX_v (ci := 2) (q0 := 0) (wr := ([(d 1, .inl (z 2, 24, .inl (ft))), (d 2, .inl (z 0, 6, .inr (.inl (fg)))), (d 3, .inl (z 0, 6, .inr (.inl (fo)))), (d 4, .inl (z 3, 5, .inr (.inr (.inr (.inr (dF (gs)))))))] ++ (gWu z (gs 5) n (us 5) ++ (gWu z (gs 6) (n + n) (us 6) ++ (gWu z (gs 0) n (us 0) ++ (gWu z (gs 1) n (us 1) ++ (gWu z (gs 2) n (us 2) ++ (gWu z (gs 3) n (us 3) ++ (gWu z (gs 4) n (us 4)))))))))) (As := [.int x]) (rest := []) ⟨hx, hb, hml, hown, ht⟩ (c_D_needSlot l hst D z d s.heap.size n len gc (gs 5 0) (gs 6 0) x) (cB 1 ht gD_needSlot rfl tw_59 tw_493 (by decide +kernel) ⟨by decide, by decide⟩) tw_495 tw_23 hK hP hD hS hA hV hH [0] [1, 2, 3, 4, 5, 6, 7, 8, 9, 10, 11, 12, 13, 14, 15, 16, 17, 18, 19, 20, 21, 22, 23, 24, 25, 26, 27, 28, 29, 30, 31, 32] rfl rfl rfl rfl (by decide) rfl rfl rfl rfl hl.1 rfl (Nat.le_of_ble_eq_true rfl) dD_rank_2 ⟨by decide, by decide⟩ (fun E9 ce q9 u2 H locs h2 hP hD hS k1 k2 k3 => qO hout hlocks ((len, ft, gc, fg, fo, gs, us)) (⟨Or.inl h2, rfl⟩) (hP.sub (ws' := dW z d n ((len, ft, gc, fg, fo, gs, us))) [32, 0, 1, 2, 3, 4, 5, 6, 7, 8, 9, 10, 11, 12, 13, 14, 15, 16, 17, 18, 19, 20, 21, 22, 23, 24, 25, 26, 27, 28, 29, 30, 31] rfl) (hD.sub (ws' := dW z d n ((len, ft, gc, fg, fo, gs, us))) [32, 0, 1, 2, 3, 4, 5, 6, 7, 8, 9, 10, 11, 12, 13, 14, 15, 16, 17, 18, 19, 20, 21, 22, 23, 24, 25, 26, 27, 28, 29, 30, 31] rfl rfl) hS k1 k2 k3 hS.2.2 (by decide)) (fun u2 H locs h2 hP hD hS => ?_)
  replace hP := hP.sub (ws' := dW z d n (len, ft, gc, fg, fo, gs, us)) [32, 0, 1, 2, 3, 4, 5, 6, 7, 8, 9, 10, 11, 12, 13, 14, 15, 16, 17, 18, 19, 20, 21, 22, 23, 24, 25, 26, 27, 28, 29, 30, 31] rfl
  replace hD := hD.sub (ws' := dW z d n (len, ft, gc, fg, fo, gs, us)) [32, 0, 1, 2, 3, 4, 5, 6, 7, 8, 9, 10, 11, 12, 13, 14, 15, 16, 17, 18, 19, 20, 21, 22, 23, 24, 25, 26, 27, 28, 29, 30, 31] rfl rfl
  have hxi := h2
  obtain ⟨i, rfl, hi⟩ := h2
  have hG := hgr i hi
  refine lv_aload_n hx hb dD_rank_5 rfl (lv_at hl 0 rfl) ?_
  refine va_get (ci := 2) (C := RD) (T := TD) (N := 9) hx hb ht inD hown hK hP 0 rfl rfl 6 (by decide) (ht _ tw_131) (fun _ h9 => h9) rfl dD_rank_6 ?_
  refine lv_iload_n hx hb dD_rank_9 rfl (lv_at hl 1 rfl) ?_
  refine va_aldq hx hb hK hP 4 3 rfl rfl (vp_in_nI (N := 5) hi (by decide)) dD_rank_10 ?_
  refine wtv (x' := .ref (gs i 0)) (by rw [dF_i hi]; rfl) ?_
  refine lv_aload_n hx hb dD_rank_11 rfl (lv_at hl 0 rfl) ?_
  refine qX_l (ci := 2) (q0 := 0) (wr := ([(d 3, .inl (z 0, 6, .inr (.inl (fo)))), (d 4, .inl (z 3, 5, .inr (.inr (.inr (.inr (dF (gs)))))))] ++ (gWu z (gs 5) n (us 5) ++ (gWu z (gs 6) (n + n) (us 6) ++ (gWu z (gs 0) n (us 0) ++ (gWu z (gs 1) n (us 1) ++ (gWu z (gs 2) n (us 2) ++ (gWu z (gs 3) n (us 3) ++ (gWu z (gs 4) n (us 4)))))))))) (As := []) (rest := [.ref (gs i 0)]) ⟨hx, hb, hml, hown, ht⟩ (c_D_textElement l hst D z d H.size n len gc (gs 5 0) (gs 6 0) ft fg tx g hok) (cB 0 ht gD_textElement rfl tw_59 tw_178 (by decide +kernel) ⟨by decide, by decide⟩) tw_180 tw_0 hK hP hD hS hA hV hH [0, 1, 2] [3, 4, 5, 6, 7, 8, 9, 10, 11, 12, 13, 14, 15, 16, 17, 18, 19, 20, 21, 22, 23, 24, 25, 26, 27, 28, 29, 30, 31, 32] rfl rfl rfl rfl (by decide) rfl rfl rfl rfl hl.1 rfl (Nat.le_of_ble_eq_true rfl) dD_rank_12 ⟨by decide, by decide⟩ (fun E9 ce q9 u12 H locs h12 hP hD hS k1 k2 k3 => qO hout hlocks ((len, ft, gc, fg, fo, gs, us)) (⟨Or.inr ⟨h12.1, hxi, h12.2⟩, rfl⟩) (hP.sub (ws' := dW z d n ((len, ft, gc, fg, fo, gs, us))) [30, 31, 32, 0, 1, 2, 3, 4, 5, 6, 7, 8, 9, 10, 11, 12, 13, 14, 15, 16, 17, 18, 19, 20, 21, 22, 23, 24, 25, 26, 27, 28, 29] rfl) (hD.sub (ws' := dW z d n ((len, ft, gc, fg, fo, gs, us))) [30, 31, 32, 0, 1, 2, 3, 4, 5, 6, 7, 8, 9, 10, 11, 12, 13, 14, 15, 16, 17, 18, 19, 20, 21, 22, 23, 24, 25, 26, 27, 28, 29] rfl rfl) hS k1 k2 k3 hS.2.2 (by decide)) (fun r12 u12 H locs h12 hP hD hS => ?_)
  replace hP := hP.sub (ws' := dW z d n (len, ft, gc, fg, fo, gs, us)) [30, 31, 32, 0, 1, 2, 3, 4, 5, 6, 7, 8, 9, 10, 11, 12, 13, 14, 15, 16, 17, 18, 19, 20, 21, 22, 23, 24, 25, 26, 27, 28, 29] rfl
  replace hD := hD.sub (ws' := dW z d n (len, ft, gc, fg, fo, gs, us)) [30, 31, 32, 0, 1, 2, 3, 4, 5, 6, 7, 8, 9, 10, 11, 12, 13, 14, 15, 16, 17, 18, 19, 20, 21, 22, 23, 24, 25, 26, 27, 28, 29] rfl rfl
  obtain ⟨y, rfl, hy⟩ := h12
  have hyP := pr_text_P (fun i hi => (hok.2.2.2.2 i hi).1) hy
  refine qV_i (ci := 0) (q0 := 0) (As := [.long (eL n y)]) (rest := []) ⟨hx, hb, hml, hown, ht⟩ (c_G_placeOf l D z (gs i) n (us i).2.1 (us i).2.2.2.2.1 (us i).2.2.2.2.2.1 (us i).2.2.2.2.2.2 (us i).1 (by omega) hG.1.1 hG.1.2.2.1 y hyP) (cB 1 ht gG_placeOf rfl tw_61 tw_604 (by decide +kernel) ⟨by decide, by decide⟩) tw_605 tw_606 hK ((sw_P hi hP).sub (ws' := gWu z (gs i) n (us i)) [13, 14, 15, 16] rfl) rfl rfl rfl hl.1 rfl (Nat.le_of_ble_eq_true rfl) dD_rank_15 ⟨by decide, by decide⟩ (fun r15 h15 => ?_)
  refine vx_ret ?_
  refine W.iret hx hb hr (fun t ht hW => ⟨⟨_, (len, ft, gc, fg, fo, gs, us), rfl, ⟨⟨i, y, rfl, hi, hy, ?_⟩, rfl⟩, by rw [ht]; exact hP, hD⟩, hS.F ht⟩) hS.2.2 dD_rank_18
  rcases h15 with ⟨j, rfl, hj⟩ | ⟨rfl, hno⟩
  · exact Or.inl ⟨_, j, hG.row.1, hj, rfl⟩
  · exact Or.inr ⟨by rw [← hG.2.2]; exact hno, rfl⟩
set_option maxHeartbeats 2000000 in
set_option maxRecDepth 100000 in
theorem c_D_element (l : Launch) (hst : l.stackTraces = false) (D : va_G) (z : Nat → ClassId) (d : Nat → Nat) (sz n len gc : Nat) (ft : Nat → Int32) (fg fo : Nat → Int64) (gs : Nat → Nat → Nat) (us : Nat → gSt) (tx : Nat → Nat) (g : Nat → pg_F) (tg : Nat → Option pg_F) (Gs : Nat → pg_F → Prop) (hR : dR n tx len g gc tg Gs ft fg fo us) (x y w : Int32) : vx_Met l yD_element wD_element (rmX 24 3 18) (va_Pc [.ref (d 0), .int x, .int y, .int w] (xPc D (tyL z) (dW z d n (len, ft, gc, fg, fo, gs, us)) sz)) (va_Qi (fun r (v : dSt) => (∃ (i j k : Nat) (L : List pg_F) (q : pg_F), x = nI i ∧ i < 5 ∧ w = nI k ∧ k < n ∧ pg_row n (Gs i) L ∧ y = nI j ∧ L[j]? = some q ∧ r = nI (q k)) ∧ v = (len, ft, gc, fg, fo, gs, us)) (fun v t => va_P D vC (dW z d n v) t.heap ∧ va_D (va_A (dW z d n (len, ft, gc, fg, fo, gs, us)) sz) (dW z d n v)) (va_A (dW z d n (len, ft, gc, fg, fo, gs, us)) sz)) (xX D (fun E (v : dSt) => (E = eIO ∧ ¬ ∃ (i : Nat) (L : List pg_F), x = nI i ∧ i < 5 ∧ iN w n ∧ pg_row n (Gs i) L ∧ iN y L.length) ∧ v = (len, ft, gc, fg, fo, gs, us)) (fun v => dW z d n v) (va_A (dW z d n (len, ft, gc, fg, fo, gs, us)) sz)) 3 18 (va_A (dW z d n (len, ft, gc, fg, fo, gs, us)) sz) := by
  obtain ⟨h1n, hok, htg, hgr, hg0⟩ := hR
  have hn7 := hok.2.2.1
  refine vx_ofW (cc := prog_1_method_17_code) (maxL := 4) (ret := (some .int)) (by decide) rfl ?_
  intro p e s m args below meth c s₁ B hml hout hv
  have hx := B.exec
  have hb := B.bytes
  have hr := B.returns
  have ht : ∀ w ∈ TB, w.before args s = true := fun w h => atoms_spec (ws := wD_element) B.pre w (List.mem_cons_of_mem _ h)
  have hown : s.vm.findClass "PermutationDesk" = some m.cls := findClass_of_methodNamed B.named
  have hlocks := B.notSynchronized
  obtain ⟨rfl, ⟨hsz, hP, hK, hD0⟩, hV, hH⟩ := hv
  subst hsz
  have hD := hD0.self (sz := s.heap.size)
  generalize hAe : va_A (dW z d n (len, ft, gc, fg, fo, gs, us)) s.heap.size = A at hD hH ⊢
  have hA : ∀ q : Nat, s.heap.size ≤ q → A q := fun q h => by rw [← hAe]; exact Or.inr h
  have hS : va_S A s.heap s.heap [] := va_S.rf
  have hl := lv_entry ([.ref (d 0), .int x, .int y, .int w]) (n := 4) (Nat.le_of_ble_eq_true rfl)
  rw [lg_entry_eq]
  generalize (lg_sl ([.ref (d 0), .int x, .int y, .int w]) ++ List.replicate (4 - (lg_sl ([.ref (d 0), .int x, .int y, .int w])).length) Slot.unset).toArray = ls at hl ⊢
  have hl : lv_has ls 4 [(0, .ref (d 0)), (1, .int x), (2, .int y), (3, .int w)] := hl
  refine lv_aload_n hx hb dD_element_0 rfl (lv_at hl 0 rfl) ?_
  refine lv_iload_n hx hb dD_element_1 rfl (lv_at hl 1 rfl) ?_
  refine qX_v (ci := 2) (q0 := 0) (wr := ([(d 1, .inl (z 2, 24, .inl (ft))), (d 2, .inl (z 0, 6, .inr (.inl (fg)))), (d 3, .inl (z 0, 6, .inr (.inl (fo)))), (d 4, .inl (z 3, 5, .inr (.inr (.inr (.inr (dF (gs)))))))] ++ (gWu z (gs 5) n (us 5) ++ (gWu z (gs 6) (n + n) (us 6) ++ (gWu z (gs 0) n (us 0) ++ (gWu z (gs 1) n (us 1) ++ (gWu z (gs 2) n (us 2) ++ (gWu z (gs 3) n (us 3) ++ (gWu z (gs 4) n (us 4)))))))))) (As := [.int x]) (rest := []) ⟨hx, hb, hml, hown, ht⟩ (c_D_needSlot l hst D z d s.heap.size n len gc (gs 5 0) (gs 6 0) x) (cB 1 ht gD_needSlot rfl tw_59 tw_493 (by decide +kernel) ⟨by decide, by decide⟩) tw_495 tw_23 hK hP hD hS hA hV hH [0] [1, 2, 3, 4, 5, 6, 7, 8, 9, 10, 11, 12, 13, 14, 15, 16, 17, 18, 19, 20, 21, 22, 23, 24, 25, 26, 27, 28, 29, 30, 31, 32] rfl rfl rfl rfl (by decide) rfl rfl rfl rfl hl.1 rfl (Nat.le_of_ble_eq_true rfl) dD_element_2 ⟨by decide, by decide⟩ (fun E9 ce q9 u2 H locs h2 hP hD hS k1 k2 k3 => qO hout hlocks ((len, ft, gc, fg, fo, gs, us)) (⟨⟨h2.1, fun ⟨i, L, q1, q2, _⟩ => h2.2 ⟨i, q1, q2⟩⟩, rfl⟩) (hP.sub (ws' := dW z d n ((len, ft, gc, fg, fo, gs, us))) [32, 0, 1, 2, 3, 4, 5, 6, 7, 8, 9, 10, 11, 12, 13, 14, 15, 16, 17, 18, 19, 20, 21, 22, 23, 24, 25, 26, 27, 28, 29, 30, 31] rfl) (hD.sub (ws' := dW z d n ((len, ft, gc, fg, fo, gs, us))) [32, 0, 1, 2, 3, 4, 5, 6, 7, 8, 9, 10, 11, 12, 13, 14, 15, 16, 17, 18, 19, 20, 21, 22, 23, 24, 25, 26, 27, 28, 29, 30, 31] rfl rfl) hS k1 k2 k3 hS.2.2 (by decide)) (fun u2 H locs h2 hP hD hS => ?_)
  replace hP := hP.sub (ws' := dW z d n (len, ft, gc, fg, fo, gs, us)) [32, 0, 1, 2, 3, 4, 5, 6, 7, 8, 9, 10, 11, 12, 13, 14, 15, 16, 17, 18, 19, 20, 21, 22, 23, 24, 25, 26, 27, 28, 29, 30, 31] rfl
  replace hD := hD.sub (ws' := dW z d n (len, ft, gc, fg, fo, gs, us)) [32, 0, 1, 2, 3, 4, 5, 6, 7, 8, 9, 10, 11, 12, 13, 14, 15, 16, 17, 18, 19, 20, 21, 22, 23, 24, 25, 26, 27, 28, 29, 30, 31] rfl rfl
  obtain ⟨i, rfl, hi⟩ := h2
  have hG := hgr i hi
  obtain ⟨hrow, hrl⟩ := hG.row
  have hsm : pg_len n (us i).1 n 0 < 2 ^ 31 := by
    have b1 := pg_row_le hrow hG.2.1.1
    have b3 := pg_fac_le n hn7
    omega
  refine lv_aload_n hx hb dD_element_5 rfl (lv_at hl 0 rfl) ?_
  refine lv_iload_n hx hb dD_element_6 rfl (lv_at hl 3 rfl) ?_
  refine qX_v (ci := 2) (q0 := 0) (wr := ([(d 1, .inl (z 2, 24, .inl (ft))), (d 2, .inl (z 0, 6, .inr (.inl (fg)))), (d 3, .inl (z 0, 6, .inr (.inl (fo)))), (d 4, .inl (z 3, 5, .inr (.inr (.inr (.inr (dF (gs)))))))] ++ (gWu z (gs 5) n (us 5) ++ (gWu z (gs 6) (n + n) (us 6) ++ (gWu z (gs 0) n (us 0) ++ (gWu z (gs 1) n (us 1) ++ (gWu z (gs 2) n (us 2) ++ (gWu z (gs 3) n (us 3) ++ (gWu z (gs 4) n (us 4)))))))))) (As := [.int w]) (rest := []) ⟨hx, hb, hml, hown, ht⟩ (c_D_needPoint l hst D z d H.size n len gc (gs 5 0) (gs 6 0) hn7 w) (cB 1 ht gD_needPoint rfl tw_59 tw_347 (by decide +kernel) ⟨by decide, by decide⟩) tw_349 tw_12 hK hP hD hS hA hV hH [0] [1, 2, 3, 4, 5, 6, 7, 8, 9, 10, 11, 12, 13, 14, 15, 16, 17, 18, 19, 20, 21, 22, 23, 24, 25, 26, 27, 28, 29, 30, 31, 32] rfl rfl rfl rfl (by decide) rfl rfl rfl rfl hl.1 rfl (Nat.le_of_ble_eq_true rfl) dD_element_7 ⟨by decide, by decide⟩ (fun E9 ce q9 u7 H locs h7 hP hD hS k1 k2 k3 => qO hout hlocks ((len, ft, gc, fg, fo, gs, us)) (⟨⟨h7.1, fun ⟨_, L, _, _, q, _⟩ => h7.2 q⟩, rfl⟩) (hP.sub (ws' := dW z d n ((len, ft, gc, fg, fo, gs, us))) [32, 0, 1, 2, 3, 4, 5, 6, 7, 8, 9, 10, 11, 12, 13, 14, 15, 16, 17, 18, 19, 20, 21, 22, 23, 24, 25, 26, 27, 28, 29, 30, 31] rfl) (hD.sub (ws' := dW z d n ((len, ft, gc, fg, fo, gs, us))) [32, 0, 1, 2, 3, 4, 5, 6, 7, 8, 9, 10, 11, 12, 13, 14, 15, 16, 17, 18, 19, 20, 21, 22, 23, 24, 25, 26, 27, 28, 29, 30, 31] rfl rfl) hS k1 k2 k3 hS.2.2 (by decide)) (fun u7 H locs h7 hP hD hS => ?_)
  replace hP := hP.sub (ws' := dW z d n (len, ft, gc, fg, fo, gs, us)) [32, 0, 1, 2, 3, 4, 5, 6, 7, 8, 9, 10, 11, 12, 13, 14, 15, 16, 17, 18, 19, 20, 21, 22, 23, 24, 25, 26, 27, 28, 29, 30, 31] rfl
  replace hD := hD.sub (ws' := dW z d n (len, ft, gc, fg, fo, gs, us)) [32, 0, 1, 2, 3, 4, 5, 6, 7, 8, 9, 10, 11, 12, 13, 14, 15, 16, 17, 18, 19, 20, 21, 22, 23, 24, 25, 26, 27, 28, 29, 30, 31] rfl rfl
  have hwn := h7
  obtain ⟨k, rfl, hk⟩ := h7
  have hbad : ¬ iN y (pg_len n (us i).1 n 0) → ¬ ∃ (i9 : Nat) (L : List pg_F), nI i = nI i9 ∧ i9 < 5 ∧ iN (nI k) n ∧ pg_row n (Gs i9) L ∧ iN y L.length := by
    rintro hno ⟨i9, L, e9, h9, -, hL, hy⟩
    have e8 : i = i9 := (nI_eq (by omega) (by omega)).mp e9
    subst e8
    have := hrow.eq hL
    rw [← this, hrl] at hy
    exact hno hy
  refine lv_iload_n hx hb dD_element_10 rfl (lv_at hl 2 rfl) ?_
  refine lv_if_lt (tgt := 27) hx hb dD_element_11 rfl (fun h11 => ?_) (fun h11 => ?_)
  · have hno : ¬ iN y (pg_len n (us i).1 n 0) := fun q => ((iN_of hsm).mp q).1 h11
    exact qT (cls := eIO) (is := 141) (text := "no such element") hx hb hst hown (by decide +kernel) ht tw_351 tw_70 (by decide) (x_atO ht hV) x_gdO hV hH (len, ft, gc, fg, fo, gs, us) ⟨⟨rfl, hbad hno⟩, rfl⟩ hP hD hS hml hl.1 dD_element_27 dD_element_30 dD_element_31 dD_element_33 dD_element_36 hout (by decide) (Nat.le_of_ble_eq_true rfl) (by decide) hlocks hS.2.2 (by decide)
  refine lv_iload_n hx hb dD_element_14 rfl (lv_at hl 2 rfl) ?_
  refine lv_aload_n hx hb dD_element_15 rfl (lv_at hl 0 rfl) ?_
  refine va_get (ci := 2) (C := RD) (T := TD) (N := 9) hx hb ht inD hown hK hP 0 rfl rfl 6 (by decide) (ht _ tw_131) (fun _ h9 => h9) rfl dD_element_16 ?_
  refine lv_iload_n hx hb dD_element_19 rfl (lv_at hl 1 rfl) ?_
  refine va_aldq hx hb hK hP 4 3 rfl rfl (vp_in_nI (N := 5) hi (by decide)) dD_element_20 ?_
  refine wtv (x' := .ref (gs i 0)) (by rw [dF_i hi]; rfl) ?_
  refine qV_i (ci := 0) (q0 := 0) (As := []) (rest := [.int y]) ⟨hx, hb, hml, hown, ht⟩ (c_G_size l D z (gs i) n (us i).2.1 (us i).2.2.2.2.1 (us i).2.2.2.2.2.1 (us i).2.2.2.2.2.2 (us i).1 (by omega) hG.1.1 hG.1.2.2.1) (cB 0 ht gG_size rfl tw_61 tw_443 (by decide +kernel) ⟨by decide, by decide⟩) tw_444 tw_445 hK ((sw_P hi hP).sub (ws' := gWu z (gs i) n (us i)) [13, 14, 15, 16] rfl) rfl rfl rfl hl.1 rfl (Nat.le_of_ble_eq_true rfl) dD_element_21 ⟨by decide, by decide⟩ (fun r21 h21 => ?_)
  subst h21
  refine lv_icmp_lt (tgt := 37) hx hb dD_element_24 rfl (fun h24 => ?_) (fun h24 => ?_)
  · have hyes : iN y (pg_len n (us i).1 n 0) := (iN_of hsm).mpr ⟨h11, fun q => Int32.not_le.mpr h24 q⟩
    obtain ⟨j, rfl, hj⟩ := hyes
    refine lv_aload_n hx hb dD_element_37 rfl (lv_at hl 0 rfl) ?_
    refine va_get (ci := 2) (C := RD) (T := TD) (N := 9) hx hb ht inD hown hK hP 0 rfl rfl 6 (by decide) (ht _ tw_131) (fun _ h9 => h9) rfl dD_element_38 ?_
    refine lv_iload_n hx hb dD_element_41 rfl (lv_at hl 1 rfl) ?_
    refine va_aldq hx hb hK hP 4 3 rfl rfl (vp_in_nI (N := 5) hi (by decide)) dD_element_42 ?_
    refine wtv (x' := .ref (gs i 0)) (by rw [dF_i hi]; rfl) ?_
    refine lv_iload_n hx hb dD_element_43 rfl (lv_at hl 2 rfl) ?_
    refine qV_l (ci := 0) (q0 := 0) (As := [.int (nI j)]) (rest := []) ⟨hx, hb, hml, hown, ht⟩ (c_G_atPlace l D z (gs i) n (us i).2.1 (us i).2.2.2.2.1 (us i).2.2.2.2.2.1 (us i).2.2.2.2.2.2 (us i).1 (by omega) hG.1.1 hG.1.2.2.1 j hj hsm) (cB 1 ht gG_atPlace rfl tw_61 tw_620 (by decide +kernel) ⟨by decide, by decide⟩) tw_621 tw_622 hK ((sw_P hi hP).sub (ws' := gWu z (gs i) n (us i)) [13, 14, 15, 16] rfl) rfl rfl rfl hl.1 rfl (Nat.le_of_ble_eq_true rfl) dD_element_44 ⟨by decide, by decide⟩ (fun r44 h44 => ?_)
    obtain ⟨q, rfl, hq⟩ := h44
    have hqP : pg_P n q := hG.2.1.1 q ((hrow.2 q).mp (List.mem_of_getElem? hq))
    refine lv_iload_n hx hb dD_element_47 rfl (lv_at hl 3 rfl) ?_
    refine qS_i (As := [.long (eL n q), .int (nI k)]) (rest := []) ⟨hx, hb, hml, hown, ht⟩ (c_E_at l n k q (by omega) (fun p hp => by have := hqP.1 p hp; omega) hk) (cB 2 ht gE_at rfl tw_62 tw_367 (by decide +kernel) ⟨by decide, by decide⟩) tw_254 rfl hl.1 rfl (Nat.le_of_ble_eq_true rfl) dD_element_48 ⟨by decide, by decide⟩ (fun r48 h48 => ?_)
    subst h48
    refine vx_ret (W.widen (k := 3) (n := 18) (by decide) (by decide) ?_)
    exact W.iret hx hb hr (fun t ht hW => ⟨⟨_, (len, ft, gc, fg, fo, gs, us), rfl, ⟨⟨i, j, k, _, q, rfl, hi, rfl, hk, hrow, rfl, hq, rfl⟩, rfl⟩, by rw [ht]; exact hP, hD⟩, hS.F ht⟩) hS.2.2 dD_element_51
  have hno : ¬ iN y (pg_len n (us i).1 n 0) := fun q => h24 (Int32.not_le.mp ((iN_of hsm).mp q).2)
  exact qT (cls := eIO) (is := 141) (text := "no such element") hx hb hst hown (by decide +kernel) ht tw_351 tw_70 (by decide) (x_atO ht hV) x_gdO hV hH (len, ft, gc, fg, fo, gs, us) ⟨⟨rfl, hbad hno⟩, rfl⟩ hP hD hS hml hl.1 dD_element_27 dD_element_30 dD_element_31 dD_element_33 dD_element_36 hout (by decide) (Nat.le_of_ble_eq_true rfl) (by decide) hlocks hS.2.2 (by decide)
