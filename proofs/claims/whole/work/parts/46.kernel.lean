/-! Desk: homomorphisms: extend, kernel, images. -/
/-- the targets of the generators, all of them there -/
def aTg (gc : Nat) (tg : Nat → Option pg_F) (tt : Nat → pg_F) : Prop := ∀ k, k < gc → tg k = some (tt k)
theorem aTg_of {gc : Nat} {tg : Nat → Option pg_F} (h : ∀ k, k < gc → tg k ≠ none) : ∃ tt, aTg gc tg tt := by
  refine ⟨fun k => (tg k).getD pg_id, fun k hk => ?_⟩
  cases e : tg k with
  | none => exact absurd e (h k hk)
  | some x => show some x = some ((tg k).getD pg_id); rw [e]; rfl
set_option maxHeartbeats 2000000 in
set_option maxRecDepth 100000 in
theorem c_D_extend (l : Launch) (hst : l.stackTraces = false) (D : va_G) (z : Nat → ClassId) (d : Nat → Nat) (sz n len gc : Nat) (ft : Nat → Int32) (fg fo : Nat → Int64) (gs : Nat → Nat → Nat) (us : Nat → gSt) (tx : Nat → Nat) (g : Nat → pg_F) (tg : Nat → Option pg_F) (Gs : Nat → pg_F → Prop) (hR : dR n tx len g gc tg Gs ft fg fo us) : vx_Met l yD_extend wD_extend (rmX 24 1 6) (va_Pc [.ref (d 0)] (xPc D (tyL z) (dW z d n (len, ft, gc, fg, fo, gs, us)) sz)) (va_Qi (fun r (v : dSt) => (∃ (tt : Nat → pg_F) (b : Bool), aTg gc tg tt ∧ r = bI b ∧ (b = true ↔ pg_hom n gc tt g)) ∧ dRp n (tx, len, g, gc, tg, Gs) v) (fun v t => va_P D vC (dW z d n v) t.heap ∧ va_D (va_A (dW z d n (len, ft, gc, fg, fo, gs, us)) sz) (dW z d n v)) (va_A (dW z d n (len, ft, gc, fg, fo, gs, us)) sz)) (xX D (fun E (v : dSt) => (E = eIS ∧ ¬ (∀ k, k < gc → tg k ≠ none)) ∧ dRp n (tx, len, g, gc, tg, Gs) v) (fun v => dW z d n v) (va_A (dW z d n (len, ft, gc, fg, fo, gs, us)) sz)) 1 6 (va_A (dW z d n (len, ft, gc, fg, fo, gs, us)) sz) := by
  have hR0 := hR
  obtain ⟨h1n, hok, htg, hgr, hg0⟩ := hR
  have hn7 := hok.2.2.1
  have hgc6 := hok.2.1
  refine vx_ofW (cc := prog_1_method_8_code) (maxL := 1) (ret := (some .boolean)) (by decide) rfl ?_
  intro p e s m args below meth c s₁ B hml hout hv
  have hx := B.exec
  have hb := B.bytes
  have hr := B.returns
  have ht : ∀ w ∈ TB, w.before args s = true := fun w h => atoms_spec (ws := wD_extend) B.pre w (List.mem_cons_of_mem _ h)
  have hown : s.vm.findClass "PermutationDesk" = some m.cls := findClass_of_methodNamed B.named
  have hlocks := B.notSynchronized
  obtain ⟨rfl, ⟨hsz, hP, hK, hD0⟩, hV, hH⟩ := hv
  subst hsz
  have hD := hD0.self (sz := s.heap.size)
  generalize hAe : va_A (dW z d n (len, ft, gc, fg, fo, gs, us)) s.heap.size = A at hD hH ⊢
  have hA : ∀ q : Nat, s.heap.size ≤ q → A q := fun q h => by rw [← hAe]; exact Or.inr h
  have hS : va_S A s.heap s.heap [] := va_S.rf
  have hl := lv_entry ([.ref (d 0)]) (n := 1) (Nat.le_of_ble_eq_true rfl)
  rw [lg_entry_eq]
  generalize (lg_sl ([.ref (d 0)]) ++ List.replicate (1 - (lg_sl ([.ref (d 0)])).length) Slot.unset).toArray = ls at hl ⊢
  have hl : lv_has ls 1 [(0, .ref (d 0))] := hl
  refine lv_aload_n hx hb dD_extend_0 rfl (lv_at hl 0 rfl) ?_
  refine qX_v (ci := 2) (q0 := 0) (wr := ([(d 1, .inl (z 2, 24, .inl (ft))), (d 2, .inl (z 0, 6, .inr (.inl (fg)))), (d 4, .inl (z 3, 5, .inr (.inr (.inr (.inr (dF (gs)))))))] ++ (gWu z (gs 5) n (us 5) ++ (gWu z (gs 6) (n + n) (us 6) ++ (gWu z (gs 0) n (us 0) ++ (gWu z (gs 1) n (us 1) ++ (gWu z (gs 2) n (us 2) ++ (gWu z (gs 3) n (us 3) ++ (gWu z (gs 4) n (us 4)))))))))) (As := []) (rest := []) ⟨hx, hb, hml, hown, ht⟩ (c_D_needTargets l hst D z d s.heap.size n len gc (gs 5 0) (gs 6 0) fo tg (by omega) hgc6 htg) (cB 0 ht gD_needTargets rfl tw_59 tw_431 (by decide +kernel) ⟨by decide, by decide⟩) tw_433 tw_17 hK hP hD hS hA hV hH [0, 3] [1, 2, 4, 5, 6, 7, 8, 9, 10, 11, 12, 13, 14, 15, 16, 17, 18, 19, 20, 21, 22, 23, 24, 25, 26, 27, 28, 29, 30, 31, 32] rfl rfl rfl rfl (by decide) rfl rfl rfl rfl hl.1 rfl (Nat.le_of_ble_eq_true rfl) dD_extend_1 ⟨by decide, by decide⟩ (fun E9 ce q9 u1 H locs h1 hP hD hS k1 k2 k3 => qO hout hlocks ((len, ft, gc, fg, fo, gs, us)) (⟨h1, hR0.rp gs⟩) (hP.sub (ws' := dW z d n ((len, ft, gc, fg, fo, gs, us))) [31, 0, 1, 32, 2, 3, 4, 5, 6, 7, 8, 9, 10, 11, 12, 13, 14, 15, 16, 17, 18, 19, 20, 21, 22, 23, 24, 25, 26, 27, 28, 29, 30] rfl) (hD.sub (ws' := dW z d n ((len, ft, gc, fg, fo, gs, us))) [31, 0, 1, 32, 2, 3, 4, 5, 6, 7, 8, 9, 10, 11, 12, 13, 14, 15, 16, 17, 18, 19, 20, 21, 22, 23, 24, 25, 26, 27, 28, 29, 30] rfl rfl) hS k1 k2 k3 hS.2.2 (by decide)) (fun u1 H locs h1 hP hD hS => ?_)
  replace hP := hP.sub (ws' := dW z d n (len, ft, gc, fg, fo, gs, us)) [31, 0, 1, 32, 2, 3, 4, 5, 6, 7, 8, 9, 10, 11, 12, 13, 14, 15, 16, 17, 18, 19, 20, 21, 22, 23, 24, 25, 26, 27, 28, 29, 30] rfl
  replace hD := hD.sub (ws' := dW z d n (len, ft, gc, fg, fo, gs, us)) [31, 0, 1, 32, 2, 3, 4, 5, 6, 7, 8, 9, 10, 11, 12, 13, 14, 15, 16, 17, 18, 19, 20, 21, 22, 23, 24, 25, 26, 27, 28, 29, 30] rfl rfl
  obtain ⟨tt, htt⟩ := aTg_of h1
  refine lv_aload_n hx hb dD_extend_4 rfl (lv_at hl 0 rfl) ?_
  refine qW_i (ci := 2) (q0 := 0) (wr := ([])) (As := []) (rest := []) ⟨hx, hb, hml, hown, ht⟩ (c_D_isHomomorphism l D z d H.size n (len, ft, gc, fg, fo, gs, us) (tx, len, g, gc, tg, Gs) (hR0.rp gs) tt htt) (cB 0 ht gD_isHomomorphism rfl tw_59 tw_436 (by decide +kernel) ⟨by decide, by decide⟩) tw_438 tw_18 hK hP hD hS hA [0, 1, 2, 3, 4, 5, 6, 7, 8, 9, 10, 11, 12, 13, 14, 15, 16, 17, 18, 19, 20, 21, 22, 23, 24, 25, 26, 27, 28, 29, 30, 31, 32] [] rfl rfl rfl rfl (by decide) rfl rfl rfl rfl hl.1 rfl (Nat.le_of_ble_eq_true rfl) dD_extend_5 ⟨by decide, by decide⟩ (fun r5 u5 H locs h5 hP hD hS => ?_)
  replace hP := hP.sub (ws' := dW z d n u5) [0, 1, 2, 3, 4, 5, 6, 7, 8, 9, 10, 11, 12, 13, 14, 15, 16, 17, 18, 19, 20, 21, 22, 23, 24, 25, 26, 27, 28, 29, 30, 31, 32] rfl
  replace hD := hD.sub (ws' := dW z d n u5) [0, 1, 2, 3, 4, 5, 6, 7, 8, 9, 10, 11, 12, 13, 14, 15, 16, 17, 18, 19, 20, 21, 22, 23, 24, 25, 26, 27, 28, 29, 30, 31, 32] rfl rfl
  obtain ⟨b, u6, rfl, hb9, hG6, rfl⟩ := h5
  refine vx_ret ?_
  exact W.zret hx hb hr (bI_n b) (fun t ht hW => ⟨⟨_, (len, ft, gc, fg, fo, gs, va_up us 6 u6), rfl, ⟨⟨tt, b, htt, rfl, hb9⟩, (hR0.up6 6 (by omega) u6).rp gs⟩, by rw [ht]; exact hP, hD⟩, hS.F ht⟩) hS.2.2 dD_extend_8
/-- the kernel -/
def aKer (n gc : Nat) (tt g : Nat → pg_F) : pg_F → Prop := fun x => pg_P n x ∧ pg_Gen (pg_PS n gc tt g) (pg_pair n pg_id x)
set_option maxHeartbeats 2000000 in
set_option maxRecDepth 100000 in
theorem c_D_kernel (l : Launch) (hst : l.stackTraces = false) (D : va_G) (z : Nat → ClassId) (d : Nat → Nat) (sz n len gc : Nat) (ft : Nat → Int32) (fg fo : Nat → Int64) (gs : Nat → Nat → Nat) (us : Nat → gSt) (tx : Nat → Nat) (g : Nat → pg_F) (tg : Nat → Option pg_F) (Gs : Nat → pg_F → Prop) (hR : dR n tx len g gc tg Gs ft fg fo us) (x : Int32) : vx_Met l yD_kernel wD_kernel (rmX 24 3 18) (va_Pc [.ref (d 0), .int x] (xPc D (tyL z) (dW z d n (len, ft, gc, fg, fo, gs, us)) sz)) (va_Qi (fun r (v : dSt) => ∃ (tt : Nat → pg_F) (i : Nat), aTg gc tg tt ∧ x = nI i ∧ i < 5 ∧ i ≠ 0 ∧ pg_hom n gc tt g ∧ gOrd n (aKer n gc tt g) r ∧ dRp n (tx, len, g, gc, tg, va_up Gs i (aKer n gc tt g)) v) (fun v t => va_P D vC (dW z d n v) t.heap ∧ va_D (va_A (dW z d n (len, ft, gc, fg, fo, gs, us)) sz) (dW z d n v)) (va_A (dW z d n (len, ft, gc, fg, fo, gs, us)) sz)) (xX D (fun E (v : dSt) => ((E = eIO ∧ ¬ (iN x 5 ∧ x ≠ 0)) ∨ (E = eIS ∧ (iN x 5 ∧ x ≠ 0) ∧ (¬ (∀ k, k < gc → tg k ≠ none) ∨ ∃ tt, aTg gc tg tt ∧ ¬ pg_hom n gc tt g))) ∧ dRp n (tx, len, g, gc, tg, Gs) v) (fun v => dW z d n v) (va_A (dW z d n (len, ft, gc, fg, fo, gs, us)) sz)) 3 18 (va_A (dW z d n (len, ft, gc, fg, fo, gs, us)) sz) := by
  have hR0 := hR
  obtain ⟨h1n, hok, htg, hgr, hg0⟩ := hR
  have hn7 := hok.2.2.1
  have hgc6 := hok.2.1
  refine vx_ofW (cc := prog_1_method_9_code) (maxL := 2) (ret := (some .int)) (by decide) rfl ?_
  intro p e s m args below meth c s₁ B hml hout hv
  have hx := B.exec
  have hb := B.bytes
  have hr := B.returns
  have ht : ∀ w ∈ TB, w.before args s = true := fun w h => atoms_spec (ws := wD_kernel) B.pre w (List.mem_cons_of_mem _ h)
  have hown : s.vm.findClass "PermutationDesk" = some m.cls := findClass_of_methodNamed B.named
  have hlocks := B.notSynchronized
  obtain ⟨rfl, ⟨hsz, hP, hK, hD0⟩, hV, hH⟩ := hv
  subst hsz
  have hD := hD0.self (sz := s.heap.size)
  generalize hAe : va_A (dW z d n (len, ft, gc, fg, fo, gs, us)) s.heap.size = A at hD hH ⊢
  have hA : ∀ q : Nat, s.heap.size ≤ q → A q := fun q h => by rw [← hAe]; exact Or.inr h
  have hS : va_S A s.heap s.heap [] := va_S.rf
  have hl := lv_entry ([.ref (d 0), .int x]) (n := 2) (Nat.le_of_ble_eq_true rfl)
  rw [lg_entry_eq]
  generalize (lg_sl ([.ref (d 0), .int x]) ++ List.replicate (2 - (lg_sl ([.ref (d 0), .int x])).length) Slot.unset).toArray = ls at hl ⊢
  have hl : lv_has ls 2 [(0, .ref (d 0)), (1, .int x)] := hl
  refine lv_aload_n hx hb dD_kernel_0 rfl (lv_at hl 0 rfl) ?_
  refine lv_iload_n hx hb dD_kernel_1 rfl (lv_at hl 1 rfl) ?_
  refine qX_v (ci := 2) (q0 := 0) (wr := ([(d 1, .inl (z 2, 24, .inl (ft))), (d 2, .inl (z 0, 6, .inr (.inl (fg)))), (d 3, .inl (z 0, 6, .inr (.inl (fo)))), (d 4, .inl (z 3, 5, .inr (.inr (.inr (.inr (dF (gs)))))))] ++ (gWu z (gs 5) n (us 5) ++ (gWu z (gs 6) (n + n) (us 6) ++ (gWu z (gs 0) n (us 0) ++ (gWu z (gs 1) n (us 1) ++ (gWu z (gs 2) n (us 2) ++ (gWu z (gs 3) n (us 3) ++ (gWu z (gs 4) n (us 4)))))))))) (As := [.int x]) (rest := []) ⟨hx, hb, hml, hown, ht⟩ (c_D_needTargetSlot l hst D z d s.heap.size n len gc (gs 5 0) (gs 6 0) x) (cB 1 ht gD_needTargetSlot rfl tw_59 tw_462 (by decide +kernel) ⟨by decide, by decide⟩) tw_464 tw_21 hK hP hD hS hA hV hH [0] [1, 2, 3, 4, 5, 6, 7, 8, 9, 10, 11, 12, 13, 14, 15, 16, 17, 18, 19, 20, 21, 22, 23, 24, 25, 26, 27, 28, 29, 30, 31, 32] rfl rfl rfl rfl (by decide) rfl rfl rfl rfl hl.1 rfl (Nat.le_of_ble_eq_true rfl) dD_kernel_2 ⟨by decide, by decide⟩ (fun E9 ce q9 u2 H locs h2 hP hD hS k1 k2 k3 => qO hout hlocks ((len, ft, gc, fg, fo, gs, us)) (⟨Or.inl h2, hR0.rp gs⟩) (hP.sub (ws' := dW z d n ((len, ft, gc, fg, fo, gs, us))) [32, 0, 1, 2, 3, 4, 5, 6, 7, 8, 9, 10, 11, 12, 13, 14, 15, 16, 17, 18, 19, 20, 21, 22, 23, 24, 25, 26, 27, 28, 29, 30, 31] rfl) (hD.sub (ws' := dW z d n ((len, ft, gc, fg, fo, gs, us))) [32, 0, 1, 2, 3, 4, 5, 6, 7, 8, 9, 10, 11, 12, 13, 14, 15, 16, 17, 18, 19, 20, 21, 22, 23, 24, 25, 26, 27, 28, 29, 30, 31] rfl rfl) hS k1 k2 k3 hS.2.2 (by decide)) (fun u2 H locs h2 hP hD hS => ?_)
  replace hP := hP.sub (ws' := dW z d n (len, ft, gc, fg, fo, gs, us)) [32, 0, 1, 2, 3, 4, 5, 6, 7, 8, 9, 10, 11, 12, 13, 14, 15, 16, 17, 18, 19, 20, 21, 22, 23, 24, 25, 26, 27, 28, 29, 30, 31] rfl
  replace hD := hD.sub (ws' := dW z d n (len, ft, gc, fg, fo, gs, us)) [32, 0, 1, 2, 3, 4, 5, 6, 7, 8, 9, 10, 11, 12, 13, 14, 15, 16, 17, 18, 19, 20, 21, 22, 23, 24, 25, 26, 27, 28, 29, 30, 31] rfl rfl
  have hx5 := h2
  obtain ⟨⟨i, rfl, hi⟩, hx0⟩ := h2
  have hi0 : i ≠ 0 := fun q => hx0 (by rw [q]; rfl)
  refine lv_aload_n hx hb dD_kernel_5 rfl (lv_at hl 0 rfl) ?_
  refine qX_v (ci := 2) (q0 := 0) (wr := ([(d 1, .inl (z 2, 24, .inl (ft))), (d 2, .inl (z 0, 6, .inr (.inl (fg)))), (d 4, .inl (z 3, 5, .inr (.inr (.inr (.inr (dF (gs)))))))] ++ (gWu z (gs 5) n (us 5) ++ (gWu z (gs 6) (n + n) (us 6) ++ (gWu z (gs 0) n (us 0) ++ (gWu z (gs 1) n (us 1) ++ (gWu z (gs 2) n (us 2) ++ (gWu z (gs 3) n (us 3) ++ (gWu z (gs 4) n (us 4)))))))))) (As := []) (rest := []) ⟨hx, hb, hml, hown, ht⟩ (c_D_needTargets l hst D z d H.size n len gc (gs 5 0) (gs 6 0) fo tg (by omega) hgc6 htg) (cB 0 ht gD_needTargets rfl tw_59 tw_431 (by decide +kernel) ⟨by decide, by decide⟩) tw_433 tw_17 hK hP hD hS hA hV hH [0, 3] [1, 2, 4, 5, 6, 7, 8, 9, 10, 11, 12, 13, 14, 15, 16, 17, 18, 19, 20, 21, 22, 23, 24, 25, 26, 27, 28, 29, 30, 31, 32] rfl rfl rfl rfl (by decide) rfl rfl rfl rfl hl.1 rfl (Nat.le_of_ble_eq_true rfl) dD_kernel_6 ⟨by decide, by decide⟩ (fun E9 ce q9 u6 H locs h6 hP hD hS k1 k2 k3 => qO hout hlocks ((len, ft, gc, fg, fo, gs, us)) (⟨Or.inr ⟨h6.1, hx5, Or.inl h6.2⟩, hR0.rp gs⟩) (hP.sub (ws' := dW z d n ((len, ft, gc, fg, fo, gs, us))) [31, 0, 1, 32, 2, 3, 4, 5, 6, 7, 8, 9, 10, 11, 12, 13, 14, 15, 16, 17, 18, 19, 20, 21, 22, 23, 24, 25, 26, 27, 28, 29, 30] rfl) (hD.sub (ws' := dW z d n ((len, ft, gc, fg, fo, gs, us))) [31, 0, 1, 32, 2, 3, 4, 5, 6, 7, 8, 9, 10, 11, 12, 13, 14, 15, 16, 17, 18, 19, 20, 21, 22, 23, 24, 25, 26, 27, 28, 29, 30] rfl rfl) hS k1 k2 k3 hS.2.2 (by decide)) (fun u6 H locs h6 hP hD hS => ?_)
  replace hP := hP.sub (ws' := dW z d n (len, ft, gc, fg, fo, gs, us)) [31, 0, 1, 32, 2, 3, 4, 5, 6, 7, 8, 9, 10, 11, 12, 13, 14, 15, 16, 17, 18, 19, 20, 21, 22, 23, 24, 25, 26, 27, 28, 29, 30] rfl
  replace hD := hD.sub (ws' := dW z d n (len, ft, gc, fg, fo, gs, us)) [31, 0, 1, 32, 2, 3, 4, 5, 6, 7, 8, 9, 10, 11, 12, 13, 14, 15, 16, 17, 18, 19, 20, 21, 22, 23, 24, 25, 26, 27, 28, 29, 30] rfl rfl
  obtain ⟨tt, htt⟩ := aTg_of h6
  have hgP : ∀ k, k < gc → pg_P n (g k) := fun k hk => (hok.2.2.2.2 k hk).1
  have htP : ∀ k, k < gc → pg_P n (tt k) := fun k hk => (htg k hk).2 _ (htt k hk)
  refine lv_aload_n hx hb dD_kernel_9 rfl (lv_at hl 0 rfl) ?_
  refine qW_i (ci := 2) (q0 := 0) (wr := ([])) (As := []) (rest := []) ⟨hx, hb, hml, hown, ht⟩ (c_D_isHomomorphism l D z d H.size n (len, ft, gc, fg, fo, gs, us) (tx, len, g, gc, tg, Gs) (hR0.rp gs) tt htt) (cB 0 ht gD_isHomomorphism rfl tw_59 tw_436 (by decide +kernel) ⟨by decide, by decide⟩) tw_438 tw_18 hK hP hD hS hA [0, 1, 2, 3, 4, 5, 6, 7, 8, 9, 10, 11, 12, 13, 14, 15, 16, 17, 18, 19, 20, 21, 22, 23, 24, 25, 26, 27, 28, 29, 30, 31, 32] [] rfl rfl rfl rfl (by decide) rfl rfl rfl rfl hl.1 rfl (Nat.le_of_ble_eq_true rfl) dD_kernel_10 ⟨by decide, by decide⟩ (fun r10 u10 H locs h10 hP hD hS => ?_)
  replace hP := hP.sub (ws' := dW z d n u10) [0, 1, 2, 3, 4, 5, 6, 7, 8, 9, 10, 11, 12, 13, 14, 15, 16, 17, 18, 19, 20, 21, 22, 23, 24, 25, 26, 27, 28, 29, 30, 31, 32] rfl
  replace hD := hD.sub (ws' := dW z d n u10) [0, 1, 2, 3, 4, 5, 6, 7, 8, 9, 10, 11, 12, 13, 14, 15, 16, 17, 18, 19, 20, 21, 22, 23, 24, 25, 26, 27, 28, 29, 30, 31, 32] rfl rfl
  obtain ⟨b, u6, rfl, hb9, hG6, rfl⟩ := h10
  replace hP : va_P D vC (dW z d n (len, ft, gc, fg, fo, gs, va_up us 6 u6)) H := hP
  replace hD : va_D A (dW z d n (len, ft, gc, fg, fo, gs, va_up us 6 u6)) := hD
  have hR6 := hR0.up6 6 (by omega) u6
  refine lv_if_ne (tgt := 26) hx hb dD_kernel_13 rfl (fun h13 => ?_) (fun h13 => ?_)
  · have hbt : b = true := by
      cases b with
      | true => rfl
      | false => exact absurd rfl h13
    have hom := hb9.mp hbt
    refine lv_aload_n hx hb dD_kernel_26 rfl (lv_at hl 0 rfl) ?_
    refine va_get (ci := 2) (C := RD) (T := TD) (N := 9) hx hb ht inD hown hK hP 0 rfl rfl 7 (by decide) (ht _ tw_132) (fun _ h9 => h9) rfl dD_kernel_27 ?_
    refine lv_aload_n hx hb dD_kernel_30 rfl (lv_at hl 0 rfl) ?_
    refine va_get (ci := 2) (C := RD) (T := TD) (N := 9) hx hb ht inD hown hK hP 0 rfl rfl 8 (by decide) (ht _ tw_133) (fun _ h9 => h9) rfl dD_kernel_31 ?_
    refine qW_v (ci := 0) (q0 := 0) (wr := ([dO d n (len) (gc) (gs 5 0) (gs 6 0), (d 1, .inl (z 2, 24, .inl (ft))), (d 2, .inl (z 0, 6, .inr (.inl (fg)))), (d 3, .inl (z 0, 6, .inr (.inl (fo)))), (d 4, .inl (z 3, 5, .inr (.inr (.inr (.inr (dF (gs)))))))] ++ (gWu z (gs 0) n ((va_up us 6 u6) 0) ++ (gWu z (gs 1) n ((va_up us 6 u6) 1) ++ (gWu z (gs 2) n ((va_up us 6 u6) 2) ++ (gWu z (gs 3) n ((va_up us 6 u6) 3) ++ (gWu z (gs 4) n ((va_up us 6 u6) 4)))))))) (As := [.ref (gs 6 0)]) (rest := []) ⟨hx, hb, hml, hown, ht⟩ (c_G_takeSecondParts l D z (gs 5) (gs 6) H.size n (us 5).2.1 (us 5).2.2.2.2.1 (us 5).2.2.2.2.2.1 (us 5).2.2.2.2.2.2 u6.1 u6.2.1 u6.2.2.1 u6.2.2.2.1 u6.2.2.2.2.1 u6.2.2.2.2.2.1 u6.2.2.2.2.2.2 hn7 gc tt g htP hgP hG6) (cB 1 ht gG_takeSecondParts rfl tw_61 tw_468 (by decide +kernel) ⟨by decide, by decide⟩) tw_469 tw_470 hK hP hD hS hA [5, 6, 7, 8, 9, 10, 11, 12] [0, 1, 2, 3, 4, 13, 14, 15, 16, 17, 18, 19, 20, 21, 22, 23, 24, 25, 26, 27, 28, 29, 30, 31, 32] rfl rfl rfl rfl (by decide) rfl rfl rfl rfl hl.1 rfl (Nat.le_of_ble_eq_true rfl) dD_kernel_34 ⟨by decide, by decide⟩ (fun u34 H locs h34 hP hD hS => ?_)
    replace hP := hP.sub (ws' := dW z d n (len, ft, gc, fg, fo, gs, va_up (va_up us 6 u6) 5 u34)) [0, 1, 2, 3, 4, 25, 26, 27, 28, 29, 30, 31, 32, 5, 6, 7, 8, 9, 10, 11, 12, 13, 14, 15, 16, 17, 18, 19, 20, 21, 22, 23, 24] rfl
    replace hD := hD.sub (ws' := dW z d n (len, ft, gc, fg, fo, gs, va_up (va_up us 6 u6) 5 u34)) [0, 1, 2, 3, 4, 25, 26, 27, 28, 29, 30, 31, 32, 5, 6, 7, 8, 9, 10, 11, 12, 13, 14, 15, 16, 17, 18, 19, 20, 21, 22, 23, 24] rfl rfl
    refine lv_aload_n hx hb dD_kernel_37 rfl (lv_at hl 0 rfl) ?_
    refine lv_iload_n hx hb dD_kernel_38 rfl (lv_at hl 1 rfl) ?_
    refine qW_i (ci := 2) (q0 := 0) (wr := ([])) (As := [.int (nI i)]) (rest := []) ⟨hx, hb, hml, hown, ht⟩ (c_D_storeWork l D z d H.size n (len, ft, gc, fg, fo, gs, va_up (va_up us 6 u6) 5 u34) hn7 i hi (aKer n gc tt g) h34) (cB 1 ht gD_storeWork rfl tw_59 tw_475 (by decide +kernel) ⟨by decide, by decide⟩) tw_477 tw_22 hK hP hD hS hA [0, 1, 2, 3, 4, 5, 6, 7, 8, 9, 10, 11, 12, 13, 14, 15, 16, 17, 18, 19, 20, 21, 22, 23, 24, 25, 26, 27, 28, 29, 30, 31, 32] [] rfl rfl rfl rfl (by decide) rfl rfl rfl rfl hl.1 rfl (Nat.le_of_ble_eq_true rfl) dD_kernel_39 ⟨by decide, by decide⟩ (fun r39 u39 H locs h39 hP hD hS => ?_)
    replace hP := hP.sub (ws' := dW z d n u39) [0, 1, 2, 3, 4, 5, 6, 7, 8, 9, 10, 11, 12, 13, 14, 15, 16, 17, 18, 19, 20, 21, 22, 23, 24, 25, 26, 27, 28, 29, 30, 31, 32] rfl
    replace hD := hD.sub (ws' := dW z d n u39) [0, 1, 2, 3, 4, 5, 6, 7, 8, 9, 10, 11, 12, 13, 14, 15, 16, 17, 18, 19, 20, 21, 22, 23, 24, 25, 26, 27, 28, 29, 30, 31, 32] rfl rfl
    obtain ⟨hord, rfl⟩ := h39
    refine vx_ret (W.widen (k := 3) (n := 18) (by decide) (by decide) ?_)
    exact W.iret hx hb hr (fun t ht hW => ⟨⟨_, _, rfl, ⟨tt, i, htt, rfl, hi, hi0, hom, hord, ((hR6.up6 5 (by omega) u34).put hi0 h34).rp (dPut gs i)⟩, by rw [ht]; exact hP, hD⟩, hS.F ht⟩) hS.2.2 dD_kernel_42
  have hbf : b = false := bI_0.mp h13
  have hno : ¬ pg_hom n gc tt g := fun q => by rw [hb9.mpr q] at hbf; cases hbf
  exact qT (cls := eIS) (is := 96) (text := "the images are no homomorphism") hx hb hst hown (by decide +kernel) ht tw_376 tw_71 (by decide) (x_atS ht hV) x_gdS hV hH (len, ft, gc, fg, fo, gs, va_up us 6 u6) ⟨Or.inr ⟨rfl, hx5, Or.inr ⟨tt, htt, hno⟩⟩, hR6.rp gs⟩ hP hD hS hml hl.1 dD_kernel_16 dD_kernel_19 dD_kernel_20 dD_kernel_22 dD_kernel_25 hout (by decide) (Nat.le_of_ble_eq_true rfl) (by decide) hlocks hS.2.2 (by decide)
set_option maxHeartbeats 2000000 in
set_option maxRecDepth 100000 in
theorem c_D_images (l : Launch) (hst : l.stackTraces = false) (D : va_G) (z : Nat → ClassId) (d : Nat → Nat) (sz n len gc : Nat) (ft : Nat → Int32) (fg fo : Nat → Int64) (gs : Nat → Nat → Nat) (us : Nat → gSt) (tx : Nat → Nat) (g : Nat → pg_F) (tg : Nat → Option pg_F) (Gs : Nat → pg_F → Prop) (hR : dR n tx len g gc tg Gs ft fg fo us) (x : Int32) : vx_Met l yD_images wD_images (rmX 24 2 12) (va_Pc [.ref (d 0), .int x] (xPc D (tyL z) (dW z d n (len, ft, gc, fg, fo, gs, us)) sz)) (va_Qi (fun r (v : dSt) => ∃ (tt : Nat → pg_F) (i : Nat), aTg gc tg tt ∧ x = nI i ∧ i < 5 ∧ i ≠ 0 ∧ gOrd n (pg_Gen (pg_GS gc tt)) r ∧ dRp n (tx, len, g, gc, tg, va_up Gs i (pg_Gen (pg_GS gc tt))) v) (fun v t => va_P D vC (dW z d n v) t.heap ∧ va_D (va_A (dW z d n (len, ft, gc, fg, fo, gs, us)) sz) (dW z d n v)) (va_A (dW z d n (len, ft, gc, fg, fo, gs, us)) sz)) (xX D (fun E (v : dSt) => ((E = eIO ∧ ¬ (iN x 5 ∧ x ≠ 0)) ∨ (E = eIS ∧ (iN x 5 ∧ x ≠ 0) ∧ ¬ (∀ k, k < gc → tg k ≠ none))) ∧ dRp n (tx, len, g, gc, tg, Gs) v) (fun v => dW z d n v) (va_A (dW z d n (len, ft, gc, fg, fo, gs, us)) sz)) 2 12 (va_A (dW z d n (len, ft, gc, fg, fo, gs, us)) sz) := by
  have hR0 := hR
  obtain ⟨h1n, hok, htg, hgr, hg0⟩ := hR
  have hn7 := hok.2.2.1
  have hgc6 := hok.2.1
  refine vx_ofW (cc := prog_1_method_10_code) (maxL := 3) (ret := (some .int)) (by decide) rfl ?_
  intro p e s m args below meth c s₁ B hml hout hv
  have hx := B.exec
  have hb := B.bytes
  have hr := B.returns
  have ht : ∀ w ∈ TB, w.before args s = true := fun w h => atoms_spec (ws := wD_images) B.pre w (List.mem_cons_of_mem _ h)
  have hown : s.vm.findClass "PermutationDesk" = some m.cls := findClass_of_methodNamed B.named
  have hlocks := B.notSynchronized
  obtain ⟨rfl, ⟨hsz, hP, hK, hD0⟩, hV, hH⟩ := hv
  subst hsz
  have hD := hD0.self (sz := s.heap.size)
  generalize hAe : va_A (dW z d n (len, ft, gc, fg, fo, gs, us)) s.heap.size = A at hD hH ⊢
  have hA : ∀ q : Nat, s.heap.size ≤ q → A q := fun q h => by rw [← hAe]; exact Or.inr h
  have hS : va_S A s.heap s.heap [] := va_S.rf
  have hl := lv_entry ([.ref (d 0), .int x]) (n := 3) (Nat.le_of_ble_eq_true rfl)
  rw [lg_entry_eq]
  generalize (lg_sl ([.ref (d 0), .int x]) ++ List.replicate (3 - (lg_sl ([.ref (d 0), .int x])).length) Slot.unset).toArray = ls at hl ⊢
  have hl : lv_has ls 3 [(0, .ref (d 0)), (1, .int x)] := hl
  refine lv_aload_n hx hb dD_images_0 rfl (lv_at hl 0 rfl) ?_
  refine lv_iload_n hx hb dD_images_1 rfl (lv_at hl 1 rfl) ?_
  refine qX_v (ci := 2) (q0 := 0) (wr := ([(d 1, .inl (z 2, 24, .inl (ft))), (d 2, .inl (z 0, 6, .inr (.inl (fg)))), (d 3, .inl (z 0, 6, .inr (.inl (fo)))), (d 4, .inl (z 3, 5, .inr (.inr (.inr (.inr (dF (gs)))))))] ++ (gWu z (gs 5) n (us 5) ++ (gWu z (gs 6) (n + n) (us 6) ++ (gWu z (gs 0) n (us 0) ++ (gWu z (gs 1) n (us 1) ++ (gWu z (gs 2) n (us 2) ++ (gWu z (gs 3) n (us 3) ++ (gWu z (gs 4) n (us 4)))))))))) (As := [.int x]) (rest := []) ⟨hx, hb, hml, hown, ht⟩ (c_D_needTargetSlot l hst D z d s.heap.size n len gc (gs 5 0) (gs 6 0) x) (cB 1 ht gD_needTargetSlot rfl tw_59 tw_462 (by decide +kernel) ⟨by decide, by decide⟩) tw_464 tw_21 hK hP hD hS hA hV hH [0] [1, 2, 3, 4, 5, 6, 7, 8, 9, 10, 11, 12, 13, 14, 15, 16, 17, 18, 19, 20, 21, 22, 23, 24, 25, 26, 27, 28, 29, 30, 31, 32] rfl rfl rfl rfl (by decide) rfl rfl rfl rfl hl.1 rfl (Nat.le_of_ble_eq_true rfl) dD_images_2 ⟨by decide, by decide⟩ (fun E9 ce q9 u2 H locs h2 hP hD hS k1 k2 k3 => qO hout hlocks ((len, ft, gc, fg, fo, gs, us)) (⟨Or.inl h2, hR0.rp gs⟩) (hP.sub (ws' := dW z d n ((len, ft, gc, fg, fo, gs, us))) [32, 0, 1, 2, 3, 4, 5, 6, 7, 8, 9, 10, 11, 12, 13, 14, 15, 16, 17, 18, 19, 20, 21, 22, 23, 24, 25, 26, 27, 28, 29, 30, 31] rfl) (hD.sub (ws' := dW z d n ((len, ft, gc, fg, fo, gs, us))) [32, 0, 1, 2, 3, 4, 5, 6, 7, 8, 9, 10, 11, 12, 13, 14, 15, 16, 17, 18, 19, 20, 21, 22, 23, 24, 25, 26, 27, 28, 29, 30, 31] rfl rfl) hS k1 k2 k3 hS.2.2 (by decide)) (fun u2 H locs h2 hP hD hS => ?_)
  replace hP := hP.sub (ws' := dW z d n (len, ft, gc, fg, fo, gs, us)) [32, 0, 1, 2, 3, 4, 5, 6, 7, 8, 9, 10, 11, 12, 13, 14, 15, 16, 17, 18, 19, 20, 21, 22, 23, 24, 25, 26, 27, 28, 29, 30, 31] rfl
  replace hD := hD.sub (ws' := dW z d n (len, ft, gc, fg, fo, gs, us)) [32, 0, 1, 2, 3, 4, 5, 6, 7, 8, 9, 10, 11, 12, 13, 14, 15, 16, 17, 18, 19, 20, 21, 22, 23, 24, 25, 26, 27, 28, 29, 30, 31] rfl rfl
  have hx5 := h2
  obtain ⟨⟨i, rfl, hi⟩, hx0⟩ := h2
  have hi0 : i ≠ 0 := fun q => hx0 (by rw [q]; rfl)
  refine lv_aload_n hx hb dD_images_5 rfl (lv_at hl 0 rfl) ?_
  refine qX_v (ci := 2) (q0 := 0) (wr := ([(d 1, .inl (z 2, 24, .inl (ft))), (d 2, .inl (z 0, 6, .inr (.inl (fg)))), (d 4, .inl (z 3, 5, .inr (.inr (.inr (.inr (dF (gs)))))))] ++ (gWu z (gs 5) n (us 5) ++ (gWu z (gs 6) (n + n) (us 6) ++ (gWu z (gs 0) n (us 0) ++ (gWu z (gs 1) n (us 1) ++ (gWu z (gs 2) n (us 2) ++ (gWu z (gs 3) n (us 3) ++ (gWu z (gs 4) n (us 4)))))))))) (As := []) (rest := []) ⟨hx, hb, hml, hown, ht⟩ (c_D_needTargets l hst D z d H.size n len gc (gs 5 0) (gs 6 0) fo tg (by omega) hgc6 htg) (cB 0 ht gD_needTargets rfl tw_59 tw_431 (by decide +kernel) ⟨by decide, by decide⟩) tw_433 tw_17 hK hP hD hS hA hV hH [0, 3] [1, 2, 4, 5, 6, 7, 8, 9, 10, 11, 12, 13, 14, 15, 16, 17, 18, 19, 20, 21, 22, 23, 24, 25, 26, 27, 28, 29, 30, 31, 32] rfl rfl rfl rfl (by decide) rfl rfl rfl rfl hl.1 rfl (Nat.le_of_ble_eq_true rfl) dD_images_6 ⟨by decide, by decide⟩ (fun E9 ce q9 u6 H locs h6 hP hD hS k1 k2 k3 => qO hout hlocks ((len, ft, gc, fg, fo, gs, us)) (⟨Or.inr ⟨h6.1, hx5, h6.2⟩, hR0.rp gs⟩) (hP.sub (ws' := dW z d n ((len, ft, gc, fg, fo, gs, us))) [31, 0, 1, 32, 2, 3, 4, 5, 6, 7, 8, 9, 10, 11, 12, 13, 14, 15, 16, 17, 18, 19, 20, 21, 22, 23, 24, 25, 26, 27, 28, 29, 30] rfl) (hD.sub (ws' := dW z d n ((len, ft, gc, fg, fo, gs, us))) [31, 0, 1, 32, 2, 3, 4, 5, 6, 7, 8, 9, 10, 11, 12, 13, 14, 15, 16, 17, 18, 19, 20, 21, 22, 23, 24, 25, 26, 27, 28, 29, 30] rfl rfl) hS k1 k2 k3 hS.2.2 (by decide)) (fun u6 H locs h6 hP hD hS => ?_)
  replace hP := hP.sub (ws' := dW z d n (len, ft, gc, fg, fo, gs, us)) [31, 0, 1, 32, 2, 3, 4, 5, 6, 7, 8, 9, 10, 11, 12, 13, 14, 15, 16, 17, 18, 19, 20, 21, 22, 23, 24, 25, 26, 27, 28, 29, 30] rfl
  replace hD := hD.sub (ws' := dW z d n (len, ft, gc, fg, fo, gs, us)) [31, 0, 1, 32, 2, 3, 4, 5, 6, 7, 8, 9, 10, 11, 12, 13, 14, 15, 16, 17, 18, 19, 20, 21, 22, 23, 24, 25, 26, 27, 28, 29, 30] rfl rfl
  obtain ⟨tt, htt⟩ := aTg_of h6
  have htP : ∀ k, k < gc → pg_P n (tt k) := fun k hk => (htg k hk).2 _ (htt k hk)
  refine lv_aload_n hx hb dD_images_9 rfl (lv_at hl 0 rfl) ?_
  refine va_get (ci := 2) (C := RD) (T := TD) (N := 9) hx hb ht inD hown hK hP 0 rfl rfl 7 (by decide) (ht _ tw_132) (fun _ h9 => h9) rfl dD_images_10 ?_
  refine qW_v (ci := 0) (q0 := 0) (wr := ([dO d n (len) (gc) (gs 5 0) (gs 6 0), (d 1, .inl (z 2, 24, .inl (ft))), (d 2, .inl (z 0, 6, .inr (.inl (fg)))), (d 3, .inl (z 0, 6, .inr (.inl (fo)))), (d 4, .inl (z 3, 5, .inr (.inr (.inr (.inr (dF (gs)))))))] ++ (gWu z (gs 6) (n + n) (us 6) ++ (gWu z (gs 0) n (us 0) ++ (gWu z (gs 1) n (us 1) ++ (gWu z (gs 2) n (us 2) ++ (gWu z (gs 3) n (us 3) ++ (gWu z (gs 4) n (us 4))))))))) (As := []) (rest := []) ⟨hx, hb, hml, hown, ht⟩ (c_G_clear l D z (gs 5) H.size n (us 5).2.1 (us 5).2.2.2.2.1 (us 5).2.2.2.2.2.1 (us 5).2.2.2.2.2.2 (by omega)) (cB 0 ht gG_clear rfl tw_61 tw_165 (by decide +kernel) ⟨by decide, by decide⟩) tw_96 tw_97 hK hP hD hS hA [5, 6, 7, 8] [0, 1, 2, 3, 4, 9, 10, 11, 12, 13, 14, 15, 16, 17, 18, 19, 20, 21, 22, 23, 24, 25, 26, 27, 28, 29, 30, 31, 32] rfl rfl rfl rfl (by decide) rfl rfl rfl rfl hl.1 rfl (Nat.le_of_ble_eq_true rfl) dD_images_13 ⟨by decide, by decide⟩ (fun u13 H locs h13 hP hD hS => ?_)
  replace hP := hP.sub (ws' := dW z d n (len, ft, gc, fg, fo, gs, va_up us 5 u13)) [0, 1, 2, 3, 4, 29, 30, 31, 32, 5, 6, 7, 8, 9, 10, 11, 12, 13, 14, 15, 16, 17, 18, 19, 20, 21, 22, 23, 24, 25, 26, 27, 28] rfl
  replace hD := hD.sub (ws' := dW z d n (len, ft, gc, fg, fo, gs, va_up us 5 u13)) [0, 1, 2, 3, 4, 29, 30, 31, 32, 5, 6, 7, 8, 9, 10, 11, 12, 13, 14, 15, 16, 17, 18, 19, 20, 21, 22, 23, 24, 25, 26, 27, 28] rfl rfl
  refine lv_iconst (v := 0) hx hb dD_images_16 (by decide) ?_
  refine lv_istore_n hx hb dD_images_17 rfl hl (by decide) rfl (fun ls hl => ?_)
  replace hl : lv_has ls 3 [(2, .int (nI 0)), (0, .ref (d 0)), (1, .int (nI i))] := hl
  refine wl (σ := Nat × gSt) (I := fun d9 st H locs ls => d9 + st.1 = gc ∧ gGp n st.2 (pg_Gen (pg_GS st.1 tt)) ∧ va_P D vC (dW z d n (len, ft, gc, fg, fo, gs, va_up us 5 st.2)) H ∧ va_D A (dW z d n (len, ft, gc, fg, fo, gs, va_up us 5 st.2)) ∧ va_S A s.heap H locs ∧ lv_has ls 3 [(2, .int (nI st.1)), (0, .ref (d 0)), (1, .int (nI i))]) ?_ gc (0, u13) _ _ ls ⟨rfl, (by
    show gGp n u13 (pg_Gen (pg_GS 0 tt))
    rw [pg_Gen_0]; exact h13.1), hP, hD, hS, hl⟩
  clear hP hD hS hl
  rintro d9 ⟨k, u6⟩ H locs ls ⟨hdk, hG6, hP, hD, hS, hl⟩ ih
  replace hdk : d9 + k = gc := hdk
  replace hG6 : gGp n u6 (pg_Gen (pg_GS k tt)) := hG6
  replace hP : va_P D vC (dW z d n (len, ft, gc, fg, fo, gs, va_up us 5 u6)) H := hP
  replace hD : va_D A (dW z d n (len, ft, gc, fg, fo, gs, va_up us 5 u6)) := hD
  replace hl : lv_has ls 3 [(2, .int (nI k)), (0, .ref (d 0)), (1, .int (nI i))] := hl
  refine lv_iload_n hx hb dD_images_18 rfl (lv_at hl 0 rfl) ?_
  refine lv_aload_n hx hb dD_images_19 rfl (lv_at hl 1 rfl) ?_
  refine va_get (ci := 2) (C := RD) (T := TD) (N := 9) hx hb ht inD hown hK hP 0 rfl rfl 5 (by decide) (ht _ tw_130) (fun _ h9 => h9) rfl dD_images_20 ?_
  refine wti (x' := nI gc) rfl ?_
  refine lv_icmp_ge (tgt := 45) hx hb dD_images_23 rfl (fun h23 => ?_) (fun h23 => ?_)
  · have hk : k = gc := by have := (nI_leI (by omega) (by omega)).mp h23; omega
    subst hk
    refine lv_aload_n hx hb dD_images_45 rfl (lv_at hl 1 rfl) ?_
    refine lv_iload_n hx hb dD_images_46 rfl (lv_at hl 2 rfl) ?_
    refine qW_i (ci := 2) (q0 := 0) (wr := ([])) (As := [.int (nI i)]) (rest := []) ⟨hx, hb, hml, hown, ht⟩ (c_D_storeWork l D z d H.size n (len, ft, k, fg, fo, gs, va_up us 5 u6) hn7 i hi (pg_Gen (pg_GS k tt)) hG6) (cB 1 ht gD_storeWork rfl tw_59 tw_475 (by decide +kernel) ⟨by decide, by decide⟩) tw_477 tw_22 hK hP hD hS hA [0, 1, 2, 3, 4, 5, 6, 7, 8, 9, 10, 11, 12, 13, 14, 15, 16, 17, 18, 19, 20, 21, 22, 23, 24, 25, 26, 27, 28, 29, 30, 31, 32] [] rfl rfl rfl rfl (by decide) rfl rfl rfl rfl hl.1 rfl (Nat.le_of_ble_eq_true rfl) dD_images_47 ⟨by decide, by decide⟩ (fun r47 u47 H locs h47 hP hD hS => ?_)
    replace hP := hP.sub (ws' := dW z d n u47) [0, 1, 2, 3, 4, 5, 6, 7, 8, 9, 10, 11, 12, 13, 14, 15, 16, 17, 18, 19, 20, 21, 22, 23, 24, 25, 26, 27, 28, 29, 30, 31, 32] rfl
    replace hD := hD.sub (ws' := dW z d n u47) [0, 1, 2, 3, 4, 5, 6, 7, 8, 9, 10, 11, 12, 13, 14, 15, 16, 17, 18, 19, 20, 21, 22, 23, 24, 25, 26, 27, 28, 29, 30, 31, 32] rfl rfl
    obtain ⟨hord, rfl⟩ := h47
    refine vx_ret ?_
    exact W.iret hx hb hr (fun t ht hW => ⟨⟨_, _, rfl, ⟨tt, i, htt, rfl, hi, hi0, hord, ((hR0.up6 5 (by omega) u6).put hi0 hG6).rp (dPut gs i)⟩, by rw [ht]; exact hP, hD⟩, hS.F ht⟩) hS.2.2 dD_images_50
  have hk : k < gc := by
    rw [nI_leI (by omega) (by omega)] at h23
    omega
  refine lv_aload_n hx hb dD_images_26 rfl (lv_at hl 1 rfl) ?_
  refine va_get (ci := 2) (C := RD) (T := TD) (N := 9) hx hb ht inD hown hK hP 0 rfl rfl 7 (by decide) (ht _ tw_132) (fun _ h9 => h9) rfl dD_images_27 ?_
  refine lv_aload_n hx hb dD_images_30 rfl (lv_at hl 1 rfl) ?_
  refine va_get (ci := 2) (C := RD) (T := TD) (N := 9) hx hb ht inD hown hK hP 0 rfl rfl 4 (by decide) (ht _ tw_129) (fun _ h9 => h9) rfl dD_images_31 ?_
  refine lv_iload_n hx hb dD_images_34 rfl (lv_at hl 0 rfl) ?_
  refine va_lald hx hb hK hP 3 0 rfl rfl (vp_in_nI (N := 6) (by omega) (by decide)) dD_images_35 ?_
  refine wtl (x' := eL n (tt k)) (by rw [nI_clamp (by omega)]; show fo k = _; rw [(htg k hk).1, htt k hk]; rfl) ?_
  refine qW_v (ci := 0) (q0 := 0) (wr := ([dO d n (len) (gc) (gs 5 0) (gs 6 0), (d 1, .inl (z 2, 24, .inl (ft))), (d 2, .inl (z 0, 6, .inr (.inl (fg)))), (d 3, .inl (z 0, 6, .inr (.inl (fo)))), (d 4, .inl (z 3, 5, .inr (.inr (.inr (.inr (dF (gs)))))))] ++ (gWu z (gs 6) (n + n) ((va_up us 5 u6) 6) ++ (gWu z (gs 0) n ((va_up us 5 u6) 0) ++ (gWu z (gs 1) n ((va_up us 5 u6) 1) ++ (gWu z (gs 2) n ((va_up us 5 u6) 2) ++ (gWu z (gs 3) n ((va_up us 5 u6) 3) ++ (gWu z (gs 4) n ((va_up us 5 u6) 4))))))))) (As := [.long (eL n (tt k))]) (rest := []) ⟨hx, hb, hml, hown, ht⟩ (c_G_add l D z (gs 5) H.size n u6.1 u6.2.1 u6.2.2.1 u6.2.2.2.1 u6.2.2.2.2.1 u6.2.2.2.2.2.1 u6.2.2.2.2.2.2 (by omega) (pg_Gen (pg_GS k tt)) hG6 (tt k) (htP k hk)) (cB 1 ht gG_add rfl tw_61 tw_393 (by decide +kernel) ⟨by decide, by decide⟩) tw_394 tw_395 hK hP hD hS hA [5, 6, 7, 8] [0, 1, 2, 3, 4, 9, 10, 11, 12, 13, 14, 15, 16, 17, 18, 19, 20, 21, 22, 23, 24, 25, 26, 27, 28, 29, 30, 31, 32] rfl rfl rfl rfl (by decide) rfl rfl rfl rfl hl.1 rfl (Nat.le_of_ble_eq_true rfl) dD_images_36 ⟨by decide, by decide⟩ (fun u36 H locs h36 hP hD hS => ?_)
  replace hP := hP.sub (ws' := dW z d n (len, ft, gc, fg, fo, gs, va_up us 5 u36)) [0, 1, 2, 3, 4, 29, 30, 31, 32, 5, 6, 7, 8, 9, 10, 11, 12, 13, 14, 15, 16, 17, 18, 19, 20, 21, 22, 23, 24, 25, 26, 27, 28] rfl
  replace hD := hD.sub (ws' := dW z d n (len, ft, gc, fg, fo, gs, va_up us 5 u36)) [0, 1, 2, 3, 4, 29, 30, 31, 32, 5, 6, 7, 8, 9, 10, 11, 12, 13, 14, 15, 16, 17, 18, 19, 20, 21, 22, 23, 24, 25, 26, 27, 28] rfl rfl
  refine lv_iinc (k := 0) (v := (nI (k + 1))) hx hb dD_images_39 hl rfl (by exact nI_1 _) (by decide) rfl (fun ls hl => ?_)
  replace hl : lv_has ls 3 [(2, .int (nI (k + 1))), (0, .ref (d 0)), (1, .int (nI i))] := hl
  refine lv_goto (tgt := 18) hx hb dD_images_42 rfl ?_
  exact ih (d9 - 1) (k + 1, u36) _ _ ls (by omega) ⟨by show d9 - 1 + (k + 1) = gc; omega, (by
    have e9 : pg_Gen (pg_GS (k + 1) tt) = pg_and (pg_Gen (pg_GS k tt)) (tt k) := pg_and_gen (c := k) (K := tt) (K' := tt) rfl (fun _ _ => rfl) rfl
    show gGp n u36 (pg_Gen (pg_GS (k + 1) tt))
    rw [e9]; exact h36.1), hP, hD, hS, lv_sub hl [0, 1, 2] rfl⟩
