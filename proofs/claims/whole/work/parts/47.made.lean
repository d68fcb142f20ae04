/-! Desk: closure, derived. -/
theorem swp_up {α : Type} {i : Nat} {f : Nat → α} (hi : i < 5) (j : Nat) (hj : 5 ≤ j) (x : α) : swp i (va_up (swp i f) j x) = va_up f j x := by
  funext k
  by_cases e : k = j
  · subst e
    rw [va_up_self]
    show va_up (swp i f) k x (sw i k) = x
    have : sw i k = k := if_pos hj
    rw [this, va_up_self]
  · rw [va_up_ne _ _ e]
    show va_up (swp i f) j x (sw i k) = f k
    rw [va_up_ne]
    · exact congrFun (sw_2 (f := f) hi) k
    · intro e9
      unfold sw at e9
      by_cases h5 : 5 ≤ k
      · rw [if_pos h5] at e9; exact e e9
      · rw [if_neg h5] at e9
        split at e9
        · omega
        · split at e9 <;> omega
set_option maxHeartbeats 2000000 in
set_option maxRecDepth 100000 in
theorem c_D_closure (l : Launch) (hst : l.stackTraces = false) (D : va_G) (z : Nat → ClassId) (d : Nat → Nat) (sz n len gc : Nat) (ft : Nat → Int32) (fg fo : Nat → Int64) (gs : Nat → Nat → Nat) (us : Nat → gSt) (tx : Nat → Nat) (g : Nat → pg_F) (tg : Nat → Option pg_F) (Gs : Nat → pg_F → Prop) (hR : dR n tx len g gc tg Gs ft fg fo us) (x w : Int32) : vx_Met l yD_closure wD_closure (rmX 24 4 25) (va_Pc [.ref (d 0), .int x, .int w] (xPc D (tyL z) (dW z d n (len, ft, gc, fg, fo, gs, us)) sz)) (va_Qi (fun r (v : dSt) => ∃ (y : pg_F) (i j : Nat) (N : pg_F → Prop), pr_text tx len n gc g = some y ∧ x = nI i ∧ i < 5 ∧ w = nI j ∧ j < 5 ∧ j ≠ 0 ∧ pg_ncl n (pg_and (fun x => x = pg_id) y) (Gs i) N ∧ gOrd n N r ∧ dRp n (tx, len, g, gc, tg, va_up Gs j N) v) (fun v t => va_P D vC (dW z d n v) t.heap ∧ va_D (va_A (dW z d n (len, ft, gc, fg, fo, gs, us)) sz) (dW z d n v)) (va_A (dW z d n (len, ft, gc, fg, fo, gs, us)) sz)) (xX D (fun E (v : dSt) => ((E = eIO ∧ ¬ (iN x 5 ∧ iN w 5 ∧ w ≠ 0)) ∨ (E = eIA ∧ (iN x 5 ∧ iN w 5 ∧ w ≠ 0) ∧ pr_text tx len n gc g = none)) ∧ dRp n (tx, len, g, gc, tg, Gs) v) (fun v => dW z d n v) (va_A (dW z d n (len, ft, gc, fg, fo, gs, us)) sz)) 4 25 (va_A (dW z d n (len, ft, gc, fg, fo, gs, us)) sz) := by
  have hR0 := hR
  obtain ⟨h1n, hok, htg, hgr, hg0⟩ := hR
  have hn7 := hok.2.2.1
  have hgc6 := hok.2.1
  refine vx_ofW (cc := prog_1_method_13_code) (maxL := 5) (ret := (some .int)) (by decide) rfl ?_
  intro p e s m args below meth c s₁ B hml hout hv
  have hx := B.exec
  have hb := B.bytes
  have hr := B.returns
  have ht : ∀ w ∈ TB, w.before args s = true := fun w h => atoms_spec (ws := wD_closure) B.pre w (List.mem_cons_of_mem _ h)
  have hown : s.vm.findClass "PermutationDesk" = some m.cls := findClass_of_methodNamed B.named
  have hlocks := B.notSynchronized
  obtain ⟨rfl, ⟨hsz, hP, hK, hD0⟩, hV, hH⟩ := hv
  subst hsz
  have hD := hD0.self (sz := s.heap.size)
  generalize hAe : va_A (dW z d n (len, ft, gc, fg, fo, gs, us)) s.heap.size = A at hD hH ⊢
  have hA : ∀ q : Nat, s.heap.size ≤ q → A q := fun q h => by rw [← hAe]; exact Or.inr h
  have hS : va_S A s.heap s.heap [] := va_S.rf
  have hl := lv_entry ([.ref (d 0), .int x, .int w]) (n := 5) (Nat.le_of_ble_eq_true rfl)
  rw [lg_entry_eq]
  generalize (lg_sl ([.ref (d 0), .int x, .int w]) ++ List.replicate (5 - (lg_sl ([.ref (d 0), .int x, .int w])).length) Slot.unset).toArray = ls at hl ⊢
  have hl : lv_has ls 5 [(0, .ref (d 0)), (1, .int x), (2, .int w)] := hl
  refine lv_aload_n hx hb dD_closure_0 rfl (lv_at hl 0 rfl) ?_
  refine lv_iload_n hx hb dD_closure_1 rfl (lv_at hl 1 rfl) ?_
  refine qX_v (ci := 2) (q0 := 0) (wr := ([(d 1, .inl (z 2, 24, .inl (ft))), (d 2, .inl (z 0, 6, .inr (.inl (fg)))), (d 3, .inl (z 0, 6, .inr (.inl (fo)))), (d 4, .inl (z 3, 5, .inr (.inr (.inr (.inr (dF (gs)))))))] ++ (gWu z (gs 5) n (us 5) ++ (gWu z (gs 6) (n + n) (us 6) ++ (gWu z (gs 0) n (us 0) ++ (gWu z (gs 1) n (us 1) ++ (gWu z (gs 2) n (us 2) ++ (gWu z (gs 3) n (us 3) ++ (gWu z (gs 4) n (us 4)))))))))) (As := [.int x]) (rest := []) ⟨hx, hb, hml, hown, ht⟩ (c_D_needSlot l hst D z d s.heap.size n len gc (gs 5 0) (gs 6 0) x) (cB 1 ht gD_needSlot rfl tw_59 tw_493 (by decide +kernel) ⟨by decide, by decide⟩) tw_495 tw_23 hK hP hD hS hA hV hH [0] [1, 2, 3, 4, 5, 6, 7, 8, 9, 10, 11, 12, 13, 14, 15, 16, 17, 18, 19, 20, 21, 22, 23, 24, 25, 26, 27, 28, 29, 30, 31, 32] rfl rfl rfl rfl (by decide) rfl rfl rfl rfl hl.1 rfl (Nat.le_of_ble_eq_true rfl) dD_closure_2 ⟨by decide, by decide⟩ (fun E9 ce q9 u2 H locs h2 hP hD hS k1 k2 k3 => qO hout hlocks ((len, ft, gc, fg, fo, gs, us)) (⟨Or.inl ⟨h2.1, fun q => h2.2 q.1⟩, hR0.rp gs⟩) (hP.sub (ws' := dW z d n ((len, ft, gc, fg, fo, gs, us))) [32, 0, 1, 2, 3, 4, 5, 6, 7, 8, 9, 10, 11, 12, 13, 14, 15, 16, 17, 18, 19, 20, 21, 22, 23, 24, 25, 26, 27, 28, 29, 30, 31] rfl) (hD.sub (ws' := dW z d n ((len, ft, gc, fg, fo, gs, us))) [32, 0, 1, 2, 3, 4, 5, 6, 7, 8, 9, 10, 11, 12, 13, 14, 15, 16, 17, 18, 19, 20, 21, 22, 23, 24, 25, 26, 27, 28, 29, 30, 31] rfl rfl) hS k1 k2 k3 hS.2.2 (by decide)) (fun u2 H locs h2 hP hD hS => ?_)
  replace hP := hP.sub (ws' := dW z d n (len, ft, gc, fg, fo, gs, us)) [32, 0, 1, 2, 3, 4, 5, 6, 7, 8, 9, 10, 11, 12, 13, 14, 15, 16, 17, 18, 19, 20, 21, 22, 23, 24, 25, 26, 27, 28, 29, 30, 31] rfl
  replace hD := hD.sub (ws' := dW z d n (len, ft, gc, fg, fo, gs, us)) [32, 0, 1, 2, 3, 4, 5, 6, 7, 8, 9, 10, 11, 12, 13, 14, 15, 16, 17, 18, 19, 20, 21, 22, 23, 24, 25, 26, 27, 28, 29, 30, 31] rfl rfl
  have hx5 := h2
  obtain ⟨i, rfl, hi⟩ := h2
  refine lv_aload_n hx hb dD_closure_5 rfl (lv_at hl 0 rfl) ?_
  refine lv_iload_n hx hb dD_closure_6 rfl (lv_at hl 2 rfl) ?_
  refine qX_v (ci := 2) (q0 := 0) (wr := ([(d 1, .inl (z 2, 24, .inl (ft))), (d 2, .inl (z 0, 6, .inr (.inl (fg)))), (d 3, .inl (z 0, 6, .inr (.inl (fo)))), (d 4, .inl (z 3, 5, .inr (.inr (.inr (.inr (dF (gs)))))))] ++ (gWu z (gs 5) n (us 5) ++ (gWu z (gs 6) (n + n) (us 6) ++ (gWu z (gs 0) n (us 0) ++ (gWu z (gs 1) n (us 1) ++ (gWu z (gs 2) n (us 2) ++ (gWu z (gs 3) n (us 3) ++ (gWu z (gs 4) n (us 4)))))))))) (As := [.int w]) (rest := []) ⟨hx, hb, hml, hown, ht⟩ (c_D_needTargetSlot l hst D z d H.size n len gc (gs 5 0) (gs 6 0) w) (cB 1 ht gD_needTargetSlot rfl tw_59 tw_462 (by decide +kernel) ⟨by decide, by decide⟩) tw_464 tw_21 hK hP hD hS hA hV hH [0] [1, 2, 3, 4, 5, 6, 7, 8, 9, 10, 11, 12, 13, 14, 15, 16, 17, 18, 19, 20, 21, 22, 23, 24, 25, 26, 27, 28, 29, 30, 31, 32] rfl rfl rfl rfl (by decide) rfl rfl rfl rfl hl.1 rfl (Nat.le_of_ble_eq_true rfl) dD_closure_7 ⟨by decide, by decide⟩ (fun E9 ce q9 u7 H locs h7 hP hD hS k1 k2 k3 => qO hout hlocks ((len, ft, gc, fg, fo, gs, us)) (⟨Or.inl ⟨h7.1, fun q => h7.2 q.2⟩, hR0.rp gs⟩) (hP.sub (ws' := dW z d n ((len, ft, gc, fg, fo, gs, us))) [32, 0, 1, 2, 3, 4, 5, 6, 7, 8, 9, 10, 11, 12, 13, 14, 15, 16, 17, 18, 19, 20, 21, 22, 23, 24, 25, 26, 27, 28, 29, 30, 31] rfl) (hD.sub (ws' := dW z d n ((len, ft, gc, fg, fo, gs, us))) [32, 0, 1, 2, 3, 4, 5, 6, 7, 8, 9, 10, 11, 12, 13, 14, 15, 16, 17, 18, 19, 20, 21, 22, 23, 24, 25, 26, 27, 28, 29, 30, 31] rfl rfl) hS k1 k2 k3 hS.2.2 (by decide)) (fun u7 H locs h7 hP hD hS => ?_)
  replace hP := hP.sub (ws' := dW z d n (len, ft, gc, fg, fo, gs, us)) [32, 0, 1, 2, 3, 4, 5, 6, 7, 8, 9, 10, 11, 12, 13, 14, 15, 16, 17, 18, 19, 20, 21, 22, 23, 24, 25, 26, 27, 28, 29, 30, 31] rfl
  replace hD := hD.sub (ws' := dW z d n (len, ft, gc, fg, fo, gs, us)) [32, 0, 1, 2, 3, 4, 5, 6, 7, 8, 9, 10, 11, 12, 13, 14, 15, 16, 17, 18, 19, 20, 21, 22, 23, 24, 25, 26, 27, 28, 29, 30, 31] rfl rfl
  have hw5 := h7
  obtain ⟨⟨j, rfl, hj⟩, hj0⟩ := h7
  have hj0 : j ≠ 0 := fun q => hj0 (by rw [q]; rfl)
  refine lv_aload_n hx hb dD_closure_10 rfl (lv_at hl 0 rfl) ?_
  refine qX_l (ci := 2) (q0 := 0) (wr := ([(d 3, .inl (z 0, 6, .inr (.inl (fo)))), (d 4, .inl (z 3, 5, .inr (.inr (.inr (.inr (dF (gs)))))))] ++ (gWu z (gs 5) n (us 5) ++ (gWu z (gs 6) (n + n) (us 6) ++ (gWu z (gs 0) n (us 0) ++ (gWu z (gs 1) n (us 1) ++ (gWu z (gs 2) n (us 2) ++ (gWu z (gs 3) n (us 3) ++ (gWu z (gs 4) n (us 4)))))))))) (As := []) (rest := []) ⟨hx, hb, hml, hown, ht⟩ (c_D_textElement l hst D z d H.size n len gc (gs 5 0) (gs 6 0) ft fg tx g hok) (cB 0 ht gD_textElement rfl tw_59 tw_178 (by decide +kernel) ⟨by decide, by decide⟩) tw_180 tw_0 hK hP hD hS hA hV hH [0, 1, 2] [3, 4, 5, 6, 7, 8, 9, 10, 11, 12, 13, 14, 15, 16, 17, 18, 19, 20, 21, 22, 23, 24, 25, 26, 27, 28, 29, 30, 31, 32] rfl rfl rfl rfl (by decide) rfl rfl rfl rfl hl.1 rfl (Nat.le_of_ble_eq_true rfl) dD_closure_11 ⟨by decide, by decide⟩ (fun E9 ce q9 u11 H locs h11 hP hD hS k1 k2 k3 => qO hout hlocks ((len, ft, gc, fg, fo, gs, us)) (⟨Or.inr ⟨h11.1, ⟨hx5, hw5⟩, h11.2⟩, hR0.rp gs⟩) (hP.sub (ws' := dW z d n ((len, ft, gc, fg, fo, gs, us))) [30, 31, 32, 0, 1, 2, 3, 4, 5, 6, 7, 8, 9, 10, 11, 12, 13, 14, 15, 16, 17, 18, 19, 20, 21, 22, 23, 24, 25, 26, 27, 28, 29] rfl) (hD.sub (ws' := dW z d n ((len, ft, gc, fg, fo, gs, us))) [30, 31, 32, 0, 1, 2, 3, 4, 5, 6, 7, 8, 9, 10, 11, 12, 13, 14, 15, 16, 17, 18, 19, 20, 21, 22, 23, 24, 25, 26, 27, 28, 29] rfl rfl) hS k1 k2 k3 hS.2.2 (by decide)) (fun r11 u11 H locs h11 hP hD hS => ?_)
  replace hP := hP.sub (ws' := dW z d n (len, ft, gc, fg, fo, gs, us)) [30, 31, 32, 0, 1, 2, 3, 4, 5, 6, 7, 8, 9, 10, 11, 12, 13, 14, 15, 16, 17, 18, 19, 20, 21, 22, 23, 24, 25, 26, 27, 28, 29] rfl
  replace hD := hD.sub (ws' := dW z d n (len, ft, gc, fg, fo, gs, us)) [30, 31, 32, 0, 1, 2, 3, 4, 5, 6, 7, 8, 9, 10, 11, 12, 13, 14, 15, 16, 17, 18, 19, 20, 21, 22, 23, 24, 25, 26, 27, 28, 29] rfl rfl
  obtain ⟨y, rfl, hy⟩ := h11
  have hyP := pr_text_P (fun i hi => (hok.2.2.2.2 i hi).1) hy
  refine lv_lstore_n hx hb dD_closure_14 rfl hl (by decide) rfl (fun ls hl => ?_)
  replace hl : lv_has ls 5 [(3, .long (eL n y)), (0, .ref (d 0)), (1, .int (nI i)), (2, .int (nI j))] := hl
  refine lv_aload_n hx hb dD_closure_15 rfl (lv_at hl 1 rfl) ?_
  refine va_get (ci := 2) (C := RD) (T := TD) (N := 9) hx hb ht inD hown hK hP 0 rfl rfl 7 (by decide) (ht _ tw_132) (fun _ h9 => h9) rfl dD_closure_16 ?_
  refine qW_v (ci := 0) (q0 := 0) (wr := ([dO d n (len) (gc) (gs 5 0) (gs 6 0), (d 1, .inl (z 2, 24, .inl (ft))), (d 2, .inl (z 0, 6, .inr (.inl (fg)))), (d 3, .inl (z 0, 6, .inr (.inl (fo)))), (d 4, .inl (z 3, 5, .inr (.inr (.inr (.inr (dF (gs)))))))] ++ (gWu z (gs 6) (n + n) (us 6) ++ (gWu z (gs 0) n (us 0) ++ (gWu z (gs 1) n (us 1) ++ (gWu z (gs 2) n (us 2) ++ (gWu z (gs 3) n (us 3) ++ (gWu z (gs 4) n (us 4))))))))) (As := []) (rest := []) ⟨hx, hb, hml, hown, ht⟩ (c_G_clear l D z (gs 5) H.size n (us 5).2.1 (us 5).2.2.2.2.1 (us 5).2.2.2.2.2.1 (us 5).2.2.2.2.2.2 (by omega)) (cB 0 ht gG_clear rfl tw_61 tw_165 (by decide +kernel) ⟨by decide, by decide⟩) tw_96 tw_97 hK hP hD hS hA [5, 6, 7, 8] [0, 1, 2, 3, 4, 9, 10, 11, 12, 13, 14, 15, 16, 17, 18, 19, 20, 21, 22, 23, 24, 25, 26, 27, 28, 29, 30, 31, 32] rfl rfl rfl rfl (by decide) rfl rfl rfl rfl hl.1 rfl (Nat.le_of_ble_eq_true rfl) dD_closure_19 ⟨by decide, by decide⟩ (fun u19 H locs h19 hP hD hS => ?_)
  replace hP := hP.sub (ws' := dW z d n (len, ft, gc, fg, fo, gs, va_up us 5 u19)) [0, 1, 2, 3, 4, 29, 30, 31, 32, 5, 6, 7, 8, 9, 10, 11, 12, 13, 14, 15, 16, 17, 18, 19, 20, 21, 22, 23, 24, 25, 26, 27, 28] rfl
  replace hD := hD.sub (ws' := dW z d n (len, ft, gc, fg, fo, gs, va_up us 5 u19)) [0, 1, 2, 3, 4, 29, 30, 31, 32, 5, 6, 7, 8, 9, 10, 11, 12, 13, 14, 15, 16, 17, 18, 19, 20, 21, 22, 23, 24, 25, 26, 27, 28] rfl rfl
  refine lv_aload_n hx hb dD_closure_22 rfl (lv_at hl 1 rfl) ?_
  refine va_get (ci := 2) (C := RD) (T := TD) (N := 9) hx hb ht inD hown hK hP 0 rfl rfl 7 (by decide) (ht _ tw_132) (fun _ h9 => h9) rfl dD_closure_23 ?_
  refine lv_lload_n hx hb dD_closure_26 rfl (lv_at hl 0 rfl) ?_
  refine qW_v (ci := 0) (q0 := 0) (wr := ([dO d n (len) (gc) (gs 5 0) (gs 6 0), (d 1, .inl (z 2, 24, .inl (ft))), (d 2, .inl (z 0, 6, .inr (.inl (fg)))), (d 3, .inl (z 0, 6, .inr (.inl (fo)))), (d 4, .inl (z 3, 5, .inr (.inr (.inr (.inr (dF (gs)))))))] ++ (gWu z (gs 6) (n + n) ((va_up us 5 u19) 6) ++ (gWu z (gs 0) n ((va_up us 5 u19) 0) ++ (gWu z (gs 1) n ((va_up us 5 u19) 1) ++ (gWu z (gs 2) n ((va_up us 5 u19) 2) ++ (gWu z (gs 3) n ((va_up us 5 u19) 3) ++ (gWu z (gs 4) n ((va_up us 5 u19) 4))))))))) (As := [.long (eL n y)]) (rest := []) ⟨hx, hb, hml, hown, ht⟩ (c_G_add l D z (gs 5) H.size n u19.1 u19.2.1 u19.2.2.1 u19.2.2.2.1 u19.2.2.2.2.1 u19.2.2.2.2.2.1 u19.2.2.2.2.2.2 (by omega) (fun x => x = pg_id) h19.1 y hyP) (cB 1 ht gG_add rfl tw_61 tw_393 (by decide +kernel) ⟨by decide, by decide⟩) tw_394 tw_395 hK hP hD hS hA [5, 6, 7, 8] [0, 1, 2, 3, 4, 9, 10, 11, 12, 13, 14, 15, 16, 17, 18, 19, 20, 21, 22, 23, 24, 25, 26, 27, 28, 29, 30, 31, 32] rfl rfl rfl rfl (by decide) rfl rfl rfl rfl hl.1 rfl (Nat.le_of_ble_eq_true rfl) dD_closure_27 ⟨by decide, by decide⟩ (fun u27 H locs h27 hP hD hS => ?_)
  replace hP := hP.sub (ws' := dW z d n (len, ft, gc, fg, fo, gs, va_up us 5 u27)) [0, 1, 2, 3, 4, 29, 30, 31, 32, 5, 6, 7, 8, 9, 10, 11, 12, 13, 14, 15, 16, 17, 18, 19, 20, 21, 22, 23, 24, 25, 26, 27, 28] rfl
  replace hD := hD.sub (ws' := dW z d n (len, ft, gc, fg, fo, gs, va_up us 5 u27)) [0, 1, 2, 3, 4, 29, 30, 31, 32, 5, 6, 7, 8, 9, 10, 11, 12, 13, 14, 15, 16, 17, 18, 19, 20, 21, 22, 23, 24, 25, 26, 27, 28] rfl rfl
  have hG1 := h27.1
  generalize u27 = v1 at hP hD hG1
  refine lv_aload_n hx hb dD_closure_30 rfl (lv_at hl 1 rfl) ?_
  refine va_get (ci := 2) (C := RD) (T := TD) (N := 9) hx hb ht inD hown hK hP 0 rfl rfl 7 (by decide) (ht _ tw_132) (fun _ h9 => h9) rfl dD_closure_31 ?_
  refine lv_aload_n hx hb dD_closure_34 rfl (lv_at hl 1 rfl) ?_
  refine va_get (ci := 2) (C := RD) (T := TD) (N := 9) hx hb ht inD hown hK hP 0 rfl rfl 6 (by decide) (ht _ tw_131) (fun _ h9 => h9) rfl dD_closure_35 ?_
  refine lv_iload_n hx hb dD_closure_38 rfl (lv_at hl 2 rfl) ?_
  refine va_aldq hx hb hK hP 4 3 rfl rfl (vp_in_nI (N := 5) hi (by decide)) dD_closure_39 ?_
  refine wtv (x' := .ref (gs i 0)) (by rw [dF_i hi]; rfl) ?_
  replace hP := sw_P hi hP
  replace hD := sw_D hi hD
  rw [show swp i (va_up us 5 v1) = va_up (swp i us) 5 v1 from by rw [← swp_up hi 5 (by omega) v1, sw_2 hi]] at hP hD
  refine qW_v (ci := 0) (q0 := 0) (wr := ([dO d n (len) (gc) ((swp i gs) 5 0) ((swp i gs) 6 0), (d 1, .inl (z 2, 24, .inl (ft))), (d 2, .inl (z 0, 6, .inr (.inl (fg)))), (d 3, .inl (z 0, 6, .inr (.inl (fo)))), (d 4, .inl (z 3, 5, .inr (.inr (.inr (.inr (dF gs))))))] ++ (gWu z ((swp i gs) 6) (n + n) ((va_up (swp i us) 5 v1) 6) ++ (gWu z ((swp i gs) 1) n ((va_up (swp i us) 5 v1) 1) ++ (gWu z ((swp i gs) 2) n ((va_up (swp i us) 5 v1) 2) ++ (gWu z ((swp i gs) 3) n ((va_up (swp i us) 5 v1) 3) ++ (gWu z ((swp i gs) 4) n ((va_up (swp i us) 5 v1) 4)))))))) (As := [.ref (gs i 0)]) (rest := []) ⟨hx, hb, hml, hown, ht⟩ (c_G_addConjugates l D z (gs 5) (gs i) H.size n v1.1 v1.2.1 v1.2.2.1 v1.2.2.2.1 v1.2.2.2.2.1 v1.2.2.2.2.2.1 v1.2.2.2.2.2.2 (us i).1 (us i).2.1 (us i).2.2.1 (us i).2.2.2.1 (us i).2.2.2.2.1 (us i).2.2.2.2.2.1 (us i).2.2.2.2.2.2 (by omega) (pg_and (fun x => x = pg_id) y) (Gs i) hG1 (hgr i hi)) (cB 1 ht gG_addConjugates rfl tw_61 tw_570 (by decide +kernel) ⟨by decide, by decide⟩) tw_571 tw_572 hK hP hD hS hA [5, 6, 7, 8, 13, 14, 15, 16] [0, 1, 2, 3, 4, 9, 10, 11, 12, 17, 18, 19, 20, 21, 22, 23, 24, 25, 26, 27, 28, 29, 30, 31, 32] rfl rfl rfl rfl (by decide) rfl rfl rfl rfl hl.1 rfl (Nat.le_of_ble_eq_true rfl) dD_closure_40 ⟨by decide, by decide⟩ (fun u40 H locs h40 hP hD hS => ?_)
  replace hP := hP.sub (ws' := dWf z d n (len, ft, gc, fg, fo, swp i gs, va_up (swp i us) 5 u40) (dF gs)) [0, 1, 2, 3, 4, 25, 26, 27, 28, 5, 6, 7, 8, 29, 30, 31, 32, 9, 10, 11, 12, 13, 14, 15, 16, 17, 18, 19, 20, 21, 22, 23, 24] rfl
  replace hD := hD.sub (ws' := dWf z d n (len, ft, gc, fg, fo, swp i gs, va_up (swp i us) 5 u40) (dF gs)) [0, 1, 2, 3, 4, 25, 26, 27, 28, 5, 6, 7, 8, 29, 30, 31, 32, 9, 10, 11, 12, 13, 14, 15, 16, 17, 18, 19, 20, 21, 22, 23, 24] rfl rfl
  obtain ⟨N, hGN, hncl⟩ := h40
  replace hP := sw_P hi hP
  replace hD := sw_D hi hD
  rw [swp_up hi 5 (by omega) u40, sw_2 hi] at hP hD
  refine lv_aload_n hx hb dD_closure_43 rfl (lv_at hl 1 rfl) ?_
  refine lv_iload_n hx hb dD_closure_44 rfl (lv_at hl 3 rfl) ?_
  refine qW_i (ci := 2) (q0 := 0) (wr := ([])) (As := [.int (nI j)]) (rest := []) ⟨hx, hb, hml, hown, ht⟩ (c_D_storeWork l D z d H.size n (len, ft, gc, fg, fo, gs, va_up us 5 u40) hn7 j hj N hGN) (cB 1 ht gD_storeWork rfl tw_59 tw_475 (by decide +kernel) ⟨by decide, by decide⟩) tw_477 tw_22 hK hP hD hS hA [0, 1, 2, 3, 4, 5, 6, 7, 8, 9, 10, 11, 12, 13, 14, 15, 16, 17, 18, 19, 20, 21, 22, 23, 24, 25, 26, 27, 28, 29, 30, 31, 32] [] rfl rfl rfl rfl (by decide) rfl rfl rfl rfl hl.1 rfl (Nat.le_of_ble_eq_true rfl) dD_closure_45 ⟨by decide, by decide⟩ (fun r45 u45 H locs h45 hP hD hS => ?_)
  replace hP := hP.sub (ws' := dW z d n u45) [0, 1, 2, 3, 4, 5, 6, 7, 8, 9, 10, 11, 12, 13, 14, 15, 16, 17, 18, 19, 20, 21, 22, 23, 24, 25, 26, 27, 28, 29, 30, 31, 32] rfl
  replace hD := hD.sub (ws' := dW z d n u45) [0, 1, 2, 3, 4, 5, 6, 7, 8, 9, 10, 11, 12, 13, 14, 15, 16, 17, 18, 19, 20, 21, 22, 23, 24, 25, 26, 27, 28, 29, 30, 31, 32] rfl rfl
  obtain ⟨hord, rfl⟩ := h45
  refine vx_ret ?_
  exact W.iret hx hb hr (fun t ht hW => ⟨⟨_, _, rfl, ⟨y, i, j, N, hy, rfl, hi, rfl, hj, hj0, hncl, hord, ((hR0.up6 5 (by omega) u40).put hj0 hGN).rp (dPut gs j)⟩, by rw [ht]; exact hP, hD⟩, hS.F ht⟩) hS.2.2 dD_closure_48
