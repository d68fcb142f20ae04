/-! Desk: centraliser. -/
set_option maxRecDepth 100000 in
theorem cat_D {z : Nat → ClassId} {d : Nat → Nat} {n len gc : Nat} {ft : Nat → Int32} {fg fo : Nat → Int64} {gs : Nat → Nat → Nat} {us : Nat → gSt} {fs : Nat → Option Nat} {A : Nat → Prop} {c9 : Nat × va_E} {i : Nat} (hi : i < 5) (h : va_D A (dWf z d n (len, ft, gc, fg, fo, gs, us) fs ++ [c9])) : va_D A (dWf z d n (len, ft, gc, fg, fo, swp i gs, swp i us) fs ++ [c9]) := by
  match i, hi with
  | 0, _ => exact h.sub [0, 1, 2, 3, 4, 5, 6, 7, 8, 9, 10, 11, 12, 13, 14, 15, 16, 17, 18, 19, 20, 21, 22, 23, 24, 25, 26, 27, 28, 29, 30, 31, 32, 33] rfl rfl
  | 1, _ => exact h.sub [0, 1, 2, 3, 4, 5, 6, 7, 8, 9, 10, 11, 12, 17, 18, 19, 20, 13, 14, 15, 16, 21, 22, 23, 24, 25, 26, 27, 28, 29, 30, 31, 32, 33] rfl rfl
  | 2, _ => exact h.sub [0, 1, 2, 3, 4, 5, 6, 7, 8, 9, 10, 11, 12, 21, 22, 23, 24, 17, 18, 19, 20, 13, 14, 15, 16, 25, 26, 27, 28, 29, 30, 31, 32, 33] rfl rfl
  | 3, _ => exact h.sub [0, 1, 2, 3, 4, 5, 6, 7, 8, 9, 10, 11, 12, 25, 26, 27, 28, 17, 18, 19, 20, 21, 22, 23, 24, 13, 14, 15, 16, 29, 30, 31, 32, 33] rfl rfl
  | 4, _ => exact h.sub [0, 1, 2, 3, 4, 5, 6, 7, 8, 9, 10, 11, 12, 29, 30, 31, 32, 17, 18, 19, 20, 21, 22, 23, 24, 25, 26, 27, 28, 13, 14, 15, 16, 33] rfl rfl
/-- those that commute with y -/
def aCen (y : pg_F) (G : pg_F → Prop) : pg_F → Prop := fun w9 => G w9 ∧ pg_mul w9 y = pg_mul y w9
set_option maxHeartbeats 2000000 in
set_option maxRecDepth 100000 in
theorem c_D_centraliser (l : Launch) (hst : l.stackTraces = false) (D : va_G) (z : Nat → ClassId) (d : Nat → Nat) (sz n len gc : Nat) (ft : Nat → Int32) (fg fo : Nat → Int64) (gs : Nat → Nat → Nat) (us : Nat → gSt) (tx : Nat → Nat) (g : Nat → pg_F) (tg : Nat → Option pg_F) (Gs : Nat → pg_F → Prop) (hR : dR n tx len g gc tg Gs ft fg fo us) (x w : Int32) : vx_Met l yD_centraliser wD_centraliser (rmX 24 5 26) (va_Pc [.ref (d 0), .int x, .int w] (xPc D (tyL z) (dW z d n (len, ft, gc, fg, fo, gs, us)) sz)) (va_Qi (fun r (v : dSt) => ∃ (i j : Nat) (y : pg_F), pr_text tx len n gc g = some y ∧ x = nI i ∧ i < 5 ∧ w = nI j ∧ j < 5 ∧ j ≠ 0 ∧ gOrd n (aCen y (Gs i)) r ∧ dRp n (tx, len, g, gc, tg, va_up Gs j (aCen y (Gs i))) v) (fun v t => va_P D vC (dW z d n v) t.heap ∧ va_D (va_A (dW z d n (len, ft, gc, fg, fo, gs, us)) sz) (dW z d n v)) (va_A (dW z d n (len, ft, gc, fg, fo, gs, us)) sz)) (xX D (fun E (v : dSt) => ((E = eIO ∧ ¬ (iN x 5 ∧ iN w 5 ∧ w ≠ 0)) ∨ (E = eIA ∧ (iN x 5 ∧ iN w 5 ∧ w ≠ 0) ∧ pr_text tx len n gc g = none)) ∧ dRp n (tx, len, g, gc, tg, Gs) v) (fun v => dW z d n v) (va_A (dW z d n (len, ft, gc, fg, fo, gs, us)) sz)) 5 26 (va_A (dW z d n (len, ft, gc, fg, fo, gs, us)) sz) := by
  have hR0 := hR
  obtain ⟨h1n, hok, htg, hgr, hg0⟩ := hR
  have hn7 := hok.2.2.1
  have hgc6 := hok.2.1
  refine vx_ofW (cc := prog_1_method_12_code) (maxL := 3) (ret := (some .int)) (by decide) rfl ?_
  intro p e s m args below meth c s₁ B hml hout hv
  have hx := B.exec
  have hb := B.bytes
  have hr := B.returns
  have ht : ∀ w ∈ TB, w.before args s = true := fun w h => atoms_spec (ws := wD_centraliser) B.pre w (List.mem_cons_of_mem _ h)
  have hown : s.vm.findClass "PermutationDesk" = some m.cls := findClass_of_methodNamed B.named
  have hlocks := B.notSynchronized
  obtain ⟨rfl, ⟨hsz, hP, hK, hD0⟩, hV, hH⟩ := hv
  subst hsz
  have hD := hD0.self (sz := s.heap.size)
  generalize hAe : va_A (dW z d n (len, ft, gc, fg, fo, gs, us)) s.heap.size = A at hD hH ⊢
  have hA : ∀ q : Nat, s.heap.size ≤ q → A q := fun q h => by rw [← hAe]; exact Or.inr h
  have hS : va_S A s.heap s.heap [] := va_S.rf
  have hl := lv_entry ([.ref (d 0), .int x, .int w]) (n := 3) (Nat.le_of_ble_eq_true rfl)
  rw [lg_entry_eq]
  generalize (lg_sl ([.ref (d 0), .int x, .int w]) ++ List.replicate (3 - (lg_sl ([.ref (d 0), .int x, .int w])).length) Slot.unset).toArray = ls at hl ⊢
  have hl : lv_has ls 3 [(0, .ref (d 0)), (1, .int x), (2, .int w)] := hl
  refine lv_aload_n hx hb dD_centraliser_0 rfl (lv_at hl 0 rfl) ?_
  refine lv_iload_n hx hb dD_centraliser_1 rfl (lv_at hl 1 rfl) ?_
  refine qX_v (ci := 2) (q0 := 0) (wr := ([(d 1, .inl (z 2, 24, .inl (ft))), (d 2, .inl (z 0, 6, .inr (.inl (fg)))), (d 3, .inl (z 0, 6, .inr (.inl (fo)))), (d 4, .inl (z 3, 5, .inr (.inr (.inr (.inr (dF (gs)))))))] ++ (gWu z (gs 5) n (us 5) ++ (gWu z (gs 6) (n + n) (us 6) ++ (gWu z (gs 0) n (us 0) ++ (gWu z (gs 1) n (us 1) ++ (gWu z (gs 2) n (us 2) ++ (gWu z (gs 3) n (us 3) ++ (gWu z (gs 4) n (us 4)))))))))) (As := [.int x]) (rest := []) ⟨hx, hb, hml, hown, ht⟩ (c_D_needSlot l hst D z d s.heap.size n len gc (gs 5 0) (gs 6 0) x) (cB 1 ht gD_needSlot rfl tw_59 tw_493 (by decide +kernel) ⟨by decide, by decide⟩) tw_495 tw_23 hK hP hD hS hA hV hH [0] [1, 2, 3, 4, 5, 6, 7, 8, 9, 10, 11, 12, 13, 14, 15, 16, 17, 18, 19, 20, 21, 22, 23, 24, 25, 26, 27, 28, 29, 30, 31, 32] rfl rfl rfl rfl (by decide) rfl rfl rfl rfl hl.1 rfl (Nat.le_of_ble_eq_true rfl) dD_centraliser_2 ⟨by decide, by decide⟩ (fun E9 ce q9 u2 H locs h2 hP hD hS k1 k2 k3 => qO hout hlocks ((len, ft, gc, fg, fo, gs, us)) (⟨Or.inl ⟨h2.1, fun q => h2.2 q.1⟩, hR0.rp gs⟩) (hP.sub (ws' := dW z d n ((len, ft, gc, fg, fo, gs, us))) [32, 0, 1, 2, 3, 4, 5, 6, 7, 8, 9, 10, 11, 12, 13, 14, 15, 16, 17, 18, 19, 20, 21, 22, 23, 24, 25, 26, 27, 28, 29, 30, 31] rfl) (hD.sub (ws' := dW z d n ((len, ft, gc, fg, fo, gs, us))) [32, 0, 1, 2, 3, 4, 5, 6, 7, 8, 9, 10, 11, 12, 13, 14, 15, 16, 17, 18, 19, 20, 21, 22, 23, 24, 25, 26, 27, 28, 29, 30, 31] rfl rfl) hS k1 k2 k3 hS.2.2 (by decide)) (fun u2 H locs h2 hP hD hS => ?_)
  replace hP := hP.sub (ws' := dW z d n (len, ft, gc, fg, fo, gs, us)) [32, 0, 1, 2, 3, 4, 5, 6, 7, 8, 9, 10, 11, 12, 13, 14, 15, 16, 17, 18, 19, 20, 21, 22, 23, 24, 25, 26, 27, 28, 29, 30, 31] rfl
  replace hD := hD.sub (ws' := dW z d n (len, ft, gc, fg, fo, gs, us)) [32, 0, 1, 2, 3, 4, 5, 6, 7, 8, 9, 10, 11, 12, 13, 14, 15, 16, 17, 18, 19, 20, 21, 22, 23, 24, 25, 26, 27, 28, 29, 30, 31] rfl rfl
  have hx5 := h2
  obtain ⟨i, rfl, hi⟩ := h2
  refine lv_aload_n hx hb dD_centraliser_5 rfl (lv_at hl 0 rfl) ?_
  refine lv_iload_n hx hb dD_centraliser_6 rfl (lv_at hl 2 rfl) ?_
  refine qX_v (ci := 2) (q0 := 0) (wr := ([(d 1, .inl (z 2, 24, .inl (ft))), (d 2, .inl (z 0, 6, .inr (.inl (fg)))), (d 3, .inl (z 0, 6, .inr (.inl (fo)))), (d 4, .inl (z 3, 5, .inr (.inr (.inr (.inr (dF (gs)))))))] ++ (gWu z (gs 5) n (us 5) ++ (gWu z (gs 6) (n + n) (us 6) ++ (gWu z (gs 0) n (us 0) ++ (gWu z (gs 1) n (us 1) ++ (gWu z (gs 2) n (us 2) ++ (gWu z (gs 3) n (us 3) ++ (gWu z (gs 4) n (us 4)))))))))) (As := [.int w]) (rest := []) ⟨hx, hb, hml, hown, ht⟩ (c_D_needTargetSlot l hst D z d H.size n len gc (gs 5 0) (gs 6 0) w) (cB 1 ht gD_needTargetSlot rfl tw_59 tw_462 (by decide +kernel) ⟨by decide, by decide⟩) tw_464 tw_21 hK hP hD hS hA hV hH [0] [1, 2, 3, 4, 5, 6, 7, 8, 9, 10, 11, 12, 13, 14, 15, 16, 17, 18, 19, 20, 21, 22, 23, 24, 25, 26, 27, 28, 29, 30, 31, 32] rfl rfl rfl rfl (by decide) rfl rfl rfl rfl hl.1 rfl (Nat.le_of_ble_eq_true rfl) dD_centraliser_7 ⟨by decide, by decide⟩ (fun E9 ce q9 u7 H locs h7 hP hD hS k1 k2 k3 => qO hout hlocks ((len, ft, gc, fg, fo, gs, us)) (⟨Or.inl ⟨h7.1, fun q => h7.2 q.2⟩, hR0.rp gs⟩) (hP.sub (ws' := dW z d n ((len, ft, gc, fg, fo, gs, us))) [32, 0, 1, 2, 3, 4, 5, 6, 7, 8, 9, 10, 11, 12, 13, 14, 15, 16, 17, 18, 19, 20, 21, 22, 23, 24, 25, 26, 27, 28, 29, 30, 31] rfl) (hD.sub (ws' := dW z d n ((len, ft, gc, fg, fo, gs, us))) [32, 0, 1, 2, 3, 4, 5, 6, 7, 8, 9, 10, 11, 12, 13, 14, 15, 16, 17, 18, 19, 20, 21, 22, 23, 24, 25, 26, 27, 28, 29, 30, 31] rfl rfl) hS k1 k2 k3 hS.2.2 (by decide)) (fun u7 H locs h7 hP hD hS => ?_)
  replace hP := hP.sub (ws' := dW z d n (len, ft, gc, fg, fo, gs, us)) [32, 0, 1, 2, 3, 4, 5, 6, 7, 8, 9, 10, 11, 12, 13, 14, 15, 16, 17, 18, 19, 20, 21, 22, 23, 24, 25, 26, 27, 28, 29, 30, 31] rfl
  replace hD := hD.sub (ws' := dW z d n (len, ft, gc, fg, fo, gs, us)) [32, 0, 1, 2, 3, 4, 5, 6, 7, 8, 9, 10, 11, 12, 13, 14, 15, 16, 17, 18, 19, 20, 21, 22, 23, 24, 25, 26, 27, 28, 29, 30, 31] rfl rfl
  have hw5 := h7
  obtain ⟨⟨j, rfl, hj⟩, hj0⟩ := h7
  have hj0 : j ≠ 0 := fun q => hj0 (by rw [q]; rfl)
  refine lv_aload_n hx hb dD_centraliser_10 rfl (lv_at hl 0 rfl) ?_
  refine va_get (ci := 2) (C := RD) (T := TD) (N := 9) hx hb ht inD hown hK hP 0 rfl rfl 7 (by decide) (ht _ tw_132) (fun _ h9 => h9) rfl dD_centraliser_11 ?_
  refine lv_aload_n hx hb dD_centraliser_14 rfl (lv_at hl 0 rfl) ?_
  refine va_get (ci := 2) (C := RD) (T := TD) (N := 9) hx hb ht inD hown hK hP 0 rfl rfl 6 (by decide) (ht _ tw_131) (fun _ h9 => h9) rfl dD_centraliser_15 ?_
  refine lv_iload_n hx hb dD_centraliser_18 rfl (lv_at hl 1 rfl) ?_
  refine va_aldq hx hb hK hP 4 3 rfl rfl (vp_in_nI (N := 5) hi (by decide)) dD_centraliser_19 ?_
  refine wtv (x' := .ref (gs i 0)) (by rw [dF_i hi]; rfl) ?_
  refine va_new (ci := 4) (C := RC) (T := TC) (N := 1) (fs := [.long 0]) hx hb ht inC tyC tyC_ok hown (ht _ tw_553) (ht _ tw_554) (ht _ tw_73) hK hP hD hS hA rfl (by decide +kernel) (by decide) (by decide) dD_centraliser_20 (fun q20 H hP hD hS => ?_)
  refine lv_dup hx hb dD_centraliser_23 rfl ?_
  refine lv_aload_n hx hb dD_centraliser_24 rfl (lv_at hl 0 rfl) ?_
  refine qX_l (ci := 2) (q0 := 0) (wr := ([(d 3, .inl (z 0, 6, .inr (.inl fo))), (d 4, .inl (z 3, 5, .inr (.inr (.inr (.inr (dF gs))))))] ++ dG z n gs us ++ [(q20, .inr (4, [.long 0]))])) (As := []) (rest := [.ref q20, .ref q20, .ref (gs i 0), .ref (gs 5 0)]) ⟨hx, hb, hml, hown, ht⟩ (c_D_textElement l hst D z d H.size n len gc (gs 5 0) (gs 6 0) ft fg tx g hok) (cB 0 ht gD_textElement rfl tw_59 tw_178 (by decide +kernel) ⟨by decide, by decide⟩) tw_180 tw_0 hK hP hD hS hA hV hH [0, 1, 2] [3, 4, 5, 6, 7, 8, 9, 10, 11, 12, 13, 14, 15, 16, 17, 18, 19, 20, 21, 22, 23, 24, 25, 26, 27, 28, 29, 30, 31, 32, 33] rfl rfl rfl rfl (by decide) rfl rfl rfl rfl hl.1 rfl (Nat.le_of_ble_eq_true rfl) dD_centraliser_25 ⟨by decide, by decide⟩ (fun E9 ce q9 u25 H locs h25 hP hD hS k1 k2 k3 => ?_) (fun r25 u25 H locs h25 hP hD hS => ?_)
  · exact qO hout hlocks (len, ft, gc, fg, fo, gs, us) ⟨Or.inr ⟨h25.1, ⟨hx5, hw5⟩, h25.2⟩, hR0.rp gs⟩ (hP.sub (ws' := dW z d n (len, ft, gc, fg, fo, gs, us)) [31, 32, 33, 0, 1, 2, 3, 4, 5, 6, 7, 8, 9, 10, 11, 12, 13, 14, 15, 16, 17, 18, 19, 20, 21, 22, 23, 24, 25, 26, 27, 28, 29] rfl) (hD.sub (ws' := dW z d n (len, ft, gc, fg, fo, gs, us)) [31, 32, 33, 0, 1, 2, 3, 4, 5, 6, 7, 8, 9, 10, 11, 12, 13, 14, 15, 16, 17, 18, 19, 20, 21, 22, 23, 24, 25, 26, 27, 28, 29] rfl rfl) hS k1 k2 k3 hS.2.2 (by decide)
  obtain ⟨y, rfl, hy⟩ := h25
  have hyP := pr_text_P (fun i hi => (hok.2.2.2.2 i hi).1) hy
  replace hP := hP.sub (ws' := dW z d n (len, ft, gc, fg, fo, gs, us) ++ [(q20, .inr (4, [.long 0]))]) [31, 32, 33, 0, 1, 2, 3, 4, 5, 6, 7, 8, 9, 10, 11, 12, 13, 14, 15, 16, 17, 18, 19, 20, 21, 22, 23, 24, 25, 26, 27, 28, 29, 30] rfl
  replace hD := hD.sub (ws' := dW z d n (len, ft, gc, fg, fo, gs, us) ++ [(q20, .inr (4, [.long 0]))]) [31, 32, 33, 0, 1, 2, 3, 4, 5, 6, 7, 8, 9, 10, 11, 12, 13, 14, 15, 16, 17, 18, 19, 20, 21, 22, 23, 24, 25, 26, 27, 28, 29, 30] rfl rfl
  refine qI_v (wr := dW z d n (len, ft, gc, fg, fo, gs, us)) (As := [.long (eL n y)]) (rest := [.ref q20, .ref (gs i 0), .ref (gs 5 0)]) ⟨hx, hb, hml, hown, ht⟩ (c_C_init l D z H.size q20 (eL n y) (.long 0)) (cB 1 ht gC_init rfl tw_73 tw_555 (by decide +kernel) ⟨by decide, by decide⟩) rfl tw_556 hK hP hD hS hA [33] [0, 1, 2, 3, 4, 5, 6, 7, 8, 9, 10, 11, 12, 13, 14, 15, 16, 17, 18, 19, 20, 21, 22, 23, 24, 25, 26, 27, 28, 29, 30, 31, 32] rfl rfl rfl rfl (by decide) rfl rfl hl.1 rfl (Nat.le_of_ble_eq_true rfl) dD_centraliser_28 ⟨by decide, by decide⟩ (fun u28 H locs h28 hP hD hS => ?_)
  replace hP : va_P D vC (dW z d n (len, ft, gc, fg, fo, gs, us) ++ cmW q20 n y) H := hP
  replace hD : va_D A (dW z d n (len, ft, gc, fg, fo, gs, us) ++ cmW q20 n y) := hD
  replace hP : va_P D vC (dWf z d n (len, ft, gc, fg, fo, swp i gs, swp i us) (dF gs) ++ cmW q20 n y) H := (sw_P hi (hP.sub (ws' := dW z d n (len, ft, gc, fg, fo, gs, us)) [0, 1, 2, 3, 4, 5, 6, 7, 8, 9, 10, 11, 12, 13, 14, 15, 16, 17, 18, 19, 20, 21, 22, 23, 24, 25, 26, 27, 28, 29, 30, 31, 32] rfl)).app (hP.sub (ws' := cmW q20 n y) [33] rfl)
  replace hD : va_D A (dWf z d n (len, ft, gc, fg, fo, swp i gs, swp i us) (dF gs) ++ cmW q20 n y) := cat_D hi hD
  refine qE_v (ci := 0) (q0 := 0) (wr := ([dO d n (len) (gc) ((swp i gs) 5 0) ((swp i gs) 6 0), (d 1, .inl (z 2, 24, .inl (ft))), (d 2, .inl (z 0, 6, .inr (.inl (fg)))), (d 3, .inl (z 0, 6, .inr (.inl (fo)))), (d 4, .inl (z 3, 5, .inr (.inr (.inr (.inr (dF gs))))))] ++ (gWu z ((swp i gs) 6) (n + n) ((swp i us) 6) ++ (gWu z ((swp i gs) 1) n ((swp i us) 1) ++ (gWu z ((swp i gs) 2) n ((swp i us) 2) ++ (gWu z ((swp i gs) 3) n ((swp i us) 3) ++ (gWu z ((swp i gs) 4) n ((swp i us) 4)))))))) (As := [.ref (gs i 0), .ref q20]) (rest := []) ⟨hx, hb, hml, hown, ht⟩ (c_G_gatherC l D z (gs 5) (gs i) H.size n (us 5).2.1 (us 5).2.2.2.2.1 (us 5).2.2.2.2.2.1 (us 5).2.2.2.2.2.2 (us i).1 (us i).2.1 (us i).2.2.1 (us i).2.2.2.1 (us i).2.2.2.2.1 (us i).2.2.2.2.2.1 (us i).2.2.2.2.2.2 (by omega) q20 y hyP (Gs i) (hgr i hi)) (⟨hV.2.2.2.2.1, by decide⟩) (cB 2 ht gG_gather rfl tw_61 tw_512 (by decide +kernel) ⟨by decide, by decide⟩) tw_513 tw_514 hK hP hD hS hA [5, 6, 7, 8, 13, 14, 15, 16, 33] [0, 1, 2, 3, 4, 9, 10, 11, 12, 17, 18, 19, 20, 21, 22, 23, 24, 25, 26, 27, 28, 29, 30, 31, 32] rfl rfl rfl rfl (by decide) rfl rfl rfl rfl hl.1 rfl (Nat.le_of_ble_eq_true rfl) dD_centraliser_31 ⟨by decide, by decide⟩ (fun u31 H locs h31 hP hD hS => ?_)
  replace hP := hP.sub (ws' := dWf z d n (len, ft, gc, fg, fo, swp i gs, va_up (swp i us) 5 u31) (dF gs)) [0, 1, 2, 3, 4, 25, 26, 27, 28, 5, 6, 7, 8, 29, 30, 31, 32, 9, 10, 11, 12, 13, 14, 15, 16, 17, 18, 19, 20, 21, 22, 23, 24] rfl
  replace hD := hD.sub (ws' := dWf z d n (len, ft, gc, fg, fo, swp i gs, va_up (swp i us) 5 u31) (dF gs)) [0, 1, 2, 3, 4, 25, 26, 27, 28, 5, 6, 7, 8, 29, 30, 31, 32, 9, 10, 11, 12, 13, 14, 15, 16, 17, 18, 19, 20, 21, 22, 23, 24] rfl rfl
  replace hP := sw_P hi hP
  replace hD := sw_D hi hD
  rw [swp_up hi 5 (by omega) u31, sw_2 hi] at hP hD
  refine lv_aload_n hx hb dD_centraliser_34 rfl (lv_at hl 0 rfl) ?_
  refine lv_iload_n hx hb dD_centraliser_35 rfl (lv_at hl 2 rfl) ?_
  refine qW_i (ci := 2) (q0 := 0) (wr := ([])) (As := [.int (nI j)]) (rest := []) ⟨hx, hb, hml, hown, ht⟩ (c_D_storeWork l D z d H.size n (len, ft, gc, fg, fo, gs, va_up us 5 u31) hn7 j hj (aCen y (Gs i)) h31) (cB 1 ht gD_storeWork rfl tw_59 tw_475 (by decide +kernel) ⟨by decide, by decide⟩) tw_477 tw_22 hK hP hD hS hA [0, 1, 2, 3, 4, 5, 6, 7, 8, 9, 10, 11, 12, 13, 14, 15, 16, 17, 18, 19, 20, 21, 22, 23, 24, 25, 26, 27, 28, 29, 30, 31, 32] [] rfl rfl rfl rfl (by decide) rfl rfl rfl rfl hl.1 rfl (Nat.le_of_ble_eq_true rfl) dD_centraliser_36 ⟨by decide, by decide⟩ (fun r36 u36 H locs h36 hP hD hS => ?_)
  replace hP := hP.sub (ws' := dW z d n u36) [0, 1, 2, 3, 4, 5, 6, 7, 8, 9, 10, 11, 12, 13, 14, 15, 16, 17, 18, 19, 20, 21, 22, 23, 24, 25, 26, 27, 28, 29, 30, 31, 32] rfl
  replace hD := hD.sub (ws' := dW z d n u36) [0, 1, 2, 3, 4, 5, 6, 7, 8, 9, 10, 11, 12, 13, 14, 15, 16, 17, 18, 19, 20, 21, 22, 23, 24, 25, 26, 27, 28, 29, 30, 31, 32] rfl rfl
  obtain ⟨hord, rfl⟩ := h36
  refine vx_ret ?_
  exact W.iret hx hb hr (fun t ht hW => ⟨⟨_, _, rfl, ⟨i, j, y, hy, rfl, hi, rfl, hj, hj0, hord, ((hR0.up6 5 (by omega) u31).put hj0 h31).rp (dPut gs j)⟩, by rw [ht]; exact hP, hD⟩, hS.F ht⟩) hS.2.2 dD_centraliser_39
