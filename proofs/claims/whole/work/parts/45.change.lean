/-! Desk: generators and their images. -/
theorem dR.rp {n : Nat} {tx : Nat → Nat} {len : Nat} {g : Nat → pg_F} {gc : Nat} {tg : Nat → Option pg_F} {Gs : Nat → pg_F → Prop} {ft : Nat → Int32} {fg fo : Nat → Int64} {us : Nat → gSt} (h : dR n tx len g gc tg Gs ft fg fo us) (gs : Nat → Nat → Nat) : dRp n (tx, len, g, gc, tg, Gs) (len, ft, gc, fg, fo, gs, us) := ⟨h.1, rfl, rfl, h.2⟩
theorem dR.up6 {n : Nat} {tx : Nat → Nat} {len : Nat} {g : Nat → pg_F} {gc : Nat} {tg : Nat → Option pg_F} {Gs : Nat → pg_F → Prop} {ft : Nat → Int32} {fg fo : Nat → Int64} {us : Nat → gSt} (h : dR n tx len g gc tg Gs ft fg fo us) (j : Nat) (hj : 5 ≤ j) (w : gSt) : dR n tx len g gc tg Gs ft fg fo (va_up us j w) :=
  ⟨h.1, h.2.1, h.2.2.1, fun i hi => by rw [va_up_ne _ _ (by omega)]; exact h.2.2.2.1 i hi, h.2.2.2.2⟩
theorem dR.put {n : Nat} {tx : Nat → Nat} {len : Nat} {g : Nat → pg_F} {gc : Nat} {tg : Nat → Option pg_F} {Gs : Nat → pg_F → Prop} {ft : Nat → Int32} {fg fo : Nat → Int64} {us : Nat → gSt} (h : dR n tx len g gc tg Gs ft fg fo us) {i : Nat} (h0 : i ≠ 0) {G : pg_F → Prop} (hG : gGp n (us 5) G) : dR n tx len g gc tg (va_up Gs i G) ft fg fo (dPut us i) := by
  refine ⟨h.1, h.2.1, h.2.2.1, fun j hj => ?_, by rw [va_up_ne _ _ (fun e => h0 e.symm)]; exact h.2.2.2.2⟩
  unfold dPut
  by_cases e : j = i
  · subst e
    rw [if_pos rfl, va_up_self]
    exact hG
  · rw [if_neg e, if_neg (by omega), va_up_ne _ _ e]
    exact h.2.2.2.1 j hj
set_option maxHeartbeats 2000000 in
set_option maxRecDepth 100000 in
theorem c_D_generate (l : Launch) (hst : l.stackTraces = false) (D : va_G) (z : Nat → ClassId) (d : Nat → Nat) (sz n len gc : Nat) (ft : Nat → Int32) (fg fo : Nat → Int64) (gs : Nat → Nat → Nat) (us : Nat → gSt) (tx : Nat → Nat) (g : Nat → pg_F) (tg : Nat → Option pg_F) (Gs : Nat → pg_F → Prop) (hR : dR n tx len g gc tg Gs ft fg fo us) : vx_Met l yD_generate wD_generate (rmX 24 3 19) (va_Pc [.ref (d 0)] (xPc D (tyL z) (dW z d n (len, ft, gc, fg, fo, gs, us)) sz)) (va_Qi (fun r (v : dSt) => ∃ y : pg_F, pr_text tx len n gc g = some y ∧ gc < 6 ∧ r = nI (gc + 1) ∧ dRp n (tx, len, va_up g gc y, gc + 1, va_up tg gc none, va_up Gs 0 (pg_and (Gs 0) y)) v) (fun v t => va_P D vC (dW z d n v) t.heap ∧ va_D (va_A (dW z d n (len, ft, gc, fg, fo, gs, us)) sz) (dW z d n v)) (va_A (dW z d n (len, ft, gc, fg, fo, gs, us)) sz)) (xX D (fun E (v : dSt) => ((E = eIA ∧ pr_text tx len n gc g = none) ∨ (E = eIS ∧ pr_text tx len n gc g ≠ none ∧ ¬ gc < 6)) ∧ dRp n (tx, len, g, gc, tg, Gs) v) (fun v => dW z d n v) (va_A (dW z d n (len, ft, gc, fg, fo, gs, us)) sz)) 3 19 (va_A (dW z d n (len, ft, gc, fg, fo, gs, us)) sz) := by
  have hR0 := hR
  obtain ⟨h1n, hok, htg, hgr, hg0⟩ := hR
  have hn7 := hok.2.2.1
  have hgc6 := hok.2.1
  refine vx_ofW (cc := prog_1_method_5_code) (maxL := 3) (ret := (some .int)) (by decide) rfl ?_
  intro p e s m args below meth c s₁ B hml hout hv
  have hx := B.exec
  have hb := B.bytes
  have hr := B.returns
  have ht : ∀ w ∈ TB, w.before args s = true := fun w h => atoms_spec (ws := wD_generate) B.pre w (List.mem_cons_of_mem _ h)
  have hown : s.vm.findClass "PermutationDesk" = some m.cls := findClass_of_methodNamed B.named
  have hlocks := B.notSynchronized
  obtain ⟨rfl, ⟨hsz, hP, hK, hD0⟩, hV, hH⟩ := hv
  subst hsz
  have hD := hD0.self (sz := s.heap.size)
  generalize hAe : va_A (dW z d n (len, ft, gc, fg, fo, gs, us)) s.heap.size = A at hD hH ⊢
  have hA : ∀ q : Nat, s.heap.size ≤ q → A q := fun q h => by rw [← hAe]; exact Or.inr h
  have hS : va_S A s.heap s.heap [] := va_S.rf
  have hl := lv_entry ([.ref (d 0)]) (n := 3) (Nat.le_of_ble_eq_true rfl)
  rw [lg_entry_eq]
  generalize (lg_sl ([.ref (d 0)]) ++ List.replicate (3 - (lg_sl ([.ref (d 0)])).length) Slot.unset).toArray = ls at hl ⊢
  have hl : lv_has ls 3 [(0, .ref (d 0))] := hl
  refine lv_aload_n hx hb dD_generate_0 rfl (lv_at hl 0 rfl) ?_
  refine qX_l (ci := 2) (q0 := 0) (wr := ([(d 3, .inl (z 0, 6, .inr (.inl (fo)))), (d 4, .inl (z 3, 5, .inr (.inr (.inr (.inr (dF (gs)))))))] ++ (gWu z (gs 5) n (us 5) ++ (gWu z (gs 6) (n + n) (us 6) ++ (gWu z (gs 0) n (us 0) ++ (gWu z (gs 1) n (us 1) ++ (gWu z (gs 2) n (us 2) ++ (gWu z (gs 3) n (us 3) ++ (gWu z (gs 4) n (us 4)))))))))) (As := []) (rest := []) ⟨hx, hb, hml, hown, ht⟩ (c_D_textElement l hst D z d s.heap.size n len gc (gs 5 0) (gs 6 0) ft fg tx g hok) (cB 0 ht gD_textElement rfl tw_59 tw_178 (by decide +kernel) ⟨by decide, by decide⟩) tw_180 tw_0 hK hP hD hS hA hV hH [0, 1, 2] [3, 4, 5, 6, 7, 8, 9, 10, 11, 12, 13, 14, 15, 16, 17, 18, 19, 20, 21, 22, 23, 24, 25, 26, 27, 28, 29, 30, 31, 32] rfl rfl rfl rfl (by decide) rfl rfl rfl rfl hl.1 rfl (Nat.le_of_ble_eq_true rfl) dD_generate_1 ⟨by decide, by decide⟩ (fun E9 ce q9 u1 H locs h1 hP hD hS k1 k2 k3 => qO hout hlocks ((len, ft, gc, fg, fo, gs, us)) (⟨Or.inl h1, hR0.rp gs⟩) (hP.sub (ws' := dW z d n ((len, ft, gc, fg, fo, gs, us))) [30, 31, 32, 0, 1, 2, 3, 4, 5, 6, 7, 8, 9, 10, 11, 12, 13, 14, 15, 16, 17, 18, 19, 20, 21, 22, 23, 24, 25, 26, 27, 28, 29] rfl) (hD.sub (ws' := dW z d n ((len, ft, gc, fg, fo, gs, us))) [30, 31, 32, 0, 1, 2, 3, 4, 5, 6, 7, 8, 9, 10, 11, 12, 13, 14, 15, 16, 17, 18, 19, 20, 21, 22, 23, 24, 25, 26, 27, 28, 29] rfl rfl) hS k1 k2 k3 hS.2.2 (by decide)) (fun r1 u1 H locs h1 hP hD hS => ?_)
  replace hP := hP.sub (ws' := dW z d n (len, ft, gc, fg, fo, gs, us)) [30, 31, 32, 0, 1, 2, 3, 4, 5, 6, 7, 8, 9, 10, 11, 12, 13, 14, 15, 16, 17, 18, 19, 20, 21, 22, 23, 24, 25, 26, 27, 28, 29] rfl
  replace hD := hD.sub (ws' := dW z d n (len, ft, gc, fg, fo, gs, us)) [30, 31, 32, 0, 1, 2, 3, 4, 5, 6, 7, 8, 9, 10, 11, 12, 13, 14, 15, 16, 17, 18, 19, 20, 21, 22, 23, 24, 25, 26, 27, 28, 29] rfl rfl
  obtain ⟨y, rfl, hy⟩ := h1
  have hyP := pr_text_P (fun i hi => (hok.2.2.2.2 i hi).1) hy
  refine lv_lstore_n hx hb dD_generate_4 rfl hl (by decide) rfl (fun ls hl => ?_)
  replace hl : lv_has ls 3 [(1, .long (eL n y)), (0, .ref (d 0))] := hl
  refine lv_aload_n hx hb dD_generate_5 rfl (lv_at hl 1 rfl) ?_
  refine va_get (ci := 2) (C := RD) (T := TD) (N := 9) hx hb ht inD hown hK hP 0 rfl rfl 5 (by decide) (ht _ tw_130) (fun _ h9 => h9) rfl dD_generate_6 ?_
  refine lv_bipush (v := 6) hx hb dD_generate_9 (by decide) ?_
  refine wj (σ := Unit) (pc := 24) (I := fun _ H1 locs1 ls1 => H1 = H ∧ locs1 = locs ∧ ls1 = ls ∧ gc < 6) ?_ (fun jn => ?_)
  · rintro - H1 locs1 ls1 ⟨rfl, rfl, rfl, hlt⟩
    refine lv_aload_n hx hb dD_generate_24 rfl (lv_at hl 1 rfl) ?_
    refine va_get (ci := 2) (C := RD) (T := TD) (N := 9) hx hb ht inD hown hK hP 0 rfl rfl 3 (by decide) (ht _ tw_128) (fun _ h9 => h9) rfl dD_generate_25 ?_
    refine lv_aload_n hx hb dD_generate_28 rfl (lv_at hl 1 rfl) ?_
    refine va_get (ci := 2) (C := RD) (T := TD) (N := 9) hx hb ht inD hown hK hP 0 rfl rfl 5 (by decide) (ht _ tw_130) (fun _ h9 => h9) rfl dD_generate_29 ?_
    refine lv_lload_n hx hb dD_generate_32 rfl (lv_at hl 0 rfl) ?_
    refine va_last hx hb hK hP hD hS 2 0 rfl rfl (vp_in_nI (N := 6) hlt (by decide)) dD_generate_33 (fun H locs hP hD hS => ?_)
    rw [show (nI (len, ft, gc, fg, fo, gs, us).2.2.1).toNatClampNeg = gc from nI_clamp (n := gc) (by omega)] at hP hD
    replace hP : va_P D vC (dW z d n (len, ft, gc, vp_updL fg gc (eL n y), fo, gs, us)) H := hP
    replace hD : va_D A (dW z d n (len, ft, gc, vp_updL fg gc (eL n y), fo, gs, us)) := hD
    refine lv_aload_n hx hb dD_generate_34 rfl (lv_at hl 1 rfl) ?_
    refine va_get (ci := 2) (C := RD) (T := TD) (N := 9) hx hb ht inD hown hK hP 0 rfl rfl 4 (by decide) (ht _ tw_129) (fun _ h9 => h9) rfl dD_generate_35 ?_
    refine lv_aload_n hx hb dD_generate_38 rfl (lv_at hl 1 rfl) ?_
    refine va_get (ci := 2) (C := RD) (T := TD) (N := 9) hx hb ht inD hown hK hP 0 rfl rfl 5 (by decide) (ht _ tw_130) (fun _ h9 => h9) rfl dD_generate_39 ?_
    refine W.ldc2 hx hb hown (ht _ tw_392) rfl dD_generate_42 ?_
    refine va_last hx hb hK hP hD hS 3 0 rfl rfl (vp_in_nI (N := 6) hlt (by decide)) dD_generate_45 (fun H locs hP hD hS => ?_)
    rw [show (nI (len, ft, gc, vp_updL fg gc (eL n y), fo, gs, us).2.2.1).toNatClampNeg = gc from nI_clamp (n := gc) (by omega)] at hP hD
    replace hP : va_P D vC (dW z d n (len, ft, gc, vp_updL fg gc (eL n y), vp_updL fo gc (-1), gs, us)) H := hP
    replace hD : va_D A (dW z d n (len, ft, gc, vp_updL fg gc (eL n y), vp_updL fo gc (-1), gs, us)) := hD
    refine lv_aload_n hx hb dD_generate_46 rfl (lv_at hl 1 rfl) ?_
    refine lv_dup hx hb dD_generate_47 rfl ?_
    refine va_get (ci := 2) (C := RD) (T := TD) (N := 9) hx hb ht inD hown hK hP 0 rfl rfl 5 (by decide) (ht _ tw_130) (fun _ h9 => h9) rfl dD_generate_48 ?_
    refine lv_iconst (v := 1) hx hb dD_generate_51 (by decide) ?_
    refine lv_iadd hx hb dD_generate_52 ?_
    refine wti (x' := nI (gc + 1)) (nI_1 gc) ?_
    refine va_put (ci := 2) (ty := .int) (C := RD) (T := TD) (N := 9) hx hb ht inD tyD tyD_ok nmD hown hK hP hD hS 0 rfl rfl 5 (by decide) (ht _ tw_130) (fun _ h9 => h9) rfl (by decide +kernel) rfl rfl (Nat.le_of_ble_eq_true rfl) dD_generate_53 (fun H locs hP hD hS => ?_)
    have hP : va_P D vC (dW z d n (len, ft, gc + 1, vp_updL fg gc (eL n y), vp_updL fo gc (-1), gs, us)) H := hP
    have hD : va_D A (dW z d n (len, ft, gc + 1, vp_updL fg gc (eL n y), vp_updL fo gc (-1), gs, us)) := hD
    refine lv_aload_n hx hb dD_generate_56 rfl (lv_at hl 1 rfl) ?_
    refine va_get (ci := 2) (C := RD) (T := TD) (N := 9) hx hb ht inD hown hK hP 0 rfl rfl 6 (by decide) (ht _ tw_131) (fun _ h9 => h9) rfl dD_generate_57 ?_
    refine lv_iconst (v := 0) hx hb dD_generate_60 (by decide) ?_
    refine va_aldq hx hb hK hP 4 3 rfl rfl (vp_in_nI (N := 5) (by decide) (by decide)) dD_generate_61 ?_
    refine wtv (x' := .ref (gs 0 0)) rfl ?_
    refine lv_lload_n hx hb dD_generate_62 rfl (lv_at hl 0 rfl) ?_
    refine qW_v (ci := 0) (q0 := 0) (wr := ([dO d n (len) (gc + 1) (gs 5 0) (gs 6 0), (d 1, .inl (z 2, 24, .inl (ft))), (d 2, .inl (z 0, 6, .inr (.inl (vp_updL fg gc (eL n y))))), (d 3, .inl (z 0, 6, .inr (.inl (vp_updL fo gc (-1))))), (d 4, .inl (z 3, 5, .inr (.inr (.inr (.inr (dF (gs)))))))] ++ (gWu z (gs 5) n (us 5) ++ (gWu z (gs 6) (n + n) (us 6) ++ (gWu z (gs 1) n (us 1) ++ (gWu z (gs 2) n (us 2) ++ (gWu z (gs 3) n (us 3) ++ (gWu z (gs 4) n (us 4))))))))) (As := [.long (eL n y)]) (rest := []) ⟨hx, hb, hml, hown, ht⟩ (c_G_add l D z (gs 0) H.size n (us 0).1 (us 0).2.1 (us 0).2.2.1 (us 0).2.2.2.1 (us 0).2.2.2.2.1 (us 0).2.2.2.2.2.1 (us 0).2.2.2.2.2.2 (by omega) (Gs 0) (hgr 0 (by omega)) y hyP) (cB 1 ht gG_add rfl tw_61 tw_393 (by decide +kernel) ⟨by decide, by decide⟩) tw_394 tw_395 hK hP hD hS hA [13, 14, 15, 16] [0, 1, 2, 3, 4, 5, 6, 7, 8, 9, 10, 11, 12, 17, 18, 19, 20, 21, 22, 23, 24, 25, 26, 27, 28, 29, 30, 31, 32] rfl rfl rfl rfl (by decide) rfl rfl rfl rfl hl.1 rfl (Nat.le_of_ble_eq_true rfl) dD_generate_63 ⟨by decide, by decide⟩ (fun u63 H locs h63 hP hD hS => ?_)
    replace hP := hP.sub (ws' := dW z d n (len, ft, gc + 1, vp_updL fg gc (eL n y), vp_updL fo gc (-1), gs, va_up us 0 u63)) [0, 1, 2, 3, 4, 5, 6, 7, 8, 9, 10, 11, 12, 29, 30, 31, 32, 13, 14, 15, 16, 17, 18, 19, 20, 21, 22, 23, 24, 25, 26, 27, 28] rfl
    replace hD := hD.sub (ws' := dW z d n (len, ft, gc + 1, vp_updL fg gc (eL n y), vp_updL fo gc (-1), gs, va_up us 0 u63)) [0, 1, 2, 3, 4, 5, 6, 7, 8, 9, 10, 11, 12, 29, 30, 31, 32, 13, 14, 15, 16, 17, 18, 19, 20, 21, 22, 23, 24, 25, 26, 27, 28] rfl rfl
    refine lv_aload_n hx hb dD_generate_66 rfl (lv_at hl 1 rfl) ?_
    refine va_get (ci := 2) (C := RD) (T := TD) (N := 9) hx hb ht inD hown hK hP 0 rfl rfl 5 (by decide) (ht _ tw_130) (fun _ h9 => h9) rfl dD_generate_67 ?_
    refine vx_ret (W.widen (k := 3) (n := 19) (by decide) (by decide) ?_)
    refine W.iret hx hb hr (fun t ht hW => ⟨⟨_, (len, ft, gc + 1, vp_updL fg gc (eL n y), vp_updL fo gc (-1), gs, va_up us 0 u63), rfl, ⟨y, hy, hlt, rfl, h1n, rfl, rfl, ⟨hok.1, hlt, hn7, hok.2.2.2.1, fun i hi => ?_⟩, fun i hi => ?_, fun i hi => ?_, ?_⟩, by rw [ht]; exact hP, hD⟩, hS.F ht⟩) hS.2.2 dD_generate_70
    · show pg_P n (va_up g gc y i) ∧ vp_updL fg gc (eL n y) i = eL n (va_up g gc y i)
      by_cases e9 : i = gc
      · subst e9; rw [va_up_self, pk_uLs]; exact ⟨hyP, rfl⟩
      · rw [va_up_ne _ _ e9, pk_uLn e9]; exact hok.2.2.2.2 i (by have : i < gc + 1 := hi; omega)
    · show vp_updL fo gc (-1) i = oL n (va_up tg gc none i) ∧ ∀ x, va_up tg gc none i = some x → pg_P n x
      by_cases e9 : i = gc
      · subst e9; rw [va_up_self, pk_uLs]; exact ⟨rfl, fun x q => nomatch q⟩
      · rw [va_up_ne _ _ e9, pk_uLn e9]; exact htg i (by have : i < gc + 1 := hi; omega)
    · show gGp n (va_up us 0 u63 i) (va_up Gs 0 (pg_and (Gs 0) y) i)
      by_cases e9 : i = 0
      · subst e9; rw [va_up_self, va_up_self]; exact h63.1
      · rw [va_up_ne _ _ e9, va_up_ne _ _ e9]; exact hgr i hi
    · show va_up Gs 0 (pg_and (Gs 0) y) 0 = pg_Gen (pg_GS (gc + 1) (va_up g gc y))
      rw [va_up_self]
      exact (pg_and_gen (c := gc) (K := g) (K' := va_up g gc y) hg0.symm (fun a ha => va_up_ne _ _ (by omega)) (va_up_self _ _ _)).symm
  refine wti (x' := nI 6) rfl ?_
  refine lv_icmp_lt (tgt := 24) hx hb dD_generate_11 rfl (fun h11 => ?_) (fun h11 => ?_)
  · exact jn () _ _ ls ⟨rfl, rfl, rfl, (nI_ltI (a := gc) (b := 6) (by omega) (by omega)).mp h11⟩
  have hge : ¬ gc < 6 := fun q => h11 ((nI_ltI (a := gc) (b := 6) (by omega) (by omega)).mpr q)
  exact qT (cls := eIS) (is := 67) (text := "there are six generators") hx hb hst hown (by decide +kernel) ht tw_376 tw_71 (by decide) (x_atS ht hV) x_gdS hV hH (len, ft, gc, fg, fo, gs, us) ⟨Or.inr ⟨rfl, (by rw [hy]; exact fun q => nomatch q), hge⟩, hR0.rp gs⟩ hP hD hS hml hl.1 dD_generate_14 dD_generate_17 dD_generate_18 dD_generate_20 dD_generate_23 hout (by decide) (Nat.le_of_ble_eq_true rfl) (by decide) hlocks hS.2.2 (by decide)
set_option maxHeartbeats 2000000 in
set_option maxRecDepth 100000 in
theorem c_D_image (l : Launch) (hst : l.stackTraces = false) (D : va_G) (z : Nat → ClassId) (d : Nat → Nat) (sz n len gc : Nat) (ft : Nat → Int32) (fg fo : Nat → Int64) (gs : Nat → Nat → Nat) (us : Nat → gSt) (tx : Nat → Nat) (g : Nat → pg_F) (tg : Nat → Option pg_F) (Gs : Nat → pg_F → Prop) (hR : dR n tx len g gc tg Gs ft fg fo us) (x : Int32) : vx_Met l yD_image wD_image (rmX 24 3 19) (va_Pc [.ref (d 0), .int x] (xPc D (tyL z) (dW z d n (len, ft, gc, fg, fo, gs, us)) sz)) (va_Qv (fun (v : dSt) => ∃ (y : pg_F) (k : Nat), pr_text tx len n gc g = some y ∧ x = nI k ∧ k < gc ∧ dRp n (tx, len, g, gc, va_up tg k (some y), Gs) v) (fun v t => va_P D vC (dW z d n v) t.heap ∧ va_D (va_A (dW z d n (len, ft, gc, fg, fo, gs, us)) sz) (dW z d n v)) (va_A (dW z d n (len, ft, gc, fg, fo, gs, us)) sz)) (xX D (fun E (v : dSt) => ((E = eIA ∧ pr_text tx len n gc g = none) ∨ (E = eIO ∧ pr_text tx len n gc g ≠ none ∧ ¬ iN x gc)) ∧ dRp n (tx, len, g, gc, tg, Gs) v) (fun v => dW z d n v) (va_A (dW z d n (len, ft, gc, fg, fo, gs, us)) sz)) 3 19 (va_A (dW z d n (len, ft, gc, fg, fo, gs, us)) sz) := by
  have hR0 := hR
  obtain ⟨h1n, hok, htg, hgr, hg0⟩ := hR
  have hn7 := hok.2.2.1
  have hgc6 := hok.2.1
  refine vx_ofW (cc := prog_1_method_7_code) (maxL := 4) (ret := none) (by decide) rfl ?_
  intro p e s m args below meth c s₁ B hml hout hv
  have hx := B.exec
  have hb := B.bytes
  have hr := B.returns
  have ht : ∀ w ∈ TB, w.before args s = true := fun w h => atoms_spec (ws := wD_image) B.pre w (List.mem_cons_of_mem _ h)
  have hown : s.vm.findClass "PermutationDesk" = some m.cls := findClass_of_methodNamed B.named
  have hlocks := B.notSynchronized
  obtain ⟨rfl, ⟨hsz, hP, hK, hD0⟩, hV, hH⟩ := hv
  subst hsz
  have hD := hD0.self (sz := s.heap.size)
  generalize hAe : va_A (dW z d n (len, ft, gc, fg, fo, gs, us)) s.heap.size = A at hD hH ⊢
  have hA : ∀ q : Nat, s.heap.size ≤ q → A q := fun q h => by rw [← hAe]; exact Or.inr h
  have hS : va_S A s.heap s.heap [] := va_S.rf
  have hl := lv_entry ([.ref (d 0), .int x]) (n := 4) (Nat.le_of_ble_eq_true rfl)
  rw [lg_entry_eq]
  generalize (lg_sl ([.ref (d 0), .int x]) ++ List.replicate (4 - (lg_sl ([.ref (d 0), .int x])).length) Slot.unset).toArray = ls at hl ⊢
  have hl : lv_has ls 4 [(0, .ref (d 0)), (1, .int x)] := hl
  refine lv_aload_n hx hb dD_image_0 rfl (lv_at hl 0 rfl) ?_
  refine qX_l (ci := 2) (q0 := 0) (wr := ([(d 3, .inl (z 0, 6, .inr (.inl (fo)))), (d 4, .inl (z 3, 5, .inr (.inr (.inr (.inr (dF (gs)))))))] ++ (gWu z (gs 5) n (us 5) ++ (gWu z (gs 6) (n + n) (us 6) ++ (gWu z (gs 0) n (us 0) ++ (gWu z (gs 1) n (us 1) ++ (gWu z (gs 2) n (us 2) ++ (gWu z (gs 3) n (us 3) ++ (gWu z (gs 4) n (us 4)))))))))) (As := []) (rest := []) ⟨hx, hb, hml, hown, ht⟩ (c_D_textElement l hst D z d s.heap.size n len gc (gs 5 0) (gs 6 0) ft fg tx g hok) (cB 0 ht gD_textElement rfl tw_59 tw_178 (by decide +kernel) ⟨by decide, by decide⟩) tw_180 tw_0 hK hP hD hS hA hV hH [0, 1, 2] [3, 4, 5, 6, 7, 8, 9, 10, 11, 12, 13, 14, 15, 16, 17, 18, 19, 20, 21, 22, 23, 24, 25, 26, 27, 28, 29, 30, 31, 32] rfl rfl rfl rfl (by decide) rfl rfl rfl rfl hl.1 rfl (Nat.le_of_ble_eq_true rfl) dD_image_1 ⟨by decide, by decide⟩ (fun E9 ce q9 u1 H locs h1 hP hD hS k1 k2 k3 => qO hout hlocks ((len, ft, gc, fg, fo, gs, us)) (⟨Or.inl h1, hR0.rp gs⟩) (hP.sub (ws' := dW z d n ((len, ft, gc, fg, fo, gs, us))) [30, 31, 32, 0, 1, 2, 3, 4, 5, 6, 7, 8, 9, 10, 11, 12, 13, 14, 15, 16, 17, 18, 19, 20, 21, 22, 23, 24, 25, 26, 27, 28, 29] rfl) (hD.sub (ws' := dW z d n ((len, ft, gc, fg, fo, gs, us))) [30, 31, 32, 0, 1, 2, 3, 4, 5, 6, 7, 8, 9, 10, 11, 12, 13, 14, 15, 16, 17, 18, 19, 20, 21, 22, 23, 24, 25, 26, 27, 28, 29] rfl rfl) hS k1 k2 k3 hS.2.2 (by decide)) (fun r1 u1 H locs h1 hP hD hS => ?_)
  replace hP := hP.sub (ws' := dW z d n (len, ft, gc, fg, fo, gs, us)) [30, 31, 32, 0, 1, 2, 3, 4, 5, 6, 7, 8, 9, 10, 11, 12, 13, 14, 15, 16, 17, 18, 19, 20, 21, 22, 23, 24, 25, 26, 27, 28, 29] rfl
  replace hD := hD.sub (ws' := dW z d n (len, ft, gc, fg, fo, gs, us)) [30, 31, 32, 0, 1, 2, 3, 4, 5, 6, 7, 8, 9, 10, 11, 12, 13, 14, 15, 16, 17, 18, 19, 20, 21, 22, 23, 24, 25, 26, 27, 28, 29] rfl rfl
  obtain ⟨y, rfl, hy⟩ := h1
  have hyP := pr_text_P (fun i hi => (hok.2.2.2.2 i hi).1) hy
  have hyn : pr_text tx len n gc g ≠ none := by rw [hy]; exact fun q => nomatch q
  refine lv_lstore_n hx hb dD_image_4 rfl hl (by decide) rfl (fun ls hl => ?_)
  replace hl : lv_has ls 4 [(2, .long (eL n y)), (0, .ref (d 0)), (1, .int x)] := hl
  refine lv_iload_n hx hb dD_image_5 rfl (lv_at hl 2 rfl) ?_
  refine lv_if_lt (tgt := 17) hx hb dD_image_6 rfl (fun h6 => ?_) (fun h6 => ?_)
  · have hno : ¬ iN x gc := fun q => ((iN_of (by omega)).mp q).1 h6
    exact qT (cls := eIO) (is := 83) (text := "no such generator") hx hb hst hown (by decide +kernel) ht tw_351 tw_70 (by decide) (x_atO ht hV) x_gdO hV hH (len, ft, gc, fg, fo, gs, us) ⟨Or.inr ⟨rfl, hyn, hno⟩, hR0.rp gs⟩ hP hD hS hml hl.1 dD_image_17 dD_image_20 dD_image_21 dD_image_23 dD_image_26 hout (by decide) (Nat.le_of_ble_eq_true rfl) (by decide) hlocks hS.2.2 (by decide)
  refine lv_iload_n hx hb dD_image_9 rfl (lv_at hl 2 rfl) ?_
  refine lv_aload_n hx hb dD_image_10 rfl (lv_at hl 1 rfl) ?_
  refine va_get (ci := 2) (C := RD) (T := TD) (N := 9) hx hb ht inD hown hK hP 0 rfl rfl 5 (by decide) (ht _ tw_130) (fun _ h9 => h9) rfl dD_image_11 ?_
  refine wti (x' := nI gc) rfl ?_
  refine lv_icmp_lt (tgt := 27) hx hb dD_image_14 rfl (fun h14 => ?_) (fun h14 => ?_)
  · have hyes : iN x gc := (iN_of (by omega)).mpr ⟨h6, fun q => Int32.not_le.mpr h14 q⟩
    obtain ⟨k, rfl, hk⟩ := hyes
    refine lv_aload_n hx hb dD_image_27 rfl (lv_at hl 1 rfl) ?_
    refine va_get (ci := 2) (C := RD) (T := TD) (N := 9) hx hb ht inD hown hK hP 0 rfl rfl 4 (by decide) (ht _ tw_129) (fun _ h9 => h9) rfl dD_image_28 ?_
    refine lv_iload_n hx hb dD_image_31 rfl (lv_at hl 2 rfl) ?_
    refine lv_lload_n hx hb dD_image_32 rfl (lv_at hl 0 rfl) ?_
    refine va_last hx hb hK hP hD hS 3 0 rfl rfl (vp_in_nI (N := 6) (by omega) (by decide)) dD_image_33 (fun H locs hP hD hS => ?_)
    rw [nI_clamp (by omega)] at hP hD
    replace hP : va_P D vC (dW z d n (len, ft, gc, fg, vp_updL fo k (eL n y), gs, us)) H := hP
    replace hD : va_D A (dW z d n (len, ft, gc, fg, vp_updL fo k (eL n y), gs, us)) := hD
    refine vx_ret (W.widen (k := 3) (n := 19) (by decide) (by decide) ?_)
    refine W.vret hx hb hr (fun t ht hW => ⟨⟨(len, ft, gc, fg, vp_updL fo k (eL n y), gs, us), rfl, ⟨y, k, hy, rfl, hk, h1n, rfl, rfl, hok, fun i hi => ?_, hgr, hg0⟩, by rw [ht]; exact hP, hD⟩, hS.F ht⟩) hS.2.2 dD_image_34
    show vp_updL fo k (eL n y) i = oL n (va_up tg k (some y) i) ∧ ∀ x, va_up tg k (some y) i = some x → pg_P n x
    by_cases e9 : i = k
    · subst e9; rw [va_up_self, pk_uLs]; exact ⟨rfl, fun x q => by cases q; exact hyP⟩
    · rw [va_up_ne _ _ e9, pk_uLn e9]; exact htg i hi
  have hno : ¬ iN x gc := fun q => h14 (Int32.not_le.mp ((iN_of (by omega)).mp q).2)
  exact qT (cls := eIO) (is := 83) (text := "no such generator") hx hb hst hown (by decide +kernel) ht tw_351 tw_70 (by decide) (x_atO ht hV) x_gdO hV hH (len, ft, gc, fg, fo, gs, us) ⟨Or.inr ⟨rfl, hyn, hno⟩, hR0.rp gs⟩ hP hD hS hml hl.1 dD_image_17 dD_image_20 dD_image_21 dD_image_23 dD_image_26 hout (by decide) (Nat.le_of_ble_eq_true rfl) (by decide) hlocks hS.2.2 (by decide)
