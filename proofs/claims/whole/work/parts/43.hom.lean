/-! Desk: targets, homomorphisms. -/
theorem oL_n {n : Nat} {o : Option pg_F} (hn : n ≤ 14) (h : ∀ x, o = some x → pg_P n x) : oL n o = -1 ↔ o = none := by
  cases o with
  | none => exact ⟨fun _ => rfl, fun _ => rfl⟩
  | some x => exact ⟨fun e => absurd e (eL_ne hn ((h x rfl).d4 (by omega))), fun e => by cases e⟩
set_option maxHeartbeats 1000000 in
set_option maxRecDepth 100000 in
theorem c_D_needTargets (l : Launch) (hst : l.stackTraces = false) (D : va_G) (z : Nat → ClassId) (d : Nat → Nat) (sz n len gc wk pr : Nat) (fo : Nat → Int64) (tg : Nat → Option pg_F) (hn : n ≤ 14) (hgc : gc ≤ 6) (htg : dTg n gc fo tg) : vx_Met l yD_needTargets wD_needTargets (rmX 6 1 6) (va_Pc [.ref (d 0)] (xPc D (tyL z) [dO d n len gc wk pr, (d 3, .inl (z 0, 6, .inr (.inl fo)))] sz)) (va_Qv (fun _ : Unit => ∀ k, k < gc → tg k ≠ none) (fun _ t => va_P D vC [dO d n len gc wk pr, (d 3, .inl (z 0, 6, .inr (.inl fo)))] t.heap ∧ va_D (va_A [dO d n len gc wk pr, (d 3, .inl (z 0, 6, .inr (.inl fo)))] sz) [dO d n len gc wk pr, (d 3, .inl (z 0, 6, .inr (.inl fo)))]) (va_A [dO d n len gc wk pr, (d 3, .inl (z 0, 6, .inr (.inl fo)))] sz)) (xX D (fun E (_ : Unit) => E = eIS ∧ ¬ ∀ k, k < gc → tg k ≠ none) (fun _ => [dO d n len gc wk pr, (d 3, .inl (z 0, 6, .inr (.inl fo)))]) (va_A [dO d n len gc wk pr, (d 3, .inl (z 0, 6, .inr (.inl fo)))] sz)) 1 6 (va_A [dO d n len gc wk pr, (d 3, .inl (z 0, 6, .inr (.inl fo)))] sz) := by
  refine vx_ofW (cc := prog_1_method_23_code) (maxL := 2) (ret := none) (by decide) rfl ?_
  intro p e s m args below meth c s₁ B hml hout hv
  have hx := B.exec
  have hb := B.bytes
  have hr := B.returns
  have ht : ∀ w ∈ TB, w.before args s = true := fun w h => atoms_spec (ws := wD_needTargets) B.pre w (List.mem_cons_of_mem _ h)
  have hown : s.vm.findClass "PermutationDesk" = some m.cls := findClass_of_methodNamed B.named
  have hlocks := B.notSynchronized
  obtain ⟨rfl, ⟨hsz, hP, hK, hD0⟩, hV, hH⟩ := hv
  subst hsz
  have hD := hD0.self (sz := s.heap.size)
  generalize hAe : va_A ([dO d n len gc wk pr, (d 3, .inl (z 0, 6, .inr (.inl fo)))]) s.heap.size = A at hD hH ⊢
  have hA : ∀ q : Nat, s.heap.size ≤ q → A q := fun q h => by rw [← hAe]; exact Or.inr h
  have hS : va_S A s.heap s.heap [] := va_S.rf
  have hl := lv_entry ([.ref (d 0)]) (n := 2) (Nat.le_of_ble_eq_true rfl)
  rw [lg_entry_eq]
  generalize (lg_sl ([.ref (d 0)]) ++ List.replicate (2 - (lg_sl ([.ref (d 0)])).length) Slot.unset).toArray = ls at hl ⊢
  have hl : lv_has ls 2 [(0, .ref (d 0))] := hl
  refine lv_iconst (v := 0) hx hb dD_needTargets_0 (by decide) ?_
  refine lv_istore_n hx hb dD_needTargets_1 rfl hl (by decide) rfl (fun ls hl => ?_)
  replace hl : lv_has ls 2 [(1, .int (nI 0)), (0, .ref (d 0))] := hl
  refine wl0 (σ := Nat) (I := fun d9 k ls => d9 + k = gc ∧ (∀ j, j < k → tg j ≠ none) ∧ lv_has ls 2 [(1, .int (nI k)), (0, .ref (d 0))]) ?_ gc 0 ls ⟨rfl, fun j h => by omega, hl⟩
  rintro d9 k ls ⟨hdk, hall, hl⟩ ih
  replace hl : lv_has ls 2 [(1, .int (nI k)), (0, .ref (d 0))] := hl
  refine lv_iload_n hx hb dD_needTargets_2 rfl (lv_at hl 0 rfl) ?_
  refine lv_aload_n hx hb dD_needTargets_3 rfl (lv_at hl 1 rfl) ?_
  refine va_get (ci := 2) (C := RD) (T := TD) (N := 9) hx hb ht inD hown hK hP 0 rfl rfl 5 (by decide) (ht _ tw_130) (fun _ h9 => h9) rfl dD_needTargets_4 ?_
  refine lv_icmp_ge (tgt := 39) hx hb dD_needTargets_7 rfl (fun h7 => ?_) (fun h7 => ?_)
  · have hk : gc ≤ k := (nI_leI (by omega) (by omega)).mp h7
    refine vx_ret (W.widen (k := 1) (n := 6) (by decide) (by decide) ?_)
    exact W.vret hx hb hr (fun t ht hW => ⟨⟨(), rfl, fun j hj => hall j (by omega), by rw [ht]; exact hP, hD⟩, hS.F ht⟩) hS.2.2 dD_needTargets_39
  have hk : k < gc := by
    rw [nI_leI (by omega) (by omega)] at h7
    omega
  obtain ⟨t1, t2⟩ := htg k hk
  refine lv_aload_n hx hb dD_needTargets_10 rfl (lv_at hl 1 rfl) ?_
  refine va_get (ci := 2) (C := RD) (T := TD) (N := 9) hx hb ht inD hown hK hP 0 rfl rfl 4 (by decide) (ht _ tw_129) (fun _ h9 => h9) rfl dD_needTargets_11 ?_
  refine lv_iload_n hx hb dD_needTargets_14 rfl (lv_at hl 0 rfl) ?_
  refine va_lald hx hb hK hP 1 0 rfl rfl (vp_in_nI (N := 6) (by omega) (by decide)) dD_needTargets_15 ?_
  refine wtl (x' := oL n (tg k)) (by rw [nI_clamp (by omega)]; exact t1) ?_
  refine W.ldc2 hx hb hown (ht _ tw_392) rfl dD_needTargets_16 ?_
  refine W.lcmp hx hb dD_needTargets_19 ?_
  refine lv_if_ne (tgt := 33) hx hb dD_needTargets_20 rfl (fun h20 => ?_) (fun h20 => ?_)
  · have h21 : tg k ≠ none := fun e9 => h20 ((lg_cmp_eq _ _).mpr ((oL_n hn t2).mpr e9))
    refine lv_iinc (k := 0) (v := (nI (k + 1))) hx hb dD_needTargets_33 hl rfl (by exact nI_1 _) (by decide) rfl (fun ls hl => ?_)
    replace hl : lv_has ls 2 [(1, .int (nI (k + 1))), (0, .ref (d 0))] := hl
    refine lv_goto (tgt := 2) hx hb dD_needTargets_36 rfl ?_
    exact ih (d9 - 1) (k + 1) ls (by omega) ⟨by omega, fun j hj => (by
      by_cases e9 : j = k
      · rw [e9]; exact h21
      · exact hall j (by omega)), lv_sub hl [0, 1] rfl⟩
  have h21 : tg k = none := (oL_n hn t2).mp ((lg_cmp_eq _ _).mp h20)
  exact qT (cls := eIS) (is := 169) (text := "a generator has no image") hx hb hst hown (by decide +kernel) ht tw_376 tw_71 (by decide) (x_atS ht hV) x_gdS hV hH () ⟨rfl, fun q => q k hk h21⟩ hP hD hS hml hl.1 dD_needTargets_23 dD_needTargets_26 dD_needTargets_27 dD_needTargets_29 dD_needTargets_32 hout (by decide) (Nat.le_of_ble_eq_true rfl) (by decide) hlocks hS.2.2 (by decide)
theorem va_up_2 {α : Type} (f : Nat → α) (i : Nat) (x y : α) : va_up (va_up f i x) i y = va_up f i y := by
  funext j
  by_cases e : j = i
  · rw [e, va_up_self, va_up_self]
  · rw [va_up_ne _ _ e, va_up_ne _ _ e, va_up_ne _ _ e]
set_option maxHeartbeats 2000000 in
set_option maxRecDepth 100000 in
theorem c_D_isHomomorphism (l : Launch) (D : va_G) (z : Nat → ClassId) (d : Nat → Nat) (sz n : Nat) (u : dSt) (a : dA) (hR : dRp n a u) (tt : Nat → pg_F) (htt : ∀ k, k < a.2.2.2.1 → a.2.2.2.2.1 k = some (tt k)) : Met l yD_isHomomorphism wD_isHomomorphism (rmF 4) (va_Pc [.ref (d 0)] (fun U => U.heap.size = sz ∧ va_P D vC (dW z d n u) U.heap ∧ va_K D vC (tyL z) U ∧ va_D (fun _ => True) (dW z d n u))) (va_Qi (fun r (v : dSt) => ∃ (b : Bool) (u6 : gSt), r = bI b ∧ (b = true ↔ pg_hom n a.2.2.2.1 tt a.2.2.1) ∧ gGp (n + n) u6 (pg_Gen (pg_PS n a.2.2.2.1 tt a.2.2.1)) ∧ v = (u.1, u.2.1, u.2.2.1, u.2.2.2.1, u.2.2.2.2.1, u.2.2.2.2.2.1, va_up u.2.2.2.2.2.2 6 u6)) (fun v t => va_P D vC (dW z d n v) t.heap ∧ va_D (va_A (dW z d n u) sz) (dW z d n v)) (va_A (dW z d n u) sz)) 0 0 (va_A (dW z d n u) sz) := by
  obtain ⟨len, ft, gc, fg, fo, gs, us⟩ := u
  obtain ⟨tx, len', g, gc', tg, Gs⟩ := a
  obtain ⟨h1n, e1, e2, hok, htg, hgr, hg0⟩ := hR
  replace e1 : len = len' := e1
  replace e2 : gc = gc' := e2
  subst e1
  subst e2
  replace hok : rOK tx len n gc g ft fg := hok
  replace htg : dTg n gc fo tg := htg
  replace hg0 : Gs 0 = pg_Gen (pg_GS gc g) := hg0
  replace htt : ∀ k, k < gc → tg k = some (tt k) := htt
  have hn7 := hok.2.2.1
  have hgc6 := hok.2.1
  have hgP : ∀ k, k < gc → pg_P n (g k) := fun k hk => (hok.2.2.2.2 k hk).1
  have htP : ∀ k, k < gc → pg_P n (tt k) := fun k hk => (htg k hk).2 _ (htt k hk)
  have hG0 : gGp n (us 0) (pg_Gen (pg_GS gc g)) := by rw [← hg0]; exact hgr 0 (by omega)
  refine Met.ofW (cc := prog_1_method_24_code) (maxL := 2) (ret := (some .boolean)) (by decide) rfl ?_
  intro p e s m args below meth c s₁ B hml hv
  have hx := B.exec
  have hb := B.bytes
  have hr := B.returns
  have ht : ∀ w ∈ TB, w.before args s = true := fun w h => atoms_spec (ws := wD_isHomomorphism) B.pre w (List.mem_cons_of_mem _ h)
  have hown : s.vm.findClass "PermutationDesk" = some m.cls := findClass_of_methodNamed B.named
  have hlocks := B.notSynchronized
  obtain ⟨rfl, hsz, hP, hK, hD0⟩ := hv
  subst hsz
  have hD := hD0.self (sz := s.heap.size)
  generalize hAe : va_A (dW z d n (len, ft, gc, fg, fo, gs, us)) s.heap.size = A at hD ⊢
  have hA : ∀ q : Nat, s.heap.size ≤ q → A q := fun q h => by rw [← hAe]; exact Or.inr h
  have hS : va_S A s.heap s.heap [] := va_S.rf
  have hl := lv_entry ([.ref (d 0)]) (n := 2) (Nat.le_of_ble_eq_true rfl)
  rw [lg_entry_eq]
  generalize (lg_sl ([.ref (d 0)]) ++ List.replicate (2 - (lg_sl ([.ref (d 0)])).length) Slot.unset).toArray = ls at hl ⊢
  have hl : lv_has ls 2 [(0, .ref (d 0))] := hl
  refine lv_aload_n hx hb dD_isHomomorphism_0 rfl (lv_at hl 0 rfl) ?_
  refine va_get (ci := 2) (C := RD) (T := TD) (N := 9) hx hb ht inD hown hK hP 0 rfl rfl 8 (by decide) (ht _ tw_133) (fun _ h9 => h9) rfl dD_isHomomorphism_1 ?_
  refine qW_v (ci := 0) (q0 := 0) (wr := (dB z d n len ft gc fg fo (dF gs) (gs 5 0) (gs 6 0) ++ (gWu z (gs 5) n (us 5) ++ (gWu z (gs 0) n (us 0) ++ (gWu z (gs 1) n (us 1) ++ (gWu z (gs 2) n (us 2) ++ (gWu z (gs 3) n (us 3) ++ gWu z (gs 4) n (us 4)))))))) (As := []) (rest := []) ⟨hx, hb, hml, hown, ht⟩ (c_G_clear l D z (gs 6) s.heap.size (n + n) (us 6).2.1 (us 6).2.2.2.2.1 (us 6).2.2.2.2.2.1 (us 6).2.2.2.2.2.2 (by omega)) (cB 0 ht gG_clear rfl tw_61 tw_165 (by decide +kernel) ⟨by decide, by decide⟩) tw_96 tw_97 hK hP hD hS hA [9, 10, 11, 12] [0, 1, 2, 3, 4, 5, 6, 7, 8, 13, 14, 15, 16, 17, 18, 19, 20, 21, 22, 23, 24, 25, 26, 27, 28, 29, 30, 31, 32] rfl rfl rfl rfl (by decide) rfl rfl rfl rfl hl.1 rfl (Nat.le_of_ble_eq_true rfl) dD_isHomomorphism_4 ⟨by decide, by decide⟩ (fun u4 H locs h4 hP hD hS => ?_)
  replace hP := hP.sub (ws' := dW z d n (len, ft, gc, fg, fo, gs, va_up us 6 u4)) [0, 1, 2, 3, 4, 5, 6, 7, 8, 29, 30, 31, 32, 9, 10, 11, 12, 13, 14, 15, 16, 17, 18, 19, 20, 21, 22, 23, 24, 25, 26, 27, 28] rfl
  replace hD := hD.sub (ws' := dW z d n (len, ft, gc, fg, fo, gs, va_up us 6 u4)) [0, 1, 2, 3, 4, 5, 6, 7, 8, 29, 30, 31, 32, 9, 10, 11, 12, 13, 14, 15, 16, 17, 18, 19, 20, 21, 22, 23, 24, 25, 26, 27, 28] rfl rfl
  refine lv_iconst (v := 0) hx hb dD_isHomomorphism_7 (by decide) ?_
  refine lv_istore_n hx hb dD_isHomomorphism_8 rfl hl (by decide) rfl (fun ls hl => ?_)
  replace hl : lv_has ls 2 [(1, .int (nI 0)), (0, .ref (d 0))] := hl
  refine wl (σ := Nat × gSt) (I := fun d9 st H locs ls => d9 + st.1 = gc ∧ gGp (n + n) st.2 (pg_Gen (pg_PS n st.1 tt g)) ∧ va_P D vC (dW z d n (len, ft, gc, fg, fo, gs, va_up us 6 st.2)) H ∧ va_D A (dW z d n (len, ft, gc, fg, fo, gs, va_up us 6 st.2)) ∧ va_S A s.heap H locs ∧ lv_has ls 2 [(1, .int (nI st.1)), (0, .ref (d 0))]) ?_ gc (0, u4) _ _ ls ⟨rfl, (by
    have e9 : pg_Gen (pg_PS n 0 tt g) = fun x => x = pg_id := pg_Gen_0 (g := fun k => pg_pair n (tt k) (g k))
    show gGp (n + n) u4 (pg_Gen (pg_PS n 0 tt g))
    rw [e9]; exact h4.1), hP, hD, hS, hl⟩
  clear hP hD hS hl
  rintro d9 ⟨k, u6⟩ H locs ls ⟨hdk, hG6, hP, hD, hS, hl⟩ ih
  replace hdk : d9 + k = gc := hdk
  replace hG6 : gGp (n + n) u6 (pg_Gen (pg_PS n k tt g)) := hG6
  replace hP : va_P D vC (dW z d n (len, ft, gc, fg, fo, gs, va_up us 6 u6)) H := hP
  replace hD : va_D A (dW z d n (len, ft, gc, fg, fo, gs, va_up us 6 u6)) := hD
  replace hl : lv_has ls 2 [(1, .int (nI k)), (0, .ref (d 0))] := hl
  refine lv_iload_n hx hb dD_isHomomorphism_9 rfl (lv_at hl 0 rfl) ?_
  refine lv_aload_n hx hb dD_isHomomorphism_10 rfl (lv_at hl 1 rfl) ?_
  refine va_get (ci := 2) (C := RD) (T := TD) (N := 9) hx hb ht inD hown hK hP 0 rfl rfl 5 (by decide) (ht _ tw_130) (fun _ h9 => h9) rfl dD_isHomomorphism_11 ?_
  refine wti (x' := nI gc) rfl ?_
  refine lv_icmp_ge (tgt := 49) hx hb dD_isHomomorphism_14 rfl (fun h14 => ?_) (fun h14 => ?_)
  · have hk : k = gc := by have := (nI_leI (by omega) (by omega)).mp h14; omega
    subst hk
    refine lv_aload_n hx hb dD_isHomomorphism_49 rfl (lv_at hl 1 rfl) ?_
    refine va_get (ci := 2) (C := RD) (T := TD) (N := 9) hx hb ht inD hown hK hP 0 rfl rfl 8 (by decide) (ht _ tw_133) (fun _ h9 => h9) rfl dD_isHomomorphism_50 ?_
    refine qV_i (ci := 0) (q0 := 0) (As := []) (rest := []) ⟨hx, hb, hml, hown, ht⟩ (c_G_size l D z (gs 6) (n + n) u6.2.1 u6.2.2.2.2.1 u6.2.2.2.2.2.1 u6.2.2.2.2.2.2 u6.1 (by omega) hG6.1.1 hG6.1.2.2.1) (cB 0 ht gG_size rfl tw_61 tw_443 (by decide +kernel) ⟨by decide, by decide⟩) tw_444 tw_445 hK (hP.sub (ws' := gWu z (gs 6) (n + n) u6) [9, 10, 11, 12] rfl) rfl rfl rfl hl.1 rfl (Nat.le_of_ble_eq_true rfl) dD_isHomomorphism_53 ⟨by decide, by decide⟩ (fun r53 h53 => ?_)
    subst h53
    refine lv_aload_n hx hb dD_isHomomorphism_56 rfl (lv_at hl 1 rfl) ?_
    refine va_get (ci := 2) (C := RD) (T := TD) (N := 9) hx hb ht inD hown hK hP 0 rfl rfl 6 (by decide) (ht _ tw_131) (fun _ h9 => h9) rfl dD_isHomomorphism_57 ?_
    refine lv_iconst (v := 0) hx hb dD_isHomomorphism_60 (by decide) ?_
    refine va_aldq hx hb hK hP 4 3 rfl rfl (vp_in_nI (N := 5) (by decide) (by decide)) dD_isHomomorphism_61 ?_
    refine wtv (x' := .ref (gs 0 0)) rfl ?_
    refine qV_i (ci := 0) (q0 := 0) (As := []) (rest := [.int (nI (pg_len (n + n) u6.1 (n + n) 0))]) ⟨hx, hb, hml, hown, ht⟩ (c_G_size l D z (gs 0) n (us 0).2.1 (us 0).2.2.2.2.1 (us 0).2.2.2.2.2.1 (us 0).2.2.2.2.2.2 (us 0).1 (by omega) hG0.1.1 hG0.1.2.2.1) (cB 0 ht gG_size rfl tw_61 tw_443 (by decide +kernel) ⟨by decide, by decide⟩) tw_444 tw_445 hK (hP.sub (ws' := gWu z (gs 0) n (us 0)) [13, 14, 15, 16] rfl) rfl rfl rfl hl.1 rfl (Nat.le_of_ble_eq_true rfl) dD_isHomomorphism_62 ⟨by decide, by decide⟩ (fun r62 h62 => ?_)
    subst h62
    obtain ⟨r1, r2⟩ := hG6.row
    obtain ⟨r3, r4⟩ := hG0.row
    have hlen := pg_hom_len htP hgP r1 r3
    have b1 := pg_pairs_le htP hgP r1
    have b2 := pg_row_le r3 hG0.2.1.1
    have b3 := pg_fac_le n hn7
    have b4 : pg_fac n * pg_fac n ≤ 5040 * 5040 := Nat.mul_le_mul b3 b3
    rw [r2, r4] at hlen
    rw [r2] at b1
    rw [r4] at b2
    refine lv_icmp_ne (tgt := 72) hx hb dD_isHomomorphism_65 rfl (fun h65 => ?_) (fun h65 => ?_)
    · have hno : ¬ pg_hom n k tt g := fun q => h65 (by rw [hlen.mpr q])
      refine lv_iconst (v := 0) hx hb dD_isHomomorphism_72 (by decide) ?_
      exact W.zret (v := 0) hx hb hr rfl (fun t ht hW => ⟨⟨_, (len, ft, k, fg, fo, gs, va_up us 6 u6), rfl, ⟨false, u6, rfl, ⟨fun q => (by cases q), fun q => absurd q hno⟩, hG6, rfl⟩, by rw [ht]; exact hP, hD⟩, hS.F ht⟩) hS.2.2 dD_isHomomorphism_73
    have hyes : pg_hom n k tt g := hlen.mp ((nI_eq (by omega) (by omega)).mp h65)
    refine lv_iconst (v := 1) hx hb dD_isHomomorphism_68 (by decide) ?_
    refine lv_goto (tgt := 73) hx hb dD_isHomomorphism_69 rfl ?_
    exact W.zret (v := 1) hx hb hr rfl (fun t ht hW => ⟨⟨_, (len, ft, k, fg, fo, gs, va_up us 6 u6), rfl, ⟨true, u6, rfl, ⟨fun _ => hyes, fun _ => rfl⟩, hG6, rfl⟩, by rw [ht]; exact hP, hD⟩, hS.F ht⟩) hS.2.2 dD_isHomomorphism_73
  have hk : k < gc := by
    rw [nI_leI (by omega) (by omega)] at h14
    omega
  refine lv_aload_n hx hb dD_isHomomorphism_17 rfl (lv_at hl 1 rfl) ?_
  refine va_get (ci := 2) (C := RD) (T := TD) (N := 9) hx hb ht inD hown hK hP 0 rfl rfl 8 (by decide) (ht _ tw_133) (fun _ h9 => h9) rfl dD_isHomomorphism_18 ?_
  refine lv_aload_n hx hb dD_isHomomorphism_21 rfl (lv_at hl 1 rfl) ?_
  refine va_get (ci := 2) (C := RD) (T := TD) (N := 9) hx hb ht inD hown hK hP 0 rfl rfl 4 (by decide) (ht _ tw_129) (fun _ h9 => h9) rfl dD_isHomomorphism_22 ?_
  refine lv_iload_n hx hb dD_isHomomorphism_25 rfl (lv_at hl 0 rfl) ?_
  refine va_lald hx hb hK hP 3 0 rfl rfl (vp_in_nI (N := 6) (by omega) (by decide)) dD_isHomomorphism_26 ?_
  refine wtl (x' := eL n (tt k)) (by rw [nI_clamp (by omega)]; show fo k = _; rw [(htg k hk).1, htt k hk]; rfl) ?_
  refine lv_aload_n hx hb dD_isHomomorphism_27 rfl (lv_at hl 1 rfl) ?_
  refine va_get (ci := 2) (C := RD) (T := TD) (N := 9) hx hb ht inD hown hK hP 0 rfl rfl 3 (by decide) (ht _ tw_128) (fun _ h9 => h9) rfl dD_isHomomorphism_28 ?_
  refine lv_iload_n hx hb dD_isHomomorphism_31 rfl (lv_at hl 0 rfl) ?_
  refine va_lald hx hb hK hP 2 0 rfl rfl (vp_in_nI (N := 6) (by omega) (by decide)) dD_isHomomorphism_32 ?_
  refine wtl (x' := eL n (g k)) (by rw [nI_clamp (by omega)]; exact (hok.2.2.2.2 k hk).2) ?_
  refine lv_aload_n hx hb dD_isHomomorphism_33 rfl (lv_at hl 1 rfl) ?_
  refine va_get (ci := 2) (C := RD) (T := TD) (N := 9) hx hb ht inD hown hK hP 0 rfl rfl 0 (by decide) (ht _ tw_125) (fun _ h9 => h9) rfl dD_isHomomorphism_34 ?_
  refine qS_l (As := [.long (eL n (tt k)), .long (eL n (g k)), .int (nI n)]) (rest := [.ref (gs 6 0)]) ⟨hx, hb, hml, hown, ht⟩ (c_E_pair l n (tt k) (g k) hn7 (htP k hk) (hgP k hk)) (cB 3 ht gE_pair rfl tw_62 tw_440 (by decide +kernel) ⟨by decide, by decide⟩) tw_441 rfl hl.1 rfl (Nat.le_of_ble_eq_true rfl) dD_isHomomorphism_37 ⟨by decide, by decide⟩ (fun r37 h37 => ?_)
  subst h37
  refine qW_v (ci := 0) (q0 := 0) (wr := (dB z d n len ft gc fg fo (dF gs) (gs 5 0) (gs 6 0) ++ (gWu z (gs 5) n (us 5) ++ (gWu z (gs 0) n (us 0) ++ (gWu z (gs 1) n (us 1) ++ (gWu z (gs 2) n (us 2) ++ (gWu z (gs 3) n (us 3) ++ gWu z (gs 4) n (us 4)))))))) (As := [.long (eL (n + n) (pg_pair n (tt k) (g k)))]) (rest := []) ⟨hx, hb, hml, hown, ht⟩ (c_G_add l D z (gs 6) H.size (n + n) u6.1 u6.2.1 u6.2.2.1 u6.2.2.2.1 u6.2.2.2.2.1 u6.2.2.2.2.2.1 u6.2.2.2.2.2.2 (by omega) (pg_Gen (pg_PS n k tt g)) hG6 (pg_pair n (tt k) (g k)) (pg_P_pair (htP k hk) (hgP k hk))) (cB 1 ht gG_add rfl tw_61 tw_393 (by decide +kernel) ⟨by decide, by decide⟩) tw_394 tw_395 hK hP hD hS hA [9, 10, 11, 12] [0, 1, 2, 3, 4, 5, 6, 7, 8, 13, 14, 15, 16, 17, 18, 19, 20, 21, 22, 23, 24, 25, 26, 27, 28, 29, 30, 31, 32] rfl rfl rfl rfl (by decide) rfl rfl rfl rfl hl.1 rfl (Nat.le_of_ble_eq_true rfl) dD_isHomomorphism_40 ⟨by decide, by decide⟩ (fun u40 H locs h40 hP hD hS => ?_)
  replace hP := hP.sub (ws' := dW z d n (len, ft, gc, fg, fo, gs, va_up us 6 u40)) [0, 1, 2, 3, 4, 5, 6, 7, 8, 29, 30, 31, 32, 9, 10, 11, 12, 13, 14, 15, 16, 17, 18, 19, 20, 21, 22, 23, 24, 25, 26, 27, 28] rfl
  replace hD := hD.sub (ws' := dW z d n (len, ft, gc, fg, fo, gs, va_up us 6 u40)) [0, 1, 2, 3, 4, 5, 6, 7, 8, 29, 30, 31, 32, 9, 10, 11, 12, 13, 14, 15, 16, 17, 18, 19, 20, 21, 22, 23, 24, 25, 26, 27, 28] rfl rfl
  refine lv_iinc (k := 0) (v := (nI (k + 1))) hx hb dD_isHomomorphism_43 hl rfl (by exact nI_1 _) (by decide) rfl (fun ls hl => ?_)
  replace hl : lv_has ls 2 [(1, .int (nI (k + 1))), (0, .ref (d 0))] := hl
  refine lv_goto (tgt := 9) hx hb dD_isHomomorphism_46 rfl ?_
  exact ih (d9 - 1) (k + 1, u40) _ _ ls (by omega) ⟨by show d9 - 1 + (k + 1) = gc; omega, (by
    have e9 : pg_Gen (pg_PS n (k + 1) tt g) = pg_and (pg_Gen (pg_PS n k tt g)) (pg_pair n (tt k) (g k)) := pg_and_gen (c := k) (K := fun k => pg_pair n (tt k) (g k)) (K' := fun k => pg_pair n (tt k) (g k)) rfl (fun _ _ => rfl) rfl
    show gGp (n + n) u40 (pg_Gen (pg_PS n (k + 1) tt g))
    rw [e9]; exact h40.1), hP, hD, hS, lv_sub hl [0, 1] rfl⟩
