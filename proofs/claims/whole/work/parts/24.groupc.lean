/-! Group: conjugates and commutators. -/
theorem gGp.maker {n : Nat} {u : gSt} {G : pg_F → Prop} (h : gGp n u G) {a : Nat} (ha : a < u.2.1) : G (u.2.2.1 a) := h.gt.maker ha
theorem gGp.gen {n : Nat} {u : gSt} {G : pg_F → Prop} (h : gGp n u G) : G = pg_Gen (fun s => ∃ a, a < u.2.1 ∧ s = u.2.2.1 a) := h.gt.gen
set_option maxHeartbeats 1000000 in
set_option maxRecDepth 100000 in
/-- addConjugates: the least group that has it and is closed under conjugation by another one -/
theorem c_G_addConjugates (l : Launch) (D : va_G) (z : Nat → ClassId) (g h : Nat → Nat) (sz n : Nat) (T : pg_T) (nc : Nat) (M : Nat → pg_F) (lv : Nat → Nat) (fS fM : Nat → Int64) (fL : Nat → Int32) (TB9 : pg_T) (ncB : Nat) (MB : Nat → pg_F) (lvB : Nat → Nat) (fSB fMB : Nat → Int64) (fLB : Nat → Int32) (hn : n ≤ 14) (G GB : pg_F → Prop) (hGp : gGp n (T, nc, M, lv, fS, fM, fL) G) (hGB : gGp n (TB9, ncB, MB, lvB, fSB, fMB, fLB) GB) : Met l yG_addConjugates wG_addConjugates (rmF 4) (va_Pc [.ref (g 0), .ref (h 0)] (fun U => U.heap.size = sz ∧ va_P D vC (gW z g n nc fS fM fL ++ gW z h n ncB fSB fMB fLB) U.heap ∧ va_K D vC (tyL z) U ∧ va_D (fun _ => True) (gW z g n nc fS fM fL ++ gW z h n ncB fSB fMB fLB))) (va_Qv (fun u => ∃ N, gGp n u N ∧ pg_ncl n G GB N) (fun u t => va_P D vC (gWu z g n u ++ gW z h n ncB fSB fMB fLB) t.heap ∧ va_D (va_A (gW z g n nc fS fM fL ++ gW z h n ncB fSB fMB fLB) sz) (gWu z g n u ++ gW z h n ncB fSB fMB fLB)) (va_A (gW z g n nc fS fM fL ++ gW z h n ncB fSB fMB fLB) sz)) 0 0 (va_A (gW z g n nc fS fM fL ++ gW z h n ncB fSB fMB fLB) sz) := by
  have hcap := gcap_le hn
  have hroomB : ncB ≤ gcap n := hGB.1.room hn
  have hMB : gM n ncB MB lvB fMB fLB := hGB.1.2.2.2
  refine Met.ofW (cc := prog_5_method_11_code) (maxL := 4) (ret := none) (by decide) rfl ?_
  intro p e s m args below meth c s₁ B hml hv
  have hx := B.exec
  have hb := B.bytes
  have hr := B.returns
  have ht : ∀ w ∈ TB, w.before args s = true := fun w h => atoms_spec (ws := wG_addConjugates) B.pre w (List.mem_cons_of_mem _ h)
  have hown : s.vm.findClass "PermutationDesk$Group" = some m.cls := findClass_of_methodNamed B.named
  have hlocks := B.notSynchronized
  obtain ⟨rfl, hsz, hP, hK, hD0⟩ := hv
  subst hsz
  have hD := hD0.self (sz := s.heap.size)
  generalize hAe : va_A (gW z g n nc fS fM fL ++ gW z h n ncB fSB fMB fLB) s.heap.size = A at hD ⊢
  have hA : ∀ q : Nat, s.heap.size ≤ q → A q := fun q h => by rw [← hAe]; exact Or.inr h
  have hS : va_S A s.heap s.heap [] := va_S.rf
  have hl := lv_entry ([.ref (g 0), .ref (h 0)]) (n := 4) (Nat.le_of_ble_eq_true rfl)
  rw [lg_entry_eq]
  generalize (lg_sl ([.ref (g 0), .ref (h 0)]) ++ List.replicate (4 - (lg_sl ([.ref (g 0), .ref (h 0)])).length) Slot.unset).toArray = ls at hl ⊢
  have hl : lv_has ls 4 [(0, .ref (g 0)), (1, .ref (h 0))] := hl
  refine lv_iconst (v := 0) hx hb dG_addConjugates_0 (by decide) ?_
  refine lv_istore_n hx hb dG_addConjugates_1 rfl hl (by decide) rfl (fun ls hl => ?_)
  replace hl : lv_has ls 4 [(2, .int (nI 0)), (0, .ref (g 0)), (1, .ref (h 0))] := hl
  refine wl (σ := Nat × gSt × (pg_F → Prop)) (I := fun d st H locs ls => d + st.1 = gcap n ∧ st.1 ≤ st.2.1.2.1 ∧ gGp n st.2.1 st.2.2 ∧ (∀ y, G y → st.2.2 y) ∧ (∀ K, pg_G n K → (∀ y, G y → K y) → pg_nrm n K GB → ∀ y, st.2.2 y → K y) ∧ (∀ a b, a < st.1 → b < ncB → st.2.2 (pg_conj n (st.2.1.2.2.1 a) (MB b))) ∧ va_P D vC (gWu z g n st.2.1 ++ gW z h n ncB fSB fMB fLB) H ∧ va_D A (gWu z g n st.2.1 ++ gW z h n ncB fSB fMB fLB) ∧ va_S A s.heap H locs ∧ lv_has ls 4 [(2, .int (nI st.1)), (0, .ref (g 0)), (1, .ref (h 0))]) ?_ (gcap n) (0, (T, nc, M, lv, fS, fM, fL), G) _ _ ls ⟨rfl, Nat.zero_le _, hGp, fun _ q => q, fun _ _ q _ => q, fun a b ha => absurd ha (Nat.not_lt_zero a), hP, hD, hS, hl⟩
  rintro d ⟨a, u, N⟩ H locs ls ⟨hda, hau, hN, hGN, hmin, hcj, hP, hD, hS, hl⟩ ih
  obtain ⟨T1, nc1, M1, lv1, fS1, fM1, fL1⟩ := u
  have hda : d + a = gcap n := hda
  have hau : a ≤ nc1 := hau
  have hN : gGp n (T1, nc1, M1, lv1, fS1, fM1, fL1) N := hN
  have hGN : ∀ y, G y → N y := hGN
  have hcj : ∀ a' b, a' < a → b < ncB → N (pg_conj n (M1 a') (MB b)) := hcj
  have hroom1 : nc1 ≤ gcap n := hN.1.room hn
  have hP : va_P D vC (gW z g n nc1 fS1 fM1 fL1 ++ gW z h n ncB fSB fMB fLB) H := hP
  have hD : va_D A (gW z g n nc1 fS1 fM1 fL1 ++ gW z h n ncB fSB fMB fLB) := hD
  have hl : lv_has ls 4 [(2, .int (nI a)), (0, .ref (g 0)), (1, .ref (h 0))] := hl
  refine lv_iload_n hx hb dG_addConjugates_2 rfl (lv_at hl 0 rfl) ?_
  refine lv_aload_n hx hb dG_addConjugates_3 rfl (lv_at hl 1 rfl) ?_
  refine va_get (ci := 0) (C := RG) (T := TG) (N := 6) hx hb ht inG hown hK hP 0 rfl rfl 5 (by decide) (ht _ tw_108) (fun _ h9 => h9) rfl dG_addConjugates_4 ?_
  refine lv_icmp_ge (tgt := 64) hx hb dG_addConjugates_7 rfl (fun h1 => ?_) (fun h1 => ?_)
  · have hle := (nI_leI (by omega) (by omega)).mp h1
    exact W.vret hx hb hr (fun t ht hW => ⟨⟨(T1, nc1, M1, lv1, fS1, fM1, fL1), rfl, ⟨N, hN, hN.2.1, hGN, by
      rw [hGB.gen]
      refine pg_nrm_of hN.2.1 hN.gen (fun b hb => (hGB.1.P hb).1) (fun a' b ha' hb => hcj a' b (show a' < a by have ha' : a' < nc1 := ha'; omega) hb), hmin⟩, by rw [ht]; exact hP, hD⟩, hS.F ht⟩) hS.2.2 dG_addConjugates_64
  have hanc : a < nc1 := by
    rw [nI_leI (by omega) (by omega)] at h1
    omega
  refine lv_iload_n hx hb dG_addConjugates_10 rfl (lv_at hl 0 rfl) ?_
  refine lv_aload_n hx hb dG_addConjugates_11 rfl (lv_at hl 1 rfl) ?_
  refine va_get (ci := 0) (C := RG) (T := TG) (N := 6) hx hb ht inG hown hK hP 0 rfl rfl 3 (by decide) (ht _ tw_106) (fun _ h9 => h9) rfl dG_addConjugates_12 ?_
  refine va_alen hx hb hK hP 2 0 rfl rfl rfl dG_addConjugates_15 ?_
  refine wti (x' := nI (gcap n)) rfl ?_
  refine lv_icmp_ge (tgt := 64) hx hb dG_addConjugates_16 rfl (fun h2 => ?_) (fun h2 => ?_)
  · have hle := (nI_leI (by omega) (by omega)).mp h2
    omega
  refine lv_iconst (v := 0) hx hb dG_addConjugates_19 (by decide) ?_
  refine lv_istore_n hx hb dG_addConjugates_20 rfl hl (by decide) rfl (fun ls hl => ?_)
  replace hl : lv_has ls 4 [(3, .int (nI 0)), (2, .int (nI a)), (0, .ref (g 0)), (1, .ref (h 0))] := hl
  refine wl (σ := Nat × gSt × (pg_F → Prop)) (pc := 21) (I := fun d2 st H locs ls => d2 + st.1 = ncB ∧ a < st.2.1.2.1 ∧ gGp n st.2.1 st.2.2 ∧ (∀ y, G y → st.2.2 y) ∧ (∀ K, pg_G n K → (∀ y, G y → K y) → pg_nrm n K GB → ∀ y, st.2.2 y → K y) ∧ (∀ a' b, a' < a → b < ncB → st.2.2 (pg_conj n (st.2.1.2.2.1 a') (MB b))) ∧ (∀ b, b < st.1 → st.2.2 (pg_conj n (st.2.1.2.2.1 a) (MB b))) ∧ va_P D vC (gWu z g n st.2.1 ++ gW z h n ncB fSB fMB fLB) H ∧ va_D A (gWu z g n st.2.1 ++ gW z h n ncB fSB fMB fLB) ∧ va_S A s.heap H locs ∧ lv_has ls 4 [(3, .int (nI st.1)), (2, .int (nI a)), (0, .ref (g 0)), (1, .ref (h 0))]) ?_ ncB (0, (T1, nc1, M1, lv1, fS1, fM1, fL1), N) _ _ ls ⟨rfl, hanc, hN, hGN, hmin, hcj, fun b hb => absurd hb (Nat.not_lt_zero b), hP, hD, hS, hl⟩
  clear hP hD hS hl hN hGN hmin hcj hanc hau hroom1
  rintro d2 ⟨b, u, N⟩ H locs ls ⟨hdb, hanc, hN, hGN, hmin, hcj, hcb, hP, hD, hS, hl⟩ ih2
  obtain ⟨T1, nc1, M1, lv1, fS1, fM1, fL1⟩ := u
  have hdb : d2 + b = ncB := hdb
  have hanc : a < nc1 := hanc
  have hN : gGp n (T1, nc1, M1, lv1, fS1, fM1, fL1) N := hN
  have hGN : ∀ y, G y → N y := hGN
  have hmin : ∀ K, pg_G n K → (∀ y, G y → K y) → pg_nrm n K GB → ∀ y, N y → K y := hmin
  have hcj : ∀ a' b, a' < a → b < ncB → N (pg_conj n (M1 a') (MB b)) := hcj
  have hcb : ∀ b', b' < b → N (pg_conj n (M1 a) (MB b')) := hcb
  have hroom1 : nc1 ≤ gcap n := hN.1.room hn
  have hM1 : gM n nc1 M1 lv1 fM1 fL1 := hN.1.2.2.2
  have hP : va_P D vC (gW z g n nc1 fS1 fM1 fL1 ++ gW z h n ncB fSB fMB fLB) H := hP
  have hD : va_D A (gW z g n nc1 fS1 fM1 fL1 ++ gW z h n ncB fSB fMB fLB) := hD
  have hl : lv_has ls 4 [(3, .int (nI b)), (2, .int (nI a)), (0, .ref (g 0)), (1, .ref (h 0))] := hl
  refine lv_iload_n hx hb dG_addConjugates_21 rfl (lv_at hl 0 rfl) ?_
  refine lv_aload_n hx hb dG_addConjugates_22 rfl (lv_at hl 3 rfl) ?_
  refine va_get (ci := 0) (C := RG) (T := TG) (N := 6) hx hb ht inG hown hK hP 4 rfl rfl 5 (by decide) (ht _ tw_108) (fun _ h9 => h9) rfl dG_addConjugates_23 ?_
  refine lv_icmp_ge (tgt := 58) hx hb dG_addConjugates_26 rfl (fun h3 => ?_) (fun h3 => ?_)
  · have hle := (nI_leI (by omega) (by omega)).mp h3
    refine lv_iinc (k := 1) (v := (nI (a + 1))) hx hb dG_addConjugates_58 hl rfl (by exact nI_1 _) (by decide) rfl (fun ls hl => ?_)
    replace hl : lv_has ls 4 [(2, .int (nI (a + 1))), (3, .int (nI b)), (0, .ref (g 0)), (1, .ref (h 0))] := hl
    refine lv_goto (tgt := 2) hx hb dG_addConjugates_61 rfl ?_
    exact ih (d - 1) (a + 1, (T1, nc1, M1, lv1, fS1, fM1, fL1), N) _ _ ls (by omega) ⟨by show d - 1 + (a + 1) = gcap n; omega, by show a + 1 ≤ nc1; omega, hN, hGN, hmin, fun a' b' h5 h6 => by
      have h5 : a' < a + 1 := h5
      by_cases q : a' = a
      · subst q; exact hcb b' (show b' < b by omega)
      · exact hcj a' b' (by omega) h6, hP, hD, hS, lv_sub hl [0, 2, 3] rfl⟩
  have hbn : b < ncB := by
    rw [nI_leI (by omega) (by omega)] at h3
    omega
  have hPa : pg_P n (M1 a) := (hN.1.P hanc).1
  have hPb : pg_P n (MB b) := (hGB.1.P hbn).1
  refine lv_aload_n hx hb dG_addConjugates_29 rfl (lv_at hl 2 rfl) ?_
  refine lv_aload_n hx hb dG_addConjugates_30 rfl (lv_at hl 2 rfl) ?_
  refine va_get (ci := 0) (C := RG) (T := TG) (N := 6) hx hb ht inG hown hK hP 0 rfl rfl 3 (by decide) (ht _ tw_106) (fun _ h9 => h9) rfl dG_addConjugates_31 ?_
  refine lv_iload_n hx hb dG_addConjugates_34 rfl (lv_at hl 1 rfl) ?_
  refine va_lald hx hb hK hP 2 0 rfl rfl (vp_in_nI (N := gcap n) (by omega) hcap) dG_addConjugates_35 ?_
  refine wtl (x' := eL n (M1 a)) (by rw [nI_clamp (by omega)]; exact hM1.1 a hanc) ?_
  refine lv_aload_n hx hb dG_addConjugates_36 rfl (lv_at hl 3 rfl) ?_
  refine va_get (ci := 0) (C := RG) (T := TG) (N := 6) hx hb ht inG hown hK hP 4 rfl rfl 3 (by decide) (ht _ tw_106) (fun _ h9 => h9) rfl dG_addConjugates_37 ?_
  refine lv_iload_n hx hb dG_addConjugates_40 rfl (lv_at hl 0 rfl) ?_
  refine va_lald hx hb hK hP 6 0 rfl rfl (vp_in_nI (N := gcap n) (by omega) hcap) dG_addConjugates_41 ?_
  refine wtl (x' := eL n (MB b)) (by rw [nI_clamp (by omega)]; exact hMB.1 b hbn) ?_
  refine lv_aload_n hx hb dG_addConjugates_42 rfl (lv_at hl 2 rfl) ?_
  refine va_get (ci := 0) (C := RG) (T := TG) (N := 6) hx hb ht inG hown hK hP 0 rfl rfl 0 (by decide) (ht _ tw_103) (fun _ h9 => h9) rfl dG_addConjugates_43 ?_
  refine qS_l (As := [.long (eL n (M1 a)), .long (eL n (MB b)), .int (nI n)]) (rest := [.ref (g 0)]) ⟨hx, hb, hml, hown, ht⟩ (c_E_conjugate l n (M1 a) (MB b) hn hPa hPb) (cB 3 ht gE_conjugate rfl tw_62 tw_574 (by decide +kernel) ⟨by decide, by decide⟩) tw_575 rfl hl.1 rfl (Nat.le_of_ble_eq_true rfl) dG_addConjugates_46 ⟨by decide, by decide⟩ (fun r46 h46 => ?_)
  subst h46
  refine qW_v (ci := 0) (q0 := 0) (wr := gW z h n ncB fSB fMB fLB) (As := [.long (eL n (pg_conj n (M1 a) (MB b)))]) (rest := []) ⟨hx, hb, hml, hown, ht⟩ (c_G_add l D z g H.size n T1 nc1 M1 lv1 fS1 fM1 fL1 hn N hN (pg_conj n (M1 a) (MB b)) (pg_P_conj hPa hPb)) (cB 1 ht gG_add rfl tw_61 tw_577 (by decide +kernel) ⟨by decide, by decide⟩) tw_394 tw_395 hK hP hD hS hA [0, 1, 2, 3] [4, 5, 6, 7] rfl rfl rfl rfl (by decide) rfl rfl rfl rfl hl.1 rfl (Nat.le_of_ble_eq_true rfl) dG_addConjugates_49 ⟨by decide, by decide⟩ (fun u49 H locs h49 hP hD hS => ?_)
  obtain ⟨hN2, hnc2, hM2⟩ := h49
  have hP := hP.sub (ws' := gWu z g n u49 ++ gW z h n ncB fSB fMB fLB) [4, 5, 6, 7, 0, 1, 2, 3] rfl
  have hD := hD.sub (ws' := gWu z g n u49 ++ gW z h n ncB fSB fMB fLB) [4, 5, 6, 7, 0, 1, 2, 3] (by decide) rfl
  refine lv_iinc (k := 0) (v := (nI (b + 1))) hx hb dG_addConjugates_52 hl rfl (by exact nI_1 _) (by decide) rfl (fun ls hl => ?_)
  replace hl : lv_has ls 4 [(3, .int (nI (b + 1))), (2, .int (nI a)), (0, .ref (g 0)), (1, .ref (h 0))] := hl
  refine lv_goto (tgt := 21) hx hb dG_addConjugates_55 rfl ?_
  refine ih2 (d2 - 1) (b + 1, u49, pg_and N (pg_conj n (M1 a) (MB b))) _ _ ls (by omega) ⟨by show d2 - 1 + (b + 1) = ncB; omega, Nat.lt_of_lt_of_le hanc hnc2, hN2, fun y hy => pg_and_in (hGN y hy), fun K hK h0 hnr y hy => pg_and_least hK (hmin K hK h0 hnr) (hnr _ _ (hmin K hK h0 hnr _ (hN.maker hanc)) (hGB.maker hbn)) hy, fun a' b' h5 h6 => ?_, fun b' h5 => ?_, hP, hD, hS, lv_sub hl [0, 1, 2, 3] rfl⟩
  · show pg_and N _ (pg_conj n (u49.2.2.1 a') (MB b'))
    rw [hM2 a' (by omega)]
    exact pg_and_in (hcj a' b' h5 h6)
  · show pg_and N _ (pg_conj n (u49.2.2.1 a) (MB b'))
    have h5 : b' < b + 1 := h5
    rw [hM2 a hanc]
    by_cases q : b' = b
    · subst q; exact pg_and_x
    · exact pg_and_in (hcb b' (show b' < b by omega))
set_option maxHeartbeats 1000000 in
set_option maxRecDepth 100000 in
/-- addCommutators: the group made by it and the commutators of another one's makers -/
theorem c_G_addCommutators (l : Launch) (D : va_G) (z : Nat → ClassId) (g h : Nat → Nat) (sz n : Nat) (T : pg_T) (nc : Nat) (M : Nat → pg_F) (lv : Nat → Nat) (fS fM : Nat → Int64) (fL : Nat → Int32) (TB9 : pg_T) (ncB : Nat) (MB : Nat → pg_F) (lvB : Nat → Nat) (fSB fMB : Nat → Int64) (fLB : Nat → Int32) (hn : n ≤ 14) (G GB : pg_F → Prop) (hGp : gGp n (T, nc, M, lv, fS, fM, fL) G) (hGB : gGp n (TB9, ncB, MB, lvB, fSB, fMB, fLB) GB) : Met l yG_addCommutators wG_addCommutators (rmF 4) (va_Pc [.ref (g 0), .ref (h 0)] (fun U => U.heap.size = sz ∧ va_P D vC (gW z g n nc fS fM fL ++ gW z h n ncB fSB fMB fLB) U.heap ∧ va_K D vC (tyL z) U ∧ va_D (fun _ => True) (gW z g n nc fS fM fL ++ gW z h n ncB fSB fMB fLB))) (va_Qv (fun u => ∃ N, gGp n u N ∧ (∀ a b, a < ncB → b < a → N (pg_comm n (MB a) (MB b))) ∧ ∀ K, pg_G n K → (∀ y, G y → K y) → (∀ a b, a < ncB → b < a → K (pg_comm n (MB a) (MB b))) → ∀ y, N y → K y) (fun u t => va_P D vC (gWu z g n u ++ gW z h n ncB fSB fMB fLB) t.heap ∧ va_D (va_A (gW z g n nc fS fM fL ++ gW z h n ncB fSB fMB fLB) sz) (gWu z g n u ++ gW z h n ncB fSB fMB fLB)) (va_A (gW z g n nc fS fM fL ++ gW z h n ncB fSB fMB fLB) sz)) 0 0 (va_A (gW z g n nc fS fM fL ++ gW z h n ncB fSB fMB fLB) sz) := by
  have hcap := gcap_le hn
  have hroomB : ncB ≤ gcap n := hGB.1.room hn
  have hMB : gM n ncB MB lvB fMB fLB := hGB.1.2.2.2
  refine Met.ofW (cc := prog_5_method_12_code) (maxL := 4) (ret := none) (by decide) rfl ?_
  intro p e s m args below meth c s₁ B hml hv
  have hx := B.exec
  have hb := B.bytes
  have hr := B.returns
  have ht : ∀ w ∈ TB, w.before args s = true := fun w h => atoms_spec (ws := wG_addCommutators) B.pre w (List.mem_cons_of_mem _ h)
  have hown : s.vm.findClass "PermutationDesk$Group" = some m.cls := findClass_of_methodNamed B.named
  have hlocks := B.notSynchronized
  obtain ⟨rfl, hsz, hP, hK, hD0⟩ := hv
  subst hsz
  have hD := hD0.self (sz := s.heap.size)
  generalize hAe : va_A (gW z g n nc fS fM fL ++ gW z h n ncB fSB fMB fLB) s.heap.size = A at hD ⊢
  have hA : ∀ q : Nat, s.heap.size ≤ q → A q := fun q h => by rw [← hAe]; exact Or.inr h
  have hS : va_S A s.heap s.heap [] := va_S.rf
  have hl := lv_entry ([.ref (g 0), .ref (h 0)]) (n := 4) (Nat.le_of_ble_eq_true rfl)
  rw [lg_entry_eq]
  generalize (lg_sl ([.ref (g 0), .ref (h 0)]) ++ List.replicate (4 - (lg_sl ([.ref (g 0), .ref (h 0)])).length) Slot.unset).toArray = ls at hl ⊢
  have hl : lv_has ls 4 [(0, .ref (g 0)), (1, .ref (h 0))] := hl
  refine lv_iconst (v := 0) hx hb dG_addCommutators_0 (by decide) ?_
  refine lv_istore_n hx hb dG_addCommutators_1 rfl hl (by decide) rfl (fun ls hl => ?_)
  replace hl : lv_has ls 4 [(2, .int (nI 0)), (0, .ref (g 0)), (1, .ref (h 0))] := hl
  refine wl (σ := Nat × gSt × (pg_F → Prop)) (I := fun d st H locs ls => d + st.1 = ncB ∧ gGp n st.2.1 st.2.2 ∧ (∀ K, pg_G n K → (∀ y, G y → K y) → (∀ a b, a < ncB → b < a → K (pg_comm n (MB a) (MB b))) → ∀ y, st.2.2 y → K y) ∧ (∀ a b, a < st.1 → b < a → st.2.2 (pg_comm n (MB a) (MB b))) ∧ va_P D vC (gWu z g n st.2.1 ++ gW z h n ncB fSB fMB fLB) H ∧ va_D A (gWu z g n st.2.1 ++ gW z h n ncB fSB fMB fLB) ∧ va_S A s.heap H locs ∧ lv_has ls 4 [(2, .int (nI st.1)), (0, .ref (g 0)), (1, .ref (h 0))]) ?_ ncB (0, (T, nc, M, lv, fS, fM, fL), G) _ _ ls ⟨rfl, hGp, fun _ _ q _ => q, fun a b ha => absurd ha (Nat.not_lt_zero a), hP, hD, hS, hl⟩
  rintro d ⟨a, u, N⟩ H locs ls ⟨hda, hN, hmin, hcj, hP, hD, hS, hl⟩ ih
  obtain ⟨T1, nc1, M1, lv1, fS1, fM1, fL1⟩ := u
  have hda : d + a = ncB := hda
  have hN : gGp n (T1, nc1, M1, lv1, fS1, fM1, fL1) N := hN
  have hmin : ∀ K, pg_G n K → (∀ y, G y → K y) → (∀ a b, a < ncB → b < a → K (pg_comm n (MB a) (MB b))) → ∀ y, N y → K y := hmin
  have hcj : ∀ a' b, a' < a → b < a' → N (pg_comm n (MB a') (MB b)) := hcj
  have hP : va_P D vC (gW z g n nc1 fS1 fM1 fL1 ++ gW z h n ncB fSB fMB fLB) H := hP
  have hD : va_D A (gW z g n nc1 fS1 fM1 fL1 ++ gW z h n ncB fSB fMB fLB) := hD
  have hl : lv_has ls 4 [(2, .int (nI a)), (0, .ref (g 0)), (1, .ref (h 0))] := hl
  refine lv_iload_n hx hb dG_addCommutators_2 rfl (lv_at hl 0 rfl) ?_
  refine lv_aload_n hx hb dG_addCommutators_3 rfl (lv_at hl 2 rfl) ?_
  refine va_get (ci := 0) (C := RG) (T := TG) (N := 6) hx hb ht inG hown hK hP 4 rfl rfl 5 (by decide) (ht _ tw_108) (fun _ h9 => h9) rfl dG_addCommutators_4 ?_
  refine lv_icmp_ge (tgt := 52) hx hb dG_addCommutators_7 rfl (fun h1 => ?_) (fun h1 => ?_)
  · have hle := (nI_leI (by omega) (by omega)).mp h1
    exact W.vret hx hb hr (fun t ht hW => ⟨⟨(T1, nc1, M1, lv1, fS1, fM1, fL1), rfl, ⟨N, hN, fun a' b ha' hb => hcj a' b (by omega) hb, hmin⟩, by rw [ht]; exact hP, hD⟩, hS.F ht⟩) hS.2.2 dG_addCommutators_52
  have hanc : a < ncB := by
    rw [nI_leI (by omega) (by omega)] at h1
    omega
  refine lv_iconst (v := 0) hx hb dG_addCommutators_10 (by decide) ?_
  refine lv_istore_n hx hb dG_addCommutators_11 rfl hl (by decide) rfl (fun ls hl => ?_)
  replace hl : lv_has ls 4 [(3, .int (nI 0)), (2, .int (nI a)), (0, .ref (g 0)), (1, .ref (h 0))] := hl
  refine wl (σ := Nat × gSt × (pg_F → Prop)) (pc := 12) (I := fun d2 st H locs ls => d2 + st.1 = a ∧ gGp n st.2.1 st.2.2 ∧ (∀ K, pg_G n K → (∀ y, G y → K y) → (∀ a b, a < ncB → b < a → K (pg_comm n (MB a) (MB b))) → ∀ y, st.2.2 y → K y) ∧ (∀ a' b, a' < a → b < a' → st.2.2 (pg_comm n (MB a') (MB b))) ∧ (∀ b, b < st.1 → st.2.2 (pg_comm n (MB a) (MB b))) ∧ va_P D vC (gWu z g n st.2.1 ++ gW z h n ncB fSB fMB fLB) H ∧ va_D A (gWu z g n st.2.1 ++ gW z h n ncB fSB fMB fLB) ∧ va_S A s.heap H locs ∧ lv_has ls 4 [(3, .int (nI st.1)), (2, .int (nI a)), (0, .ref (g 0)), (1, .ref (h 0))]) ?_ a (0, (T1, nc1, M1, lv1, fS1, fM1, fL1), N) _ _ ls ⟨rfl, hN, hmin, hcj, fun b hb => absurd hb (Nat.not_lt_zero b), hP, hD, hS, hl⟩
  clear hP hD hS hl hN hmin hcj
  rintro d2 ⟨b, u, N⟩ H locs ls ⟨hdb, hN, hmin, hcj, hcb, hP, hD, hS, hl⟩ ih2
  obtain ⟨T1, nc1, M1, lv1, fS1, fM1, fL1⟩ := u
  have hdb : d2 + b = a := hdb
  have hN : gGp n (T1, nc1, M1, lv1, fS1, fM1, fL1) N := hN
  have hmin : ∀ K, pg_G n K → (∀ y, G y → K y) → (∀ a b, a < ncB → b < a → K (pg_comm n (MB a) (MB b))) → ∀ y, N y → K y := hmin
  have hcj : ∀ a' b, a' < a → b < a' → N (pg_comm n (MB a') (MB b)) := hcj
  have hcb : ∀ b', b' < b → N (pg_comm n (MB a) (MB b')) := hcb
  have hP : va_P D vC (gW z g n nc1 fS1 fM1 fL1 ++ gW z h n ncB fSB fMB fLB) H := hP
  have hD : va_D A (gW z g n nc1 fS1 fM1 fL1 ++ gW z h n ncB fSB fMB fLB) := hD
  have hl : lv_has ls 4 [(3, .int (nI b)), (2, .int (nI a)), (0, .ref (g 0)), (1, .ref (h 0))] := hl
  refine lv_iload_n hx hb dG_addCommutators_12 rfl (lv_at hl 0 rfl) ?_
  refine lv_iload_n hx hb dG_addCommutators_13 rfl (lv_at hl 1 rfl) ?_
  refine lv_icmp_ge (tgt := 46) hx hb dG_addCommutators_14 rfl (fun h3 => ?_) (fun h3 => ?_)
  · have hle := (nI_leI (by omega) (by omega)).mp h3
    refine lv_iinc (k := 1) (v := (nI (a + 1))) hx hb dG_addCommutators_46 hl rfl (by exact nI_1 _) (by decide) rfl (fun ls hl => ?_)
    replace hl : lv_has ls 4 [(2, .int (nI (a + 1))), (3, .int (nI b)), (0, .ref (g 0)), (1, .ref (h 0))] := hl
    refine lv_goto (tgt := 2) hx hb dG_addCommutators_49 rfl ?_
    exact ih (d - 1) (a + 1, (T1, nc1, M1, lv1, fS1, fM1, fL1), N) _ _ ls (by omega) ⟨by show d - 1 + (a + 1) = ncB; omega, hN, hmin, fun a' b' h5 h6 => by
      have h5 : a' < a + 1 := h5
      by_cases q : a' = a
      · subst q; exact hcb b' (show b' < b by omega)
      · exact hcj a' b' (by omega) h6, hP, hD, hS, lv_sub hl [0, 2, 3] rfl⟩
  have hbn : b < a := by
    rw [nI_leI (by omega) (by omega)] at h3
    omega
  have hPa : pg_P n (MB a) := (hGB.1.P hanc).1
  have hPb : pg_P n (MB b) := (hGB.1.P (show b < ncB by omega)).1
  refine lv_aload_n hx hb dG_addCommutators_17 rfl (lv_at hl 2 rfl) ?_
  refine lv_aload_n hx hb dG_addCommutators_18 rfl (lv_at hl 3 rfl) ?_
  refine va_get (ci := 0) (C := RG) (T := TG) (N := 6) hx hb ht inG hown hK hP 4 rfl rfl 3 (by decide) (ht _ tw_106) (fun _ h9 => h9) rfl dG_addCommutators_19 ?_
  refine lv_iload_n hx hb dG_addCommutators_22 rfl (lv_at hl 1 rfl) ?_
  refine va_lald hx hb hK hP 6 0 rfl rfl (vp_in_nI (N := gcap n) (by omega) hcap) dG_addCommutators_23 ?_
  refine wtl (x' := eL n (MB a)) (by rw [nI_clamp (by omega)]; exact hMB.1 a hanc) ?_
  refine lv_aload_n hx hb dG_addCommutators_24 rfl (lv_at hl 3 rfl) ?_
  refine va_get (ci := 0) (C := RG) (T := TG) (N := 6) hx hb ht inG hown hK hP 4 rfl rfl 3 (by decide) (ht _ tw_106) (fun _ h9 => h9) rfl dG_addCommutators_25 ?_
  refine lv_iload_n hx hb dG_addCommutators_28 rfl (lv_at hl 0 rfl) ?_
  refine va_lald hx hb hK hP 6 0 rfl rfl (vp_in_nI (N := gcap n) (by omega) hcap) dG_addCommutators_29 ?_
  refine wtl (x' := eL n (MB b)) (by rw [nI_clamp (by omega)]; exact hMB.1 b (by omega)) ?_
  refine lv_aload_n hx hb dG_addCommutators_30 rfl (lv_at hl 2 rfl) ?_
  refine va_get (ci := 0) (C := RG) (T := TG) (N := 6) hx hb ht inG hown hK hP 0 rfl rfl 0 (by decide) (ht _ tw_103) (fun _ h9 => h9) rfl dG_addCommutators_31 ?_
  refine qS_l (As := [.long (eL n (MB a)), .long (eL n (MB b)), .int (nI n)]) (rest := [.ref (g 0)]) ⟨hx, hb, hml, hown, ht⟩ (c_E_commutator l n (MB a) (MB b) hn hPa hPb) (cB 3 ht gE_commutator rfl tw_62 tw_589 (by decide +kernel) ⟨by decide, by decide⟩) tw_251 rfl hl.1 rfl (Nat.le_of_ble_eq_true rfl) dG_addCommutators_34 ⟨by decide, by decide⟩ (fun r34 h34 => ?_)
  subst h34
  refine qW_v (ci := 0) (q0 := 0) (wr := gW z h n ncB fSB fMB fLB) (As := [.long (eL n (pg_comm n (MB a) (MB b)))]) (rest := []) ⟨hx, hb, hml, hown, ht⟩ (c_G_add l D z g H.size n T1 nc1 M1 lv1 fS1 fM1 fL1 hn N hN (pg_comm n (MB a) (MB b)) (pg_P_comm hPa hPb)) (cB 1 ht gG_add rfl tw_61 tw_577 (by decide +kernel) ⟨by decide, by decide⟩) tw_394 tw_395 hK hP hD hS hA [0, 1, 2, 3] [4, 5, 6, 7] rfl rfl rfl rfl (by decide) rfl rfl rfl rfl hl.1 rfl (Nat.le_of_ble_eq_true rfl) dG_addCommutators_37 ⟨by decide, by decide⟩ (fun u37 H locs h37 hP hD hS => ?_)
  obtain ⟨hN2, hnc2, hM2⟩ := h37
  have hP := hP.sub (ws' := gWu z g n u37 ++ gW z h n ncB fSB fMB fLB) [4, 5, 6, 7, 0, 1, 2, 3] rfl
  have hD := hD.sub (ws' := gWu z g n u37 ++ gW z h n ncB fSB fMB fLB) [4, 5, 6, 7, 0, 1, 2, 3] (by decide) rfl
  refine lv_iinc (k := 0) (v := (nI (b + 1))) hx hb dG_addCommutators_40 hl rfl (by exact nI_1 _) (by decide) rfl (fun ls hl => ?_)
  replace hl : lv_has ls 4 [(3, .int (nI (b + 1))), (2, .int (nI a)), (0, .ref (g 0)), (1, .ref (h 0))] := hl
  refine lv_goto (tgt := 12) hx hb dG_addCommutators_43 rfl ?_
  refine ih2 (d2 - 1) (b + 1, u37, pg_and N (pg_comm n (MB a) (MB b))) _ _ ls (by omega) ⟨by show d2 - 1 + (b + 1) = a; omega, hN2, fun K hK h0 hc y hy => pg_and_least hK (hmin K hK h0 hc) (hc a b hanc hbn) hy, fun a' b' h5 h6 => pg_and_in (hcj a' b' h5 h6), fun b' h5 => ?_, hP, hD, hS, lv_sub hl [0, 1, 2, 3] rfl⟩
  have h5 : b' < b + 1 := h5
  by_cases q : b' = b
  · subst q; exact pg_and_x
  · exact pg_and_in (hcb b' (show b' < b by omega))
