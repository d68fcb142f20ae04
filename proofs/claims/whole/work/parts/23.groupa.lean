/-! Group: products of makers, add. -/
section JN
variable {p : Program} {l : Launch} {e : Env} {R : Room} {s : State} {m : MethodId} {args : Array Value} {below : List Frame} {meth : Method} {c : Code} {H : Heap} {locs : List Loc} {cells slots : Nat} {Q : State → Prop}
/-- two roads that meet -/
theorem wj {σ : Type} {pc : Nat} {gf : JFrame} (I : σ → Heap → List Loc → Array Slot → Prop) (k : ∀ (st : σ) (H : Heap) (locs : List Loc) (ls : Array Slot), I st H locs ls → W p l e R s m args below meth c H locs cells slots Q (F0 m pc ls [])) (u : (∀ (st : σ) (H : Heap) (locs : List Loc) (ls : Array Slot), I st H locs ls → W p l e R s m args below meth c H locs cells slots Q (F0 m pc ls [])) → W p l e R s m args below meth c H locs cells slots Q gf) : W p l e R s m args below meth c H locs cells slots Q gf := u k
end JN
/-- a Group that holds the group G -/
def gGp (n : Nat) (u : gSt) (G : pg_F → Prop) : Prop := gRep n u ∧ pg_G n G ∧ pg_In u.1 n 0 = G
theorem gGp.gt {n : Nat} {u : gSt} {G : pg_F → Prop} (h : gGp n u G) : pg_gt n u.1 u.2.1 u.2.2.1 u.2.2.2.1 G := ⟨h.1.1, h.1.2.1, h.2.1, h.2.2⟩
theorem gEnt.more {n : Nat} {u u' u'' : gSt} {x : pg_F} (h : gEnt n u x u') (h' : gGrw n u' u'') (hr : gRep n u'') : gEnt n u x u'' := by
  obtain ⟨-, -, a3, a4, a5, a6, a7⟩ := h
  obtain ⟨b1, b2, b3, b4⟩ := h'
  refine ⟨hr.1, hr.2.1, a3.tr b1, by omega, fun a ha => ?_, pg_In.mono b1 _ _ _ a6, fun H hH hs hx => b4 H hH (a7 H hH hs hx)⟩
  obtain ⟨q1, q2⟩ := a5 a ha
  obtain ⟨r1, r2⟩ := b3 a (by omega)
  exact ⟨r1.trans q1, r2.trans q2⟩
def gPrd (n : Nat) (u : gSt) (a b : Nat) : Prop := pg_prd n u.1 u.2.2.1 u.2.2.2.1 a b
theorem gPrd.more {n : Nat} {u u' : gSt} {a b : Nat} (h : gPrd n u a b) (h' : gGrw n u u') (ha : a < u.2.1) (hb : b < u.2.1) : gPrd n u' a b := pg_prd_mono h h'.1 (h'.2.2.1 a ha) (h'.2.2.1 b hb)
theorem gRep.H {n : Nat} {u : gSt} (h : gRep n u) {H : pg_F → Prop} (hs : ∀ k i s, u.1 k i = some s → H s) {a : Nat} (ha : a < u.2.1) : H (u.2.2.1 a) := pg_mk_H h.2.1 hs ha
theorem gRep.P {n : Nat} {u : gSt} (h : gRep n u) {a : Nat} (ha : a < u.2.1) : pg_P n (u.2.2.1 a) ∧ u.2.2.2.1 a < n := ⟨(h.2.1.P h.1 ha).1, (h.2.1.P h.1 ha).2.1⟩
theorem gRep.room {n : Nat} {u : gSt} (h : gRep n u) (hn : n ≤ 14) : u.2.1 ≤ gcap n := pg_mk_room h.2.1 (by omega)
set_option maxHeartbeats 1000000 in
set_option maxRecDepth 100000 in
/-- enterProducts: the products of two makers are held -/
theorem c_G_enterProducts (l : Launch) (D : va_G) (z : Nat → ClassId) (g : Nat → Nat) (sz n : Nat) (T : pg_T) (nc : Nat) (M : Nat → pg_F) (lv : Nat → Nat) (fS fM : Nat → Int64) (fL : Nat → Int32) (hn : n ≤ 14) (hR : gRep n (T, nc, M, lv, fS, fM, fL)) (a b : Nat) (ha : a < nc) (hb9 : b < nc) : Met l yG_enterProducts wG_enterProducts (rmF 2) (va_Pc [.ref (g 0), .int (nI a), .int (nI b)] (fun U => U.heap.size = sz ∧ va_P D vC (gW z g n nc fS fM fL) U.heap ∧ va_K D vC (tyL z) U ∧ va_D (fun _ => True) (gW z g n nc fS fM fL))) (va_Qv (fun u => gGrw n (T, nc, M, lv, fS, fM, fL) u ∧ gRep n u ∧ gPrd n u a b) (fun u t => va_P D vC (gWu z g n u) t.heap ∧ va_D (va_A (gW z g n nc fS fM fL) sz) (gWu z g n u)) (va_A (gW z g n nc fS fM fL) sz)) 0 0 (va_A (gW z g n nc fS fM fL) sz) := by
  have hcap := gcap_le hn
  have hroom : nc ≤ gcap n := hR.room hn
  have hlva : lv a < n := (hR.P ha).2
  have hlvb : lv b < n := (hR.P hb9).2
  have hPa : pg_P n (M a) := (hR.P ha).1
  have hPb : pg_P n (M b) := (hR.P hb9).1
  refine Met.ofW (cc := prog_5_method_9_code) (maxL := 3) (ret := none) (by decide) rfl ?_
  intro p e s m args below meth c s₁ B hml hv
  have hx := B.exec
  have hb := B.bytes
  have hr := B.returns
  have ht : ∀ w ∈ TB, w.before args s = true := fun w h => atoms_spec (ws := wG_enterProducts) B.pre w (List.mem_cons_of_mem _ h)
  have hown : s.vm.findClass "PermutationDesk$Group" = some m.cls := findClass_of_methodNamed B.named
  have hlocks := B.notSynchronized
  obtain ⟨rfl, hsz, hP, hK, hD0⟩ := hv
  subst hsz
  have hD := hD0.self (sz := s.heap.size)
  generalize hAe : va_A (gW z g n nc fS fM fL) s.heap.size = A at hD ⊢
  have hA : ∀ q : Nat, s.heap.size ≤ q → A q := fun q h => by rw [← hAe]; exact Or.inr h
  have hS : va_S A s.heap s.heap [] := va_S.rf
  have hl := lv_entry ([.ref (g 0), .int (nI a), .int (nI b)]) (n := 3) (Nat.le_of_ble_eq_true rfl)
  rw [lg_entry_eq]
  generalize (lg_sl ([.ref (g 0), .int (nI a), .int (nI b)]) ++ List.replicate (3 - (lg_sl ([.ref (g 0), .int (nI a), .int (nI b)])).length) Slot.unset).toArray = ls at hl ⊢
  have hl : lv_has ls 3 [(0, .ref (g 0)), (1, .int (nI a)), (2, .int (nI b))] := hl
  refine wj (σ := gSt) (pc := 38) (I := fun u H locs ls => gGrw n (T, nc, M, lv, fS, fM, fL) u ∧ gRep n u ∧ (lv a ≤ lv b → pg_In u.1 n 0 (pg_mul (M a) (M b))) ∧ va_P D vC (gWu z g n u) H ∧ va_D A (gWu z g n u) ∧ va_S A s.heap H locs ∧ lv_has ls 3 [(0, .ref (g 0)), (1, .int (nI a)), (2, .int (nI b))]) ?_ (fun jn => ?_)
  · rintro ⟨T1, nc1, M1, lv1, fS1, fM1, fL1⟩ H locs ls ⟨hg1, hR1, hin1, hP, hD, hS, hl⟩
    have hP : va_P D vC (gW z g n nc1 fS1 fM1 fL1) H := hP
    have hD : va_D A (gW z g n nc1 fS1 fM1 fL1) := hD
    have hnc1 : nc ≤ nc1 := hg1.2.1
    have hroom1 : nc1 ≤ gcap n := hR1.room hn
    have ea : M1 a = M a ∧ lv1 a = lv a := hg1.2.2.1 a ha
    have eb : M1 b = M b ∧ lv1 b = lv b := hg1.2.2.1 b hb9
    have hM1 : gM n nc1 M1 lv1 fM1 fL1 := hR1.2.2.2
    have la : fL1 a = nI (lv a) := by rw [hM1.2 a (by omega), ea.2]
    have lb : fL1 b = nI (lv b) := by rw [hM1.2 b (by omega), eb.2]
    have ma : fM1 a = eL n (M a) := by rw [hM1.1 a (by omega), ea.1]
    have mb : fM1 b = eL n (M b) := by rw [hM1.1 b (by omega), eb.1]
    refine lv_aload_n hx hb dG_enterProducts_38 rfl (lv_at hl 0 rfl) ?_
    refine va_get (ci := 0) (C := RG) (T := TG) (N := 6) hx hb ht inG hown hK hP 0 rfl rfl 4 (by decide) (ht _ tw_107) (fun _ h9 => h9) rfl dG_enterProducts_39 ?_
    refine lv_iload_n hx hb dG_enterProducts_42 rfl (lv_at hl 2 rfl) ?_
    refine va_iald hx hb hK hP 3 1 rfl rfl (vp_in_nI (N := gcap n) (by omega) hcap) dG_enterProducts_43 ?_
    refine wti (x' := nI (lv b)) (by rw [nI_clamp (by omega)]; exact lb) ?_
    refine lv_aload_n hx hb dG_enterProducts_44 rfl (lv_at hl 0 rfl) ?_
    refine va_get (ci := 0) (C := RG) (T := TG) (N := 6) hx hb ht inG hown hK hP 0 rfl rfl 4 (by decide) (ht _ tw_107) (fun _ h9 => h9) rfl dG_enterProducts_45 ?_
    refine lv_iload_n hx hb dG_enterProducts_48 rfl (lv_at hl 1 rfl) ?_
    refine va_iald hx hb hK hP 3 1 rfl rfl (vp_in_nI (N := gcap n) (by omega) hcap) dG_enterProducts_49 ?_
    refine wti (x' := nI (lv a)) (by rw [nI_clamp (by omega)]; exact la) ?_
    refine lv_icmp_gt (tgt := 76) hx hb dG_enterProducts_50 rfl (fun h => ?_) (fun h => ?_)
    · have hlt := (nI_ltI (by omega) (by omega)).mp h
      exact W.vret hx hb hr (fun t ht hW => ⟨⟨(T1, nc1, M1, lv1, fS1, fM1, fL1), rfl, ⟨hg1, hR1, by
        refine ⟨fun _ => ?_, fun q => ?_⟩
        · show pg_In T1 n 0 (pg_mul (M1 a) (M1 b))
          rw [ea.1, eb.1]; exact hin1 (by omega)
        · have q : lv1 b ≤ lv1 a := q
          rw [ea.2, eb.2] at q
          omega⟩, by rw [ht]; exact hP, hD⟩, hS.F ht⟩) hS.2.2 dG_enterProducts_76
    have hle : lv b ≤ lv a := by
      rw [nI_ltI (by omega) (by omega)] at h
      omega
    refine lv_aload_n hx hb dG_enterProducts_53 rfl (lv_at hl 0 rfl) ?_
    refine lv_aload_n hx hb dG_enterProducts_54 rfl (lv_at hl 0 rfl) ?_
    refine va_get (ci := 0) (C := RG) (T := TG) (N := 6) hx hb ht inG hown hK hP 0 rfl rfl 3 (by decide) (ht _ tw_106) (fun _ h9 => h9) rfl dG_enterProducts_55 ?_
    refine lv_iload_n hx hb dG_enterProducts_58 rfl (lv_at hl 2 rfl) ?_
    refine va_lald hx hb hK hP 2 0 rfl rfl (vp_in_nI (N := gcap n) (by omega) hcap) dG_enterProducts_59 ?_
    refine wtl (x' := eL n (M b)) (by rw [nI_clamp (by omega)]; exact mb) ?_
    refine lv_aload_n hx hb dG_enterProducts_60 rfl (lv_at hl 0 rfl) ?_
    refine va_get (ci := 0) (C := RG) (T := TG) (N := 6) hx hb ht inG hown hK hP 0 rfl rfl 3 (by decide) (ht _ tw_106) (fun _ h9 => h9) rfl dG_enterProducts_61 ?_
    refine lv_iload_n hx hb dG_enterProducts_64 rfl (lv_at hl 1 rfl) ?_
    refine va_lald hx hb hK hP 2 0 rfl rfl (vp_in_nI (N := gcap n) (by omega) hcap) dG_enterProducts_65 ?_
    refine wtl (x' := eL n (M a)) (by rw [nI_clamp (by omega)]; exact ma) ?_
    refine lv_aload_n hx hb dG_enterProducts_66 rfl (lv_at hl 0 rfl) ?_
    refine va_get (ci := 0) (C := RG) (T := TG) (N := 6) hx hb ht inG hown hK hP 0 rfl rfl 0 (by decide) (ht _ tw_103) (fun _ h9 => h9) rfl dG_enterProducts_67 ?_
    refine qS_l (As := [.long (eL n (M b)), .long (eL n (M a)), .int (nI n)]) (rest := [.ref (g 0)]) ⟨hx, hb, hml, hown, ht⟩ (c_E_product l n (M b) (M a) hn hPb hPa) (cB 3 ht gE_product rfl tw_62 tw_411 (by decide +kernel) ⟨by decide, by decide⟩) tw_265 rfl hl.1 rfl (Nat.le_of_ble_eq_true rfl) dG_enterProducts_70 ⟨by decide, by decide⟩ (fun r70 h70 => ?_)
    subst h70
    refine qW_v (ci := 0) (q0 := 0) (wr := []) (As := [.long (eL n (pg_mul (M b) (M a)))]) (rest := []) ⟨hx, hb, hml, hown, ht⟩ (c_G_enter l D z g H.size n T1 nc1 M1 lv1 fS1 fM1 fL1 hn hR1 (pg_mul (M b) (M a)) (pg_P_mul hPb hPa)) (cB 1 ht gG_enter rfl tw_61 tw_397 (by decide +kernel) ⟨by decide, by decide⟩) tw_399 tw_13 hK hP hD hS hA [0, 1, 2, 3] [] rfl rfl rfl rfl (by decide) rfl rfl rfl rfl hl.1 rfl (Nat.le_of_ble_eq_true rfl) dG_enterProducts_73 ⟨by decide, by decide⟩ (fun u73 H locs h73 hP hD hS => ?_)
    obtain ⟨hent, hR2⟩ := h73
    have hg2 : gGrw n (T1, nc1, M1, lv1, fS1, fM1, fL1) u73 := hent.grw (fun H hH hs => by
      have i1 : H (M1 b) := hR1.H hs (by show b < nc1; omega)
      have i2 : H (M1 a) := hR1.H hs (by show a < nc1; omega)
      rw [eb.1] at i1
      rw [ea.1] at i2
      exact hH.2.2 _ _ i1 i2)
    have hg3 := hg1.tr hg2
    have ea3 : u73.2.2.1 a = M a ∧ u73.2.2.2.1 a = lv a := hg3.2.2.1 a ha
    have eb3 : u73.2.2.1 b = M b ∧ u73.2.2.2.1 b = lv b := hg3.2.2.1 b hb9
    exact W.vret hx hb hr (fun t ht hW => ⟨⟨u73, rfl, ⟨hg3, hR2, by
      refine ⟨fun q => ?_, fun _ => ?_⟩
      · rw [ea3.2, eb3.2] at q
        rw [ea3.1, eb3.1]
        exact pg_In.mono hg2.1 _ _ _ (hin1 q)
      · rw [ea3.1, eb3.1]
        exact hent.2.2.2.2.2.1⟩, by rw [ht]; exact hP, hD⟩, hS.F ht⟩) hS.2.2 dG_enterProducts_76
  have hM0 : gM n nc M lv fM fL := hR.2.2.2
  have la : fL a = nI (lv a) := hM0.2 a ha
  have lb : fL b = nI (lv b) := hM0.2 b hb9
  have ma : fM a = eL n (M a) := hM0.1 a ha
  have mb : fM b = eL n (M b) := hM0.1 b hb9
  refine lv_aload_n hx hb dG_enterProducts_0 rfl (lv_at hl 0 rfl) ?_
  refine va_get (ci := 0) (C := RG) (T := TG) (N := 6) hx hb ht inG hown hK hP 0 rfl rfl 4 (by decide) (ht _ tw_107) (fun _ h9 => h9) rfl dG_enterProducts_1 ?_
  refine lv_iload_n hx hb dG_enterProducts_4 rfl (lv_at hl 1 rfl) ?_
  refine va_iald hx hb hK hP 3 1 rfl rfl (vp_in_nI (N := gcap n) (by omega) hcap) dG_enterProducts_5 ?_
  refine wti (x' := nI (lv a)) (by rw [nI_clamp (by omega)]; exact la) ?_
  refine lv_aload_n hx hb dG_enterProducts_6 rfl (lv_at hl 0 rfl) ?_
  refine va_get (ci := 0) (C := RG) (T := TG) (N := 6) hx hb ht inG hown hK hP 0 rfl rfl 4 (by decide) (ht _ tw_107) (fun _ h9 => h9) rfl dG_enterProducts_7 ?_
  refine lv_iload_n hx hb dG_enterProducts_10 rfl (lv_at hl 2 rfl) ?_
  refine va_iald hx hb hK hP 3 1 rfl rfl (vp_in_nI (N := gcap n) (by omega) hcap) dG_enterProducts_11 ?_
  refine wti (x' := nI (lv b)) (by rw [nI_clamp (by omega)]; exact lb) ?_
  refine lv_icmp_gt (tgt := 38) hx hb dG_enterProducts_12 rfl (fun h => ?_) (fun h => ?_)
  · have hlt := (nI_ltI (by omega) (by omega)).mp h
    exact jn (T, nc, M, lv, fS, fM, fL) _ _ ls ⟨gGrw.rf, hR, fun q => by omega, hP, hD, hS, hl⟩
  refine lv_aload_n hx hb dG_enterProducts_15 rfl (lv_at hl 0 rfl) ?_
  refine lv_aload_n hx hb dG_enterProducts_16 rfl (lv_at hl 0 rfl) ?_
  refine va_get (ci := 0) (C := RG) (T := TG) (N := 6) hx hb ht inG hown hK hP 0 rfl rfl 3 (by decide) (ht _ tw_106) (fun _ h9 => h9) rfl dG_enterProducts_17 ?_
  refine lv_iload_n hx hb dG_enterProducts_20 rfl (lv_at hl 1 rfl) ?_
  refine va_lald hx hb hK hP 2 0 rfl rfl (vp_in_nI (N := gcap n) (by omega) hcap) dG_enterProducts_21 ?_
  refine wtl (x' := eL n (M a)) (by rw [nI_clamp (by omega)]; exact ma) ?_
  refine lv_aload_n hx hb dG_enterProducts_22 rfl (lv_at hl 0 rfl) ?_
  refine va_get (ci := 0) (C := RG) (T := TG) (N := 6) hx hb ht inG hown hK hP 0 rfl rfl 3 (by decide) (ht _ tw_106) (fun _ h9 => h9) rfl dG_enterProducts_23 ?_
  refine lv_iload_n hx hb dG_enterProducts_26 rfl (lv_at hl 2 rfl) ?_
  refine va_lald hx hb hK hP 2 0 rfl rfl (vp_in_nI (N := gcap n) (by omega) hcap) dG_enterProducts_27 ?_
  refine wtl (x' := eL n (M b)) (by rw [nI_clamp (by omega)]; exact mb) ?_
  refine lv_aload_n hx hb dG_enterProducts_28 rfl (lv_at hl 0 rfl) ?_
  refine va_get (ci := 0) (C := RG) (T := TG) (N := 6) hx hb ht inG hown hK hP 0 rfl rfl 0 (by decide) (ht _ tw_103) (fun _ h9 => h9) rfl dG_enterProducts_29 ?_
  refine qS_l (As := [.long (eL n (M a)), .long (eL n (M b)), .int (nI n)]) (rest := [.ref (g 0)]) ⟨hx, hb, hml, hown, ht⟩ (c_E_product l n (M a) (M b) hn hPa hPb) (cB 3 ht gE_product rfl tw_62 tw_411 (by decide +kernel) ⟨by decide, by decide⟩) tw_265 rfl hl.1 rfl (Nat.le_of_ble_eq_true rfl) dG_enterProducts_32 ⟨by decide, by decide⟩ (fun r32 h32 => ?_)
  subst h32
  refine qW_v (ci := 0) (q0 := 0) (wr := []) (As := [.long (eL n (pg_mul (M a) (M b)))]) (rest := []) ⟨hx, hb, hml, hown, ht⟩ (c_G_enter l D z g s.heap.size n T nc M lv fS fM fL hn hR (pg_mul (M a) (M b)) (pg_P_mul hPa hPb)) (cB 1 ht gG_enter rfl tw_61 tw_397 (by decide +kernel) ⟨by decide, by decide⟩) tw_399 tw_13 hK hP hD hS hA [0, 1, 2, 3] [] rfl rfl rfl rfl (by decide) rfl rfl rfl rfl hl.1 rfl (Nat.le_of_ble_eq_true rfl) dG_enterProducts_35 ⟨by decide, by decide⟩ (fun u35 H locs h35 hP hD hS => ?_)
  obtain ⟨hent, hR2⟩ := h35
  refine jn u35 _ _ ls ⟨hent.grw (fun H hH hs => hH.2.2 _ _ (hR.H hs ha) (hR.H hs hb9)), hR2, fun _ => hent.2.2.2.2.2.1, hP, hD, hS, hl⟩
set_option maxHeartbeats 1000000 in
set_option maxRecDepth 100000 in
/-- add: the group made by it and x -/
theorem c_G_add (l : Launch) (D : va_G) (z : Nat → ClassId) (g : Nat → Nat) (sz n : Nat) (T : pg_T) (nc : Nat) (M : Nat → pg_F) (lv : Nat → Nat) (fS fM : Nat → Int64) (fL : Nat → Int32) (hn : n ≤ 14) (G : pg_F → Prop) (hGp : gGp n (T, nc, M, lv, fS, fM, fL) G) (x : pg_F) (hxP : pg_P n x) : Met l yG_add wG_add (rmF 3) (va_Pc [.ref (g 0), .long (eL n x)] (fun U => U.heap.size = sz ∧ va_P D vC (gW z g n nc fS fM fL) U.heap ∧ va_K D vC (tyL z) U ∧ va_D (fun _ => True) (gW z g n nc fS fM fL))) (va_Qv (fun u => gGp n u (pg_and G x) ∧ nc ≤ u.2.1 ∧ ∀ a, a < nc → u.2.2.1 a = M a) (fun u t => va_P D vC (gWu z g n u) t.heap ∧ va_D (va_A (gW z g n nc fS fM fL) sz) (gWu z g n u)) (va_A (gW z g n nc fS fM fL) sz)) 0 0 (va_A (gW z g n nc fS fM fL) sz) := by
  have hcap := gcap_le hn
  have hR := hGp.1
  have hroom : nc ≤ gcap n := hR.room hn
  refine Met.ofW (cc := prog_5_method_8_code) (maxL := 6) (ret := none) (by decide) rfl ?_
  intro p e s m args below meth c s₁ B hml hv
  have hx := B.exec
  have hb := B.bytes
  have hr := B.returns
  have ht : ∀ w ∈ TB, w.before args s = true := fun w h => atoms_spec (ws := wG_add) B.pre w (List.mem_cons_of_mem _ h)
  have hown : s.vm.findClass "PermutationDesk$Group" = some m.cls := findClass_of_methodNamed B.named
  have hlocks := B.notSynchronized
  obtain ⟨rfl, hsz, hP, hK, hD0⟩ := hv
  subst hsz
  have hD := hD0.self (sz := s.heap.size)
  generalize hAe : va_A (gW z g n nc fS fM fL) s.heap.size = A at hD ⊢
  have hA : ∀ q : Nat, s.heap.size ≤ q → A q := fun q h => by rw [← hAe]; exact Or.inr h
  have hS : va_S A s.heap s.heap [] := va_S.rf
  have hl := lv_entry ([.ref (g 0), .long (eL n x)]) (n := 6) (Nat.le_of_ble_eq_true rfl)
  rw [lg_entry_eq]
  generalize (lg_sl ([.ref (g 0), .long (eL n x)]) ++ List.replicate (6 - (lg_sl ([.ref (g 0), .long (eL n x)])).length) Slot.unset).toArray = ls at hl ⊢
  have hl : lv_has ls 6 [(0, .ref (g 0)), (1, .long (eL n x))] := hl
  refine lv_aload_n hx hb dG_add_0 rfl (lv_at hl 0 rfl) ?_
  refine va_get (ci := 0) (C := RG) (T := TG) (N := 6) hx hb ht inG hown hK hP 0 rfl rfl 5 (by decide) (ht _ tw_108) (fun _ h9 => h9) rfl dG_add_1 ?_
  refine lv_istore_n hx hb dG_add_4 rfl hl (by decide) rfl (fun ls hl => ?_)
  replace hl : lv_has ls 6 [(3, .int (nI nc)), (0, .ref (g 0)), (1, .long (eL n x))] := hl
  refine lv_aload_n hx hb dG_add_5 rfl (lv_at hl 1 rfl) ?_
  refine lv_lload_n hx hb dG_add_6 rfl (lv_at hl 2 rfl) ?_
  refine qW_v (ci := 0) (q0 := 0) (wr := []) (As := [.long (eL n x)]) (rest := []) ⟨hx, hb, hml, hown, ht⟩ (c_G_enter l D z g s.heap.size n T nc M lv fS fM fL hn hR x hxP) (cB 1 ht gG_enter rfl tw_61 tw_397 (by decide +kernel) ⟨by decide, by decide⟩) tw_399 tw_13 hK hP hD hS hA [0, 1, 2, 3] [] rfl rfl rfl rfl (by decide) rfl rfl rfl rfl hl.1 rfl (Nat.le_of_ble_eq_true rfl) dG_add_7 ⟨by decide, by decide⟩ (fun u7 H locs h7 hP hD hS => ?_)
  obtain ⟨hent, hR1⟩ := h7
  refine lv_iload_n hx hb dG_add_10 rfl (lv_at hl 0 rfl) ?_
  refine lv_istore hx hb dG_add_11 hl (by decide) rfl (fun ls hl => ?_)
  replace hl : lv_has ls 6 [(4, .int (nI nc)), (3, .int (nI nc)), (0, .ref (g 0)), (1, .long (eL n x))] := hl
  refine wl (σ := Nat × gSt) (I := fun d st H locs ls => d + st.1 = gcap n ∧ nc ≤ st.1 ∧ st.1 ≤ st.2.2.1 ∧ gEnt n (T, nc, M, lv, fS, fM, fL) x st.2 ∧ gRep n st.2 ∧ (∀ a b, a < st.1 → b ≤ a → gPrd n st.2 a b) ∧ va_P D vC (gWu z g n st.2) H ∧ va_D A (gWu z g n st.2) ∧ va_S A s.heap H locs ∧ lv_has ls 6 [(4, .int (nI st.1)), (0, .ref (g 0))]) ?_ (gcap n - nc) (nc, u7) _ _ ls ⟨by show gcap n - nc + nc = gcap n; omega, Nat.le_refl _, hent.2.2.2.1, hent, hR1, fun a b ha hb => ?_, hP, hD, hS, lv_sub hl [0, 2] rfl⟩
  rotate_left
  · have ha : a < nc := ha
    have h0 : gPrd n (T, nc, M, lv, fS, fM, fL) a b := hGp.gt.prd ha (show b < nc by omega)
    refine pg_prd_mono h0 hent.2.2.1 (hent.2.2.2.2.1 a ha) (hent.2.2.2.2.1 b (show b < nc by omega))
  rintro d ⟨a, u⟩ H locs ls ⟨hda, hnca, hau, hent, hRu, hprd, hP, hD, hS, hl⟩ ih
  obtain ⟨T1, nc1, M1, lv1, fS1, fM1, fL1⟩ := u
  have hda : d + a = gcap n := hda
  have hnca : nc ≤ a := hnca
  have hau : a ≤ nc1 := hau
  have hroom1 : nc1 ≤ gcap n := hRu.room hn
  have hP : va_P D vC (gW z g n nc1 fS1 fM1 fL1) H := hP
  have hD : va_D A (gW z g n nc1 fS1 fM1 fL1) := hD
  have hl : lv_has ls 6 [(4, .int (nI a)), (0, .ref (g 0))] := hl
  refine lv_iload hx hb dG_add_13 (lv_at hl 0 rfl) ?_
  refine lv_aload_n hx hb dG_add_15 rfl (lv_at hl 1 rfl) ?_
  refine va_get (ci := 0) (C := RG) (T := TG) (N := 6) hx hb ht inG hown hK hP 0 rfl rfl 5 (by decide) (ht _ tw_108) (fun _ h9 => h9) rfl dG_add_16 ?_
  refine lv_icmp_ge (tgt := 62) hx hb dG_add_19 rfl (fun h => ?_) (fun h => ?_)
  · have hle := (nI_leI (by omega) (by omega)).mp h
    exact W.vret hx hb hr (fun t ht hW => ⟨⟨(T1, nc1, M1, lv1, fS1, fM1, fL1), rfl, by
      have hg := pg_add_done hGp.gt hxP hent (fun a' b' h1 h2 => hprd a' b' (show a' < a by have h1 : a' < nc1 := h1; omega) h2)
      exact ⟨⟨hRu, hg.2.2.1, hg.2.2.2⟩, hent.2.2.2.1, fun a ha => (hent.2.2.2.2.1 a ha).1⟩, by rw [ht]; exact hP, hD⟩, hS.F ht⟩) hS.2.2 dG_add_62
  have hanc : a < nc1 := by
    rw [nI_leI (by omega) (by omega)] at h
    omega
  refine lv_iload hx hb dG_add_22 (lv_at hl 0 rfl) ?_
  refine lv_aload_n hx hb dG_add_24 rfl (lv_at hl 1 rfl) ?_
  refine va_get (ci := 0) (C := RG) (T := TG) (N := 6) hx hb ht inG hown hK hP 0 rfl rfl 3 (by decide) (ht _ tw_106) (fun _ h9 => h9) rfl dG_add_25 ?_
  refine va_alen hx hb hK hP 2 0 rfl rfl rfl dG_add_28 ?_
  refine wti (x' := nI (gcap n)) rfl ?_
  refine lv_icmp_ge (tgt := 62) hx hb dG_add_29 rfl (fun h2 => ?_) (fun h2 => ?_)
  · have hle := (nI_leI (by omega) (by omega)).mp h2
    omega
  refine lv_iconst (v := 0) hx hb dG_add_32 (by decide) ?_
  refine lv_istore hx hb dG_add_33 hl (by decide) rfl (fun ls hl => ?_)
  replace hl : lv_has ls 6 [(5, .int (nI 0)), (4, .int (nI a)), (0, .ref (g 0))] := hl
  refine wl (σ := Nat × gSt) (pc := 35) (I := fun d2 st H locs ls => d2 + st.1 = a + 1 ∧ a < st.2.2.1 ∧ gEnt n (T, nc, M, lv, fS, fM, fL) x st.2 ∧ gRep n st.2 ∧ (∀ a' b, a' < a → b ≤ a' → gPrd n st.2 a' b) ∧ (∀ b, b < st.1 → gPrd n st.2 a b) ∧ va_P D vC (gWu z g n st.2) H ∧ va_D A (gWu z g n st.2) ∧ va_S A s.heap H locs ∧ lv_has ls 6 [(5, .int (nI st.1)), (4, .int (nI a)), (0, .ref (g 0))]) ?_ (a + 1) (0, (T1, nc1, M1, lv1, fS1, fM1, fL1)) _ _ ls ⟨rfl, hanc, hent, hRu, hprd, fun b hb => by omega, hP, hD, hS, hl⟩
  rintro d2 ⟨b, u⟩ H locs ls ⟨hdb, hanc, hent, hRu, hprd, hprb, hP, hD, hS, hl⟩ ih2
  obtain ⟨T1, nc1, M1, lv1, fS1, fM1, fL1⟩ := u
  have hdb : d2 + b = a + 1 := hdb
  have hanc : a < nc1 := hanc
  have hroom1 : nc1 ≤ gcap n := hRu.room hn
  have hP : va_P D vC (gW z g n nc1 fS1 fM1 fL1) H := hP
  have hD : va_D A (gW z g n nc1 fS1 fM1 fL1) := hD
  have hl : lv_has ls 6 [(5, .int (nI b)), (4, .int (nI a)), (0, .ref (g 0))] := hl
  refine lv_iload hx hb dG_add_35 (lv_at hl 0 rfl) ?_
  refine lv_iload hx hb dG_add_37 (lv_at hl 1 rfl) ?_
  refine lv_icmp_gt (tgt := 56) hx hb dG_add_39 rfl (fun h3 => ?_) (fun h3 => ?_)
  · have hlt := (nI_ltI (by omega) (by omega)).mp h3
    refine lv_iinc (k := 1) (v := (nI (a + 1))) hx hb dG_add_56 hl rfl (by exact nI_1 _) (by decide) rfl (fun ls hl => ?_)
    replace hl : lv_has ls 6 [(4, .int (nI (a + 1))), (5, .int (nI b)), (0, .ref (g 0))] := hl
    refine lv_goto (tgt := 13) hx hb dG_add_59 rfl ?_
    exact ih (d - 1) (a + 1, (T1, nc1, M1, lv1, fS1, fM1, fL1)) _ _ ls (by omega) ⟨by show d - 1 + (a + 1) = gcap n; omega, by show nc ≤ a + 1; omega, by show a + 1 ≤ nc1; omega, hent, hRu, fun a' b' h1 h2 => by
      have h1 : a' < a + 1 := h1
      by_cases q : a' = a
      · subst q; exact hprb b' (show b' < b by omega)
      · exact hprd a' b' (by omega) h2, hP, hD, hS, lv_sub hl [0, 2] rfl⟩
  have hble : b ≤ a := by
    rw [nI_ltI (by omega) (by omega)] at h3
    omega
  refine lv_aload_n hx hb dG_add_42 rfl (lv_at hl 2 rfl) ?_
  refine lv_iload hx hb dG_add_43 (lv_at hl 1 rfl) ?_
  refine lv_iload hx hb dG_add_45 (lv_at hl 0 rfl) ?_
  refine qW_v (ci := 0) (q0 := 0) (wr := []) (As := [.int (nI a), .int (nI b)]) (rest := []) ⟨hx, hb, hml, hown, ht⟩ (c_G_enterProducts l D z g H.size n T1 nc1 M1 lv1 fS1 fM1 fL1 hn hRu a b hanc (show b < nc1 by omega)) (cB 2 ht gG_enterProducts rfl tw_61 tw_412 (by decide +kernel) ⟨by decide, by decide⟩) tw_414 tw_16 hK hP hD hS hA [0, 1, 2, 3] [] rfl rfl rfl rfl (by decide) rfl rfl rfl rfl hl.1 rfl (Nat.le_of_ble_eq_true rfl) dG_add_47 ⟨by decide, by decide⟩ (fun u47 H locs h47 hP hD hS => ?_)
  obtain ⟨hg2, hR2, hp2⟩ := h47
  refine lv_iinc (k := 0) (v := (nI (b + 1))) hx hb dG_add_50 hl rfl (by exact nI_1 _) (by decide) rfl (fun ls hl => ?_)
  replace hl : lv_has ls 6 [(5, .int (nI (b + 1))), (4, .int (nI a)), (0, .ref (g 0))] := hl
  refine lv_goto (tgt := 35) hx hb dG_add_53 rfl ?_
  refine ih2 (d2 - 1) (b + 1, u47) _ _ ls (by omega) ⟨by show d2 - 1 + (b + 1) = a + 1; omega, Nat.lt_of_lt_of_le hanc hg2.2.1, hent.more hg2 hR2, hR2, fun a' b' h1 h2 => (hprd a' b' h1 h2).more hg2 (show a' < nc1 by omega) (show b' < nc1 by omega), fun b' h1 => ?_, hP, hD, hS, lv_sub hl [0, 1, 2] rfl⟩
  have h1 : b' < b + 1 := h1
  by_cases q : b' = b
  · subst q; exact hp2
  · exact (hprb b' (show b' < b by omega)).more hg2 hanc (show b' < nc1 by omega)
