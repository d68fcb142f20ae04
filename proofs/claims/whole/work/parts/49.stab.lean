/-! Desk: stabiliser, centraliser. -/
theorem i_any (y : Int32) : ∃ m : Nat, m < 2 ^ 32 ∧ y = nI m := by
  refine ⟨y.toBitVec.toNat, y.toBitVec.isLt, Int32.toBitVec_inj.mp ?_⟩
  show y.toBitVec = BitVec.ofNat 32 y.toBitVec.toNat
  rw [BitVec.ofNat_toNat, BitVec.setWidth_eq]
theorem i_shr {n : Nat} (hn : n ≤ 7) (h1 : 1 ≤ n) (y : Int32) : (y.toUInt32 >>> ((nI n).toUInt32 &&& Int32.toUInt32 31)).toInt32 = 0 ↔ iN y (2 ^ n) := by
  have h2 : 2 ^ 1 ≤ 2 ^ n := Nat.pow_le_pow_right (by decide) h1
  have h3 : 2 ^ n ≤ 2 ^ 7 := Nat.pow_le_pow_right (by decide) hn
  constructor
  · intro h
    obtain ⟨m, hm, rfl⟩ := i_any y
    rw [pe_ushr (by omega) hm] at h
    have h4 : m / 2 ^ n < 2 ^ 31 := Nat.div_lt_of_lt_mul (Nat.lt_of_lt_of_le hm (Nat.mul_le_mul_right (2 ^ 31) h2))
    have h5 : m / 2 ^ n = 0 := (nI_eq h4 (by decide)).mp h
    exact ⟨m, rfl, (Nat.div_eq_zero_iff_lt (by omega)).mp h5⟩
  · rintro ⟨m, rfl, hm⟩
    rw [pe_ushr (by omega) (by omega), Nat.div_eq_of_lt hm]
    rfl
section WE
variable {p : Program} {l : Launch} {e : Env} {R : Room} {s : State} {m : MethodId} {args : Array Value} {below : List Frame} {meth : Method} {c : Code} {H : Heap} {locs : List Loc} {cells slots : Nat} {Q : State → Prop}
variable {cc bytes : ByteArray} {nL maxL index n mc ms : Nat} {own C : String} {y : MethodName} {ret : Option FieldType} {rm : Room} {ws ws' : List Cond}
variable {pc : Nat} {ls : Array Slot} {rest st0 As : List Value} {b q0 ci : Nat} {fs : List Value} {D : va_G} {ty : List (ClassId × FieldType)} {cw : va_W} {r : vw_C}
variable {A : Nat → Prop} {H0 : Heap} {w0 wr : va_W}
/-- a method that writes and needs an interface's words: void -/
theorem qE_v {Sg : Type} {post : Sg → Prop} {w1 : Sg → va_W} {xc : String} {x1 y1 : MethodName} (S : CallFix p m c cc nL s args TB own) (hM : Met l y ws rm (va_Pc (.ref b :: As) (fun U => (U.heap.size = H.size ∧ va_P D vC cw U.heap ∧ va_K D vC ty U ∧ va_D (fun _ => True) cw) ∧ va_Fw xc x1 y1 U)) (va_Qv post (fun u t => va_P D vC (w1 u) t.heap ∧ va_D (va_A cw H.size) (w1 u)) (va_A cw H.size)) mc ms (va_A cw H.size)) (hF : va_Fw xc x1 y1 s ∧ x1.cls ≠ "java/lang/invoke/MethodHandle" ∧ x1.cls ≠ "java/lang/invoke/VarHandle") (cB : CallB R s args own index y bytes maxL ret ws rm mc ms n) (hin : Cond.instanceMethod y ∈ TB) (hsel : Cond.selects r.1 y y ∈ TB)
    (hK : va_K D vC ty s) (hP : va_P D vC w0 H) (hD : va_D A w0) (hS : va_S A H0 H locs) (hA : ∀ q, H0.size ≤ q → A q) (isC isR : List Nat) (hC : isC.map (fun i => w0[i]?) = cw.map some) (hR : isR.map (fun i => w0[i]?) = wr.map some) (hnC : va_nd isC = true) (hnR : va_nd isR = true) (hdis : ∀ i ∈ isR, i ∉ isC) (hsub : isC.filterMap (fun i => w0[i]?) = cw)
    (hc : vC[ci]? = some r) (he : cw[q0]? = some (b, .inr (ci, fs)))
    (hn : As.length = n) (hsize : ls.size = nL) (hstack : st0 = As.reverse ++ .ref b :: rest) (hW : (rest.map fun v => v.category).sum ≤ 8) (hdg : decode cc pc = .ok (.invokevirtual index, 3)) (hf : cells + mc ≤ R.cells ∧ slots + ms ≤ R.slots)
    (kk : ∀ (u : Sg) (H1 : Heap) (locs1 : List Loc), post u → va_P D vC (wr ++ w1 u) H1 → va_D A (wr ++ w1 u) → va_S A H0 H1 locs1 → W p l e R s m args below meth c H1 locs1 (cells + mc) (slots + ms) Q (F0 m (pc + 3) ls rest)) : W p l e R s m args below meth c H locs cells slots Q (F0 m pc ls st0) := by
  have hPc := hP.sub (ws' := cw) isC hsub
  have hDc := hD.sub (ws' := cw) isC hnC hC
  have hFc := va_free (wc := cw) hD hS hA isC hC
  have hfb : FrameBlind (va_Pc (.ref b :: As) (fun U => (U.heap.size = H.size ∧ va_P D vC cw U.heap ∧ va_K D vC ty U ∧ va_D (fun _ => True) cw) ∧ va_Fw xc x1 y1 U)) := by
    intro a U g mk q
    obtain ⟨q0, ⟨q1, qP, qK, qD⟩, qF⟩ := q
    exact ⟨q0, ⟨q1, qP, va_K.moved (u := U) (U := U.calling g mk a) (Vm.Alike.refl U.vm) qK, qD⟩, va_Fw.moved (u := U) (U := U.calling g mk a) hF.2 (Vm.Alike.refl U.vm) qF⟩
  refine va_callv (va_runV (C := r.1) (As := As) (rest := rest) S hM ⟨cB, S.2.2.2.2 _ hin, S.2.2.2.2 _ hsel⟩ ⟨hfb, va_recv hK hPc hc he, fun U hU hW => ⟨rfl, ⟨by rw [hU], by rw [hU]; exact hPc, va_K.moved hW.alike hK, hDc.weaken (fun _ _ _ _ => trivial)⟩, va_Fw.moved hF.2 hW.alike hF.1⟩⟩ rfl hn hsize hstack (lv_room hW) hdg hf) hS (fun q _ h => hFc q h) hFc (fun u t H1 locs1 ht hvm hp hB hz1 hk1 hS => ?_)
  obtain ⟨hP1, hD1⟩ := hB
  rw [ht] at hP1
  obtain ⟨hP2, hD2⟩ := va_join (wr := wr) hP hD isC isR hC hR hnR hdis hk1 hFc hP1 hD1
  exact kk u H1 locs1 hp hP2 hD2 hS
end WE
/-- those that keep a set -/
def aStb (n m9 : Nat) (wh : Bool) (G : pg_F → Prop) : pg_F → Prop := fun w9 => G w9 ∧ kAll m9 wh w9 n = true
set_option maxHeartbeats 2000000 in
set_option maxRecDepth 100000 in
theorem c_D_stabiliser (l : Launch) (hst : l.stackTraces = false) (D : va_G) (z : Nat → ClassId) (d : Nat → Nat) (sz n len gc : Nat) (ft : Nat → Int32) (fg fo : Nat → Int64) (gs : Nat → Nat → Nat) (us : Nat → gSt) (tx : Nat → Nat) (g : Nat → pg_F) (tg : Nat → Option pg_F) (Gs : Nat → pg_F → Prop) (hR : dR n tx len g gc tg Gs ft fg fo us) (x y w : Int32) (wh : Bool) : vx_Met l yD_stabiliser wD_stabiliser (rmX 24 3 18) (va_Pc [.ref (d 0), .int x, .int y, .int (bI wh), .int w] (xPc D (tyL z) (dW z d n (len, ft, gc, fg, fo, gs, us)) sz)) (va_Qi (fun r (v : dSt) => ∃ (i j m9 : Nat), x = nI i ∧ i < 5 ∧ w = nI j ∧ j < 5 ∧ j ≠ 0 ∧ y = nI m9 ∧ m9 < 2 ^ n ∧ gOrd n (aStb n m9 wh (Gs i)) r ∧ dRp n (tx, len, g, gc, tg, va_up Gs j (aStb n m9 wh (Gs i))) v) (fun v t => va_P D vC (dW z d n v) t.heap ∧ va_D (va_A (dW z d n (len, ft, gc, fg, fo, gs, us)) sz) (dW z d n v)) (va_A (dW z d n (len, ft, gc, fg, fo, gs, us)) sz)) (xX D (fun E (v : dSt) => ((E = eIO ∧ ¬ (iN x 5 ∧ iN w 5 ∧ w ≠ 0)) ∨ (E = eIA ∧ (iN x 5 ∧ iN w 5 ∧ w ≠ 0) ∧ ¬ iN y (2 ^ n))) ∧ dRp n (tx, len, g, gc, tg, Gs) v) (fun v => dW z d n v) (va_A (dW z d n (len, ft, gc, fg, fo, gs, us)) sz)) 3 18 (va_A (dW z d n (len, ft, gc, fg, fo, gs, us)) sz) := by
  have hR0 := hR
  obtain ⟨h1n, hok, htg, hgr, hg0⟩ := hR
  have hn7 := hok.2.2.1
  have hgc6 := hok.2.1
  have h3 : 2 ^ n ≤ 2 ^ 7 := Nat.pow_le_pow_right (by decide) hn7
  refine vx_ofW (cc := prog_1_method_11_code) (maxL := 5) (ret := (some .int)) (by decide) rfl ?_
  intro p e s m args below meth c s₁ B hml hout hv
  have hx := B.exec
  have hb := B.bytes
  have hr := B.returns
  have ht : ∀ w ∈ TB, w.before args s = true := fun w h => atoms_spec (ws := wD_stabiliser) B.pre w (List.mem_cons_of_mem _ h)
  have hown : s.vm.findClass "PermutationDesk" = some m.cls := findClass_of_methodNamed B.named
  have hlocks := B.notSynchronized
  obtain ⟨rfl, ⟨hsz, hP, hK, hD0⟩, hV, hH⟩ := hv
  subst hsz
  have hD := hD0.self (sz := s.heap.size)
  generalize hAe : va_A (dW z d n (len, ft, gc, fg, fo, gs, us)) s.heap.size = A at hD hH ⊢
  have hA : ∀ q : Nat, s.heap.size ≤ q → A q := fun q h => by rw [← hAe]; exact Or.inr h
  have hS : va_S A s.heap s.heap [] := va_S.rf
  have hl := lv_entry ([.ref (d 0), .int x, .int y, .int (bI wh), .int w]) (n := 5) (Nat.le_of_ble_eq_true rfl)
  rw [lg_entry_eq]
  generalize (lg_sl ([.ref (d 0), .int x, .int y, .int (bI wh), .int w]) ++ List.replicate (5 - (lg_sl ([.ref (d 0), .int x, .int y, .int (bI wh), .int w])).length) Slot.unset).toArray = ls at hl ⊢
  have hl : lv_has ls 5 [(0, .ref (d 0)), (1, .int x), (2, .int y), (3, .int (bI wh)), (4, .int w)] := hl
  refine lv_aload_n hx hb dD_stabiliser_0 rfl (lv_at hl 0 rfl) ?_
  refine lv_iload_n hx hb dD_stabiliser_1 rfl (lv_at hl 1 rfl) ?_
  refine qX_v (ci := 2) (q0 := 0) (wr := ([(d 1, .inl (z 2, 24, .inl (ft))), (d 2, .inl (z 0, 6, .inr (.inl (fg)))), (d 3, .inl (z 0, 6, .inr (.inl (fo)))), (d 4, .inl (z 3, 5, .inr (.inr (.inr (.inr (dF (gs)))))))] ++ (gWu z (gs 5) n (us 5) ++ (gWu z (gs 6) (n + n) (us 6) ++ (gWu z (gs 0) n (us 0) ++ (gWu z (gs 1) n (us 1) ++ (gWu z (gs 2) n (us 2) ++ (gWu z (gs 3) n (us 3) ++ (gWu z (gs 4) n (us 4)))))))))) (As := [.int x]) (rest := []) ⟨hx, hb, hml, hown, ht⟩ (c_D_needSlot l hst D z d s.heap.size n len gc (gs 5 0) (gs 6 0) x) (cB 1 ht gD_needSlot rfl tw_59 tw_493 (by decide +kernel) ⟨by decide, by decide⟩) tw_495 tw_23 hK hP hD hS hA hV hH [0] [1, 2, 3, 4, 5, 6, 7, 8, 9, 10, 11, 12, 13, 14, 15, 16, 17, 18, 19, 20, 21, 22, 23, 24, 25, 26, 27, 28, 29, 30, 31, 32] rfl rfl rfl rfl (by decide) rfl rfl rfl rfl hl.1 rfl (Nat.le_of_ble_eq_true rfl) dD_stabiliser_2 ⟨by decide, by decide⟩ (fun E9 ce q9 u2 H locs h2 hP hD hS k1 k2 k3 => qO hout hlocks ((len, ft, gc, fg, fo, gs, us)) (⟨Or.inl ⟨h2.1, fun q => h2.2 q.1⟩, hR0.rp gs⟩) (hP.sub (ws' := dW z d n ((len, ft, gc, fg, fo, gs, us))) [32, 0, 1, 2, 3, 4, 5, 6, 7, 8, 9, 10, 11, 12, 13, 14, 15, 16, 17, 18, 19, 20, 21, 22, 23, 24, 25, 26, 27, 28, 29, 30, 31] rfl) (hD.sub (ws' := dW z d n ((len, ft, gc, fg, fo, gs, us))) [32, 0, 1, 2, 3, 4, 5, 6, 7, 8, 9, 10, 11, 12, 13, 14, 15, 16, 17, 18, 19, 20, 21, 22, 23, 24, 25, 26, 27, 28, 29, 30, 31] rfl rfl) hS k1 k2 k3 hS.2.2 (by decide)) (fun u2 H locs h2 hP hD hS => ?_)
  replace hP := hP.sub (ws' := dW z d n (len, ft, gc, fg, fo, gs, us)) [32, 0, 1, 2, 3, 4, 5, 6, 7, 8, 9, 10, 11, 12, 13, 14, 15, 16, 17, 18, 19, 20, 21, 22, 23, 24, 25, 26, 27, 28, 29, 30, 31] rfl
  replace hD := hD.sub (ws' := dW z d n (len, ft, gc, fg, fo, gs, us)) [32, 0, 1, 2, 3, 4, 5, 6, 7, 8, 9, 10, 11, 12, 13, 14, 15, 16, 17, 18, 19, 20, 21, 22, 23, 24, 25, 26, 27, 28, 29, 30, 31] rfl rfl
  have hx5 := h2
  obtain ⟨i, rfl, hi⟩ := h2
  refine lv_aload_n hx hb dD_stabiliser_5 rfl (lv_at hl 0 rfl) ?_
  refine lv_iload hx hb dD_stabiliser_6 (lv_at hl 4 rfl) ?_
  refine qX_v (ci := 2) (q0 := 0) (wr := ([(d 1, .inl (z 2, 24, .inl (ft))), (d 2, .inl (z 0, 6, .inr (.inl (fg)))), (d 3, .inl (z 0, 6, .inr (.inl (fo)))), (d 4, .inl (z 3, 5, .inr (.inr (.inr (.inr (dF (gs)))))))] ++ (gWu z (gs 5) n (us 5) ++ (gWu z (gs 6) (n + n) (us 6) ++ (gWu z (gs 0) n (us 0) ++ (gWu z (gs 1) n (us 1) ++ (gWu z (gs 2) n (us 2) ++ (gWu z (gs 3) n (us 3) ++ (gWu z (gs 4) n (us 4)))))))))) (As := [.int w]) (rest := []) ⟨hx, hb, hml, hown, ht⟩ (c_D_needTargetSlot l hst D z d H.size n len gc (gs 5 0) (gs 6 0) w) (cB 1 ht gD_needTargetSlot rfl tw_59 tw_462 (by decide +kernel) ⟨by decide, by decide⟩) tw_464 tw_21 hK hP hD hS hA hV hH [0] [1, 2, 3, 4, 5, 6, 7, 8, 9, 10, 11, 12, 13, 14, 15, 16, 17, 18, 19, 20, 21, 22, 23, 24, 25, 26, 27, 28, 29, 30, 31, 32] rfl rfl rfl rfl (by decide) rfl rfl rfl rfl hl.1 rfl (Nat.le_of_ble_eq_true rfl) dD_stabiliser_8 ⟨by decide, by decide⟩ (fun E9 ce q9 u8 H locs h8 hP hD hS k1 k2 k3 => qO hout hlocks ((len, ft, gc, fg, fo, gs, us)) (⟨Or.inl ⟨h8.1, fun q => h8.2 q.2⟩, hR0.rp gs⟩) (hP.sub (ws' := dW z d n ((len, ft, gc, fg, fo, gs, us))) [32, 0, 1, 2, 3, 4, 5, 6, 7, 8, 9, 10, 11, 12, 13, 14, 15, 16, 17, 18, 19, 20, 21, 22, 23, 24, 25, 26, 27, 28, 29, 30, 31] rfl) (hD.sub (ws' := dW z d n ((len, ft, gc, fg, fo, gs, us))) [32, 0, 1, 2, 3, 4, 5, 6, 7, 8, 9, 10, 11, 12, 13, 14, 15, 16, 17, 18, 19, 20, 21, 22, 23, 24, 25, 26, 27, 28, 29, 30, 31] rfl rfl) hS k1 k2 k3 hS.2.2 (by decide)) (fun u8 H locs h8 hP hD hS => ?_)
  replace hP := hP.sub (ws' := dW z d n (len, ft, gc, fg, fo, gs, us)) [32, 0, 1, 2, 3, 4, 5, 6, 7, 8, 9, 10, 11, 12, 13, 14, 15, 16, 17, 18, 19, 20, 21, 22, 23, 24, 25, 26, 27, 28, 29, 30, 31] rfl
  replace hD := hD.sub (ws' := dW z d n (len, ft, gc, fg, fo, gs, us)) [32, 0, 1, 2, 3, 4, 5, 6, 7, 8, 9, 10, 11, 12, 13, 14, 15, 16, 17, 18, 19, 20, 21, 22, 23, 24, 25, 26, 27, 28, 29, 30, 31] rfl rfl
  have hw5 := h8
  obtain ⟨⟨j, rfl, hj⟩, hj0⟩ := h8
  have hj0 : j ≠ 0 := fun q => hj0 (by rw [q]; rfl)
  refine lv_iload_n hx hb dD_stabiliser_11 rfl (lv_at hl 2 rfl) ?_
  refine lv_aload_n hx hb dD_stabiliser_12 rfl (lv_at hl 0 rfl) ?_
  refine va_get (ci := 2) (C := RD) (T := TD) (N := 9) hx hb ht inD hown hK hP 0 rfl rfl 0 (by decide) (ht _ tw_125) (fun _ h9 => h9) rfl dD_stabiliser_13 ?_
  refine lv_iushr hx hb dD_stabiliser_16 rfl ?_
  refine lv_if_eq (tgt := 30) hx hb dD_stabiliser_17 rfl (fun h17 => ?_) (fun h17 => ?_)
  · have hyN := (i_shr hn7 h1n y).mp h17
    obtain ⟨m9, rfl, hm9⟩ := hyN
    refine lv_aload_n hx hb dD_stabiliser_30 rfl (lv_at hl 0 rfl) ?_
    refine va_get (ci := 2) (C := RD) (T := TD) (N := 9) hx hb ht inD hown hK hP 0 rfl rfl 7 (by decide) (ht _ tw_132) (fun _ h9 => h9) rfl dD_stabiliser_31 ?_
    refine lv_aload_n hx hb dD_stabiliser_34 rfl (lv_at hl 0 rfl) ?_
    refine va_get (ci := 2) (C := RD) (T := TD) (N := 9) hx hb ht inD hown hK hP 0 rfl rfl 6 (by decide) (ht _ tw_131) (fun _ h9 => h9) rfl dD_stabiliser_35 ?_
    refine lv_iload_n hx hb dD_stabiliser_38 rfl (lv_at hl 1 rfl) ?_
    refine va_aldq hx hb hK hP 4 3 rfl rfl (vp_in_nI (N := 5) hi (by decide)) dD_stabiliser_39 ?_
    refine wtv (x' := .ref (gs i 0)) (by rw [dF_i hi]; rfl) ?_
    replace hP := sw_P hi hP
    replace hD := sw_D hi hD
    refine va_new (ci := 3) (C := RK) (T := TK) (N := 2) (fs := [.int 0, .int 0]) hx hb ht inK tyK tyK_ok hown (ht _ tw_499) (ht _ tw_500) (ht _ tw_72) hK hP hD hS hA rfl (by decide +kernel) (by decide) (by decide) dD_stabiliser_40 (fun q40 H hP hD hS => ?_)
    refine lv_dup hx hb dD_stabiliser_43 rfl ?_
    refine lv_iload_n hx hb dD_stabiliser_44 rfl (lv_at hl 2 rfl) ?_
    refine lv_iload_n hx hb dD_stabiliser_45 rfl (lv_at hl 3 rfl) ?_
    refine qI_v (wr := dWf z d n (len, ft, gc, fg, fo, swp i gs, swp i us) (dF gs)) (As := [.int (nI m9), .int (bI wh)]) (rest := [.ref q40, .ref (gs i 0), .ref (gs 5 0)]) ⟨hx, hb, hml, hown, ht⟩ (c_K_init l D z H.size q40 m9 wh (.int 0) (.int 0)) (cB 2 ht gK_init rfl tw_72 tw_501 (by decide +kernel) ⟨by decide, by decide⟩) rfl tw_502 hK hP hD hS hA [33] [0, 1, 2, 3, 4, 5, 6, 7, 8, 9, 10, 11, 12, 13, 14, 15, 16, 17, 18, 19, 20, 21, 22, 23, 24, 25, 26, 27, 28, 29, 30, 31, 32] rfl rfl rfl rfl (by decide) rfl rfl hl.1 rfl (Nat.le_of_ble_eq_true rfl) dD_stabiliser_46 ⟨by decide, by decide⟩ (fun u46 H locs h46 hP hD hS => ?_)
    replace hP : va_P D vC (dWf z d n (len, ft, gc, fg, fo, swp i gs, swp i us) (dF gs) ++ kW q40 m9 wh) H := hP
    replace hD : va_D A (dWf z d n (len, ft, gc, fg, fo, swp i gs, swp i us) (dF gs) ++ kW q40 m9 wh) := hD
    refine qE_v (ci := 0) (q0 := 0) (wr := ([dO d n (len) (gc) ((swp i gs) 5 0) ((swp i gs) 6 0), (d 1, .inl (z 2, 24, .inl (ft))), (d 2, .inl (z 0, 6, .inr (.inl (fg)))), (d 3, .inl (z 0, 6, .inr (.inl (fo)))), (d 4, .inl (z 3, 5, .inr (.inr (.inr (.inr (dF gs))))))] ++ (gWu z ((swp i gs) 6) (n + n) ((swp i us) 6) ++ (gWu z ((swp i gs) 1) n ((swp i us) 1) ++ (gWu z ((swp i gs) 2) n ((swp i us) 2) ++ (gWu z ((swp i gs) 3) n ((swp i us) 3) ++ (gWu z ((swp i gs) 4) n ((swp i us) 4)))))))) (As := [.ref (gs i 0), .ref q40]) (rest := []) ⟨hx, hb, hml, hown, ht⟩ (c_G_gatherK l D z (gs 5) (gs i) H.size n (us 5).2.1 (us 5).2.2.2.2.1 (us 5).2.2.2.2.2.1 (us 5).2.2.2.2.2.2 (us i).1 (us i).2.1 (us i).2.2.1 (us i).2.2.2.1 (us i).2.2.2.2.1 (us i).2.2.2.2.2.1 (us i).2.2.2.2.2.2 (by omega) q40 m9 wh (by omega) (Gs i) (hgr i hi) (fun q hq => Classical.byContradiction (fun hge => by rw [Nat.testBit_lt_two_pow (Nat.lt_of_lt_of_le hm9 (Nat.pow_le_pow_right (by decide) (by omega)))] at hq; cases hq))) (⟨hV.2.2.2.1, by decide⟩) (cB 2 ht gG_gather rfl tw_61 tw_512 (by decide +kernel) ⟨by decide, by decide⟩) tw_513 tw_514 hK hP hD hS hA [5, 6, 7, 8, 13, 14, 15, 16, 33] [0, 1, 2, 3, 4, 9, 10, 11, 12, 17, 18, 19, 20, 21, 22, 23, 24, 25, 26, 27, 28, 29, 30, 31, 32] rfl rfl rfl rfl (by decide) rfl rfl rfl rfl hl.1 rfl (Nat.le_of_ble_eq_true rfl) dD_stabiliser_49 ⟨by decide, by decide⟩ (fun u49 H locs h49 hP hD hS => ?_)
    replace hP := hP.sub (ws' := dWf z d n (len, ft, gc, fg, fo, swp i gs, va_up (swp i us) 5 u49) (dF gs)) [0, 1, 2, 3, 4, 25, 26, 27, 28, 5, 6, 7, 8, 29, 30, 31, 32, 9, 10, 11, 12, 13, 14, 15, 16, 17, 18, 19, 20, 21, 22, 23, 24] rfl
    replace hD := hD.sub (ws' := dWf z d n (len, ft, gc, fg, fo, swp i gs, va_up (swp i us) 5 u49) (dF gs)) [0, 1, 2, 3, 4, 25, 26, 27, 28, 5, 6, 7, 8, 29, 30, 31, 32, 9, 10, 11, 12, 13, 14, 15, 16, 17, 18, 19, 20, 21, 22, 23, 24] rfl rfl
    replace hP := sw_P hi hP
    replace hD := sw_D hi hD
    rw [swp_up hi 5 (by omega) u49, sw_2 hi] at hP hD
    refine lv_aload_n hx hb dD_stabiliser_52 rfl (lv_at hl 0 rfl) ?_
    refine lv_iload hx hb dD_stabiliser_53 (lv_at hl 4 rfl) ?_
    refine qW_i (ci := 2) (q0 := 0) (wr := ([])) (As := [.int (nI j)]) (rest := []) ⟨hx, hb, hml, hown, ht⟩ (c_D_storeWork l D z d H.size n (len, ft, gc, fg, fo, gs, va_up us 5 u49) hn7 j hj (aStb n m9 wh (Gs i)) h49) (cB 1 ht gD_storeWork rfl tw_59 tw_475 (by decide +kernel) ⟨by decide, by decide⟩) tw_477 tw_22 hK hP hD hS hA [0, 1, 2, 3, 4, 5, 6, 7, 8, 9, 10, 11, 12, 13, 14, 15, 16, 17, 18, 19, 20, 21, 22, 23, 24, 25, 26, 27, 28, 29, 30, 31, 32] [] rfl rfl rfl rfl (by decide) rfl rfl rfl rfl hl.1 rfl (Nat.le_of_ble_eq_true rfl) dD_stabiliser_55 ⟨by decide, by decide⟩ (fun r55 u55 H locs h55 hP hD hS => ?_)
    replace hP := hP.sub (ws' := dW z d n u55) [0, 1, 2, 3, 4, 5, 6, 7, 8, 9, 10, 11, 12, 13, 14, 15, 16, 17, 18, 19, 20, 21, 22, 23, 24, 25, 26, 27, 28, 29, 30, 31, 32] rfl
    replace hD := hD.sub (ws' := dW z d n u55) [0, 1, 2, 3, 4, 5, 6, 7, 8, 9, 10, 11, 12, 13, 14, 15, 16, 17, 18, 19, 20, 21, 22, 23, 24, 25, 26, 27, 28, 29, 30, 31, 32] rfl rfl
    obtain ⟨hord, rfl⟩ := h55
    refine vx_ret (W.widen (k := 3) (n := 18) (by decide) (by decide) ?_)
    exact W.iret hx hb hr (fun t ht hW => ⟨⟨_, _, rfl, ⟨i, j, m9, rfl, hi, rfl, hj, hj0, rfl, hm9, hord, ((hR0.up6 5 (by omega) u49).put hj0 h49).rp (dPut gs j)⟩, by rw [ht]; exact hP, hD⟩, hS.F ht⟩) hS.2.2 dD_stabiliser_58
  have hno : ¬ iN y (2 ^ n) := fun q => h17 ((i_shr hn7 h1n y).mpr q)
  exact qT (cls := eIA) (is := 111) (text := "the set has bits that are no point's") hx hb hst hown (by decide +kernel) ht tw_279 tw_69 (by decide) (x_atA ht hV) x_gdA hV hH (len, ft, gc, fg, fo, gs, us) ⟨Or.inr ⟨rfl, ⟨hx5, hw5⟩, hno⟩, hR0.rp gs⟩ hP hD hS hml hl.1 dD_stabiliser_20 dD_stabiliser_23 dD_stabiliser_24 dD_stabiliser_26 dD_stabiliser_29 hout (by decide) (Nat.le_of_ble_eq_true rfl) (by decide) hlocks hS.2.2 (by decide)
