/-! Desk: the element of the text; the text itself; the targets. -/
section NEST
variable {p : Program} {l : Launch} {e : Env} {R : Room} {s : State} {m : MethodId} {args : Array Value} {below : List Frame} {meth : Method} {c : Code} {H : Heap} {locs : List Loc} {cells slots : Nat} {Q : State → Prop}
variable {cc bytes : ByteArray} {nL maxL index n mc ms : Nat} {own C host : String} {y : MethodName} {ret : Option FieldType} {rm : Room} {ws ws' : List Cond}
variable {pc : Nat} {ls : Array Slot} {rest st0 As : List Value} {b q0 ci : Nat} {fs : List Value} {D : va_G} {ty : List (ClassId × FieldType)} {cw : va_W} {r : vw_C}
variable {A : Nat → Prop} {H0 : Heap} {w0 wr : va_W}
/-- a nest mate's private method that answers a long -/
theorem qN_l {Sg : Type} {post : Int64 → Sg → Prop} {w1 : Sg → va_W} (S : CallFix p m c cc nL s args TB own) (hM : Met l y ws rm (va_Pc (.ref b :: As) (fun U => U.heap.size = H.size ∧ va_P D vC cw U.heap ∧ va_K D vC ty U ∧ va_D (fun _ => True) cw)) (va_Ql post (fun u t => va_P D vC (w1 u) t.heap ∧ va_D (va_A cw H.size) (w1 u)) (va_A cw H.size)) mc ms (va_A cw H.size)) (cB : va_CN R s args own index y host bytes maxL ret ws rm mc ms n) (hin : Cond.instanceMethod y ∈ TB) (hsel : Cond.selects r.1 y y ∈ TB)
    (hK : va_K D vC ty s) (hP : va_P D vC w0 H) (hD : va_D A w0) (hS : va_S A H0 H locs) (hA : ∀ q, H0.size ≤ q → A q) (isC isR : List Nat) (hC : isC.map (fun i => w0[i]?) = cw.map some) (hR : isR.map (fun i => w0[i]?) = wr.map some) (hnC : va_nd isC = true) (hnR : va_nd isR = true) (hdis : ∀ i ∈ isR, i ∉ isC) (hsub : isC.filterMap (fun i => w0[i]?) = cw)
    (hc : vC[ci]? = some r) (he : cw[q0]? = some (b, .inr (ci, fs)))
    (hn : As.length = n) (hsize : ls.size = nL) (hstack : st0 = As.reverse ++ .ref b :: rest) (hW : (rest.map fun v => v.category).sum ≤ 8) (hdg : decode cc pc = .ok (.invokevirtual index, 3)) (hf : cells + mc ≤ R.cells ∧ slots + ms ≤ R.slots)
    (kk : ∀ (x : Int64) (u : Sg) (H1 : Heap) (locs1 : List Loc), post x u → va_P D vC (wr ++ w1 u) H1 → va_D A (wr ++ w1 u) → va_S A H0 H1 locs1 → W p l e R s m args below meth c H1 locs1 (cells + mc) (slots + ms) Q (F0 m (pc + 3) ls (.long x :: rest))) : W p l e R s m args below meth c H locs cells slots Q (F0 m pc ls st0) := by
  have hPc := hP.sub (ws' := cw) isC hsub
  have hDc := hD.sub (ws' := cw) isC hnC hC
  have hFc := va_free (wc := cw) hD hS hA isC hC
  refine va_calll (va_runVN (C := r.1) (As := As) (rest := rest) S hM ⟨cB, S.2.2.2.2 _ hin, S.2.2.2.2 _ hsel⟩ ⟨fb_worldD, va_recv hK hPc hc he, fun U hU hW => ⟨rfl, by rw [hU], by rw [hU]; exact hPc, va_K.moved hW.alike hK, hDc.weaken (fun _ _ _ _ => trivial)⟩⟩ rfl hn hsize hstack (lv_room hW) hdg hf) hS (fun q _ h => hFc q h) hFc (fun x u t H1 locs1 ht hvm hp hB hz1 hk1 hS => ?_)
  obtain ⟨hP1, hD1⟩ := hB
  rw [ht] at hP1
  obtain ⟨hP2, hD2⟩ := va_join (wr := wr) hP hD isC isR hC hR hnR hdis hk1 hFc hP1 hD1
  exact kk x u H1 locs1 hp hP2 hD2 hS
end NEST
abbrev rq (qr : Nat) (d : Nat → Nat) : Nat → Nat := fun i => match i with
  | 0 => qr
  | i + 1 => d (i + 1)
set_option maxHeartbeats 2000000 in
set_option maxRecDepth 100000 in
theorem c_D_textElement (l : Launch) (hst : l.stackTraces = false) (D : va_G) (z : Nat → ClassId) (d : Nat → Nat) (sz n len gc wk pr : Nat) (ft : Nat → Int32) (fg : Nat → Int64) (tx : Nat → Nat) (g : Nat → pg_F) (hok : rOK tx len n gc g ft fg) : vx_Met l yD_textElement wD_textElement (rmX 22 2 13) (va_Pc [.ref (d 0)] (xPc D (tyL z) [dO d n len gc wk pr, (d 1, .inl (z 2, 24, .inl ft)), (d 2, .inl (z 0, 6, .inr (.inl fg)))] sz)) (va_Ql (fun r (_ : Unit) => ∃ x, r = eL n x ∧ pr_text tx len n gc g = some x) (fun _ t => va_P D vC [dO d n len gc wk pr, (d 1, .inl (z 2, 24, .inl ft)), (d 2, .inl (z 0, 6, .inr (.inl fg)))] t.heap ∧ va_D (va_A [dO d n len gc wk pr, (d 1, .inl (z 2, 24, .inl ft)), (d 2, .inl (z 0, 6, .inr (.inl fg)))] sz) [dO d n len gc wk pr, (d 1, .inl (z 2, 24, .inl ft)), (d 2, .inl (z 0, 6, .inr (.inl fg)))]) (va_A [dO d n len gc wk pr, (d 1, .inl (z 2, 24, .inl ft)), (d 2, .inl (z 0, 6, .inr (.inl fg)))] sz)) (xX D (fun E (_ : Unit) => E = eIA ∧ pr_text tx len n gc g = none) (fun _ => [dO d n len gc wk pr, (d 1, .inl (z 2, 24, .inl ft)), (d 2, .inl (z 0, 6, .inr (.inl fg)))]) (va_A [dO d n len gc wk pr, (d 1, .inl (z 2, 24, .inl ft)), (d 2, .inl (z 0, 6, .inr (.inl fg)))] sz)) 2 13 (va_A [dO d n len gc wk pr, (d 1, .inl (z 2, 24, .inl ft)), (d 2, .inl (z 0, 6, .inr (.inl fg)))] sz) := by
  have hn7 := hok.2.2.1
  have hlen := hok.1
  refine vx_ofW (cc := prog_1_method_19_code) (maxL := 4) (ret := (some .long)) (by decide) rfl ?_
  intro p e s m args below meth c s₁ B hml hout hv
  have hx := B.exec
  have hb := B.bytes
  have hr := B.returns
  have ht : ∀ w ∈ TB, w.before args s = true := fun w h => atoms_spec (ws := wD_textElement) B.pre w (List.mem_cons_of_mem _ h)
  have hown : s.vm.findClass "PermutationDesk" = some m.cls := findClass_of_methodNamed B.named
  have hlocks := B.notSynchronized
  obtain ⟨rfl, ⟨hsz, hP, hK, hD0⟩, hV, hH⟩ := hv
  subst hsz
  have hD := hD0.self (sz := s.heap.size)
  generalize hAe : va_A ([dO d n len gc wk pr, (d 1, .inl (z 2, 24, .inl ft)), (d 2, .inl (z 0, 6, .inr (.inl fg)))]) s.heap.size = A at hD hH ⊢
  have hA : ∀ q : Nat, s.heap.size ≤ q → A q := fun q h => by rw [← hAe]; exact Or.inr h
  have hS : va_S A s.heap s.heap [] := va_S.rf
  have hl := lv_entry ([.ref (d 0)]) (n := 4) (Nat.le_of_ble_eq_true rfl)
  rw [lg_entry_eq]
  generalize (lg_sl ([.ref (d 0)]) ++ List.replicate (4 - (lg_sl ([.ref (d 0)])).length) Slot.unset).toArray = ls at hl ⊢
  have hl : lv_has ls 4 [(0, .ref (d 0))] := hl
  refine va_new (ci := 1) (C := RR) (T := TR) (N := 7) (fs := [.null, .int 0, .null, .int 0, .int 0, .int 0, .int 0]) hx hb ht inR tyR tyR_ok hown (ht _ tw_182) (ht _ tw_183) (ht _ tw_65) hK hP hD hS hA rfl (by decide +kernel) (by decide) (by decide) dD_textElement_0 (fun q0 H hP hD hS => ?_)
  refine lv_dup hx hb dD_textElement_3 rfl ?_
  refine lv_aload_n hx hb dD_textElement_4 rfl (lv_at hl 0 rfl) ?_
  refine va_get (ci := 2) (C := RD) (T := TD) (N := 9) hx hb ht inD hown hK hP 0 rfl rfl 1 (by decide) (ht _ tw_126) (fun _ h9 => h9) rfl dD_textElement_5 ?_
  refine lv_aload_n hx hb dD_textElement_8 rfl (lv_at hl 0 rfl) ?_
  refine va_get (ci := 2) (C := RD) (T := TD) (N := 9) hx hb ht inD hown hK hP 0 rfl rfl 2 (by decide) (ht _ tw_127) (fun _ h9 => h9) rfl dD_textElement_9 ?_
  refine lv_aload_n hx hb dD_textElement_12 rfl (lv_at hl 0 rfl) ?_
  refine va_get (ci := 2) (C := RD) (T := TD) (N := 9) hx hb ht inD hown hK hP 0 rfl rfl 3 (by decide) (ht _ tw_128) (fun _ h9 => h9) rfl dD_textElement_13 ?_
  refine lv_aload_n hx hb dD_textElement_16 rfl (lv_at hl 0 rfl) ?_
  refine va_get (ci := 2) (C := RD) (T := TD) (N := 9) hx hb ht inD hown hK hP 0 rfl rfl 5 (by decide) (ht _ tw_130) (fun _ h9 => h9) rfl dD_textElement_17 ?_
  refine lv_aload_n hx hb dD_textElement_20 rfl (lv_at hl 0 rfl) ?_
  refine va_get (ci := 2) (C := RD) (T := TD) (N := 9) hx hb ht inD hown hK hP 0 rfl rfl 0 (by decide) (ht _ tw_125) (fun _ h9 => h9) rfl dD_textElement_21 ?_
  refine qI_v (wr := [dO d n len gc wk pr, (d 1, .inl (z 2, 24, .inl ft)), (d 2, .inl (z 0, 6, .inr (.inl fg)))]) (As := [.ref (d 1), .int (nI len), .ref (d 2), .int (nI gc), .int (nI n)]) (rest := [.ref q0]) ⟨hx, hb, hml, hown, ht⟩ (c_R_init l D z (rq q0 d) H.size n len gc .null (.int 0) .null (.int 0) (.int 0) (.int 0) (.int 0)) (cB 5 ht gR_init rfl tw_65 tw_184 (by decide +kernel) ⟨by decide, by decide⟩) rfl tw_185 hK hP hD hS hA [3] [0, 1, 2] rfl rfl rfl rfl (by decide) rfl rfl hl.1 rfl (Nat.le_of_ble_eq_true rfl) dD_textElement_24 ⟨by decide, by decide⟩ (fun u24 H locs h24 hP hD hS => ?_)
  replace hP : va_P D vC ([dO d n len gc wk pr] ++ [(d 1, .inl (z 2, 24, .inl ft)), (d 2, .inl (z 0, 6, .inr (.inl fg)))] ++ [(rq q0 d 0, .inr (1, [.ref (d 1), .int (nI len), .ref (d 2), .int (nI gc), .int (nI n), .int (nI 0), .int (bI false)]))]) H := hP
  replace hP := hP.sub (ws' := [dO d n len gc wk pr] ++ rW z (rq q0 d) n len gc ft fg 0 false) [0, 3, 1, 2] rfl
  replace hD := hD.sub (ws' := [dO d n len gc wk pr] ++ rW z (rq q0 d) n len gc ft fg 0 false) [0, 3, 1, 2] (by decide) rfl
  refine lv_astore_n hx hb dD_textElement_27 rfl hl (by decide) rfl (fun ls hl => ?_)
  replace hl : lv_has ls 4 [(1, .ref q0), (0, .ref (d 0))] := hl
  refine lv_aload_n hx hb dD_textElement_28 rfl (lv_at hl 0 rfl) ?_
  refine lv_iconst (v := 0) hx hb dD_textElement_29 (by decide) ?_
  refine qN_l (ci := 1) (q0 := 0) (wr := [dO d n len gc wk pr]) (As := [.int (nI (4 - 4))]) (rest := []) ⟨hx, hb, hml, hown, ht⟩ (c_R_exp l D z (rq q0 d) n len gc ft fg tx g hok 4 (by omega) H.size 0 (by omega)) (va_cnB 1 ht gR_expression rfl rfl rfl hV.2.2.2.2.2.1 (ht _ tw_65) (by decide +kernel) ⟨by decide, by decide⟩) tw_212 tw_1 hK hP hD hS hA [1, 2, 3] [0] rfl rfl rfl rfl (by decide) rfl rfl rfl rfl hl.1 rfl (Nat.le_of_ble_eq_true rfl) dD_textElement_30 ⟨by decide, by decide⟩ (fun r30 u30 H locs h30 hP hD hS => ?_)
  obtain ⟨a1, bk⟩ := u30
  replace hP : va_P D vC ([dO d n len gc wk pr] ++ rW z (rq q0 d) n len gc ft fg a1 bk) H := hP
  replace hD : va_D A ([dO d n len gc wk pr] ++ rW z (rq q0 d) n len gc ft fg a1 bk) := hD
  have ha1 : a1 < 1000 := by
    cases eE : pr_exp tx len n gc g 4 0 with
    | none => rw [eE] at h30; have := h30.2; have : a1 ≤ 42 + 2 * 4 := this; omega
    | some r0 =>
      obtain ⟨x0, b0⟩ := r0
      rw [eE] at h30
      have := pr_exp_le (tx := tx) (len := len) (n := n) (gc := gc) (g := g) 4 0 x0 b0 (by omega) eE
      have e8 := h30.2
      cases e8
      omega
  refine lv_lstore_n hx hb dD_textElement_33 rfl hl (by decide) rfl (fun ls hl => ?_)
  replace hl : lv_has ls 4 [(2, .long r30), (1, .ref q0), (0, .ref (d 0))] := hl
  refine lv_aload_n hx hb dD_textElement_34 rfl (lv_at hl 1 rfl) ?_
  refine qV_i (ci := 1) (q0 := 0) (As := []) (rest := []) ⟨hx, hb, hml, hown, ht⟩ (c_R_hasReadAll l D z (rq q0 d) H.size n len gc ft fg tx g hok a1 ha1 bk) (cB 0 ht gR_hasReadAll rfl tw_65 tw_275 (by decide +kernel) ⟨by decide, by decide⟩) tw_276 tw_277 hK (hP.sub (ws' := rW z (rq q0 d) n len gc ft fg a1 bk) [1, 2, 3] rfl) rfl rfl rfl hl.1 rfl (Nat.le_of_ble_eq_true rfl) dD_textElement_35 ⟨by decide, by decide⟩ (fun r35 h35 => ?_)
  subst h35
  replace hP := hP.sub (ws' := [dO d n len gc wk pr, (d 1, .inl (z 2, 24, .inl ft)), (d 2, .inl (z 0, 6, .inr (.inl fg)))]) [0, 2, 3] rfl
  replace hD := hD.sub (ws' := [dO d n len gc wk pr, (d 1, .inl (z 2, 24, .inl ft)), (d 2, .inl (z 0, 6, .inr (.inl fg)))]) [0, 2, 3] (by decide) rfl
  refine lv_if_ne (tgt := 51) hx hb dD_textElement_38 rfl (fun h38 => ?_) (fun h38 => ?_)
  · have hyes : (!bk && decide (a1 = len)) = true := by
      cases e8 : (!bk && decide (a1 = len)) with
      | true => rfl
      | false => rw [e8] at h38; exact absurd rfl h38
    refine lv_lload_n hx hb dD_textElement_51 rfl (lv_at hl 0 rfl) ?_
    refine vx_ret (W.widen (k := 2) (n := 13) (by decide) (by decide) ?_)
    refine W.lret hx hb hr (fun t9 ht hW => ⟨⟨_, (), rfl, ?_, by rw [ht]; exact hP, hD⟩, hS.F ht⟩) hS.2.2 dD_textElement_52
    unfold pr_text
    cases eE : pr_exp tx len n gc g 4 0 with
    | none => rw [eE] at h30; have e7 : bk = true := h30.1; rw [e7] at hyes; cases hyes
    | some r0 =>
      obtain ⟨x0, b0⟩ := r0
      rw [eE] at h30
      obtain ⟨e7, e8⟩ := h30
      cases e8
      have hle : a1 = len := of_decide_eq_true (by simpa using hyes)
      exact ⟨x0, e7, by simp only; rw [if_pos hle]⟩
  have hno : (!bk && decide (a1 = len)) = false := bI_0.mp h38
  have hnone : pr_text tx len n gc g = none := by
    unfold pr_text
    cases eE : pr_exp tx len n gc g 4 0 with
    | none => rfl
    | some r0 =>
      obtain ⟨x0, b0⟩ := r0
      rw [eE] at h30
      obtain ⟨e7, e8⟩ := h30
      cases e8
      simp only
      rw [if_neg (fun e9 => by rw [decide_eq_true e9] at hno; cases hno)]
  exact qT (cls := eIA) (is := 161) (text := "the text is no expression") hx hb hst hown (by decide +kernel) ht tw_279 tw_69 (by decide) (x_atA ht hV) x_gdA hV hH () ⟨rfl, hnone⟩ hP hD hS hml hl.1 dD_textElement_41 dD_textElement_44 dD_textElement_45 dD_textElement_47 dD_textElement_50 hout (by decide) (Nat.le_of_ble_eq_true rfl) (by decide) hlocks hS.2.2 (by decide)
