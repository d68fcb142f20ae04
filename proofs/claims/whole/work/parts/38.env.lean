/-! What the desk's methods need beside their cells: for exceptions, for the conditions' interface. -/
abbrev eIA : String := "java/lang/IllegalArgumentException"
abbrev eIS : String := "java/lang/IllegalStateException"
abbrev eIO : String := "java/lang/IndexOutOfBoundsException"
abbrev xN : List String := ["java/lang/RuntimeException", "java/lang/Exception"]
def xi : List (Nat × String) := [(161, "the text is no expression"), (163, "no such point"), (67, "there are six generators"), (83, "no such generator"), (169, "a generator has no image"), (167, "no slot that takes a group"), (96, "the images are no homomorphism"), (165, "no such slot"), (111, "the set has bits that are no point's"), (141, "no such element")]
def xD : List String := ["java/lang/RuntimeException", "java/lang/Exception", "java/lang/Throwable"]
def xNc : List (String × String) := [(eIA, eIS), (eIA, eIO), (eIS, eIA), (eIS, eIO), (eIO, eIA), (eIO, eIS)]
def xV (U : State) : Prop := (∀ Y ∈ xD, va_Nw (.declares (Bundle.initS Y)) U) ∧ (∀ X ∈ [eIA, eIS, eIO], va_Nw (.castable X X) U) ∧ (∀ q ∈ xi, ∃ sa, vk_R "PermutationDesk" q.1 q.2 sa U) ∧ va_Fw "PermutationDesk$KeepsSet" yI_allows yK_allows U ∧ va_Fw "PermutationDesk$CommutesWith" yI_allows yC_allows U ∧ va_Nw (.methodLinkNest "PermutationDesk" 155 yR_expression "PermutationDesk") U ∧ va_AO "PermutationDesk$Group" U ∧ ∀ q ∈ xNc, va_Nc q.1 q.2 U
theorem xV.warm {s U : State} (hW : s.WarmedH U.vm) (h : xV s) : xV U := by
  obtain ⟨h1, h2, h3, h4, h5, h6, h7, h8⟩ := h
  exact ⟨fun Y hY => va_Nw.warmD hW (h1 Y hY), fun X hX => va_Nw.warmC hW (h2 X hX), fun q hq => (h3 q hq).imp (fun sa h => vk_R.warm hW h), va_Fw.moved (by decide) hW.alike h4, va_Fw.moved (by decide) hW.alike h5, va_Nw.warmM hW h6, va_AO.moved hW.alike h7, fun q hq => (h8 q hq).moved hW.alike⟩
def xH (A : Nat → Prop) (U : State) (H : Heap) : Prop := vx_Zq Bundle.tN "UNASSIGNED_STACK" Bundle.steD A U H ∧ vx_Zq Bundle.tN "SUPPRESSED_SENTINEL" Bundle.listD A U H
theorem xH.moved {A : Nat → Prop} {u U : State} {H : Heap} (hvm : u.vm.Alike U.vm) (h : xH A u H) : xH A U H := ⟨h.1.moved hvm, h.2.moved hvm⟩
theorem xH.kept {A : Nat → Prop} {U : State} {H H1 : Heap} (h : xH A U H) (hq : ∀ a : Nat, a < H.size → ¬ A a → H1[a]? = H[a]?) : xH A U H1 := ⟨h.1.kept hq, h.2.kept hq⟩
theorem xH.narrow {A B : Nat → Prop} {U : State} {H : Heap} (h : xH A U H) (hAB : ∀ q, B q → A q) : xH B U H := ⟨h.1.narrow hAB, h.2.narrow hAB⟩
theorem fb_worldX {D : va_G} {ty : List (ClassId × FieldType)} {cw : va_W} {av : List Value} {sz : Nat} : FrameBlind (va_Pc av (fun U => (U.heap.size = sz ∧ va_P D vC cw U.heap ∧ va_K D vC ty U ∧ va_D (fun _ => True) cw) ∧ xV U ∧ xH (va_A cw sz) U U.heap)) := by
  intro a U g mk q
  obtain ⟨q0, ⟨q1, qP, qK, qD⟩, qV, qH⟩ := q
  exact ⟨q0, ⟨q1, qP, va_K.moved (u := U) (U := U.calling g mk a) (Vm.Alike.refl U.vm) qK, qD⟩, xV.warm (s := U) (U := U.calling g mk a) (State.WarmedH.refl U) qV, xH.moved (u := U) (U := U.calling g mk a) (Vm.Alike.refl U.vm) qH⟩
theorem x_in {w : Cond} {L : List Cond} (h1 : ∀ w ∈ L.filter goodWord, w ∈ lw_tbl) (h : w ∈ L.filter goodWord) : w ∈ TB := List.mem_filter.mpr ⟨h1 w h, (List.mem_filter.mp h).2⟩
theorem x_at {args : Array Value} {s : State} {cls : String} {ic : Nat} (hc : cls ∈ [eIA, eIS, eIO]) (h1 : ∀ w ∈ (vx_atS "PermutationDesk" ic cls xN).filter goodWord, w ∈ lw_tbl) (h2 : ∀ w ∈ (vx_atS "PermutationDesk" ic cls xN).filter (fun w => !goodWord w), w ∈ [Cond.declares (Bundle.initS "java/lang/RuntimeException"), .declares (Bundle.initS "java/lang/Exception"), .declares (Bundle.initS "java/lang/Throwable"), .castable cls cls]) (ht : ∀ w ∈ TB, w.before args s = true) (hV : xV s) : ∀ w ∈ vx_atS "PermutationDesk" ic cls xN, w.before args s = true := by
  refine vx_hat (fun w h => ht w (x_in h1 h)) h2 (vx_c (va_Nw.use rfl (hV.1 _ (by simp [xD]))) (vx_c (va_Nw.use rfl (hV.1 _ (by simp [xD]))) (vx_c (va_Nw.use rfl (hV.1 _ (by simp [xD]))) (vx_c (va_Nw.use rfl (hV.2.1 cls hc)) vx_n))))
theorem x_atA {args : Array Value} {s : State} (ht : ∀ w ∈ TB, w.before args s = true) (hV : xV s) : ∀ w ∈ vx_atS "PermutationDesk" 113 eIA xN, w.before args s = true := x_at (by decide) (by decide +kernel) (by decide +kernel) ht hV
theorem x_atS {args : Array Value} {s : State} (ht : ∀ w ∈ TB, w.before args s = true) (hV : xV s) : ∀ w ∈ vx_atS "PermutationDesk" 69 eIS xN, w.before args s = true := x_at (by decide) (by decide +kernel) (by decide +kernel) ht hV
theorem x_atO {args : Array Value} {s : State} (ht : ∀ w ∈ TB, w.before args s = true) (hV : xV s) : ∀ w ∈ vx_atS "PermutationDesk" 85 eIO xN, w.before args s = true := x_at (by decide) (by decide +kernel) (by decide +kernel) ht hV
theorem x_gdA : ∀ w ∈ Cond.classLink "PermutationDesk" 109 eIA :: Cond.initialized eIA :: vx_atS "PermutationDesk" 113 eIA xN, vx_ot w = true := by decide +kernel
theorem x_gdS : ∀ w ∈ Cond.classLink "PermutationDesk" 65 eIS :: Cond.initialized eIS :: vx_atS "PermutationDesk" 69 eIS xN, vx_ot w = true := by decide +kernel
theorem x_gdO : ∀ w ∈ Cond.classLink "PermutationDesk" 81 eIO :: Cond.initialized eIO :: vx_atS "PermutationDesk" 85 eIO xN, vx_ot w = true := by decide +kernel
theorem x_fit : ∀ n ∈ xN, Bundle.fit n = true := by decide +kernel
section ENV
variable {p : Program} {l : Launch} {e : Env} {R : Room} {s : State} {m : MethodId} {args : Array Value} {below : List Frame} {meth : Method} {c : Code} {H : Heap} {locs : List Loc} {cells slots : Nat} {Q : State → Prop}
variable {cc bytes : ByteArray} {nL maxL index n mc ms : Nat} {own C : String} {y : MethodName} {ret : Option FieldType} {rm : Room} {ws ws' : List Cond}
variable {pc : Nat} {ls : Array Slot} {rest st0 As : List Value} {b q0 ci : Nat} {fs : List Value} {D : va_G} {ty : List (ClassId × FieldType)} {cw : va_W} {r : vw_C}
variable {A : Nat → Prop} {w0 wr : va_W} {free : Addr → Prop}
/-- what is thrown: the class, and the world as it stands -/
abbrev xX {Sx : Type} (D : va_G) (pe : String → Sx → Prop) (wx : Sx → va_W) (A : Nat → Prop) : String → State → State → Prop := vx_X (fun _ : Sx => True) (fun E u t => pe E u ∧ va_P D vC (wx u) t.heap ∧ va_D A (wx u)) A
theorem x_F (hS : va_S A s.heap H locs) {t : State} (h1 : H.size ≤ t.heap.size) (h2 : ∀ q : Nat, q < H.size → t.heap[q]? = H[q]?) : va_F A s t :=
  ⟨Nat.le_trans hS.1 h1, fun q a b => (h2 q (Nat.lt_of_lt_of_le a hS.1)).trans (hS.2.1 q a b)⟩
/-- throw new E("text") -/
theorem qT {Sx : Type} {pe : String → Sx → Prop} {wx : Sx → va_W} {Qc : Array Value → State → Outcome → State → Prop} {cls text : String} {ik is ic : Nat} (hexec : p.tables.exec = Jvm.exec) (hb : c.code = cc) (hl : l.stackTraces = false) (hown : s.vm.findClass "PermutationDesk" = some m.cls) (hfit : Bundle.fit cls = true) (ht : ∀ w ∈ TB, w.before args s = true) (hk : Cond.classLink "PermutationDesk" ik cls ∈ TB) (hini : Cond.initialized cls ∈ TB) (hi : (is, text) ∈ xi) (hat : ∀ w ∈ vx_atS "PermutationDesk" ic cls xN, w.before args s = true) (hgood : ∀ w ∈ Cond.classLink "PermutationDesk" ik cls :: Cond.initialized cls :: vx_atS "PermutationDesk" ic cls xN, vx_ot w = true)
    (hV : xV s) (hH : xH A s s.heap) (u : Sx) (hpe : pe cls u) (hP : va_P D vC (wx u) H) (hD : va_D A (wx u)) (hS : va_S A s.heap H locs) (hml : c.maxLocals = nL) (hsize : ls.size = nL)
    (d0 : decode cc pc = .ok (.new ik, 3)) (d3 : decode cc (pc + 3) = .ok (.dup, 1)) (d4 : decode cc (pc + 4) = .ok (.ldc is, 2)) (d6 : decode cc (pc + 6) = .ok (.invokespecial ic, 3)) (d9 : decode cc (pc + 9) = .ok (.athrow, 1))
    (hout : ∀ x ∈ c.exceptionTable.toList, False) (hR : 6 ≤ R.frames ∧ 100 ≤ R.locals) (hW : (rest.map fun v => v.category).sum ≤ 8) (hRc : cells + 1 ≤ R.cells ∧ slots + 6 ≤ R.slots) (hlocks : meth.locks = false) (hf : ∀ z ∈ locs, free z.base) (hc : cells + 1 ≤ mc ∧ slots + 6 ≤ ms) :
    W p l e R s m args below meth c H locs cells slots (vx_MQ below Qc (xX D pe wx A) args s mc ms free) (F0 m pc ls rest) := by
  obtain ⟨sa, hsa⟩ := hV.2.2.1 _ hi
  exact vx_throwS hexec hb hl hown hfit x_fit (ht _ hk) (ht _ hini) hsa hat hgood hH.1 hH.2 hS (hsize.trans hml.symm) d0 d3 d4 d6 d9 (fun x hx => (hout x hx).elim) (by show 2 + 3 < _; have := hR.1; omega) (by show _ + (13 * (2 + 1) + 43) ≤ _; have := hR.2; omega) hRc.1 hRc.2 hlocks
    (fun t _ h1 h2 => ⟨u, trivial, ⟨hpe, hP.kept (fun k q hq => h2 q.1 ((hP k q hq).lt)), hD⟩, x_F hS h1 h2⟩) hf hc.1 hc.2
/-- not caught: it goes on -/
theorem qO {Sx : Type} {pe : String → Sx → Prop} {wx : Sx → va_W} {Qc : Array Value → State → Outcome → State → Prop} {E : String} {ce : Cell} {q9 : Addr} (hout : ∀ x ∈ c.exceptionTable.toList, False) (hlocks : meth.locks = false) (u : Sx) (hpe : pe E u) (hP : va_P D vC (wx u) H) (hD : va_D A (wx u)) (hS : va_S A s.heap H locs) (hcell : H[q9]? = some ce) (hv : ce.vm = .none) (hcl : s.vm.findClass E = some ce.cls) (hf : ∀ z ∈ locs, free z.base) (hc : cells ≤ mc ∧ slots ≤ ms) :
    vx_W p l e R s m args below meth c H locs cells slots (vx_MQ below Qc (xX D pe wx A) args s mc ms free) (F0 m pc ls rest) q9 :=
  vx_out (fun x hx => (hout x hx).elim) hlocks hcell hv hcl (fun t ht _ => ⟨u, trivial, ⟨hpe, by rw [ht]; exact hP, hD⟩, hS.F ht⟩) hf hc.1 hc.2
/-- the start of a method that may throw, over its cells -/
abbrev xPc (D : va_G) (ty : List (ClassId × FieldType)) (cw : va_W) (sz : Nat) : State → Prop := fun U => (U.heap.size = sz ∧ va_P D vC cw U.heap ∧ va_K D vC ty U ∧ va_D (fun _ => True) cw) ∧ xV U ∧ xH (va_A cw sz) U U.heap
theorem x_pre {isC : List Nat} (hK : va_K D vC ty s) (hP : va_P D vC w0 H) (hD : va_D A w0) (hS : va_S A s.heap H locs) (hA : ∀ q, s.heap.size ≤ q → A q) (hV : xV s) (hH : xH A s s.heap) (hC : isC.map (fun i => w0[i]?) = cw.map some) (hnC : va_nd isC = true) (hsub : isC.filterMap (fun i => w0[i]?) = cw) {U : State} (hU : U.heap = H) (hW : s.WarmedH U.vm) : xPc D ty cw H.size U := by
  have hPc := hP.sub (ws' := cw) isC hsub
  have hDc := hD.sub (ws' := cw) isC hnC hC
  have hFc := va_free (wc := cw) hD hS hA isC hC
  exact ⟨⟨by rw [hU], by rw [hU]; exact hPc, va_K.moved hW.alike hK, hDc.weaken (fun _ _ _ _ => trivial)⟩, hV.warm hW, by rw [hU]; exact ((hH.kept hS.2.1).moved hW.alike).narrow hFc⟩
/-- an instance method that may throw: void -/
theorem qX_v {Sg Sx : Type} {post : Sg → Prop} {pe : String → Sx → Prop} {w1 : Sg → va_W} {wx : Sx → va_W} (S : CallFix p m c cc nL s args TB own) (hM : vx_Met l y ws rm (va_Pc (.ref b :: As) (xPc D ty cw H.size)) (va_Qv post (fun u t => va_P D vC (w1 u) t.heap ∧ va_D (va_A cw H.size) (w1 u)) (va_A cw H.size)) (xX D pe wx (va_A cw H.size)) mc ms (va_A cw H.size)) (cB : CallB R s args own index y bytes maxL ret ws rm mc ms n) (hin : Cond.instanceMethod y ∈ TB) (hsel : Cond.selects r.1 y y ∈ TB) (hK : va_K D vC ty s) (hP : va_P D vC w0 H) (hD : va_D A w0) (hS : va_S A s.heap H locs) (hA : ∀ q, s.heap.size ≤ q → A q) (hV : xV s) (hH : xH A s s.heap) (isC isR : List Nat) (hC : isC.map (fun i => w0[i]?) = cw.map some) (hR : isR.map (fun i => w0[i]?) = wr.map some) (hnC : va_nd isC = true) (hnR : va_nd isR = true) (hdis : ∀ i ∈ isR, i ∉ isC) (hsub : isC.filterMap (fun i => w0[i]?) = cw) (hc : vC[ci]? = some r) (he : cw[q0]? = some (b, .inr (ci, fs))) (hn : As.length = n) (hsize : ls.size = nL) (hstack : st0 = As.reverse ++ .ref b :: rest) (hW : (rest.map fun v => v.category).sum ≤ 8) (hdg : decode cc pc = .ok (.invokevirtual index, 3)) (hf : cells + mc ≤ R.cells ∧ slots + ms ≤ R.slots) (kx : ∀ (E : String) (ce : Cell) (q9 : Addr) (u : Sx) (H1 : Heap) (locs1 : List Loc), pe E u → va_P D vC (wr ++ wx u) H1 → va_D A (wr ++ wx u) → va_S A s.heap H1 locs1 → H1[q9]? = some ce → ce.vm = .none → s.vm.findClass E = some ce.cls → vx_W p l e R s m args below meth c H1 locs1 (cells + mc) (slots + ms) Q (F0 m pc ls rest) q9)
    (kk : ∀ (u : Sg) (H1 : Heap) (locs1 : List Loc), post u → va_P D vC (wr ++ w1 u) H1 → va_D A (wr ++ w1 u) → va_S A s.heap H1 locs1 → W p l e R s m args below meth c H1 locs1 (cells + mc) (slots + ms) Q (F0 m (pc + 3) ls rest)) : W p l e R s m args below meth c H locs cells slots Q (F0 m pc ls st0) := by
  have hPc := hP.sub (ws' := cw) isC hsub
  have hFc := va_free (wc := cw) hD hS hA isC hC
  refine vx_callv (vx_runV (C := r.1) (As := As) (rest := rest) S hM ⟨cB, S.2.2.2.2 _ hin, S.2.2.2.2 _ hsel⟩ ⟨fb_worldX, va_recv hK hPc hc he, fun U hU hW => ⟨rfl, x_pre hK hP hD hS hA hV hH hC hnC hsub hU hW⟩⟩ rfl hn hsize hstack (lv_room hW) hdg hf) hS (fun q _ h => hFc q h) hFc (fun q _ h => hFc q h) (fun E ce q9 u t H1 locs1 ht hvm hp hB hz1 hk1 hS g1 g2 g3 => ?_) (fun u t H1 locs1 ht hvm hp hB hz1 hk1 hS => ?_)
  · obtain ⟨hpe, hP1, hD1⟩ := hB
    rw [ht] at hP1
    obtain ⟨hP2, hD2⟩ := va_join (wr := wr) hP hD isC isR hC hR hnR hdis hk1 hFc hP1 hD1
    exact kx E ce q9 u H1 locs1 hpe hP2 hD2 hS g1 g2 g3
  · obtain ⟨hP1, hD1⟩ := hB
    rw [ht] at hP1
    obtain ⟨hP2, hD2⟩ := va_join (wr := wr) hP hD isC isR hC hR hnR hdis hk1 hFc hP1 hD1
    exact kk u H1 locs1 hp hP2 hD2 hS
/-- .. an int -/
theorem qX_i {Sg Sx : Type} {post : Int32 → Sg → Prop} {pe : String → Sx → Prop} {w1 : Sg → va_W} {wx : Sx → va_W} (S : CallFix p m c cc nL s args TB own) (hM : vx_Met l y ws rm (va_Pc (.ref b :: As) (xPc D ty cw H.size)) (va_Qi post (fun u t => va_P D vC (w1 u) t.heap ∧ va_D (va_A cw H.size) (w1 u)) (va_A cw H.size)) (xX D pe wx (va_A cw H.size)) mc ms (va_A cw H.size)) (cB : CallB R s args own index y bytes maxL ret ws rm mc ms n) (hin : Cond.instanceMethod y ∈ TB) (hsel : Cond.selects r.1 y y ∈ TB) (hK : va_K D vC ty s) (hP : va_P D vC w0 H) (hD : va_D A w0) (hS : va_S A s.heap H locs) (hA : ∀ q, s.heap.size ≤ q → A q) (hV : xV s) (hH : xH A s s.heap) (isC isR : List Nat) (hC : isC.map (fun i => w0[i]?) = cw.map some) (hR : isR.map (fun i => w0[i]?) = wr.map some) (hnC : va_nd isC = true) (hnR : va_nd isR = true) (hdis : ∀ i ∈ isR, i ∉ isC) (hsub : isC.filterMap (fun i => w0[i]?) = cw) (hc : vC[ci]? = some r) (he : cw[q0]? = some (b, .inr (ci, fs))) (hn : As.length = n) (hsize : ls.size = nL) (hstack : st0 = As.reverse ++ .ref b :: rest) (hW : (rest.map fun v => v.category).sum ≤ 8) (hdg : decode cc pc = .ok (.invokevirtual index, 3)) (hf : cells + mc ≤ R.cells ∧ slots + ms ≤ R.slots) (kx : ∀ (E : String) (ce : Cell) (q9 : Addr) (u : Sx) (H1 : Heap) (locs1 : List Loc), pe E u → va_P D vC (wr ++ wx u) H1 → va_D A (wr ++ wx u) → va_S A s.heap H1 locs1 → H1[q9]? = some ce → ce.vm = .none → s.vm.findClass E = some ce.cls → vx_W p l e R s m args below meth c H1 locs1 (cells + mc) (slots + ms) Q (F0 m pc ls rest) q9)
    (kk : ∀ (x : Int32) (u : Sg) (H1 : Heap) (locs1 : List Loc), post x u → va_P D vC (wr ++ w1 u) H1 → va_D A (wr ++ w1 u) → va_S A s.heap H1 locs1 → W p l e R s m args below meth c H1 locs1 (cells + mc) (slots + ms) Q (F0 m (pc + 3) ls (.int x :: rest))) : W p l e R s m args below meth c H locs cells slots Q (F0 m pc ls st0) := by
  have hPc := hP.sub (ws' := cw) isC hsub
  have hFc := va_free (wc := cw) hD hS hA isC hC
  refine vx_calli (vx_runV (C := r.1) (As := As) (rest := rest) S hM ⟨cB, S.2.2.2.2 _ hin, S.2.2.2.2 _ hsel⟩ ⟨fb_worldX, va_recv hK hPc hc he, fun U hU hW => ⟨rfl, x_pre hK hP hD hS hA hV hH hC hnC hsub hU hW⟩⟩ rfl hn hsize hstack (lv_room hW) hdg hf) hS (fun q _ h => hFc q h) hFc (fun q _ h => hFc q h) (fun E ce q9 u t H1 locs1 ht hvm hp hB hz1 hk1 hS g1 g2 g3 => ?_) (fun x u t H1 locs1 ht hvm hp hB hz1 hk1 hS => ?_)
  · obtain ⟨hpe, hP1, hD1⟩ := hB
    rw [ht] at hP1
    obtain ⟨hP2, hD2⟩ := va_join (wr := wr) hP hD isC isR hC hR hnR hdis hk1 hFc hP1 hD1
    exact kx E ce q9 u H1 locs1 hpe hP2 hD2 hS g1 g2 g3
  · obtain ⟨hP1, hD1⟩ := hB
    rw [ht] at hP1
    obtain ⟨hP2, hD2⟩ := va_join (wr := wr) hP hD isC isR hC hR hnR hdis hk1 hFc hP1 hD1
    exact kk x u H1 locs1 hp hP2 hD2 hS
/-- .. a long -/
theorem qX_l {Sg Sx : Type} {post : Int64 → Sg → Prop} {pe : String → Sx → Prop} {w1 : Sg → va_W} {wx : Sx → va_W} (S : CallFix p m c cc nL s args TB own) (hM : vx_Met l y ws rm (va_Pc (.ref b :: As) (xPc D ty cw H.size)) (va_Ql post (fun u t => va_P D vC (w1 u) t.heap ∧ va_D (va_A cw H.size) (w1 u)) (va_A cw H.size)) (xX D pe wx (va_A cw H.size)) mc ms (va_A cw H.size)) (cB : CallB R s args own index y bytes maxL ret ws rm mc ms n) (hin : Cond.instanceMethod y ∈ TB) (hsel : Cond.selects r.1 y y ∈ TB) (hK : va_K D vC ty s) (hP : va_P D vC w0 H) (hD : va_D A w0) (hS : va_S A s.heap H locs) (hA : ∀ q, s.heap.size ≤ q → A q) (hV : xV s) (hH : xH A s s.heap) (isC isR : List Nat) (hC : isC.map (fun i => w0[i]?) = cw.map some) (hR : isR.map (fun i => w0[i]?) = wr.map some) (hnC : va_nd isC = true) (hnR : va_nd isR = true) (hdis : ∀ i ∈ isR, i ∉ isC) (hsub : isC.filterMap (fun i => w0[i]?) = cw) (hc : vC[ci]? = some r) (he : cw[q0]? = some (b, .inr (ci, fs))) (hn : As.length = n) (hsize : ls.size = nL) (hstack : st0 = As.reverse ++ .ref b :: rest) (hW : (rest.map fun v => v.category).sum ≤ 8) (hdg : decode cc pc = .ok (.invokevirtual index, 3)) (hf : cells + mc ≤ R.cells ∧ slots + ms ≤ R.slots) (kx : ∀ (E : String) (ce : Cell) (q9 : Addr) (u : Sx) (H1 : Heap) (locs1 : List Loc), pe E u → va_P D vC (wr ++ wx u) H1 → va_D A (wr ++ wx u) → va_S A s.heap H1 locs1 → H1[q9]? = some ce → ce.vm = .none → s.vm.findClass E = some ce.cls → vx_W p l e R s m args below meth c H1 locs1 (cells + mc) (slots + ms) Q (F0 m pc ls rest) q9)
    (kk : ∀ (x : Int64) (u : Sg) (H1 : Heap) (locs1 : List Loc), post x u → va_P D vC (wr ++ w1 u) H1 → va_D A (wr ++ w1 u) → va_S A s.heap H1 locs1 → W p l e R s m args below meth c H1 locs1 (cells + mc) (slots + ms) Q (F0 m (pc + 3) ls (.long x :: rest))) : W p l e R s m args below meth c H locs cells slots Q (F0 m pc ls st0) := by
  have hPc := hP.sub (ws' := cw) isC hsub
  have hFc := va_free (wc := cw) hD hS hA isC hC
  refine vx_calll (vx_runV (C := r.1) (As := As) (rest := rest) S hM ⟨cB, S.2.2.2.2 _ hin, S.2.2.2.2 _ hsel⟩ ⟨fb_worldX, va_recv hK hPc hc he, fun U hU hW => ⟨rfl, x_pre hK hP hD hS hA hV hH hC hnC hsub hU hW⟩⟩ rfl hn hsize hstack (lv_room hW) hdg hf) hS (fun q _ h => hFc q h) hFc (fun q _ h => hFc q h) (fun E ce q9 u t H1 locs1 ht hvm hp hB hz1 hk1 hS g1 g2 g3 => ?_) (fun x u t H1 locs1 ht hvm hp hB hz1 hk1 hS => ?_)
  · obtain ⟨hpe, hP1, hD1⟩ := hB
    rw [ht] at hP1
    obtain ⟨hP2, hD2⟩ := va_join (wr := wr) hP hD isC isR hC hR hnR hdis hk1 hFc hP1 hD1
    exact kx E ce q9 u H1 locs1 hpe hP2 hD2 hS g1 g2 g3
  · obtain ⟨hP1, hD1⟩ := hB
    rw [ht] at hP1
    obtain ⟨hP2, hD2⟩ := va_join (wr := wr) hP hD isC isR hC hR hnR hdis hk1 hFc hP1 hD1
    exact kk x u H1 locs1 hp hP2 hD2 hS
end ENV
