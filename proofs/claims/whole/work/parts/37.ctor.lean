/-! Constructors. -/
theorem tw_81 : Cond.code ⟨"java/lang/Object", "<init>", "()V"⟩ ⟨#[0xb1]⟩ 1 none ∈ TB := tbm_1 23 rfl rfl
section CTOR
variable {p : Program} {l : Launch} {e : Env} {R : Room} {s : State} {m : MethodId} {args : Array Value} {below : List Frame} {meth : Method} {c : Code} {H : Heap} {locs : List Loc} {cells slots : Nat} {Q : State → Prop}
variable {cc bytes : ByteArray} {nL maxL index n mc ms : Nat} {own C : String} {y : MethodName} {ret : Option FieldType} {rm : Room} {ws ws' : List Cond}
variable {pc : Nat} {ls : Array Slot} {rest st0 As : List Value} {b q0 ci : Nat} {fs : List Value} {D : va_G} {ty : List (ClassId × FieldType)} {cw : va_W} {r : vw_C}
variable {A : Nat → Prop} {H0 : Heap} {w0 wr : va_W}
/-- a constructor -/
theorem qI_v {Sg : Type} {post : Sg → Prop} {w1 : Sg → va_W} (S : CallFix p m c cc nL s args TB own) (hM : Met l y ws rm (va_Pc (.ref b :: As) (fun U => U.heap.size = H.size ∧ va_P D vC cw U.heap ∧ va_K D vC ty U ∧ va_D (fun _ => True) cw)) (va_Qv post (fun u t => va_P D vC (w1 u) t.heap ∧ va_D (va_A cw H.size) (w1 u)) (va_A cw H.size)) mc ms (va_A cw H.size)) (cB : CallB R s args own index y bytes maxL none ws rm mc ms n) (hy : y.name = "<init>") (hin : Cond.instanceMethod y ∈ TB)
    (hK : va_K D vC ty s) (hP : va_P D vC w0 H) (hD : va_D A w0) (hS : va_S A H0 H locs) (hA : ∀ q, H0.size ≤ q → A q) (isC isR : List Nat) (hC : isC.map (fun i => w0[i]?) = cw.map some) (hR : isR.map (fun i => w0[i]?) = wr.map some) (hnC : va_nd isC = true) (hnR : va_nd isR = true) (hdis : ∀ i ∈ isR, i ∉ isC) (hsub : isC.filterMap (fun i => w0[i]?) = cw)
    (hn : As.length = n) (hsize : ls.size = nL) (hstack : st0 = As.reverse ++ .ref b :: rest) (hW : (rest.map fun v => v.category).sum ≤ 8) (hdg : decode cc pc = .ok (.invokespecial index, 3)) (hf : cells + mc ≤ R.cells ∧ slots + ms ≤ R.slots)
    (kk : ∀ (u : Sg) (H1 : Heap) (locs1 : List Loc), post u → va_P D vC (wr ++ w1 u) H1 → va_D A (wr ++ w1 u) → va_S A H0 H1 locs1 → W p l e R s m args below meth c H1 locs1 (cells + mc) (slots + ms) Q (F0 m (pc + 3) ls rest)) : W p l e R s m args below meth c H locs cells slots Q (F0 m pc ls st0) := by
  have hPc := hP.sub (ws' := cw) isC hsub
  have hDc := hD.sub (ws' := cw) isC hnC hC
  have hFc := va_free (wc := cw) hD hS hA isC hC
  refine va_callv (va_runI (As := As) (rest := rest) S hM ⟨cB, hy, S.2.2.2.2 _ hin⟩ ⟨fb_worldD, fun U hU hW => ⟨rfl, by rw [hU], by rw [hU]; exact hPc, va_K.moved hW.alike hK, hDc.weaken (fun _ _ _ _ => trivial)⟩⟩ rfl hn hsize hstack (lv_room hW) hdg hf) hS (fun q _ h => hFc q h) hFc (fun u t H1 locs1 ht hvm hp hB hz1 hk1 hS => ?_)
  obtain ⟨hP1, hD1⟩ := hB
  rw [ht] at hP1
  obtain ⟨hP2, hD2⟩ := va_join (wr := wr) hP hD isC isR hC hR hnR hdis hk1 hFc hP1 hD1
  exact kk u H1 locs1 hp hP2 hD2 hS
/-- a new array of a kind that the world knows -/
theorem qNewa (hexec : p.tables.exec = Jvm.exec) (hb : c.code = cc) {atype : ArrayType} (harr : (Cond.arrayClass (newarray.typeOf atype)).before args s = true) {ty0 : FieldType} (hty : newarray.typeOf atype = ty0) (hK : va_K D vC ty s) (hP : va_P D vC w0 H) (hD : va_D A w0) (hS : va_S A H0 H locs) (hA : ∀ q, H0.size ≤ q → A q) {t0 : Nat} {cZ : ClassId} (ht0 : ty[t0]? = some (cZ, ty0)) (hra : ∀ cA, va_RA s cA ty0 → s.vm.findClass ("[" ++ ty0.toString) = some cA)
    {k : Int32} {N9 : Nat} {a0 : vp_A} (ha : ∀ cA : ClassId, vp_cell cA a0 = arrV cA N9 (fun _ => defaultValue ty0)) (hn : ¬ k < 0) (hN : k.toNatClampNeg = N9) (hbytes : N9 * componentBytes ty0 ≤ 536870912) (hcells : cells + 1 ≤ R.cells) (hslots : slots + N9 ≤ R.slots) (hdg : decode cc pc = .ok (.newarray atype, 2))
    (kk : ∀ (q : Nat) (H1 : Heap), va_P D vC (w0 ++ [(q, .inl (cZ, a0))]) H1 → va_D A (w0 ++ [(q, .inl (cZ, a0))]) → va_S A H0 H1 locs → W p l e R s m args below meth c H1 locs (cells + 1) (slots + N9) Q (F0 m (pc + 2) ls (.ref q :: rest))) : W p l e R s m args below meth c H locs cells slots Q (F0 m pc ls (.int k :: rest)) := by
  refine va_newa hexec hb harr hty hK hP hD hS hA ha hn hN hbytes hcells hslots hdg (fun q cA H1 hK1 hP1 hD1 hS1 => ?_)
  have e1 := hra _ (hK.2 t0 _ ht0).2
  have e2 := hra cA (hK1.2 ty.length (cA, ty0) (by rw [List.getElem?_append_right (Nat.le_refl _), Nat.sub_self]; rfl)).2
  have e3 : cA = cZ := Option.some.inj (e2.symm.trans e1)
  subst e3
  exact kk q H1 hP1 hD1 hS1
end CTOR
theorem bI_f (b : Bool) : fits .boolean (.int (bI b)) = true := by cases b <;> rfl
set_option maxHeartbeats 1000000 in
set_option maxRecDepth 100000 in
theorem c_K_init (l : Launch) (D : va_G) (z : Nat → ClassId) (sz q0 m9 : Nat) (wh : Bool) (v0 v1 : Value) : Met l yK_init wK_init (rmF 1) (va_Pc [.ref q0, .int (nI m9), .int (bI wh)] (fun U => U.heap.size = sz ∧ va_P D vC [(q0, .inr (3, [v0, v1]))] U.heap ∧ va_K D vC (tyL z) U ∧ va_D (fun _ => True) [(q0, .inr (3, [v0, v1]))])) (va_Qv (fun _ : Unit => True) (fun _ t => va_P D vC [(q0, .inr (3, [.int (nI m9), .int (bI wh)]))] t.heap ∧ va_D (va_A [(q0, .inr (3, [v0, v1]))] sz) [(q0, .inr (3, [.int (nI m9), .int (bI wh)]))]) (va_A [(q0, .inr (3, [v0, v1]))] sz)) 0 0 (va_A [(q0, .inr (3, [v0, v1]))] sz) := by
  refine Met.ofW (cc := prog_6_method_1_code) (maxL := 3) (ret := none) (by decide) rfl ?_
  intro p e s m args below meth c s₁ B hml hv
  have hx := B.exec
  have hb := B.bytes
  have hr := B.returns
  have ht : ∀ w ∈ TB, w.before args s = true := fun w h => atoms_spec (ws := wK_init) B.pre w (List.mem_cons_of_mem _ h)
  have hown : s.vm.findClass "PermutationDesk$KeepsSet" = some m.cls := findClass_of_methodNamed B.named
  have hlocks := B.notSynchronized
  have hin : meth.name = "<init>" := (name_of_methodNamed B.named B.method).1
  obtain ⟨rfl, hsz, hP, hK, hD0⟩ := hv
  subst hsz
  have hD := hD0.self (sz := s.heap.size)
  generalize hAe : va_A ([(q0, .inr (3, [v0, v1]))]) s.heap.size = A at hD ⊢
  have hA : ∀ q : Nat, s.heap.size ≤ q → A q := fun q h => by rw [← hAe]; exact Or.inr h
  have hS : va_S A s.heap s.heap [] := va_S.rf
  have hl := lv_entry ([.ref q0, .int (nI m9), .int (bI wh)]) (n := 3) (Nat.le_of_ble_eq_true rfl)
  rw [lg_entry_eq]
  generalize (lg_sl ([.ref q0, .int (nI m9), .int (bI wh)]) ++ List.replicate (3 - (lg_sl ([.ref q0, .int (nI m9), .int (bI wh)])).length) Slot.unset).toArray = ls at hl ⊢
  have hl : lv_has ls 3 [(0, .ref q0), (1, .int (nI m9)), (2, .int (bI wh))] := hl
  refine lv_aload_n hx hb dK_init_0 rfl (lv_at hl 0 rfl) ?_
  refine W.objInit hx hb hown (ht _ tw_504) (ht _ tw_80) (ht _ tw_81) rfl (by rw [hml]; exact hl.1) rfl dK_init_1 (Nat.le_of_ble_eq_true rfl) (Nat.le_of_ble_eq_true rfl) ?_
  refine lv_aload_n hx hb dK_init_4 rfl (lv_at hl 0 rfl) ?_
  refine lv_iload_n hx hb dK_init_5 rfl (lv_at hl 1 rfl) ?_
  refine va_putF (ci := 3) (ty := .int) (C := RK) (T := TK) (N := 2) hx hb ht inK tyK tyK_ok nmK hown hK hP hD hS 0 rfl rfl 0 (by decide) (ht _ tw_505) (fun _ h9 => h9) rfl hin rfl (by decide +kernel) rfl rfl (Nat.le_of_ble_eq_true rfl) dK_init_6 (fun H locs hP hD hS => ?_)
  have hP : va_P D vC ([(q0, .inr (3, [.int (nI m9), v1]))]) H := hP
  have hD : va_D A ([(q0, .inr (3, [.int (nI m9), v1]))]) := hD
  refine lv_aload_n hx hb dK_init_9 rfl (lv_at hl 0 rfl) ?_
  refine lv_iload_n hx hb dK_init_10 rfl (lv_at hl 2 rfl) ?_
  refine va_putF (ci := 3) (ty := .boolean) (C := RK) (T := TK) (N := 2) hx hb ht inK tyK tyK_ok nmK hown hK hP hD hS 0 rfl rfl 1 (by decide) (ht _ tw_506) (fun _ h9 => h9) rfl hin rfl (by decide +kernel) (bI_n wh) (bI_f wh) (Nat.le_of_ble_eq_true rfl) dK_init_11 (fun H locs hP hD hS => ?_)
  have hP : va_P D vC [(q0, .inr (3, [.int (nI m9), .int (bI wh)]))] H := hP
  have hD : va_D A [(q0, .inr (3, [.int (nI m9), .int (bI wh)]))] := hD
  exact W.vret hx hb hr (fun t9 ht hW => ⟨⟨(), rfl, trivial, by rw [ht]; exact hP, hD⟩, hS.F ht⟩) hS.2.2 dK_init_14

set_option maxHeartbeats 1000000 in
set_option maxRecDepth 100000 in
theorem c_C_init (l : Launch) (D : va_G) (z : Nat → ClassId) (sz q0 : Nat) (x : Int64) (v0 : Value) : Met l yC_init wC_init (rmF 1) (va_Pc [.ref q0, .long x] (fun U => U.heap.size = sz ∧ va_P D vC [(q0, .inr (4, [v0]))] U.heap ∧ va_K D vC (tyL z) U ∧ va_D (fun _ => True) [(q0, .inr (4, [v0]))])) (va_Qv (fun _ : Unit => True) (fun _ t => va_P D vC [(q0, .inr (4, [.long x]))] t.heap ∧ va_D (va_A [(q0, .inr (4, [v0]))] sz) [(q0, .inr (4, [.long x]))]) (va_A [(q0, .inr (4, [v0]))] sz)) 0 0 (va_A [(q0, .inr (4, [v0]))] sz) := by
  refine Met.ofW (cc := prog_2_method_1_code) (maxL := 3) (ret := none) (by decide) rfl ?_
  intro p e s m args below meth c s₁ B hml hv
  have hx := B.exec
  have hb := B.bytes
  have hr := B.returns
  have ht : ∀ w ∈ TB, w.before args s = true := fun w h => atoms_spec (ws := wC_init) B.pre w (List.mem_cons_of_mem _ h)
  have hown : s.vm.findClass "PermutationDesk$CommutesWith" = some m.cls := findClass_of_methodNamed B.named
  have hlocks := B.notSynchronized
  have hin : meth.name = "<init>" := (name_of_methodNamed B.named B.method).1
  obtain ⟨rfl, hsz, hP, hK, hD0⟩ := hv
  subst hsz
  have hD := hD0.self (sz := s.heap.size)
  generalize hAe : va_A ([(q0, .inr (4, [v0]))]) s.heap.size = A at hD ⊢
  have hA : ∀ q : Nat, s.heap.size ≤ q → A q := fun q h => by rw [← hAe]; exact Or.inr h
  have hS : va_S A s.heap s.heap [] := va_S.rf
  have hl := lv_entry ([.ref q0, .long x]) (n := 3) (Nat.le_of_ble_eq_true rfl)
  rw [lg_entry_eq]
  generalize (lg_sl ([.ref q0, .long x]) ++ List.replicate (3 - (lg_sl ([.ref q0, .long x])).length) Slot.unset).toArray = ls at hl ⊢
  have hl : lv_has ls 3 [(0, .ref q0), (1, .long x)] := hl
  refine lv_aload_n hx hb dC_init_0 rfl (lv_at hl 0 rfl) ?_
  refine W.objInit hx hb hown (ht _ tw_558) (ht _ tw_80) (ht _ tw_81) rfl (by rw [hml]; exact hl.1) rfl dC_init_1 (Nat.le_of_ble_eq_true rfl) (Nat.le_of_ble_eq_true rfl) ?_
  refine lv_aload_n hx hb dC_init_4 rfl (lv_at hl 0 rfl) ?_
  refine lv_lload_n hx hb dC_init_5 rfl (lv_at hl 1 rfl) ?_
  refine va_putF (ci := 4) (ty := .long) (C := RC) (T := TC) (N := 1) hx hb ht inC tyC tyC_ok nmC hown hK hP hD hS 0 rfl rfl 0 (by decide) (ht _ tw_559) (fun _ h9 => h9) rfl hin rfl (by decide +kernel) rfl rfl (Nat.le_of_ble_eq_true rfl) dC_init_6 (fun H locs hP hD hS => ?_)
  have hP : va_P D vC [(q0, .inr (4, [.long x]))] H := hP
  have hD : va_D A [(q0, .inr (4, [.long x]))] := hD
  exact W.vret hx hb hr (fun t9 ht hW => ⟨⟨(), rfl, trivial, by rw [ht]; exact hP, hD⟩, hS.F ht⟩) hS.2.2 dC_init_9
set_option maxHeartbeats 1000000 in
set_option maxRecDepth 100000 in
theorem c_R_init (l : Launch) (D : va_G) (z : Nat → ClassId) (q : Nat → Nat) (sz n len gc : Nat) (v0 v1 v2 v3 v4 v5 v6 : Value) : Met l yR_init wR_init (rmF 1) (va_Pc [.ref (q 0), .ref (q 1), .int (nI len), .ref (q 2), .int (nI gc), .int (nI n)] (fun U => U.heap.size = sz ∧ va_P D vC [(q 0, .inr (1, [v0, v1, v2, v3, v4, v5, v6]))] U.heap ∧ va_K D vC (tyL z) U ∧ va_D (fun _ => True) [(q 0, .inr (1, [v0, v1, v2, v3, v4, v5, v6]))])) (va_Qv (fun _ : Unit => True) (fun _ t => va_P D vC [(q 0, .inr (1, [.ref (q 1), .int (nI len), .ref (q 2), .int (nI gc), .int (nI n), .int (nI 0), .int (bI false)]))] t.heap ∧ va_D (va_A [(q 0, .inr (1, [v0, v1, v2, v3, v4, v5, v6]))] sz) [(q 0, .inr (1, [.ref (q 1), .int (nI len), .ref (q 2), .int (nI gc), .int (nI n), .int (nI 0), .int (bI false)]))]) (va_A [(q 0, .inr (1, [v0, v1, v2, v3, v4, v5, v6]))] sz)) 0 0 (va_A [(q 0, .inr (1, [v0, v1, v2, v3, v4, v5, v6]))] sz) := by
  refine Met.ofW (cc := prog_7_method_1_code) (maxL := 6) (ret := none) (by decide) rfl ?_
  intro p e s m args below meth c s₁ B hml hv
  have hx := B.exec
  have hb := B.bytes
  have hr := B.returns
  have ht : ∀ w ∈ TB, w.before args s = true := fun w h => atoms_spec (ws := wR_init) B.pre w (List.mem_cons_of_mem _ h)
  have hown : s.vm.findClass "PermutationDesk$Reader" = some m.cls := findClass_of_methodNamed B.named
  have hlocks := B.notSynchronized
  have hin : meth.name = "<init>" := (name_of_methodNamed B.named B.method).1
  obtain ⟨rfl, hsz, hP, hK, hD0⟩ := hv
  subst hsz
  have hD := hD0.self (sz := s.heap.size)
  generalize hAe : va_A ([(q 0, .inr (1, [v0, v1, v2, v3, v4, v5, v6]))]) s.heap.size = A at hD ⊢
  have hA : ∀ q : Nat, s.heap.size ≤ q → A q := fun q h => by rw [← hAe]; exact Or.inr h
  have hS : va_S A s.heap s.heap [] := va_S.rf
  have hl := lv_entry ([.ref (q 0), .ref (q 1), .int (nI len), .ref (q 2), .int (nI gc), .int (nI n)]) (n := 6) (Nat.le_of_ble_eq_true rfl)
  rw [lg_entry_eq]
  generalize (lg_sl ([.ref (q 0), .ref (q 1), .int (nI len), .ref (q 2), .int (nI gc), .int (nI n)]) ++ List.replicate (6 - (lg_sl ([.ref (q 0), .ref (q 1), .int (nI len), .ref (q 2), .int (nI gc), .int (nI n)])).length) Slot.unset).toArray = ls at hl ⊢
  have hl : lv_has ls 6 [(0, .ref (q 0)), (1, .ref (q 1)), (2, .int (nI len)), (3, .ref (q 2)), (4, .int (nI gc)), (5, .int (nI n))] := hl
  refine lv_aload_n hx hb dR_init_0 rfl (lv_at hl 0 rfl) ?_
  refine W.objInit hx hb hown (ht _ tw_187) (ht _ tw_80) (ht _ tw_81) rfl (by rw [hml]; exact hl.1) rfl dR_init_1 (Nat.le_of_ble_eq_true rfl) (Nat.le_of_ble_eq_true rfl) ?_
  refine lv_aload_n hx hb dR_init_4 rfl (lv_at hl 0 rfl) ?_
  refine lv_aload_n hx hb dR_init_5 rfl (lv_at hl 1 rfl) ?_
  refine va_putF (ci := 1) (ty := .array .char) (C := RR) (T := TR) (N := 7) hx hb ht inR tyR tyR_ok nmR hown hK hP hD hS 0 rfl rfl 0 (by decide) (ht _ tw_188) (fun _ h9 => h9) rfl hin rfl (by decide +kernel) rfl rfl (Nat.le_of_ble_eq_true rfl) dR_init_6 (fun H locs hP hD hS => ?_)
  refine lv_aload_n hx hb dR_init_9 rfl (lv_at hl 0 rfl) ?_
  refine lv_iload_n hx hb dR_init_10 rfl (lv_at hl 2 rfl) ?_
  refine va_putF (ci := 1) (ty := .int) (C := RR) (T := TR) (N := 7) hx hb ht inR tyR tyR_ok nmR hown hK hP hD hS 0 rfl rfl 1 (by decide) (ht _ tw_189) (fun _ h9 => h9) rfl hin rfl (by decide +kernel) rfl rfl (Nat.le_of_ble_eq_true rfl) dR_init_11 (fun H locs hP hD hS => ?_)
  refine lv_aload_n hx hb dR_init_14 rfl (lv_at hl 0 rfl) ?_
  refine lv_aload_n hx hb dR_init_15 rfl (lv_at hl 3 rfl) ?_
  refine va_putF (ci := 1) (ty := .array .long) (C := RR) (T := TR) (N := 7) hx hb ht inR tyR tyR_ok nmR hown hK hP hD hS 0 rfl rfl 2 (by decide) (ht _ tw_190) (fun _ h9 => h9) rfl hin rfl (by decide +kernel) rfl rfl (Nat.le_of_ble_eq_true rfl) dR_init_16 (fun H locs hP hD hS => ?_)
  refine lv_aload_n hx hb dR_init_19 rfl (lv_at hl 0 rfl) ?_
  refine lv_iload hx hb dR_init_20 (lv_at hl 4 rfl) ?_
  refine va_putF (ci := 1) (ty := .int) (C := RR) (T := TR) (N := 7) hx hb ht inR tyR tyR_ok nmR hown hK hP hD hS 0 rfl rfl 3 (by decide) (ht _ tw_191) (fun _ h9 => h9) rfl hin rfl (by decide +kernel) rfl rfl (Nat.le_of_ble_eq_true rfl) dR_init_22 (fun H locs hP hD hS => ?_)
  refine lv_aload_n hx hb dR_init_25 rfl (lv_at hl 0 rfl) ?_
  refine lv_iload hx hb dR_init_26 (lv_at hl 5 rfl) ?_
  refine va_putF (ci := 1) (ty := .int) (C := RR) (T := TR) (N := 7) hx hb ht inR tyR tyR_ok nmR hown hK hP hD hS 0 rfl rfl 4 (by decide) (ht _ tw_192) (fun _ h9 => h9) rfl hin rfl (by decide +kernel) rfl rfl (Nat.le_of_ble_eq_true rfl) dR_init_28 (fun H locs hP hD hS => ?_)
  refine lv_aload_n hx hb dR_init_31 rfl (lv_at hl 0 rfl) ?_
  refine lv_iconst (v := 0) hx hb dR_init_32 (by decide) ?_
  refine va_put (ci := 1) (ty := .int) (C := RR) (T := TR) (N := 7) hx hb ht inR tyR tyR_ok nmR hown hK hP hD hS 0 rfl rfl 5 (by decide) (ht _ tw_193) (fun _ h9 => h9) rfl (by decide +kernel) rfl rfl (Nat.le_of_ble_eq_true rfl) dR_init_33 (fun H locs hP hD hS => ?_)
  refine lv_aload_n hx hb dR_init_36 rfl (lv_at hl 0 rfl) ?_
  refine lv_iconst (v := 0) hx hb dR_init_37 (by decide) ?_
  refine va_put (ci := 1) (ty := .boolean) (C := RR) (T := TR) (N := 7) hx hb ht inR tyR tyR_ok nmR hown hK hP hD hS 0 rfl rfl 6 (by decide) (ht _ tw_194) (fun _ h9 => h9) rfl (by decide +kernel) rfl rfl (Nat.le_of_ble_eq_true rfl) dR_init_38 (fun H locs hP hD hS => ?_)
  have hP : va_P D vC [(q 0, .inr (1, [.ref (q 1), .int (nI len), .ref (q 2), .int (nI gc), .int (nI n), .int (nI 0), .int (bI false)]))] H := hP
  have hD : va_D A [(q 0, .inr (1, [.ref (q 1), .int (nI len), .ref (q 2), .int (nI gc), .int (nI n), .int (nI 0), .int (bI false)]))] := hD
  exact W.vret hx hb hr (fun t9 ht hW => ⟨⟨(), rfl, trivial, by rw [ht]; exact hP, hD⟩, hS.F ht⟩) hS.2.2 dR_init_41
theorem g_half : ∀ n : Nat, n < 15 → nI n * (nI n - 1) / 2 = nI (gcap n) := by decide +kernel
/-- Group.<init> -/
abbrev rmG : Room := { frames := 2, cells := 3, slots := 378, locals := 80 }
set_option maxHeartbeats 2000000 in
set_option maxRecDepth 100000 in
theorem c_G_init (l : Launch) (D : va_G) (z : Nat → ClassId) (sz q0 n : Nat) (hn : n ≤ 14) (hn1 : 1 ≤ n) : Met l yG_init wG_init rmG (va_Pc [.ref q0, .int (nI n)] (fun U => U.heap.size = sz ∧ va_P D vC [(q0, .inr (0, [.int 0, .long 0, .null, .null, .null, .int 0]))] U.heap ∧ va_K D vC (tyL z) U ∧ va_D (fun _ => True) [(q0, .inr (0, [.int 0, .long 0, .null, .null, .null, .int 0]))])) (va_Qv (fun u : (Nat → Nat) × gSt => u.1 0 = q0 ∧ gGp n u.2 (fun x => x = pg_id) ∧ u.2.1 = pg_clear n ∧ u.2.2.1 = 0) (fun u t => va_P D vC (gWu z u.1 n u.2) t.heap ∧ va_D (va_A [(q0, .inr (0, [.int 0, .long 0, .null, .null, .null, .int 0]))] sz) (gWu z u.1 n u.2)) (va_A [(q0, .inr (0, [.int 0, .long 0, .null, .null, .null, .int 0]))] sz)) 3 378 (va_A [(q0, .inr (0, [.int 0, .long 0, .null, .null, .null, .int 0]))] sz) := by
  have hnn : n * n ≤ 196 := Nat.mul_le_mul hn hn
  have hnm : n * (n - 1) ≤ 14 * 13 := Nat.mul_le_mul hn (by omega)
  have hgc : gcap n ≤ 91 := by show n * (n - 1) / 2 ≤ 91; omega
  refine Met.ofW (cc := prog_5_method_1_code) (maxL := 2) (ret := none) (by decide) rfl ?_
  intro p e s m args below meth c s₁ B hml hv
  have hx := B.exec
  have hb := B.bytes
  have hr := B.returns
  have ht : ∀ w ∈ TB, w.before args s = true := fun w h => atoms_spec (ws := wG_init) B.pre w (List.mem_cons_of_mem _ h)
  have hown : s.vm.findClass "PermutationDesk$Group" = some m.cls := findClass_of_methodNamed B.named
  have hlocks := B.notSynchronized
  have hin : meth.name = "<init>" := (name_of_methodNamed B.named B.method).1
  obtain ⟨rfl, hsz, hP, hK, hD0⟩ := hv
  subst hsz
  have hD := hD0.self (sz := s.heap.size)
  generalize hAe : va_A ([(q0, .inr (0, [.int 0, .long 0, .null, .null, .null, .int 0]))]) s.heap.size = A at hD ⊢
  have hA : ∀ q : Nat, s.heap.size ≤ q → A q := fun q h => by rw [← hAe]; exact Or.inr h
  have hS : va_S A s.heap s.heap [] := va_S.rf
  have hl := lv_entry ([.ref q0, .int (nI n)]) (n := 2) (Nat.le_of_ble_eq_true rfl)
  rw [lg_entry_eq]
  generalize (lg_sl ([.ref q0, .int (nI n)]) ++ List.replicate (2 - (lg_sl ([.ref q0, .int (nI n)])).length) Slot.unset).toArray = ls at hl ⊢
  have hl : lv_has ls 2 [(0, .ref q0), (1, .int (nI n))] := hl
  refine lv_aload_n hx hb dG_init_0 rfl (lv_at hl 0 rfl) ?_
  refine W.objInit hx hb hown (ht _ tw_91) (ht _ tw_80) (ht _ tw_81) rfl (by rw [hml]; exact hl.1) rfl dG_init_1 (Nat.le_of_ble_eq_true rfl) (Nat.le_of_ble_eq_true rfl) ?_
  refine lv_aload_n hx hb dG_init_4 rfl (lv_at hl 0 rfl) ?_
  refine lv_iload_n hx hb dG_init_5 rfl (lv_at hl 1 rfl) ?_
  refine va_putF (ci := 0) (ty := .int) (C := RG) (T := TG) (N := 6) hx hb ht inG tyG tyG_ok nmG hown hK hP hD hS 0 rfl rfl 0 (by decide) (ht _ tw_103) (fun _ h9 => h9) rfl hin rfl (by decide +kernel) rfl rfl (Nat.le_of_ble_eq_true rfl) dG_init_6 (fun H locs hP hD hS => ?_)
  refine lv_aload_n hx hb dG_init_9 rfl (lv_at hl 0 rfl) ?_
  refine lv_iload_n hx hb dG_init_10 rfl (lv_at hl 1 rfl) ?_
  have hP : va_P D vC [(q0, .inr (0, [.int (nI n), .long 0, .null, .null, .null, .int 0]))] H := hP
  have hD : va_D A [(q0, .inr (0, [.int (nI n), .long 0, .null, .null, .null, .int 0]))] := hD
  refine qS_l (As := [.int (nI n)]) (rest := [.ref q0]) ⟨hx, hb, hml, hown, ht⟩ (c_E_identity l n hn) (cB 1 ht gE_identity rfl tw_62 tw_92 (by decide +kernel) ⟨by decide, by decide⟩) tw_93 rfl hl.1 rfl (Nat.le_of_ble_eq_true rfl) dG_init_11 ⟨by decide, by decide⟩ (fun r11 h11 => ?_)
  subst h11
  refine va_putF (ci := 0) (ty := .long) (C := RG) (T := TG) (N := 6) hx hb ht inG tyG tyG_ok nmG hown hK hP hD hS 0 rfl rfl 1 (by decide) (ht _ tw_104) (fun _ h9 => h9) rfl hin rfl (by decide +kernel) rfl rfl (Nat.le_of_ble_eq_true rfl) dG_init_14 (fun H locs hP hD hS => ?_)
  refine lv_aload_n hx hb dG_init_17 rfl (lv_at hl 0 rfl) ?_
  refine lv_iload_n hx hb dG_init_18 rfl (lv_at hl 1 rfl) ?_
  refine lv_iload_n hx hb dG_init_19 rfl (lv_at hl 1 rfl) ?_
  refine lv_imul hx hb dG_init_20 ?_
  have hP : va_P D vC [(q0, .inr (0, [.int (nI n), .long (eL n pg_id), .null, .null, .null, .int 0]))] H := hP
  have hD : va_D A [(q0, .inr (0, [.int (nI n), .long (eL n pg_id), .null, .null, .null, .int 0]))] := hD
  refine wti (x' := nI (n * n)) (pk_mul n n) ?_
  refine qNewa (atype := .long) (t0 := 0) (N9 := (n * n)) (a0 := ((n * n), .inr (.inl (fun _ => 0)))) hx hb (ht _ tw_123) rfl hK hP hD hS hA rfl (fun _ h9 => h9) (fun _ => rfl) (nI_pos (by omega)) (nI_clamp (by omega)) (by show n * n * 8 ≤ 536870912; omega) (by decide) (by show 0 + n * n ≤ 378; omega) dG_init_21 (fun q21 H hP hD hS => ?_)
  refine va_putF (ci := 0) (ty := .array .long) (C := RG) (T := TG) (N := 6) hx hb ht inG tyG tyG_ok nmG hown hK hP hD hS 0 rfl rfl 2 (by decide) (ht _ tw_105) (fun _ h9 => h9) rfl hin rfl (by decide +kernel) rfl rfl (Nat.le_of_ble_eq_true rfl) dG_init_23 (fun H locs hP hD hS => ?_)
  refine lv_aload_n hx hb dG_init_26 rfl (lv_at hl 0 rfl) ?_
  refine lv_iload_n hx hb dG_init_27 rfl (lv_at hl 1 rfl) ?_
  refine lv_iload_n hx hb dG_init_28 rfl (lv_at hl 1 rfl) ?_
  refine lv_iconst (v := 1) hx hb dG_init_29 (by decide) ?_
  refine lv_isub hx hb dG_init_30 ?_
  refine lv_imul hx hb dG_init_31 ?_
  refine lv_iconst (v := 2) hx hb dG_init_32 (by decide) ?_
  refine lv_idiv hx hb dG_init_33 (by decide) ?_
  have hP : va_P D vC [(q0, .inr (0, [.int (nI n), .long (eL n pg_id), .ref q21, .null, .null, .int 0])), (q21, .inl (z 0, n * n, .inr (.inl (fun _ => 0))))] H := hP
  have hD : va_D A [(q0, .inr (0, [.int (nI n), .long (eL n pg_id), .ref q21, .null, .null, .int 0])), (q21, .inl (z 0, n * n, .inr (.inl (fun _ => 0))))] := hD
  refine wti (x' := nI (gcap n)) (g_half n (by omega)) ?_
  refine qNewa (atype := .long) (t0 := 0) (N9 := (gcap n)) (a0 := ((gcap n), .inr (.inl (fun _ => 0)))) hx hb (ht _ tw_123) rfl hK hP hD hS hA rfl (fun _ h9 => h9) (fun _ => rfl) (nI_pos (by omega)) (nI_clamp (by omega)) (by show gcap n * 8 ≤ 536870912; omega) (by decide) (by show 0 + n * n + gcap n ≤ 378; omega) dG_init_34 (fun q34 H hP hD hS => ?_)
  refine va_putF (ci := 0) (ty := .array .long) (C := RG) (T := TG) (N := 6) hx hb ht inG tyG tyG_ok nmG hown hK hP hD hS 0 rfl rfl 3 (by decide) (ht _ tw_106) (fun _ h9 => h9) rfl hin rfl (by decide +kernel) rfl rfl (Nat.le_of_ble_eq_true rfl) dG_init_36 (fun H locs hP hD hS => ?_)
  refine lv_aload_n hx hb dG_init_39 rfl (lv_at hl 0 rfl) ?_
  refine lv_iload_n hx hb dG_init_40 rfl (lv_at hl 1 rfl) ?_
  refine lv_iload_n hx hb dG_init_41 rfl (lv_at hl 1 rfl) ?_
  refine lv_iconst (v := 1) hx hb dG_init_42 (by decide) ?_
  refine lv_isub hx hb dG_init_43 ?_
  refine lv_imul hx hb dG_init_44 ?_
  refine lv_iconst (v := 2) hx hb dG_init_45 (by decide) ?_
  refine lv_idiv hx hb dG_init_46 (by decide) ?_
  have hP : va_P D vC [(q0, .inr (0, [.int (nI n), .long (eL n pg_id), .ref q21, .ref q34, .null, .int 0])), (q21, .inl (z 0, n * n, .inr (.inl (fun _ => 0)))), (q34, .inl (z 0, gcap n, .inr (.inl (fun _ => 0))))] H := hP
  have hD : va_D A [(q0, .inr (0, [.int (nI n), .long (eL n pg_id), .ref q21, .ref q34, .null, .int 0])), (q21, .inl (z 0, n * n, .inr (.inl (fun _ => 0)))), (q34, .inl (z 0, gcap n, .inr (.inl (fun _ => 0))))] := hD
  refine wti (x' := nI (gcap n)) (g_half n (by omega)) ?_
  refine qNewa (atype := .int) (t0 := 1) (N9 := (gcap n)) (a0 := ((gcap n), .inl (fun _ => 0))) hx hb (ht _ tw_124) rfl hK hP hD hS hA rfl (fun _ h9 => h9) (fun _ => rfl) (nI_pos (by omega)) (nI_clamp (by omega)) (by show gcap n * 4 ≤ 536870912; omega) (by decide) (by show 0 + n * n + gcap n + gcap n ≤ 378; omega) dG_init_47 (fun q47 H hP hD hS => ?_)
  refine va_putF (ci := 0) (ty := .array .int) (C := RG) (T := TG) (N := 6) hx hb ht inG tyG tyG_ok nmG hown hK hP hD hS 0 rfl rfl 4 (by decide) (ht _ tw_107) (fun _ h9 => h9) rfl hin rfl (by decide +kernel) rfl rfl (Nat.le_of_ble_eq_true rfl) dG_init_49 (fun H locs hP hD hS => ?_)
  refine lv_aload_n hx hb dG_init_52 rfl (lv_at hl 0 rfl) ?_
  have hP : va_P D vC (gW z (fun i => if i = 0 then q0 else if i = 1 then q21 else if i = 2 then q34 else q47) n 0 (fun _ => 0) (fun _ => 0) (fun _ => 0)) H := hP
  have hD : va_D A (gW z (fun i => if i = 0 then q0 else if i = 1 then q21 else if i = 2 then q34 else q47) n 0 (fun _ => 0) (fun _ => 0) (fun _ => 0)) := hD
  generalize hgg : (fun i : Nat => if i = 0 then q0 else if i = 1 then q21 else if i = 2 then q34 else q47) = gg at hP hD
  have hg0 : gg 0 = q0 := by rw [← hgg]; rfl
  clear hgg
  have hP9 := hP
  have hD9 := hD
  have hS9 := hS
  subst hg0
  have hP := hP9
  have hD := hD9
  have hS := hS9
  refine W.widen (k := 3) (n := 378) (by omega) (by omega) ?_
  refine qW_v (ci := 0) (q0 := 0) (wr := []) (As := []) (rest := []) ⟨hx, hb, hml, hown, ht⟩ (c_G_clear l D z gg H.size n 0 (fun _ => 0) (fun _ => 0) (fun _ => 0) hn) (cB 0 ht gG_clear rfl tw_61 tw_95 (by decide +kernel) ⟨by decide, by decide⟩) tw_96 tw_97 hK hP hD hS hA [0, 1, 2, 3] [] rfl rfl rfl rfl (by decide) rfl rfl rfl rfl hl.1 rfl (Nat.le_of_ble_eq_true rfl) dG_init_53 ⟨by decide, by decide⟩ (fun u53 H locs h53 hP hD hS => ?_)
  exact W.vret hx hb hr (fun t9 ht hW => ⟨⟨(gg, u53), rfl, ⟨rfl, h53⟩, by rw [ht]; exact hP, hD⟩, hS.F ht⟩) hS.2.2 dG_init_56
