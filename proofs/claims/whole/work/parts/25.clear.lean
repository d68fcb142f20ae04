/-! Arrays.fill; Group.clear. -/
section SW
variable {p : Program} {l : Launch} {e : Env} {R : Room} {s : State} {m : MethodId} {args : Array Value} {below : List Frame} {meth : Method} {c : Code} {H : Heap} {locs : List Loc} {cells slots : Nat} {Q : State → Prop}
variable {cc bytes : ByteArray} {nL maxL index n mc ms : Nat} {own C : String} {y : MethodName} {ret : Option FieldType} {rm : Room} {ws ws' : List Cond}
variable {pc : Nat} {ls : Array Slot} {rest st0 As : List Value} {D : va_G} {ty : List (ClassId × FieldType)} {cw : va_W} {A : Nat → Prop} {H0 : Heap} {w0 wr : va_W}
/-- a static method that writes in cells handed in -/
theorem qSW_v {Sg : Type} {post : Sg → Prop} {w1 : Sg → va_W} (S : CallFix p m c cc nL s args TB own) (hM : Met l y ws rm (va_Pc As (fun U => U.heap.size = H.size ∧ va_P D vC cw U.heap ∧ va_K D vC ty U ∧ va_D (fun _ => True) cw)) (va_Qv post (fun u t => va_P D vC (w1 u) t.heap ∧ va_D (va_A cw H.size) (w1 u)) (va_A cw H.size)) mc ms (va_A cw H.size)) (cB : CallB R s args own index y bytes maxL ret ws rm mc ms n) (hst : Cond.static y ∈ TB)
    (hK : va_K D vC ty s) (hP : va_P D vC w0 H) (hD : va_D A w0) (hS : va_S A H0 H locs) (hA : ∀ q, H0.size ≤ q → A q) (isC isR : List Nat) (hC : isC.map (fun i => w0[i]?) = cw.map some) (hR : isR.map (fun i => w0[i]?) = wr.map some) (hnC : va_nd isC = true) (hnR : va_nd isR = true) (hdis : ∀ i ∈ isR, i ∉ isC) (hsub : isC.filterMap (fun i => w0[i]?) = cw)
    (hn : As.length = n) (hsize : ls.size = nL) (hstack : st0 = As.reverse ++ rest) (hW : (rest.map fun v => v.category).sum ≤ 8) (hdg : decode cc pc = .ok (.invokestatic index, 3)) (hf : cells + mc ≤ R.cells ∧ slots + ms ≤ R.slots)
    (kk : ∀ (u : Sg) (H1 : Heap) (locs1 : List Loc), post u → va_P D vC (wr ++ w1 u) H1 → va_D A (wr ++ w1 u) → va_S A H0 H1 locs1 → W p l e R s m args below meth c H1 locs1 (cells + mc) (slots + ms) Q (F0 m (pc + 3) ls rest)) : W p l e R s m args below meth c H locs cells slots Q (F0 m pc ls st0) := by
  have hPc := hP.sub (ws' := cw) isC hsub
  have hDc := hD.sub (ws' := cw) isC hnC hC
  have hFc := va_free (wc := cw) hD hS hA isC hC
  refine va_callv (va_runS (As := As) (rest := rest) S hM ⟨cB, S.2.2.2.2 _ hst⟩ ⟨fb_worldD, fun U hU hW => ⟨rfl, by rw [hU], by rw [hU]; exact hPc, va_K.moved hW.alike hK, hDc.weaken (fun _ _ _ _ => trivial)⟩⟩ rfl hn hsize hstack (lv_room hW) hdg hf) hS (fun q _ h => hFc q h) hFc (fun u t H1 locs1 ht hvm hp hB hz1 hk1 hS => ?_)
  obtain ⟨hP1, hD1⟩ := hB
  rw [ht] at hP1
  obtain ⟨hP2, hD2⟩ := va_join (wr := wr) hP hD isC isR hC hR hnR hdis hk1 hFc hP1 hD1
  exact kk u H1 locs1 hp hP2 hD2 hS
end SW
set_option maxHeartbeats 1000000 in
set_option maxRecDepth 100000 in
/-- Arrays.fill of longs -/
theorem c_A_fill (l : Launch) (D : va_G) (z : Nat → ClassId) (sz q0 N : Nat) (f : Nat → Int64) (x : Int64) (hN : N < 2 ^ 31) : Met l yA_fill wA_fill (rmF 0) (va_Pc [.ref q0, .long x] (fun U => U.heap.size = sz ∧ va_P D vC [(q0, .inl (z 0, N, .inr (.inl f)))] U.heap ∧ va_K D vC (tyL z) U ∧ va_D (fun _ => True) [(q0, .inl (z 0, N, .inr (.inl f)))])) (va_Qv (fun f2 : Nat → Int64 => ∀ j, j < N → f2 j = x) (fun f2 t => va_P D vC [(q0, .inl (z 0, N, .inr (.inl f2)))] t.heap ∧ va_D (va_A [(q0, .inl (z 0, N, .inr (.inl f)))] sz) [(q0, .inl (z 0, N, .inr (.inl f2)))]) (va_A [(q0, .inl (z 0, N, .inr (.inl f)))] sz)) 0 0 (va_A [(q0, .inl (z 0, N, .inr (.inl f)))] sz) := by
  refine Met.ofW (cc := prog_18_method_101_code) (maxL := 5) (ret := none) (by decide) rfl ?_
  intro p e s m args below meth c s₁ B hml hv
  have hx := B.exec
  have hb := B.bytes
  have hr := B.returns
  have ht : ∀ w ∈ TB, w.before args s = true := fun w h => atoms_spec (ws := wA_fill) B.pre w (List.mem_cons_of_mem _ h)
  have hown : s.vm.findClass "java/util/Arrays" = some m.cls := findClass_of_methodNamed B.named
  have hlocks := B.notSynchronized
  obtain ⟨rfl, hsz, hP, hK, hD0⟩ := hv
  subst hsz
  have hD := hD0.self (sz := s.heap.size)
  generalize hAe : va_A ([(q0, .inl (z 0, N, .inr (.inl f)))]) s.heap.size = A at hD ⊢
  have hA : ∀ q : Nat, s.heap.size ≤ q → A q := fun q h => by rw [← hAe]; exact Or.inr h
  have hS : va_S A s.heap s.heap [] := va_S.rf
  have hl := lv_entry ([.ref q0, .long x]) (n := 5) (Nat.le_of_ble_eq_true rfl)
  rw [lg_entry_eq]
  generalize (lg_sl ([.ref q0, .long x]) ++ List.replicate (5 - (lg_sl ([.ref q0, .long x])).length) Slot.unset).toArray = ls at hl ⊢
  have hl : lv_has ls 5 [(0, .ref q0), (1, .long x)] := hl
  refine lv_iconst (v := 0) hx hb dA_fill_0 (by decide) ?_
  refine lv_istore_n hx hb dA_fill_1 rfl hl (by decide) rfl (fun ls hl => ?_)
  replace hl : lv_has ls 5 [(3, .int (nI 0)), (0, .ref q0), (1, .long x)] := hl
  refine lv_aload_n hx hb dA_fill_2 rfl (lv_at hl 1 rfl) ?_
  refine va_alen hx hb hK hP 0 0 rfl rfl rfl dA_fill_3 ?_
  refine wti (x' := nI N) rfl ?_
  refine lv_istore hx hb dA_fill_4 hl (by decide) rfl (fun ls hl => ?_)
  replace hl : lv_has ls 5 [(4, .int (nI N)), (3, .int (nI 0)), (0, .ref q0), (1, .long x)] := hl
  refine wl (σ := Nat × (Nat → Int64)) (I := fun d st H locs ls => d + st.1 = N ∧ (∀ j, j < st.1 → st.2 j = x) ∧ va_P D vC [(q0, .inl (z 0, N, .inr (.inl st.2)))] H ∧ va_D A [(q0, .inl (z 0, N, .inr (.inl st.2)))] ∧ va_S A s.heap H locs ∧ lv_has ls 5 [(3, .int (nI st.1)), (4, .int (nI N)), (0, .ref q0), (1, .long x)]) ?_ N (0, f) _ _ ls ⟨rfl, fun j hj => absurd hj (Nat.not_lt_zero j), hP, hD, hS, lv_sub hl [1, 0, 2, 3] rfl⟩
  rintro d ⟨k, f1⟩ H locs ls ⟨hdk, hf1, hP, hD, hS, hl⟩ ih
  have hdk : d + k = N := hdk
  have hf1 : ∀ j, j < k → f1 j = x := hf1
  have hP : va_P D vC [(q0, .inl (z 0, N, .inr (.inl f1)))] H := hP
  have hD : va_D A [(q0, .inl (z 0, N, .inr (.inl f1)))] := hD
  have hl : lv_has ls 5 [(3, .int (nI k)), (4, .int (nI N)), (0, .ref q0), (1, .long x)] := hl
  refine lv_iload_n hx hb dA_fill_6 rfl (lv_at hl 0 rfl) ?_
  refine lv_iload hx hb dA_fill_7 (lv_at hl 1 rfl) ?_
  refine lv_icmp_ge (tgt := 22) hx hb dA_fill_9 rfl (fun h => ?_) (fun h => ?_)
  · have hk := (nI_leI (by omega) (by omega)).mp h
    exact W.vret hx hb hr (fun t ht hW => ⟨⟨f1, rfl, fun j hj => hf1 j (by omega), by rw [ht]; exact hP, hD⟩, hS.F ht⟩) hS.2.2 dA_fill_22
  have hk : k < N := by
    rw [nI_leI (by omega) (by omega)] at h
    omega
  refine lv_aload_n hx hb dA_fill_12 rfl (lv_at hl 2 rfl) ?_
  refine lv_iload_n hx hb dA_fill_13 rfl (lv_at hl 0 rfl) ?_
  refine lv_lload_n hx hb dA_fill_14 rfl (lv_at hl 3 rfl) ?_
  refine va_last hx hb hK hP hD hS 0 0 rfl rfl (vp_in_nI hk hN) dA_fill_15 (fun H locs hP hD hS => ?_)
  rw [nI_clamp (by omega)] at hP hD
  refine lv_iinc (k := 0) (v := (nI (k + 1))) hx hb dA_fill_16 hl rfl (by exact nI_1 _) (by decide) rfl (fun ls hl => ?_)
  replace hl : lv_has ls 5 [(3, .int (nI (k + 1))), (4, .int (nI N)), (0, .ref q0), (1, .long x)] := hl
  refine lv_goto (tgt := 6) hx hb dA_fill_19 rfl ?_
  refine ih (d - 1) (k + 1, vp_updL f1 k x) _ _ ls (by omega) ⟨by show d - 1 + (k + 1) = N; omega, fun j hj => ?_, hP, hD, hS, lv_sub hl [0, 1, 2, 3] rfl⟩
  show vp_updL f1 k x j = x
  have hj : j < k + 1 := hj
  by_cases q : j = k
  · rw [q, pk_uLs]
  · rw [pk_uLn q]; exact hf1 j (by omega)
set_option maxHeartbeats 1000000 in
set_option maxRecDepth 100000 in
/-- clear: the identity alone -/
theorem c_G_clear (l : Launch) (D : va_G) (z : Nat → ClassId) (g : Nat → Nat) (sz n nc : Nat) (fS fM : Nat → Int64) (fL : Nat → Int32) (hn : n ≤ 14) : Met l yG_clear wG_clear (rmF 1) (va_Pc [.ref (g 0)] (fun U => U.heap.size = sz ∧ va_P D vC (gW z g n nc fS fM fL) U.heap ∧ va_K D vC (tyL z) U ∧ va_D (fun _ => True) (gW z g n nc fS fM fL))) (va_Qv (fun u : gSt => gGp n u (fun x => x = pg_id) ∧ u.1 = pg_clear n ∧ u.2.1 = 0) (fun u t => va_P D vC (gWu z g n u) t.heap ∧ va_D (va_A (gW z g n nc fS fM fL) sz) (gWu z g n u)) (va_A (gW z g n nc fS fM fL) sz)) 0 0 (va_A (gW z g n nc fS fM fL) sz) := by
  have hnn := nn_lt hn
  refine Met.ofW (cc := prog_5_method_2_code) (maxL := 2) (ret := none) (by decide) rfl ?_
  intro p e s m args below meth c s₁ B hml hv
  have hx := B.exec
  have hb := B.bytes
  have hr := B.returns
  have ht : ∀ w ∈ TB, w.before args s = true := fun w h => atoms_spec (ws := wG_clear) B.pre w (List.mem_cons_of_mem _ h)
  have hown : s.vm.findClass "PermutationDesk$Group" = some m.cls := findClass_of_methodNamed B.named
  have hlocks := B.notSynchronized
  obtain ⟨rfl, hsz, hP, hK, hD0⟩ := hv
  subst hsz
  have hD := hD0.self (sz := s.heap.size)
  generalize hAe : va_A (gW z g n nc fS fM fL) s.heap.size = A at hD ⊢
  have hA : ∀ q : Nat, s.heap.size ≤ q → A q := fun q h => by rw [← hAe]; exact Or.inr h
  have hS : va_S A s.heap s.heap [] := va_S.rf
  have hl := lv_entry ([.ref (g 0)]) (n := 2) (Nat.le_of_ble_eq_true rfl)
  rw [lg_entry_eq]
  generalize (lg_sl ([.ref (g 0)]) ++ List.replicate (2 - (lg_sl ([.ref (g 0)])).length) Slot.unset).toArray = ls at hl ⊢
  have hl : lv_has ls 2 [(0, .ref (g 0))] := hl
  refine lv_aload_n hx hb dG_clear_0 rfl (lv_at hl 0 rfl) ?_
  refine va_get (ci := 0) (C := RG) (T := TG) (N := 6) hx hb ht inG hown hK hP 0 rfl rfl 2 (by decide) (ht _ tw_105) (fun _ h9 => h9) rfl dG_clear_1 ?_
  refine W.ldc2 hx hb hown (ht _ tw_99) rfl dG_clear_4 ?_
  refine qSW_v (wr := [(g 0, .inr (0, [.int (nI n), .long (eL n pg_id), .ref (g 1), .ref (g 2), .ref (g 3), .int (nI nc)])), (g 2, .inl (z 0, gcap n, .inr (.inl fM))), (g 3, .inl (z 1, gcap n, .inl fL))]) (As := [.ref (g 1), .long (-1)]) (rest := []) ⟨hx, hb, hml, hown, ht⟩ (c_A_fill l D z s.heap.size (g 1) (n * n) fS (-1) hnn) (cB 2 ht gA_fill rfl tw_63 tw_100 (by decide +kernel) ⟨by decide, by decide⟩) tw_101 hK hP hD hS hA [1] [0, 2, 3] rfl rfl rfl rfl (by decide) rfl rfl hl.1 rfl (Nat.le_of_ble_eq_true rfl) dG_clear_7 ⟨by decide, by decide⟩ (fun u7 H locs h7 hP hD hS => ?_)
  have hP := hP.sub (ws' := gW z g n nc u7 fM fL) [0, 3, 1, 2] rfl
  have hD := hD.sub (ws' := gW z g n nc u7 fM fL) [0, 3, 1, 2] (by decide) rfl
  refine lv_iconst (v := 0) hx hb dG_clear_10 (by decide) ?_
  refine lv_istore_n hx hb dG_clear_11 rfl hl (by decide) rfl (fun ls hl => ?_)
  replace hl : lv_has ls 2 [(1, .int (nI 0)), (0, .ref (g 0))] := hl
  refine wl (σ := Nat × (Nat → Int64)) (I := fun d st H locs ls => d + st.1 = n ∧ (∀ a i, a < n → i < n → st.2 (a * n + i) = if a = i ∧ a < st.1 then eL n pg_id else -1) ∧ va_P D vC (gW z g n nc st.2 fM fL) H ∧ va_D A (gW z g n nc st.2 fM fL) ∧ va_S A s.heap H locs ∧ lv_has ls 2 [(1, .int (nI st.1)), (0, .ref (g 0))]) ?_ n (0, u7) _ _ ls ⟨rfl, fun a i ha hi => by
    show u7 (a * n + i) = if a = i ∧ a < 0 then eL n pg_id else -1
    rw [if_neg (by omega)]
    exact h7 _ (ix_lt ha hi), hP, hD, hS, hl⟩
  clear hP hD hS hl
  rintro d ⟨k, f1⟩ H locs ls ⟨hdk, hf1, hP, hD, hS, hl⟩ ih
  have hdk : d + k = n := hdk
  have hf1 : ∀ a i, a < n → i < n → f1 (a * n + i) = if a = i ∧ a < k then eL n pg_id else -1 := hf1
  have hP : va_P D vC (gW z g n nc f1 fM fL) H := hP
  have hD : va_D A (gW z g n nc f1 fM fL) := hD
  have hl : lv_has ls 2 [(1, .int (nI k)), (0, .ref (g 0))] := hl
  refine lv_iload_n hx hb dG_clear_12 rfl (lv_at hl 0 rfl) ?_
  refine lv_aload_n hx hb dG_clear_13 rfl (lv_at hl 1 rfl) ?_
  refine va_get (ci := 0) (C := RG) (T := TG) (N := 6) hx hb ht inG hown hK hP 0 rfl rfl 0 (by decide) (ht _ tw_103) (fun _ h9 => h9) rfl dG_clear_14 ?_
  refine lv_icmp_ge (tgt := 43) hx hb dG_clear_17 rfl (fun h => ?_) (fun h => ?_)
  · have hk := (nI_leI (by omega) (by omega)).mp h
    refine lv_aload_n hx hb dG_clear_43 rfl (lv_at hl 1 rfl) ?_
    refine lv_iconst (v := 0) hx hb dG_clear_44 (by decide) ?_
    refine va_put (ci := 0) (ty := .int) (C := RG) (T := TG) (N := 6) hx hb ht inG tyG tyG_ok nmG hown hK hP hD hS 0 rfl rfl 5 (by decide) (ht _ tw_108) (fun _ h9 => h9) rfl (by decide +kernel) rfl rfl (Nat.le_of_ble_eq_true rfl) dG_clear_45 (fun H locs hP hD hS => ?_)
    have hP : va_P D vC (gW z g n 0 f1 fM fL) H := hP
    have hD : va_D A (gW z g n 0 f1 fM fL) := hD
    have hgt := pg_gt_clear n (fun _ => pg_id) (fun _ => 0)
    exact W.vret hx hb hr (fun t ht hW => ⟨⟨(pg_clear n, 0, fun _ => pg_id, fun _ => 0, f1, fM, fL), rfl, ⟨⟨⟨hgt.1, hgt.2.1, fun a i ha hi => by
      show f1 (a * n + i) = oL n (pg_clear n a i)
      rw [hf1 a i ha hi]
      unfold pg_clear
      by_cases q : a = i
      · rw [if_pos ⟨q, by omega⟩, if_pos ⟨q, by omega⟩]; rfl
      · rw [if_neg (fun r => q r.1), if_neg (fun r => q r.1)]; rfl, fun a ha => absurd ha (Nat.not_lt_zero a), fun a ha => absurd ha (Nat.not_lt_zero a)⟩, hgt.2.2.1, hgt.2.2.2⟩, rfl, rfl⟩, by rw [ht]; exact hP, hD⟩, hS.F ht⟩) hS.2.2 dG_clear_48
  have hk : k < n := by
    rw [nI_leI (by omega) (by omega)] at h
    omega
  refine lv_aload_n hx hb dG_clear_20 rfl (lv_at hl 1 rfl) ?_
  refine va_get (ci := 0) (C := RG) (T := TG) (N := 6) hx hb ht inG hown hK hP 0 rfl rfl 2 (by decide) (ht _ tw_105) (fun _ h9 => h9) rfl dG_clear_21 ?_
  refine lv_iload_n hx hb dG_clear_24 rfl (lv_at hl 0 rfl) ?_
  refine lv_aload_n hx hb dG_clear_25 rfl (lv_at hl 1 rfl) ?_
  refine va_get (ci := 0) (C := RG) (T := TG) (N := 6) hx hb ht inG hown hK hP 0 rfl rfl 0 (by decide) (ht _ tw_103) (fun _ h9 => h9) rfl dG_clear_26 ?_
  refine lv_imul hx hb dG_clear_29 ?_
  refine lv_iload_n hx hb dG_clear_30 rfl (lv_at hl 0 rfl) ?_
  refine lv_iadd hx hb dG_clear_31 ?_
  refine W.eq (g2 := F0 m 32 ls [.int (nI (k * n + k)), .ref (g 1)]) (by rw [pk_mul, nI_add]) ?_
  have hix := ix_lt hk hk
  refine lv_aload_n hx hb dG_clear_32 rfl (lv_at hl 1 rfl) ?_
  refine va_get (ci := 0) (C := RG) (T := TG) (N := 6) hx hb ht inG hown hK hP 0 rfl rfl 1 (by decide) (ht _ tw_104) (fun _ h9 => h9) rfl dG_clear_33 ?_
  refine va_last hx hb hK hP hD hS 1 0 rfl rfl (vp_in_nI hix hnn) dG_clear_36 (fun H locs hP hD hS => ?_)
  rw [nI_clamp (by omega)] at hP hD
  refine lv_iinc (k := 0) (v := (nI (k + 1))) hx hb dG_clear_37 hl rfl (by exact nI_1 _) (by decide) rfl (fun ls hl => ?_)
  replace hl : lv_has ls 2 [(1, .int (nI (k + 1))), (0, .ref (g 0))] := hl
  refine lv_goto (tgt := 12) hx hb dG_clear_40 rfl ?_
  refine ih (d - 1) (k + 1, vp_updL f1 (k * n + k) (eL n pg_id)) _ _ ls (by omega) ⟨by show d - 1 + (k + 1) = n; omega, fun a i ha hi => ?_, hP, hD, hS, lv_sub hl [0, 1] rfl⟩
  show vp_updL f1 (k * n + k) (eL n pg_id) (a * n + i) = if a = i ∧ a < k + 1 then eL n pg_id else -1
  by_cases q : a * n + i = k * n + k
  · obtain ⟨rfl, rfl⟩ := ix_inj hi hk q
    rw [pk_uLs, if_pos ⟨rfl, by omega⟩]
  · rw [pk_uLn q, hf1 a i ha hi]
    by_cases r : a = i ∧ a < k
    · rw [if_pos r, if_pos ⟨r.1, by omega⟩]
    · rw [if_neg r, if_neg (fun t => by
        obtain ⟨t1, t2⟩ := t
        have : a = k := by omega
        subst this; subst t1
        exact q rfl)]
