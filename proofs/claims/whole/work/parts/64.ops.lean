/-! The law: one case of its switch after the other. -/
section QL
variable {p : Program} {l : Launch} {e : Env} {R : Room} {s : State} {m : MethodId} {args : Array Value} {below : List Frame} {meth : Method} {c : Code} {H : Heap} {locs : List Loc} {cells slots : Nat} {Q : State → Prop}
variable {cc bytes : ByteArray} {nL maxL index n mc ms : Nat} {own C : String} {y : MethodName} {ret : Option FieldType} {rm : Room} {ws ws' : List Cond} {hh : List (Nat × Nat × Nat × Nat)}
variable {pc : Nat} {ls : Array Slot} {rest st0 As : List Value} {D : va_G} {ty : List (ClassId × FieldType)} {cw : va_W} {A : Nat → Prop} {w0 wr : va_W}
/-- a static method with a table that needs what throws -/
theorem qL_i {Sg : Type} {post : Int32 → Sg → Prop} {w1 : Sg → va_W} (S : CallFix p m c cc nL s args TB own) (hM : Met l y ws rm (va_Pc As (xPc D ty cw H.size)) (va_Qi post (fun u t => va_P D vC (w1 u) t.heap ∧ va_D (va_A cw H.size) (w1 u)) (va_A cw H.size)) mc ms (va_A cw H.size)) (cW : vx_CSW R s args own index y bytes maxL ret hh ws rm mc ms n)
    (hK : va_K D vC ty s) (hP : va_P D vC w0 H) (hD : va_D A w0) (hS : va_S A s.heap H locs) (hA : ∀ q, s.heap.size ≤ q → A q) (hV : xV s) (hH : xH A s s.heap) (isC isR : List Nat) (hC : isC.map (fun i => w0[i]?) = cw.map some) (hR : isR.map (fun i => w0[i]?) = wr.map some) (hnC : va_nd isC = true) (hnR : va_nd isR = true) (hdis : ∀ i ∈ isR, i ∉ isC) (hsub : isC.filterMap (fun i => w0[i]?) = cw)
    (hn : As.length = n) (hsize : ls.size = nL) (hstack : st0 = As.reverse ++ rest) (hW : (rest.map fun v => v.category).sum ≤ 8) (hdg : decode cc pc = .ok (.invokestatic index, 3)) (hf : cells + mc ≤ R.cells ∧ slots + ms ≤ R.slots)
    (kk : ∀ (x : Int32) (u : Sg) (H1 : Heap) (locs1 : List Loc), post x u → va_P D vC (wr ++ w1 u) H1 → va_D A (wr ++ w1 u) → va_S A s.heap H1 locs1 → W p l e R s m args below meth c H1 locs1 (cells + mc) (slots + ms) Q (F0 m (pc + 3) ls (.int x :: rest))) : W p l e R s m args below meth c H locs cells slots Q (F0 m pc ls st0) := by
  have hFc := va_free (wc := cw) hD hS hA isC hC
  refine va_calli (vx_runSW (g := F0 m pc ls st0) (As := As) (rest := rest) S hM cW ⟨fb_worldX, fun U hU hW => ⟨rfl, x_pre hK hP hD hS hA hV hH hC hnC hsub hU hW⟩⟩ rfl hn hsize hstack (lv_room hW) hdg hf) hS (fun q _ h => hFc q h) hFc (fun x u t H1 locs1 ht hvm hp hB hz1 hk1 hS => ?_)
  obtain ⟨hP1, hD1⟩ := hB
  rw [ht] at hP1
  obtain ⟨hP2, hD2⟩ := va_join (wr := wr) hP hD isC isR hC hR hnR hdis hk1 hFc hP1 hD1
  exact kk x u H1 locs1 hp hP2 hD2 hS
end QL
abbrev LW (z : Nat → ClassId) (d e9 : Nat → Nat) (n : Nat) (u : dSt) (v : mSt) (o : Nat) (fO : Nat → Int64) : va_W := dW z d n u ++ (mWu z e9 n v ++ [(o, .inl (z 0, 1, .inr (.inl fO)))])
theorem LSt.inv {n : Nat} {u : dSt} {v : mSt} (h : LSt n u v) : ∃ tx g tg Gs, n ≤ 7 ∧ u.2.2.1 ≤ 6 ∧ v.2.1 = u.1 ∧ v.2.2.2.1 = u.2.2.1 ∧ dR n tx u.1 g u.2.2.1 tg Gs u.2.1 u.2.2.2.1 u.2.2.2.2.1 u.2.2.2.2.2.2 ∧ mR n tx v.2.1 g v.2.2.2.1 tg Gs v.2.2.1 v.2.2.2.2.1 v.2.2.2.2.2.1 v.2.2.2.2.2.2.1 v.2.2.2.2.2.2.2.1 := by
  obtain ⟨⟨tx, len, g, gc, tg, Gs⟩, ⟨h1, h2, h3, h4⟩, h5, h6, h7⟩ := h
  refine ⟨tx, g, tg, Gs, ?_, ?_, ?_, ?_, ?_, ?_⟩
  · exact h4.1.2.2.1
  · rw [h3]; exact h4.1.2.1
  · rw [h2]; exact h5
  · rw [h3]; exact h6
  · rw [h2, h3]; exact ⟨h1, h4⟩
  · rw [h5, h6]; exact h7
set_option maxHeartbeats 8000000 in
set_option maxRecDepth 100000 in
theorem lw_value {p : Program} {l : Launch} {e : Env} {R : Room} {s : State} {m : MethodId} {args : Array Value} {below : List Frame} {meth : Method} {c : Code} {H : Heap} {locs : List Loc} {cells slots : Nat} {Q : State → Prop} {ls : Array Slot} {D : va_G} {z : Nat → ClassId} {d e9 : Nat → Nat} {n : Nat} {u : dSt} {v : mSt} {o : Nat} {fO : Nat → Int64} {q N i : Nat} {f : Nat → Int32} {A : Nat → Prop} (hst : l.stackTraces = false) (hx : p.tables.exec = Jvm.exec) (hb : c.code = code) (hml : c.maxLocals = 7) (hown : s.vm.findClass "PermutationDeskLaw" = some m.cls) (ht : ∀ w ∈ TB, w.before args s = true) (hRf : 40 ≤ R.frames) (hRl : 2000 ≤ R.locals) (hcl : cells + 10 ≤ R.cells) (hsl : slots + 100 ≤ R.slots) (hK : va_K D vC (tyL z) s) (hV : xV s) (hH : xH A s s.heap) (hA : ∀ q, s.heap.size ≤ q → A q) (hP : va_P D vC (LW z d e9 n u v o fO) H) (hD : va_D A (LW z d e9 n u v o fO)) (hS : va_S A s.heap H locs) (hN : N < 2 ^ 31) (hi : i + 5 ≤ N) (hX : va_X q N f s s.heap) (hbl : q < s.heap.size) (hbA : ¬ A q) (hLS : LSt n u v) (hl : lv_has ls 7 [(4, .int (nI i)), (0, .ref q), (1, .ref (d 0)), (2, .ref (e9 0)), (3, .ref o)]) (kk : ∀ (u : dSt) (v : mSt) (fO : Nat → Int64) (H : Heap) (locs : List Loc) (ls : Array Slot), LSt n u v → va_P D vC (LW z d e9 n u v o fO) H → va_D A (LW z d e9 n u v o fO) → va_S A s.heap H locs → lv_has ls 7 [(4, .int (nI i)), (0, .ref q), (1, .ref (d 0)), (2, .ref (e9 0)), (3, .ref o)] → W p l e R s m args below meth c H locs (cells + 10) (slots + 100) Q (F0 m 1052 ls [])) : W p l e R s m args below meth c H locs cells slots Q (F0 m 170 ls []) := by
  obtain ⟨tx, g, tg, Gs, hn7, hgc6, hvl, hvg, hdR, hmR⟩ := hLS.inv
  obtain ⟨len, ft, gc, fg, fo, gs, us⟩ := u
  replace hdR : dR n tx len g gc tg Gs ft fg fo us := hdR
  replace hgc6 : gc ≤ 6 := hgc6
  replace hvl : v.2.1 = len := hvl
  replace hvg : v.2.2.2.1 = gc := hvg
  have hGG : ∀ i, i < 5 → pg_G n (Gs i) := fun i hi => (hdR.2.2.2.1 i hi).2.1
  have hgP : ∀ i, i < gc → pg_P n (g i) := fun i hi => (hdR.2.1.2.2.2.2 i hi).1
  refine lv_aload_n hx hb dL_law_170 rfl (lv_at hl 2 rfl) ?_
  refine lv_aload_n hx hb dL_law_171 rfl (lv_at hl 1 rfl) ?_
  refine lv_iload hx hb dL_law_172 (lv_at hl 0 rfl) ?_
  refine lv_iconst (v := 1) hx hb dL_law_174 (by decide) ?_
  refine lv_iadd hx hb dL_law_175 ?_
  refine wti (x' := nI (i + 1)) (nI_add i 1) ?_
  refine va_sld hx hb hX hbl hbA hS (vp_in_nI (by omega) hN) dL_law_176 ?_
  refine wti (x' := f (i + 1)) (by rw [nI_clamp (by omega)]) ?_
  refine lv_aload_n hx hb dL_law_177 rfl (lv_at hl 4 rfl) ?_
  refine qL_i (wr := mWu z e9 n v) (As := [.ref (d 0), .int (f (i + 1)), .ref o]) (rest := []) ⟨hx, hb, hml, hown, ht⟩ (c_L_value l hst D z d H.size n len gc ft fg fo gs us tx g tg Gs hdR o fO (f (i + 1))) (vx_cwSW 3 ht (tb_c tw_169 (tb_c tw_170 (tb_c tw_58 gL_value))) rfl rfl rfl (by decide +kernel) ⟨Nat.le_trans (Nat.le_of_ble_eq_true rfl) hRf, Nat.le_trans (Nat.le_of_ble_eq_true rfl) hRl⟩) hK hP hD hS hA hV hH [0, 1, 2, 3, 4, 5, 6, 7, 8, 9, 10, 11, 12, 13, 14, 15, 16, 17, 18, 19, 20, 21, 22, 23, 24, 25, 26, 27, 28, 29, 30, 31, 32, 50] [33, 34, 35, 36, 37, 38, 39, 40, 41, 42, 43, 44, 45, 46, 47, 48, 49] rfl rfl rfl rfl (by decide) rfl rfl hl.1 rfl (Nat.le_of_ble_eq_true rfl) dL_law_178 ⟨by show _ + _ ≤ _; omega, by show _ + _ ≤ _; omega⟩ (fun r178 u178 H locs h178 hP hD hS => ?_)
  replace hP := hP.sub (ws' := LW z d e9 n u178.1 v o u178.2) [17, 18, 19, 20, 21, 22, 23, 24, 25, 26, 27, 28, 29, 30, 31, 32, 33, 34, 35, 36, 37, 38, 39, 40, 41, 42, 43, 44, 45, 46, 47, 48, 49, 0, 1, 2, 3, 4, 5, 6, 7, 8, 9, 10, 11, 12, 13, 14, 15, 16, 50] rfl
  replace hD := hD.sub (ws' := LW z d e9 n u178.1 v o u178.2) [17, 18, 19, 20, 21, 22, 23, 24, 25, 26, 27, 28, 29, 30, 31, 32, 33, 34, 35, 36, 37, 38, 39, 40, 41, 42, 43, 44, 45, 46, 47, 48, 49, 0, 1, 2, 3, 4, 5, 6, 7, 8, 9, 10, 11, 12, 13, 14, 15, 16, 50] rfl rfl
  refine lv_istore hx hb dL_law_181 hl (by decide) rfl (fun ls hl => ?_)
  replace hl : lv_has ls 7 [(5, .int r178), (4, .int (nI i)), (0, .ref q), (1, .ref (d 0)), (2, .ref (e9 0)), (3, .ref o)] := hl
  refine lv_aload_n hx hb dL_law_183 rfl (lv_at hl 4 rfl) ?_
  refine lv_aload_n hx hb dL_law_184 rfl (lv_at hl 2 rfl) ?_
  refine lv_iload hx hb dL_law_185 (lv_at hl 1 rfl) ?_
  refine lv_iconst (v := 1) hx hb dL_law_187 (by decide) ?_
  refine lv_iadd hx hb dL_law_188 ?_
  refine wti (x' := nI (i + 1)) (nI_add i 1) ?_
  refine va_sld hx hb hX hbl hbA hS (vp_in_nI (by omega) hN) dL_law_189 ?_
  refine wti (x' := f (i + 1)) (by rw [nI_clamp (by omega)]) ?_
  refine qW_i (ci := 5) (q0 := 0) (wr := dW z d n u178.1 ++ [(o, .inl (z 0, 1, .inr (.inl u178.2)))]) (As := [.int (f (i + 1))]) (rest := []) ⟨hx, hb, hml, hown, ht⟩ (c_M_value l D z e9 n _ tx g tg Gs hmR (f (i + 1))) (cB 1 ht gM_value rfl tw_64 tw_741 (by decide +kernel) ⟨Nat.le_trans (Nat.le_of_ble_eq_true rfl) hRf, Nat.le_trans (Nat.le_of_ble_eq_true rfl) hRl⟩) tw_742 tw_743 hK hP hD hS hA [33, 34, 35, 36, 37, 38, 39, 40, 41, 42, 43, 44, 45, 46, 47, 48, 49] [0, 1, 2, 3, 4, 5, 6, 7, 8, 9, 10, 11, 12, 13, 14, 15, 16, 17, 18, 19, 20, 21, 22, 23, 24, 25, 26, 27, 28, 29, 30, 31, 32, 50] rfl rfl rfl rfl (by decide) rfl rfl rfl rfl hl.1 rfl (Nat.le_of_ble_eq_true rfl) dL_law_190 ⟨by show _ + _ ≤ _; omega, by show _ + _ ≤ _; omega⟩ (fun r190 u190 H locs h190 hP hD hS => ?_)
  replace hP := hP.sub (ws' := LW z d e9 n u178.1 u190 o u178.2) [0, 1, 2, 3, 4, 5, 6, 7, 8, 9, 10, 11, 12, 13, 14, 15, 16, 17, 18, 19, 20, 21, 22, 23, 24, 25, 26, 27, 28, 29, 30, 31, 32, 34, 35, 36, 37, 38, 39, 40, 41, 42, 43, 44, 45, 46, 47, 48, 49, 50, 33] rfl
  replace hD := hD.sub (ws' := LW z d e9 n u178.1 u190 o u178.2) [0, 1, 2, 3, 4, 5, 6, 7, 8, 9, 10, 11, 12, 13, 14, 15, 16, 17, 18, 19, 20, 21, 22, 23, 24, 25, 26, 27, 28, 29, 30, 31, 32, 34, 35, 36, 37, 38, 39, 40, 41, 42, 43, 44, 45, 46, 47, 48, 49, 50, 33] rfl rfl
  rw [hvl, hvg] at h190
  obtain ⟨hag1, hag2, hag3⟩ := ag_value hn7 h178 h190
  refine lv_istore hx hb dL_law_193 hl (by decide) rfl (fun ls hl => ?_)
  replace hl : lv_has ls 7 [(6, .int r190), (5, .int r178), (4, .int (nI i)), (0, .ref q), (1, .ref (d 0)), (2, .ref (e9 0)), (3, .ref o)] := hl
  refine lv_aload_n hx hb dL_law_195 rfl (lv_at hl 5 rfl) ?_
  refine qV_i (ci := 5) (q0 := 0) (As := []) (rest := []) ⟨hx, hb, hml, hown, ht⟩ (c_M_thrown l D z e9 n) (cB 0 ht gM_thrown rfl tw_64 tw_729 (by decide +kernel) ⟨Nat.le_trans (Nat.le_of_ble_eq_true rfl) hRf, Nat.le_trans (Nat.le_of_ble_eq_true rfl) hRl⟩) tw_730 tw_731 hK (hP.sub (ws' := mWu z e9 n u190) [33, 34, 35, 36, 37, 38, 39, 40, 41, 42, 43, 44, 45, 46, 47, 48, 49] rfl) rfl rfl rfl hl.1 rfl (Nat.le_of_ble_eq_true rfl) dL_law_196 ⟨by show _ + _ ≤ _; omega, by show _ + _ ≤ _; omega⟩ (fun r196 h196 => ?_)
  subst h196
  refine lv_iload hx hb dL_law_199 (lv_at hl 1 rfl) ?_
  refine lv_icmp_eq (tgt := 206) hx hb dL_law_201 rfl (fun h9 => ?_) (fun h9 => absurd hag1 h9)
  refine lv_iload hx hb dL_law_206 (lv_at hl 1 rfl) ?_
  refine lv_if_ne (tgt := 223) hx hb dL_law_208 rfl (fun h10 => ?_) (fun h10 => ?_)
  · skip
    refine lv_goto (tgt := 1052) hx hb dL_law_223 rfl ?_
    exact W.widen (k := cells + 10) (n := slots + 100) (by show _ ≤ _; omega) (by show _ ≤ _; omega) (kk u178.1 u190 u178.2 _ _ ls hag3 hP hD hS (lv_sub hl [2, 3, 4, 5, 6] rfl))
  refine lv_aload_n hx hb dL_law_211 rfl (lv_at hl 6 rfl) ?_
  refine lv_iconst (v := 0) hx hb dL_law_212 (by decide) ?_
  refine va_lald hx hb hK hP 50 0 rfl rfl (vp_in_nI (n := 0) (N := 1) (by decide) (by decide)) dL_law_213 ?_
  refine wtl (x' := r190.toInt64) (hag2 h10) ?_
  refine lv_iload hx hb dL_law_214 (lv_at hl 0 rfl) ?_
  refine lv_i2l hx hb dL_law_216 rfl ?_
  refine W.lcmp hx hb dL_law_217 ?_
  refine lv_if_eq (tgt := 223) hx hb dL_law_218 rfl (fun h11 => ?_) (fun h11 => absurd ((lg_cmp_eq _ _).mpr rfl) h11)
  refine lv_goto (tgt := 1052) hx hb dL_law_223 rfl ?_
  exact W.widen (k := cells + 10) (n := slots + 100) (by show _ ≤ _; omega) (by show _ ≤ _; omega) (kk u178.1 u190 u178.2 _ _ ls hag3 hP hD hS (lv_sub hl [2, 3, 4, 5, 6] rfl))
set_option maxHeartbeats 8000000 in
set_option maxRecDepth 100000 in
theorem lw_generate {p : Program} {l : Launch} {e : Env} {R : Room} {s : State} {m : MethodId} {args : Array Value} {below : List Frame} {meth : Method} {c : Code} {H : Heap} {locs : List Loc} {cells slots : Nat} {Q : State → Prop} {ls : Array Slot} {D : va_G} {z : Nat → ClassId} {d e9 : Nat → Nat} {n : Nat} {u : dSt} {v : mSt} {o : Nat} {fO : Nat → Int64} {q N i : Nat} {f : Nat → Int32} {A : Nat → Prop} (hst : l.stackTraces = false) (hx : p.tables.exec = Jvm.exec) (hb : c.code = code) (hml : c.maxLocals = 7) (hown : s.vm.findClass "PermutationDeskLaw" = some m.cls) (ht : ∀ w ∈ TB, w.before args s = true) (hRf : 40 ≤ R.frames) (hRl : 2000 ≤ R.locals) (hcl : cells + 10 ≤ R.cells) (hsl : slots + 100 ≤ R.slots) (hK : va_K D vC (tyL z) s) (hV : xV s) (hH : xH A s s.heap) (hA : ∀ q, s.heap.size ≤ q → A q) (hP : va_P D vC (LW z d e9 n u v o fO) H) (hD : va_D A (LW z d e9 n u v o fO)) (hS : va_S A s.heap H locs) (hN : N < 2 ^ 31) (hi : i + 5 ≤ N) (hX : va_X q N f s s.heap) (hbl : q < s.heap.size) (hbA : ¬ A q) (hLS : LSt n u v) (hl : lv_has ls 7 [(4, .int (nI i)), (0, .ref q), (1, .ref (d 0)), (2, .ref (e9 0)), (3, .ref o)]) (kk : ∀ (u : dSt) (v : mSt) (fO : Nat → Int64) (H : Heap) (locs : List Loc) (ls : Array Slot), LSt n u v → va_P D vC (LW z d e9 n u v o fO) H → va_D A (LW z d e9 n u v o fO) → va_S A s.heap H locs → lv_has ls 7 [(4, .int (nI i)), (0, .ref q), (1, .ref (d 0)), (2, .ref (e9 0)), (3, .ref o)] → W p l e R s m args below meth c H locs (cells + 10) (slots + 100) Q (F0 m 1052 ls [])) : W p l e R s m args below meth c H locs cells slots Q (F0 m 226 ls []) := by
  obtain ⟨tx, g, tg, Gs, hn7, hgc6, hvl, hvg, hdR, hmR⟩ := hLS.inv
  obtain ⟨len, ft, gc, fg, fo, gs, us⟩ := u
  replace hdR : dR n tx len g gc tg Gs ft fg fo us := hdR
  replace hgc6 : gc ≤ 6 := hgc6
  replace hvl : v.2.1 = len := hvl
  replace hvg : v.2.2.2.1 = gc := hvg
  have hGG : ∀ i, i < 5 → pg_G n (Gs i) := fun i hi => (hdR.2.2.2.1 i hi).2.1
  have hgP : ∀ i, i < gc → pg_P n (g i) := fun i hi => (hdR.2.1.2.2.2.2 i hi).1
  refine lv_aload_n hx hb dL_law_226 rfl (lv_at hl 2 rfl) ?_
  refine lv_aload_n hx hb dL_law_227 rfl (lv_at hl 4 rfl) ?_
  refine qL_i (wr := mWu z e9 n v) (As := [.ref (d 0), .ref o]) (rest := []) ⟨hx, hb, hml, hown, ht⟩ (c_L_generate l hst D z d H.size n len gc ft fg fo gs us tx g tg Gs hdR o fO) (vx_cwSW 2 ht (tb_c tw_368 (tb_c tw_369 (tb_c tw_58 gL_generate))) rfl rfl rfl (by decide +kernel) ⟨Nat.le_trans (Nat.le_of_ble_eq_true rfl) hRf, Nat.le_trans (Nat.le_of_ble_eq_true rfl) hRl⟩) hK hP hD hS hA hV hH [0, 1, 2, 3, 4, 5, 6, 7, 8, 9, 10, 11, 12, 13, 14, 15, 16, 17, 18, 19, 20, 21, 22, 23, 24, 25, 26, 27, 28, 29, 30, 31, 32, 50] [33, 34, 35, 36, 37, 38, 39, 40, 41, 42, 43, 44, 45, 46, 47, 48, 49] rfl rfl rfl rfl (by decide) rfl rfl hl.1 rfl (Nat.le_of_ble_eq_true rfl) dL_law_228 ⟨by show _ + _ ≤ _; omega, by show _ + _ ≤ _; omega⟩ (fun r228 u228 H locs h228 hP hD hS => ?_)
  replace hP := hP.sub (ws' := LW z d e9 n u228.1 v o u228.2) [17, 18, 19, 20, 21, 22, 23, 24, 25, 26, 27, 28, 29, 30, 31, 32, 33, 34, 35, 36, 37, 38, 39, 40, 41, 42, 43, 44, 45, 46, 47, 48, 49, 0, 1, 2, 3, 4, 5, 6, 7, 8, 9, 10, 11, 12, 13, 14, 15, 16, 50] rfl
  replace hD := hD.sub (ws' := LW z d e9 n u228.1 v o u228.2) [17, 18, 19, 20, 21, 22, 23, 24, 25, 26, 27, 28, 29, 30, 31, 32, 33, 34, 35, 36, 37, 38, 39, 40, 41, 42, 43, 44, 45, 46, 47, 48, 49, 0, 1, 2, 3, 4, 5, 6, 7, 8, 9, 10, 11, 12, 13, 14, 15, 16, 50] rfl rfl
  refine lv_istore hx hb dL_law_231 hl (by decide) rfl (fun ls hl => ?_)
  replace hl : lv_has ls 7 [(5, .int r228), (4, .int (nI i)), (0, .ref q), (1, .ref (d 0)), (2, .ref (e9 0)), (3, .ref o)] := hl
  refine lv_aload_n hx hb dL_law_233 rfl (lv_at hl 4 rfl) ?_
  refine qW_i (ci := 5) (q0 := 0) (wr := dW z d n u228.1 ++ [(o, .inl (z 0, 1, .inr (.inl u228.2)))]) (As := []) (rest := []) ⟨hx, hb, hml, hown, ht⟩ (c_M_generate l D z e9 n _ tx g tg Gs hmR) (cB 0 ht gM_generate rfl tw_64 tw_800 (by decide +kernel) ⟨Nat.le_trans (Nat.le_of_ble_eq_true rfl) hRf, Nat.le_trans (Nat.le_of_ble_eq_true rfl) hRl⟩) tw_801 tw_802 hK hP hD hS hA [33, 34, 35, 36, 37, 38, 39, 40, 41, 42, 43, 44, 45, 46, 47, 48, 49] [0, 1, 2, 3, 4, 5, 6, 7, 8, 9, 10, 11, 12, 13, 14, 15, 16, 17, 18, 19, 20, 21, 22, 23, 24, 25, 26, 27, 28, 29, 30, 31, 32, 50] rfl rfl rfl rfl (by decide) rfl rfl rfl rfl hl.1 rfl (Nat.le_of_ble_eq_true rfl) dL_law_234 ⟨by show _ + _ ≤ _; omega, by show _ + _ ≤ _; omega⟩ (fun r234 u234 H locs h234 hP hD hS => ?_)
  replace hP := hP.sub (ws' := LW z d e9 n u228.1 u234 o u228.2) [0, 1, 2, 3, 4, 5, 6, 7, 8, 9, 10, 11, 12, 13, 14, 15, 16, 17, 18, 19, 20, 21, 22, 23, 24, 25, 26, 27, 28, 29, 30, 31, 32, 34, 35, 36, 37, 38, 39, 40, 41, 42, 43, 44, 45, 46, 47, 48, 49, 50, 33] rfl
  replace hD := hD.sub (ws' := LW z d e9 n u228.1 u234 o u228.2) [0, 1, 2, 3, 4, 5, 6, 7, 8, 9, 10, 11, 12, 13, 14, 15, 16, 17, 18, 19, 20, 21, 22, 23, 24, 25, 26, 27, 28, 29, 30, 31, 32, 34, 35, 36, 37, 38, 39, 40, 41, 42, 43, 44, 45, 46, 47, 48, 49, 50, 33] rfl rfl
  rw [hvl, hvg] at h234
  obtain ⟨hag1, hag2, hag3⟩ := ag_generate  h228 h234
  refine lv_istore hx hb dL_law_237 hl (by decide) rfl (fun ls hl => ?_)
  replace hl : lv_has ls 7 [(6, .int r234), (5, .int r228), (4, .int (nI i)), (0, .ref q), (1, .ref (d 0)), (2, .ref (e9 0)), (3, .ref o)] := hl
  refine lv_aload_n hx hb dL_law_239 rfl (lv_at hl 5 rfl) ?_
  refine qV_i (ci := 5) (q0 := 0) (As := []) (rest := []) ⟨hx, hb, hml, hown, ht⟩ (c_M_thrown l D z e9 n) (cB 0 ht gM_thrown rfl tw_64 tw_729 (by decide +kernel) ⟨Nat.le_trans (Nat.le_of_ble_eq_true rfl) hRf, Nat.le_trans (Nat.le_of_ble_eq_true rfl) hRl⟩) tw_730 tw_731 hK (hP.sub (ws' := mWu z e9 n u234) [33, 34, 35, 36, 37, 38, 39, 40, 41, 42, 43, 44, 45, 46, 47, 48, 49] rfl) rfl rfl rfl hl.1 rfl (Nat.le_of_ble_eq_true rfl) dL_law_240 ⟨by show _ + _ ≤ _; omega, by show _ + _ ≤ _; omega⟩ (fun r240 h240 => ?_)
  subst h240
  refine lv_iload hx hb dL_law_243 (lv_at hl 1 rfl) ?_
  refine lv_icmp_eq (tgt := 250) hx hb dL_law_245 rfl (fun h9 => ?_) (fun h9 => absurd hag1 h9)
  refine lv_iload hx hb dL_law_250 (lv_at hl 1 rfl) ?_
  refine lv_if_ne (tgt := 267) hx hb dL_law_252 rfl (fun h10 => ?_) (fun h10 => ?_)
  · skip
    refine lv_goto (tgt := 1052) hx hb dL_law_267 rfl ?_
    exact W.widen (k := cells + 10) (n := slots + 100) (by show _ ≤ _; omega) (by show _ ≤ _; omega) (kk u228.1 u234 u228.2 _ _ ls hag3 hP hD hS (lv_sub hl [2, 3, 4, 5, 6] rfl))
  refine lv_aload_n hx hb dL_law_255 rfl (lv_at hl 6 rfl) ?_
  refine lv_iconst (v := 0) hx hb dL_law_256 (by decide) ?_
  refine va_lald hx hb hK hP 50 0 rfl rfl (vp_in_nI (n := 0) (N := 1) (by decide) (by decide)) dL_law_257 ?_
  refine wtl (x' := r234.toInt64) (hag2 h10) ?_
  refine lv_iload hx hb dL_law_258 (lv_at hl 0 rfl) ?_
  refine lv_i2l hx hb dL_law_260 rfl ?_
  refine W.lcmp hx hb dL_law_261 ?_
  refine lv_if_eq (tgt := 267) hx hb dL_law_262 rfl (fun h11 => ?_) (fun h11 => absurd ((lg_cmp_eq _ _).mpr rfl) h11)
  refine lv_goto (tgt := 1052) hx hb dL_law_267 rfl ?_
  exact W.widen (k := cells + 10) (n := slots + 100) (by show _ ≤ _; omega) (by show _ ≤ _; omega) (kk u228.1 u234 u228.2 _ _ ls hag3 hP hD hS (lv_sub hl [2, 3, 4, 5, 6] rfl))
set_option maxHeartbeats 8000000 in
set_option maxRecDepth 100000 in
theorem lw_kernel {p : Program} {l : Launch} {e : Env} {R : Room} {s : State} {m : MethodId} {args : Array Value} {below : List Frame} {meth : Method} {c : Code} {H : Heap} {locs : List Loc} {cells slots : Nat} {Q : State → Prop} {ls : Array Slot} {D : va_G} {z : Nat → ClassId} {d e9 : Nat → Nat} {n : Nat} {u : dSt} {v : mSt} {o : Nat} {fO : Nat → Int64} {q N i : Nat} {f : Nat → Int32} {A : Nat → Prop} (hst : l.stackTraces = false) (hx : p.tables.exec = Jvm.exec) (hb : c.code = code) (hml : c.maxLocals = 7) (hown : s.vm.findClass "PermutationDeskLaw" = some m.cls) (ht : ∀ w ∈ TB, w.before args s = true) (hRf : 40 ≤ R.frames) (hRl : 2000 ≤ R.locals) (hcl : cells + 10 ≤ R.cells) (hsl : slots + 100 ≤ R.slots) (hK : va_K D vC (tyL z) s) (hV : xV s) (hH : xH A s s.heap) (hA : ∀ q, s.heap.size ≤ q → A q) (hP : va_P D vC (LW z d e9 n u v o fO) H) (hD : va_D A (LW z d e9 n u v o fO)) (hS : va_S A s.heap H locs) (hN : N < 2 ^ 31) (hi : i + 5 ≤ N) (hX : va_X q N f s s.heap) (hbl : q < s.heap.size) (hbA : ¬ A q) (hLS : LSt n u v) (hl : lv_has ls 7 [(4, .int (nI i)), (0, .ref q), (1, .ref (d 0)), (2, .ref (e9 0)), (3, .ref o)]) (kk : ∀ (u : dSt) (v : mSt) (fO : Nat → Int64) (H : Heap) (locs : List Loc) (ls : Array Slot), LSt n u v → va_P D vC (LW z d e9 n u v o fO) H → va_D A (LW z d e9 n u v o fO) → va_S A s.heap H locs → lv_has ls 7 [(4, .int (nI i)), (0, .ref q), (1, .ref (d 0)), (2, .ref (e9 0)), (3, .ref o)] → W p l e R s m args below meth c H locs (cells + 10) (slots + 100) Q (F0 m 1052 ls [])) : W p l e R s m args below meth c H locs cells slots Q (F0 m 368 ls []) := by
  obtain ⟨tx, g, tg, Gs, hn7, hgc6, hvl, hvg, hdR, hmR⟩ := hLS.inv
  obtain ⟨len, ft, gc, fg, fo, gs, us⟩ := u
  replace hdR : dR n tx len g gc tg Gs ft fg fo us := hdR
  replace hgc6 : gc ≤ 6 := hgc6
  replace hvl : v.2.1 = len := hvl
  replace hvg : v.2.2.2.1 = gc := hvg
  have hGG : ∀ i, i < 5 → pg_G n (Gs i) := fun i hi => (hdR.2.2.2.1 i hi).2.1
  have hgP : ∀ i, i < gc → pg_P n (g i) := fun i hi => (hdR.2.1.2.2.2.2 i hi).1
  refine lv_aload_n hx hb dL_law_368 rfl (lv_at hl 2 rfl) ?_
  refine lv_aload_n hx hb dL_law_369 rfl (lv_at hl 1 rfl) ?_
  refine lv_iload hx hb dL_law_370 (lv_at hl 0 rfl) ?_
  refine lv_iconst (v := 1) hx hb dL_law_372 (by decide) ?_
  refine lv_iadd hx hb dL_law_373 ?_
  refine wti (x' := nI (i + 1)) (nI_add i 1) ?_
  refine va_sld hx hb hX hbl hbA hS (vp_in_nI (by omega) hN) dL_law_374 ?_
  refine wti (x' := f (i + 1)) (by rw [nI_clamp (by omega)]) ?_
  refine lv_aload_n hx hb dL_law_375 rfl (lv_at hl 4 rfl) ?_
  refine qL_i (wr := mWu z e9 n v) (As := [.ref (d 0), .int (f (i + 1)), .ref o]) (rest := []) ⟨hx, hb, hml, hown, ht⟩ (c_L_kernel l hst D z d H.size n len gc ft fg fo gs us tx g tg Gs hdR o fO (f (i + 1))) (vx_cwSW 3 ht (tb_c tw_455 (tb_c tw_456 (tb_c tw_58 gL_kernel))) rfl rfl rfl (by decide +kernel) ⟨Nat.le_trans (Nat.le_of_ble_eq_true rfl) hRf, Nat.le_trans (Nat.le_of_ble_eq_true rfl) hRl⟩) hK hP hD hS hA hV hH [0, 1, 2, 3, 4, 5, 6, 7, 8, 9, 10, 11, 12, 13, 14, 15, 16, 17, 18, 19, 20, 21, 22, 23, 24, 25, 26, 27, 28, 29, 30, 31, 32, 50] [33, 34, 35, 36, 37, 38, 39, 40, 41, 42, 43, 44, 45, 46, 47, 48, 49] rfl rfl rfl rfl (by decide) rfl rfl hl.1 rfl (Nat.le_of_ble_eq_true rfl) dL_law_376 ⟨by show _ + _ ≤ _; omega, by show _ + _ ≤ _; omega⟩ (fun r376 u376 H locs h376 hP hD hS => ?_)
  replace hP := hP.sub (ws' := LW z d e9 n u376.1 v o u376.2) [17, 18, 19, 20, 21, 22, 23, 24, 25, 26, 27, 28, 29, 30, 31, 32, 33, 34, 35, 36, 37, 38, 39, 40, 41, 42, 43, 44, 45, 46, 47, 48, 49, 0, 1, 2, 3, 4, 5, 6, 7, 8, 9, 10, 11, 12, 13, 14, 15, 16, 50] rfl
  replace hD := hD.sub (ws' := LW z d e9 n u376.1 v o u376.2) [17, 18, 19, 20, 21, 22, 23, 24, 25, 26, 27, 28, 29, 30, 31, 32, 33, 34, 35, 36, 37, 38, 39, 40, 41, 42, 43, 44, 45, 46, 47, 48, 49, 0, 1, 2, 3, 4, 5, 6, 7, 8, 9, 10, 11, 12, 13, 14, 15, 16, 50] rfl rfl
  refine lv_istore hx hb dL_law_379 hl (by decide) rfl (fun ls hl => ?_)
  replace hl : lv_has ls 7 [(5, .int r376), (4, .int (nI i)), (0, .ref q), (1, .ref (d 0)), (2, .ref (e9 0)), (3, .ref o)] := hl
  refine lv_aload_n hx hb dL_law_381 rfl (lv_at hl 4 rfl) ?_
  refine lv_aload_n hx hb dL_law_382 rfl (lv_at hl 2 rfl) ?_
  refine lv_iload hx hb dL_law_383 (lv_at hl 1 rfl) ?_
  refine lv_iconst (v := 1) hx hb dL_law_385 (by decide) ?_
  refine lv_iadd hx hb dL_law_386 ?_
  refine wti (x' := nI (i + 1)) (nI_add i 1) ?_
  refine va_sld hx hb hX hbl hbA hS (vp_in_nI (by omega) hN) dL_law_387 ?_
  refine wti (x' := f (i + 1)) (by rw [nI_clamp (by omega)]) ?_
  refine qW_i (ci := 5) (q0 := 0) (wr := dW z d n u376.1 ++ [(o, .inl (z 0, 1, .inr (.inl u376.2)))]) (As := [.int (f (i + 1))]) (rest := []) ⟨hx, hb, hml, hown, ht⟩ (c_M_kernel l D z e9 n _ tx g tg Gs hmR (f (i + 1))) (cB 1 ht gM_kernel rfl tw_64 tw_868 (by decide +kernel) ⟨Nat.le_trans (Nat.le_of_ble_eq_true rfl) hRf, Nat.le_trans (Nat.le_of_ble_eq_true rfl) hRl⟩) tw_869 tw_870 hK hP hD hS hA [33, 34, 35, 36, 37, 38, 39, 40, 41, 42, 43, 44, 45, 46, 47, 48, 49] [0, 1, 2, 3, 4, 5, 6, 7, 8, 9, 10, 11, 12, 13, 14, 15, 16, 17, 18, 19, 20, 21, 22, 23, 24, 25, 26, 27, 28, 29, 30, 31, 32, 50] rfl rfl rfl rfl (by decide) rfl rfl rfl rfl hl.1 rfl (Nat.le_of_ble_eq_true rfl) dL_law_388 ⟨by show _ + _ ≤ _; omega, by show _ + _ ≤ _; omega⟩ (fun r388 u388 H locs h388 hP hD hS => ?_)
  replace hP := hP.sub (ws' := LW z d e9 n u376.1 u388 o u376.2) [0, 1, 2, 3, 4, 5, 6, 7, 8, 9, 10, 11, 12, 13, 14, 15, 16, 17, 18, 19, 20, 21, 22, 23, 24, 25, 26, 27, 28, 29, 30, 31, 32, 34, 35, 36, 37, 38, 39, 40, 41, 42, 43, 44, 45, 46, 47, 48, 49, 50, 33] rfl
  replace hD := hD.sub (ws' := LW z d e9 n u376.1 u388 o u376.2) [0, 1, 2, 3, 4, 5, 6, 7, 8, 9, 10, 11, 12, 13, 14, 15, 16, 17, 18, 19, 20, 21, 22, 23, 24, 25, 26, 27, 28, 29, 30, 31, 32, 34, 35, 36, 37, 38, 39, 40, 41, 42, 43, 44, 45, 46, 47, 48, 49, 50, 33] rfl rfl
  rw [hvl, hvg] at h388
  obtain ⟨hag1, hag2, hag3⟩ := ag_kernel  h376 h388
  refine lv_istore hx hb dL_law_391 hl (by decide) rfl (fun ls hl => ?_)
  replace hl : lv_has ls 7 [(6, .int r388), (5, .int r376), (4, .int (nI i)), (0, .ref q), (1, .ref (d 0)), (2, .ref (e9 0)), (3, .ref o)] := hl
  refine lv_aload_n hx hb dL_law_393 rfl (lv_at hl 5 rfl) ?_
  refine qV_i (ci := 5) (q0 := 0) (As := []) (rest := []) ⟨hx, hb, hml, hown, ht⟩ (c_M_thrown l D z e9 n) (cB 0 ht gM_thrown rfl tw_64 tw_729 (by decide +kernel) ⟨Nat.le_trans (Nat.le_of_ble_eq_true rfl) hRf, Nat.le_trans (Nat.le_of_ble_eq_true rfl) hRl⟩) tw_730 tw_731 hK (hP.sub (ws' := mWu z e9 n u388) [33, 34, 35, 36, 37, 38, 39, 40, 41, 42, 43, 44, 45, 46, 47, 48, 49] rfl) rfl rfl rfl hl.1 rfl (Nat.le_of_ble_eq_true rfl) dL_law_394 ⟨by show _ + _ ≤ _; omega, by show _ + _ ≤ _; omega⟩ (fun r394 h394 => ?_)
  subst h394
  refine lv_iload hx hb dL_law_397 (lv_at hl 1 rfl) ?_
  refine lv_icmp_eq (tgt := 404) hx hb dL_law_399 rfl (fun h9 => ?_) (fun h9 => absurd hag1 h9)
  refine lv_iload hx hb dL_law_404 (lv_at hl 1 rfl) ?_
  refine lv_if_ne (tgt := 421) hx hb dL_law_406 rfl (fun h10 => ?_) (fun h10 => ?_)
  · skip
    refine lv_goto (tgt := 1052) hx hb dL_law_421 rfl ?_
    exact W.widen (k := cells + 10) (n := slots + 100) (by show _ ≤ _; omega) (by show _ ≤ _; omega) (kk u376.1 u388 u376.2 _ _ ls hag3 hP hD hS (lv_sub hl [2, 3, 4, 5, 6] rfl))
  refine lv_aload_n hx hb dL_law_409 rfl (lv_at hl 6 rfl) ?_
  refine lv_iconst (v := 0) hx hb dL_law_410 (by decide) ?_
  refine va_lald hx hb hK hP 50 0 rfl rfl (vp_in_nI (n := 0) (N := 1) (by decide) (by decide)) dL_law_411 ?_
  refine wtl (x' := r388.toInt64) (hag2 h10) ?_
  refine lv_iload hx hb dL_law_412 (lv_at hl 0 rfl) ?_
  refine lv_i2l hx hb dL_law_414 rfl ?_
  refine W.lcmp hx hb dL_law_415 ?_
  refine lv_if_eq (tgt := 421) hx hb dL_law_416 rfl (fun h11 => ?_) (fun h11 => absurd ((lg_cmp_eq _ _).mpr rfl) h11)
  refine lv_goto (tgt := 1052) hx hb dL_law_421 rfl ?_
  exact W.widen (k := cells + 10) (n := slots + 100) (by show _ ≤ _; omega) (by show _ ≤ _; omega) (kk u376.1 u388 u376.2 _ _ ls hag3 hP hD hS (lv_sub hl [2, 3, 4, 5, 6] rfl))
set_option maxHeartbeats 8000000 in
set_option maxRecDepth 100000 in
theorem lw_images {p : Program} {l : Launch} {e : Env} {R : Room} {s : State} {m : MethodId} {args : Array Value} {below : List Frame} {meth : Method} {c : Code} {H : Heap} {locs : List Loc} {cells slots : Nat} {Q : State → Prop} {ls : Array Slot} {D : va_G} {z : Nat → ClassId} {d e9 : Nat → Nat} {n : Nat} {u : dSt} {v : mSt} {o : Nat} {fO : Nat → Int64} {q N i : Nat} {f : Nat → Int32} {A : Nat → Prop} (hst : l.stackTraces = false) (hx : p.tables.exec = Jvm.exec) (hb : c.code = code) (hml : c.maxLocals = 7) (hown : s.vm.findClass "PermutationDeskLaw" = some m.cls) (ht : ∀ w ∈ TB, w.before args s = true) (hRf : 40 ≤ R.frames) (hRl : 2000 ≤ R.locals) (hcl : cells + 10 ≤ R.cells) (hsl : slots + 100 ≤ R.slots) (hK : va_K D vC (tyL z) s) (hV : xV s) (hH : xH A s s.heap) (hA : ∀ q, s.heap.size ≤ q → A q) (hP : va_P D vC (LW z d e9 n u v o fO) H) (hD : va_D A (LW z d e9 n u v o fO)) (hS : va_S A s.heap H locs) (hN : N < 2 ^ 31) (hi : i + 5 ≤ N) (hX : va_X q N f s s.heap) (hbl : q < s.heap.size) (hbA : ¬ A q) (hLS : LSt n u v) (hl : lv_has ls 7 [(4, .int (nI i)), (0, .ref q), (1, .ref (d 0)), (2, .ref (e9 0)), (3, .ref o)]) (kk : ∀ (u : dSt) (v : mSt) (fO : Nat → Int64) (H : Heap) (locs : List Loc) (ls : Array Slot), LSt n u v → va_P D vC (LW z d e9 n u v o fO) H → va_D A (LW z d e9 n u v o fO) → va_S A s.heap H locs → lv_has ls 7 [(4, .int (nI i)), (0, .ref q), (1, .ref (d 0)), (2, .ref (e9 0)), (3, .ref o)] → W p l e R s m args below meth c H locs (cells + 10) (slots + 100) Q (F0 m 1052 ls [])) : W p l e R s m args below meth c H locs cells slots Q (F0 m 424 ls []) := by
  obtain ⟨tx, g, tg, Gs, hn7, hgc6, hvl, hvg, hdR, hmR⟩ := hLS.inv
  obtain ⟨len, ft, gc, fg, fo, gs, us⟩ := u
  replace hdR : dR n tx len g gc tg Gs ft fg fo us := hdR
  replace hgc6 : gc ≤ 6 := hgc6
  replace hvl : v.2.1 = len := hvl
  replace hvg : v.2.2.2.1 = gc := hvg
  have hGG : ∀ i, i < 5 → pg_G n (Gs i) := fun i hi => (hdR.2.2.2.1 i hi).2.1
  have hgP : ∀ i, i < gc → pg_P n (g i) := fun i hi => (hdR.2.1.2.2.2.2 i hi).1
  refine lv_aload_n hx hb dL_law_424 rfl (lv_at hl 2 rfl) ?_
  refine lv_aload_n hx hb dL_law_425 rfl (lv_at hl 1 rfl) ?_
  refine lv_iload hx hb dL_law_426 (lv_at hl 0 rfl) ?_
  refine lv_iconst (v := 1) hx hb dL_law_428 (by decide) ?_
  refine lv_iadd hx hb dL_law_429 ?_
  refine wti (x' := nI (i + 1)) (nI_add i 1) ?_
  refine va_sld hx hb hX hbl hbA hS (vp_in_nI (by omega) hN) dL_law_430 ?_
  refine wti (x' := f (i + 1)) (by rw [nI_clamp (by omega)]) ?_
  refine lv_aload_n hx hb dL_law_431 rfl (lv_at hl 4 rfl) ?_
  refine qL_i (wr := mWu z e9 n v) (As := [.ref (d 0), .int (f (i + 1)), .ref o]) (rest := []) ⟨hx, hb, hml, hown, ht⟩ (c_L_images l hst D z d H.size n len gc ft fg fo gs us tx g tg Gs hdR o fO (f (i + 1))) (vx_cwSW 3 ht (tb_c tw_479 (tb_c tw_480 (tb_c tw_58 gL_images))) rfl rfl rfl (by decide +kernel) ⟨Nat.le_trans (Nat.le_of_ble_eq_true rfl) hRf, Nat.le_trans (Nat.le_of_ble_eq_true rfl) hRl⟩) hK hP hD hS hA hV hH [0, 1, 2, 3, 4, 5, 6, 7, 8, 9, 10, 11, 12, 13, 14, 15, 16, 17, 18, 19, 20, 21, 22, 23, 24, 25, 26, 27, 28, 29, 30, 31, 32, 50] [33, 34, 35, 36, 37, 38, 39, 40, 41, 42, 43, 44, 45, 46, 47, 48, 49] rfl rfl rfl rfl (by decide) rfl rfl hl.1 rfl (Nat.le_of_ble_eq_true rfl) dL_law_432 ⟨by show _ + _ ≤ _; omega, by show _ + _ ≤ _; omega⟩ (fun r432 u432 H locs h432 hP hD hS => ?_)
  replace hP := hP.sub (ws' := LW z d e9 n u432.1 v o u432.2) [17, 18, 19, 20, 21, 22, 23, 24, 25, 26, 27, 28, 29, 30, 31, 32, 33, 34, 35, 36, 37, 38, 39, 40, 41, 42, 43, 44, 45, 46, 47, 48, 49, 0, 1, 2, 3, 4, 5, 6, 7, 8, 9, 10, 11, 12, 13, 14, 15, 16, 50] rfl
  replace hD := hD.sub (ws' := LW z d e9 n u432.1 v o u432.2) [17, 18, 19, 20, 21, 22, 23, 24, 25, 26, 27, 28, 29, 30, 31, 32, 33, 34, 35, 36, 37, 38, 39, 40, 41, 42, 43, 44, 45, 46, 47, 48, 49, 0, 1, 2, 3, 4, 5, 6, 7, 8, 9, 10, 11, 12, 13, 14, 15, 16, 50] rfl rfl
  refine lv_istore hx hb dL_law_435 hl (by decide) rfl (fun ls hl => ?_)
  replace hl : lv_has ls 7 [(5, .int r432), (4, .int (nI i)), (0, .ref q), (1, .ref (d 0)), (2, .ref (e9 0)), (3, .ref o)] := hl
  refine lv_aload_n hx hb dL_law_437 rfl (lv_at hl 4 rfl) ?_
  refine lv_aload_n hx hb dL_law_438 rfl (lv_at hl 2 rfl) ?_
  refine lv_iload hx hb dL_law_439 (lv_at hl 1 rfl) ?_
  refine lv_iconst (v := 1) hx hb dL_law_441 (by decide) ?_
  refine lv_iadd hx hb dL_law_442 ?_
  refine wti (x' := nI (i + 1)) (nI_add i 1) ?_
  refine va_sld hx hb hX hbl hbA hS (vp_in_nI (by omega) hN) dL_law_443 ?_
  refine wti (x' := f (i + 1)) (by rw [nI_clamp (by omega)]) ?_
  refine qW_i (ci := 5) (q0 := 0) (wr := dW z d n u432.1 ++ [(o, .inl (z 0, 1, .inr (.inl u432.2)))]) (As := [.int (f (i + 1))]) (rest := []) ⟨hx, hb, hml, hown, ht⟩ (c_M_images l D z e9 n _ tx g tg Gs hmR (f (i + 1))) (cB 1 ht gM_images rfl tw_64 tw_875 (by decide +kernel) ⟨Nat.le_trans (Nat.le_of_ble_eq_true rfl) hRf, Nat.le_trans (Nat.le_of_ble_eq_true rfl) hRl⟩) tw_876 tw_877 hK hP hD hS hA [33, 34, 35, 36, 37, 38, 39, 40, 41, 42, 43, 44, 45, 46, 47, 48, 49] [0, 1, 2, 3, 4, 5, 6, 7, 8, 9, 10, 11, 12, 13, 14, 15, 16, 17, 18, 19, 20, 21, 22, 23, 24, 25, 26, 27, 28, 29, 30, 31, 32, 50] rfl rfl rfl rfl (by decide) rfl rfl rfl rfl hl.1 rfl (Nat.le_of_ble_eq_true rfl) dL_law_444 ⟨by show _ + _ ≤ _; omega, by show _ + _ ≤ _; omega⟩ (fun r444 u444 H locs h444 hP hD hS => ?_)
  replace hP := hP.sub (ws' := LW z d e9 n u432.1 u444 o u432.2) [0, 1, 2, 3, 4, 5, 6, 7, 8, 9, 10, 11, 12, 13, 14, 15, 16, 17, 18, 19, 20, 21, 22, 23, 24, 25, 26, 27, 28, 29, 30, 31, 32, 34, 35, 36, 37, 38, 39, 40, 41, 42, 43, 44, 45, 46, 47, 48, 49, 50, 33] rfl
  replace hD := hD.sub (ws' := LW z d e9 n u432.1 u444 o u432.2) [0, 1, 2, 3, 4, 5, 6, 7, 8, 9, 10, 11, 12, 13, 14, 15, 16, 17, 18, 19, 20, 21, 22, 23, 24, 25, 26, 27, 28, 29, 30, 31, 32, 34, 35, 36, 37, 38, 39, 40, 41, 42, 43, 44, 45, 46, 47, 48, 49, 50, 33] rfl rfl
  rw [hvl, hvg] at h444
  obtain ⟨hag1, hag2, hag3⟩ := ag_images  h432 h444
  refine lv_istore hx hb dL_law_447 hl (by decide) rfl (fun ls hl => ?_)
  replace hl : lv_has ls 7 [(6, .int r444), (5, .int r432), (4, .int (nI i)), (0, .ref q), (1, .ref (d 0)), (2, .ref (e9 0)), (3, .ref o)] := hl
  refine lv_aload_n hx hb dL_law_449 rfl (lv_at hl 5 rfl) ?_
  refine qV_i (ci := 5) (q0 := 0) (As := []) (rest := []) ⟨hx, hb, hml, hown, ht⟩ (c_M_thrown l D z e9 n) (cB 0 ht gM_thrown rfl tw_64 tw_729 (by decide +kernel) ⟨Nat.le_trans (Nat.le_of_ble_eq_true rfl) hRf, Nat.le_trans (Nat.le_of_ble_eq_true rfl) hRl⟩) tw_730 tw_731 hK (hP.sub (ws' := mWu z e9 n u444) [33, 34, 35, 36, 37, 38, 39, 40, 41, 42, 43, 44, 45, 46, 47, 48, 49] rfl) rfl rfl rfl hl.1 rfl (Nat.le_of_ble_eq_true rfl) dL_law_450 ⟨by show _ + _ ≤ _; omega, by show _ + _ ≤ _; omega⟩ (fun r450 h450 => ?_)
  subst h450
  refine lv_iload hx hb dL_law_453 (lv_at hl 1 rfl) ?_
  refine lv_icmp_eq (tgt := 460) hx hb dL_law_455 rfl (fun h9 => ?_) (fun h9 => absurd hag1 h9)
  refine lv_iload hx hb dL_law_460 (lv_at hl 1 rfl) ?_
  refine lv_if_ne (tgt := 477) hx hb dL_law_462 rfl (fun h10 => ?_) (fun h10 => ?_)
  · skip
    refine lv_goto (tgt := 1052) hx hb dL_law_477 rfl ?_
    exact W.widen (k := cells + 10) (n := slots + 100) (by show _ ≤ _; omega) (by show _ ≤ _; omega) (kk u432.1 u444 u432.2 _ _ ls hag3 hP hD hS (lv_sub hl [2, 3, 4, 5, 6] rfl))
  refine lv_aload_n hx hb dL_law_465 rfl (lv_at hl 6 rfl) ?_
  refine lv_iconst (v := 0) hx hb dL_law_466 (by decide) ?_
  refine va_lald hx hb hK hP 50 0 rfl rfl (vp_in_nI (n := 0) (N := 1) (by decide) (by decide)) dL_law_467 ?_
  refine wtl (x' := r444.toInt64) (hag2 h10) ?_
  refine lv_iload hx hb dL_law_468 (lv_at hl 0 rfl) ?_
  refine lv_i2l hx hb dL_law_470 rfl ?_
  refine W.lcmp hx hb dL_law_471 ?_
  refine lv_if_eq (tgt := 477) hx hb dL_law_472 rfl (fun h11 => ?_) (fun h11 => absurd ((lg_cmp_eq _ _).mpr rfl) h11)
  refine lv_goto (tgt := 1052) hx hb dL_law_477 rfl ?_
  exact W.widen (k := cells + 10) (n := slots + 100) (by show _ ≤ _; omega) (by show _ ≤ _; omega) (kk u432.1 u444 u432.2 _ _ ls hag3 hP hD hS (lv_sub hl [2, 3, 4, 5, 6] rfl))
set_option maxHeartbeats 8000000 in
set_option maxRecDepth 100000 in
theorem lw_stabiliser {p : Program} {l : Launch} {e : Env} {R : Room} {s : State} {m : MethodId} {args : Array Value} {below : List Frame} {meth : Method} {c : Code} {H : Heap} {locs : List Loc} {cells slots : Nat} {Q : State → Prop} {ls : Array Slot} {D : va_G} {z : Nat → ClassId} {d e9 : Nat → Nat} {n : Nat} {u : dSt} {v : mSt} {o : Nat} {fO : Nat → Int64} {q N i : Nat} {f : Nat → Int32} {A : Nat → Prop} (hst : l.stackTraces = false) (hx : p.tables.exec = Jvm.exec) (hb : c.code = code) (hml : c.maxLocals = 7) (hown : s.vm.findClass "PermutationDeskLaw" = some m.cls) (ht : ∀ w ∈ TB, w.before args s = true) (hRf : 40 ≤ R.frames) (hRl : 2000 ≤ R.locals) (hcl : cells + 10 ≤ R.cells) (hsl : slots + 100 ≤ R.slots) (hK : va_K D vC (tyL z) s) (hV : xV s) (hH : xH A s s.heap) (hA : ∀ q, s.heap.size ≤ q → A q) (hP : va_P D vC (LW z d e9 n u v o fO) H) (hD : va_D A (LW z d e9 n u v o fO)) (hS : va_S A s.heap H locs) (hN : N < 2 ^ 31) (hi : i + 5 ≤ N) (hX : va_X q N f s s.heap) (hbl : q < s.heap.size) (hbA : ¬ A q) (hLS : LSt n u v) (hl : lv_has ls 7 [(4, .int (nI i)), (0, .ref q), (1, .ref (d 0)), (2, .ref (e9 0)), (3, .ref o)]) (kk : ∀ (u : dSt) (v : mSt) (fO : Nat → Int64) (H : Heap) (locs : List Loc) (ls : Array Slot), LSt n u v → va_P D vC (LW z d e9 n u v o fO) H → va_D A (LW z d e9 n u v o fO) → va_S A s.heap H locs → lv_has ls 7 [(4, .int (nI i)), (0, .ref q), (1, .ref (d 0)), (2, .ref (e9 0)), (3, .ref o)] → W p l e R s m args below meth c H locs (cells + 10) (slots + 100) Q (F0 m 1052 ls [])) : W p l e R s m args below meth c H locs cells slots Q (F0 m 480 ls []) := by
  obtain ⟨tx, g, tg, Gs, hn7, hgc6, hvl, hvg, hdR, hmR⟩ := hLS.inv
  obtain ⟨len, ft, gc, fg, fo, gs, us⟩ := u
  replace hdR : dR n tx len g gc tg Gs ft fg fo us := hdR
  replace hgc6 : gc ≤ 6 := hgc6
  replace hvl : v.2.1 = len := hvl
  replace hvg : v.2.2.2.1 = gc := hvg
  have hGG : ∀ i, i < 5 → pg_G n (Gs i) := fun i hi => (hdR.2.2.2.1 i hi).2.1
  have hgP : ∀ i, i < gc → pg_P n (g i) := fun i hi => (hdR.2.1.2.2.2.2 i hi).1
  refine lv_aload_n hx hb dL_law_480 rfl (lv_at hl 2 rfl) ?_
  refine lv_aload_n hx hb dL_law_481 rfl (lv_at hl 1 rfl) ?_
  refine lv_iload hx hb dL_law_482 (lv_at hl 0 rfl) ?_
  refine lv_iconst (v := 1) hx hb dL_law_484 (by decide) ?_
  refine lv_iadd hx hb dL_law_485 ?_
  refine wti (x' := nI (i + 1)) (nI_add i 1) ?_
  refine va_sld hx hb hX hbl hbA hS (vp_in_nI (by omega) hN) dL_law_486 ?_
  refine wti (x' := f (i + 1)) (by rw [nI_clamp (by omega)]) ?_
  refine lv_aload_n hx hb dL_law_487 rfl (lv_at hl 1 rfl) ?_
  refine lv_iload hx hb dL_law_488 (lv_at hl 0 rfl) ?_
  refine lv_iconst (v := 2) hx hb dL_law_490 (by decide) ?_
  refine lv_iadd hx hb dL_law_491 ?_
  refine wti (x' := nI (i + 2)) (nI_add i 2) ?_
  refine va_sld hx hb hX hbl hbA hS (vp_in_nI (by omega) hN) dL_law_492 ?_
  refine wti (x' := f (i + 2)) (by rw [nI_clamp (by omega)]) ?_
  refine lv_aload_n hx hb dL_law_493 rfl (lv_at hl 1 rfl) ?_
  refine lv_iload hx hb dL_law_494 (lv_at hl 0 rfl) ?_
  refine lv_iconst (v := 3) hx hb dL_law_496 (by decide) ?_
  refine lv_iadd hx hb dL_law_497 ?_
  refine wti (x' := nI (i + 3)) (nI_add i 3) ?_
  refine va_sld hx hb hX hbl hbA hS (vp_in_nI (by omega) hN) dL_law_498 ?_
  refine wti (x' := f (i + 3)) (by rw [nI_clamp (by omega)]) ?_
  refine wjv (σ := Unit) (pc := 507) (fun _ => [.int (bI (decide (f (i + 3) ≠ 0))), .int (f (i + 2)), .int (f (i + 1)), .ref (d 0)]) (I := fun _ H1 locs1 ls1 => H = H1 ∧ locs = locs1 ∧ ls = ls1) ?_ (fun jn => ?_)
  rotate_left
  · refine lv_if_eq (tgt := 506) hx hb dL_law_499 rfl (fun h9 => ?_) (fun h9 => ?_)
    · skip
      refine lv_iconst (v := 0) hx hb dL_law_506 (by decide) ?_
      refine wti (x' := bI (decide (f (i + 3) ≠ 0))) (by rw [decide_eq_false (fun q9 => q9 h9)]; rfl) ?_
      exact jn () _ _ ls ⟨rfl, rfl, rfl⟩
    refine lv_iconst (v := 1) hx hb dL_law_502 (by decide) ?_
    refine lv_goto (tgt := 507) hx hb dL_law_503 rfl ?_
    refine wti (x' := bI (decide (f (i + 3) ≠ 0))) (by rw [decide_eq_true h9]; rfl) ?_
    exact jn () _ _ ls ⟨rfl, rfl, rfl⟩
  rintro - H1 locs1 ls1 ⟨rfl, rfl, rfl⟩
  refine lv_aload_n hx hb dL_law_507 rfl (lv_at hl 1 rfl) ?_
  refine lv_iload hx hb dL_law_508 (lv_at hl 0 rfl) ?_
  refine lv_iconst (v := 4) hx hb dL_law_510 (by decide) ?_
  refine lv_iadd hx hb dL_law_511 ?_
  refine wti (x' := nI (i + 4)) (nI_add i 4) ?_
  refine va_sld hx hb hX hbl hbA hS (vp_in_nI (by omega) hN) dL_law_512 ?_
  refine wti (x' := f (i + 4)) (by rw [nI_clamp (by omega)]) ?_
  refine lv_aload_n hx hb dL_law_513 rfl (lv_at hl 4 rfl) ?_
  refine qL_i (wr := mWu z e9 n v) (As := [.ref (d 0), .int (f (i + 1)), .int (f (i + 2)), .int (bI (decide (f (i + 3) ≠ 0))), .int (f (i + 4)), .ref o]) (rest := []) ⟨hx, hb, hml, hown, ht⟩ (c_L_stabiliser l hst D z d H.size n len gc ft fg fo gs us tx g tg Gs hdR o fO (f (i + 1)) (f (i + 2)) (f (i + 4)) (decide (f (i + 3) ≠ 0))) (vx_cwSW 6 ht (tb_c tw_486 (tb_c tw_487 (tb_c tw_58 gL_stabiliser))) rfl rfl rfl (by decide +kernel) ⟨Nat.le_trans (Nat.le_of_ble_eq_true rfl) hRf, Nat.le_trans (Nat.le_of_ble_eq_true rfl) hRl⟩) hK hP hD hS hA hV hH [0, 1, 2, 3, 4, 5, 6, 7, 8, 9, 10, 11, 12, 13, 14, 15, 16, 17, 18, 19, 20, 21, 22, 23, 24, 25, 26, 27, 28, 29, 30, 31, 32, 50] [33, 34, 35, 36, 37, 38, 39, 40, 41, 42, 43, 44, 45, 46, 47, 48, 49] rfl rfl rfl rfl (by decide) rfl rfl hl.1 rfl (Nat.le_of_ble_eq_true rfl) dL_law_514 ⟨by show _ + _ ≤ _; omega, by show _ + _ ≤ _; omega⟩ (fun r514 u514 H locs h514 hP hD hS => ?_)
  replace hP := hP.sub (ws' := LW z d e9 n u514.1 v o u514.2) [17, 18, 19, 20, 21, 22, 23, 24, 25, 26, 27, 28, 29, 30, 31, 32, 33, 34, 35, 36, 37, 38, 39, 40, 41, 42, 43, 44, 45, 46, 47, 48, 49, 0, 1, 2, 3, 4, 5, 6, 7, 8, 9, 10, 11, 12, 13, 14, 15, 16, 50] rfl
  replace hD := hD.sub (ws' := LW z d e9 n u514.1 v o u514.2) [17, 18, 19, 20, 21, 22, 23, 24, 25, 26, 27, 28, 29, 30, 31, 32, 33, 34, 35, 36, 37, 38, 39, 40, 41, 42, 43, 44, 45, 46, 47, 48, 49, 0, 1, 2, 3, 4, 5, 6, 7, 8, 9, 10, 11, 12, 13, 14, 15, 16, 50] rfl rfl
  refine lv_istore hx hb dL_law_517 hl (by decide) rfl (fun ls hl => ?_)
  replace hl : lv_has ls 7 [(5, .int r514), (4, .int (nI i)), (0, .ref q), (1, .ref (d 0)), (2, .ref (e9 0)), (3, .ref o)] := hl
  refine lv_aload_n hx hb dL_law_519 rfl (lv_at hl 4 rfl) ?_
  refine lv_aload_n hx hb dL_law_520 rfl (lv_at hl 2 rfl) ?_
  refine lv_iload hx hb dL_law_521 (lv_at hl 1 rfl) ?_
  refine lv_iconst (v := 1) hx hb dL_law_523 (by decide) ?_
  refine lv_iadd hx hb dL_law_524 ?_
  refine wti (x' := nI (i + 1)) (nI_add i 1) ?_
  refine va_sld hx hb hX hbl hbA hS (vp_in_nI (by omega) hN) dL_law_525 ?_
  refine wti (x' := f (i + 1)) (by rw [nI_clamp (by omega)]) ?_
  refine lv_aload_n hx hb dL_law_526 rfl (lv_at hl 2 rfl) ?_
  refine lv_iload hx hb dL_law_527 (lv_at hl 1 rfl) ?_
  refine lv_iconst (v := 2) hx hb dL_law_529 (by decide) ?_
  refine lv_iadd hx hb dL_law_530 ?_
  refine wti (x' := nI (i + 2)) (nI_add i 2) ?_
  refine va_sld hx hb hX hbl hbA hS (vp_in_nI (by omega) hN) dL_law_531 ?_
  refine wti (x' := f (i + 2)) (by rw [nI_clamp (by omega)]) ?_
  refine lv_aload_n hx hb dL_law_532 rfl (lv_at hl 2 rfl) ?_
  refine lv_iload hx hb dL_law_533 (lv_at hl 1 rfl) ?_
  refine lv_iconst (v := 3) hx hb dL_law_535 (by decide) ?_
  refine lv_iadd hx hb dL_law_536 ?_
  refine wti (x' := nI (i + 3)) (nI_add i 3) ?_
  refine va_sld hx hb hX hbl hbA hS (vp_in_nI (by omega) hN) dL_law_537 ?_
  refine wti (x' := f (i + 3)) (by rw [nI_clamp (by omega)]) ?_
  refine wjv (σ := Unit) (pc := 546) (fun _ => [.int (bI (decide (f (i + 3) ≠ 0))), .int (f (i + 2)), .int (f (i + 1)), .ref (e9 0)]) (I := fun _ H1 locs1 ls1 => H = H1 ∧ locs = locs1 ∧ ls = ls1) ?_ (fun jn => ?_)
  rotate_left
  · refine lv_if_eq (tgt := 545) hx hb dL_law_538 rfl (fun h9 => ?_) (fun h9 => ?_)
    · skip
      refine lv_iconst (v := 0) hx hb dL_law_545 (by decide) ?_
      refine wti (x' := bI (decide (f (i + 3) ≠ 0))) (by rw [decide_eq_false (fun q9 => q9 h9)]; rfl) ?_
      exact jn () _ _ ls ⟨rfl, rfl, rfl⟩
    refine lv_iconst (v := 1) hx hb dL_law_541 (by decide) ?_
    refine lv_goto (tgt := 546) hx hb dL_law_542 rfl ?_
    refine wti (x' := bI (decide (f (i + 3) ≠ 0))) (by rw [decide_eq_true h9]; rfl) ?_
    exact jn () _ _ ls ⟨rfl, rfl, rfl⟩
  rintro - H1 locs1 ls1 ⟨rfl, rfl, rfl⟩
  refine lv_aload_n hx hb dL_law_546 rfl (lv_at hl 2 rfl) ?_
  refine lv_iload hx hb dL_law_547 (lv_at hl 1 rfl) ?_
  refine lv_iconst (v := 4) hx hb dL_law_549 (by decide) ?_
  refine lv_iadd hx hb dL_law_550 ?_
  refine wti (x' := nI (i + 4)) (nI_add i 4) ?_
  refine va_sld hx hb hX hbl hbA hS (vp_in_nI (by omega) hN) dL_law_551 ?_
  refine wti (x' := f (i + 4)) (by rw [nI_clamp (by omega)]) ?_
  refine qW_i (ci := 5) (q0 := 0) (wr := dW z d n u514.1 ++ [(o, .inl (z 0, 1, .inr (.inl u514.2)))]) (As := [.int (f (i + 1)), .int (f (i + 2)), .int (bI (decide (f (i + 3) ≠ 0))), .int (f (i + 4))]) (rest := []) ⟨hx, hb, hml, hown, ht⟩ (c_M_stabiliser l D z e9 n _ tx g tg Gs hmR (f (i + 1)) (f (i + 2)) (f (i + 4)) (decide (f (i + 3) ≠ 0))) (cB 4 ht gM_stabiliser rfl tw_64 tw_879 (by decide +kernel) ⟨Nat.le_trans (Nat.le_of_ble_eq_true rfl) hRf, Nat.le_trans (Nat.le_of_ble_eq_true rfl) hRl⟩) tw_880 tw_881 hK hP hD hS hA [33, 34, 35, 36, 37, 38, 39, 40, 41, 42, 43, 44, 45, 46, 47, 48, 49] [0, 1, 2, 3, 4, 5, 6, 7, 8, 9, 10, 11, 12, 13, 14, 15, 16, 17, 18, 19, 20, 21, 22, 23, 24, 25, 26, 27, 28, 29, 30, 31, 32, 50] rfl rfl rfl rfl (by decide) rfl rfl rfl rfl hl.1 rfl (Nat.le_of_ble_eq_true rfl) dL_law_552 ⟨by show _ + _ ≤ _; omega, by show _ + _ ≤ _; omega⟩ (fun r552 u552 H locs h552 hP hD hS => ?_)
  replace hP := hP.sub (ws' := LW z d e9 n u514.1 u552 o u514.2) [0, 1, 2, 3, 4, 5, 6, 7, 8, 9, 10, 11, 12, 13, 14, 15, 16, 17, 18, 19, 20, 21, 22, 23, 24, 25, 26, 27, 28, 29, 30, 31, 32, 34, 35, 36, 37, 38, 39, 40, 41, 42, 43, 44, 45, 46, 47, 48, 49, 50, 33] rfl
  replace hD := hD.sub (ws' := LW z d e9 n u514.1 u552 o u514.2) [0, 1, 2, 3, 4, 5, 6, 7, 8, 9, 10, 11, 12, 13, 14, 15, 16, 17, 18, 19, 20, 21, 22, 23, 24, 25, 26, 27, 28, 29, 30, 31, 32, 34, 35, 36, 37, 38, 39, 40, 41, 42, 43, 44, 45, 46, 47, 48, 49, 50, 33] rfl rfl
  rw [hvl, hvg] at h552
  obtain ⟨hag1, hag2, hag3⟩ := ag_stabiliser hn7 h514 h552
  refine lv_istore hx hb dL_law_555 hl (by decide) rfl (fun ls hl => ?_)
  replace hl : lv_has ls 7 [(6, .int r552), (5, .int r514), (4, .int (nI i)), (0, .ref q), (1, .ref (d 0)), (2, .ref (e9 0)), (3, .ref o)] := hl
  refine lv_aload_n hx hb dL_law_557 rfl (lv_at hl 5 rfl) ?_
  refine qV_i (ci := 5) (q0 := 0) (As := []) (rest := []) ⟨hx, hb, hml, hown, ht⟩ (c_M_thrown l D z e9 n) (cB 0 ht gM_thrown rfl tw_64 tw_729 (by decide +kernel) ⟨Nat.le_trans (Nat.le_of_ble_eq_true rfl) hRf, Nat.le_trans (Nat.le_of_ble_eq_true rfl) hRl⟩) tw_730 tw_731 hK (hP.sub (ws' := mWu z e9 n u552) [33, 34, 35, 36, 37, 38, 39, 40, 41, 42, 43, 44, 45, 46, 47, 48, 49] rfl) rfl rfl rfl hl.1 rfl (Nat.le_of_ble_eq_true rfl) dL_law_558 ⟨by show _ + _ ≤ _; omega, by show _ + _ ≤ _; omega⟩ (fun r558 h558 => ?_)
  subst h558
  refine lv_iload hx hb dL_law_561 (lv_at hl 1 rfl) ?_
  refine lv_icmp_eq (tgt := 568) hx hb dL_law_563 rfl (fun h9 => ?_) (fun h9 => absurd hag1 h9)
  refine lv_iload hx hb dL_law_568 (lv_at hl 1 rfl) ?_
  refine lv_if_ne (tgt := 585) hx hb dL_law_570 rfl (fun h10 => ?_) (fun h10 => ?_)
  · skip
    refine lv_goto (tgt := 1052) hx hb dL_law_585 rfl ?_
    exact W.widen (k := cells + 10) (n := slots + 100) (by show _ ≤ _; omega) (by show _ ≤ _; omega) (kk u514.1 u552 u514.2 _ _ ls hag3 hP hD hS (lv_sub hl [2, 3, 4, 5, 6] rfl))
  refine lv_aload_n hx hb dL_law_573 rfl (lv_at hl 6 rfl) ?_
  refine lv_iconst (v := 0) hx hb dL_law_574 (by decide) ?_
  refine va_lald hx hb hK hP 50 0 rfl rfl (vp_in_nI (n := 0) (N := 1) (by decide) (by decide)) dL_law_575 ?_
  refine wtl (x' := r552.toInt64) (hag2 h10) ?_
  refine lv_iload hx hb dL_law_576 (lv_at hl 0 rfl) ?_
  refine lv_i2l hx hb dL_law_578 rfl ?_
  refine W.lcmp hx hb dL_law_579 ?_
  refine lv_if_eq (tgt := 585) hx hb dL_law_580 rfl (fun h11 => ?_) (fun h11 => absurd ((lg_cmp_eq _ _).mpr rfl) h11)
  refine lv_goto (tgt := 1052) hx hb dL_law_585 rfl ?_
  exact W.widen (k := cells + 10) (n := slots + 100) (by show _ ≤ _; omega) (by show _ ≤ _; omega) (kk u514.1 u552 u514.2 _ _ ls hag3 hP hD hS (lv_sub hl [2, 3, 4, 5, 6] rfl))
set_option maxHeartbeats 8000000 in
set_option maxRecDepth 100000 in
theorem lw_centraliser {p : Program} {l : Launch} {e : Env} {R : Room} {s : State} {m : MethodId} {args : Array Value} {below : List Frame} {meth : Method} {c : Code} {H : Heap} {locs : List Loc} {cells slots : Nat} {Q : State → Prop} {ls : Array Slot} {D : va_G} {z : Nat → ClassId} {d e9 : Nat → Nat} {n : Nat} {u : dSt} {v : mSt} {o : Nat} {fO : Nat → Int64} {q N i : Nat} {f : Nat → Int32} {A : Nat → Prop} (hst : l.stackTraces = false) (hx : p.tables.exec = Jvm.exec) (hb : c.code = code) (hml : c.maxLocals = 7) (hown : s.vm.findClass "PermutationDeskLaw" = some m.cls) (ht : ∀ w ∈ TB, w.before args s = true) (hRf : 40 ≤ R.frames) (hRl : 2000 ≤ R.locals) (hcl : cells + 10 ≤ R.cells) (hsl : slots + 100 ≤ R.slots) (hK : va_K D vC (tyL z) s) (hV : xV s) (hH : xH A s s.heap) (hA : ∀ q, s.heap.size ≤ q → A q) (hP : va_P D vC (LW z d e9 n u v o fO) H) (hD : va_D A (LW z d e9 n u v o fO)) (hS : va_S A s.heap H locs) (hN : N < 2 ^ 31) (hi : i + 5 ≤ N) (hX : va_X q N f s s.heap) (hbl : q < s.heap.size) (hbA : ¬ A q) (hLS : LSt n u v) (hl : lv_has ls 7 [(4, .int (nI i)), (0, .ref q), (1, .ref (d 0)), (2, .ref (e9 0)), (3, .ref o)]) (kk : ∀ (u : dSt) (v : mSt) (fO : Nat → Int64) (H : Heap) (locs : List Loc) (ls : Array Slot), LSt n u v → va_P D vC (LW z d e9 n u v o fO) H → va_D A (LW z d e9 n u v o fO) → va_S A s.heap H locs → lv_has ls 7 [(4, .int (nI i)), (0, .ref q), (1, .ref (d 0)), (2, .ref (e9 0)), (3, .ref o)] → W p l e R s m args below meth c H locs (cells + 10) (slots + 100) Q (F0 m 1052 ls [])) : W p l e R s m args below meth c H locs cells slots Q (F0 m 588 ls []) := by
  obtain ⟨tx, g, tg, Gs, hn7, hgc6, hvl, hvg, hdR, hmR⟩ := hLS.inv
  obtain ⟨len, ft, gc, fg, fo, gs, us⟩ := u
  replace hdR : dR n tx len g gc tg Gs ft fg fo us := hdR
  replace hgc6 : gc ≤ 6 := hgc6
  replace hvl : v.2.1 = len := hvl
  replace hvg : v.2.2.2.1 = gc := hvg
  have hGG : ∀ i, i < 5 → pg_G n (Gs i) := fun i hi => (hdR.2.2.2.1 i hi).2.1
  have hgP : ∀ i, i < gc → pg_P n (g i) := fun i hi => (hdR.2.1.2.2.2.2 i hi).1
  refine lv_aload_n hx hb dL_law_588 rfl (lv_at hl 2 rfl) ?_
  refine lv_aload_n hx hb dL_law_589 rfl (lv_at hl 1 rfl) ?_
  refine lv_iload hx hb dL_law_590 (lv_at hl 0 rfl) ?_
  refine lv_iconst (v := 1) hx hb dL_law_592 (by decide) ?_
  refine lv_iadd hx hb dL_law_593 ?_
  refine wti (x' := nI (i + 1)) (nI_add i 1) ?_
  refine va_sld hx hb hX hbl hbA hS (vp_in_nI (by omega) hN) dL_law_594 ?_
  refine wti (x' := f (i + 1)) (by rw [nI_clamp (by omega)]) ?_
  refine lv_aload_n hx hb dL_law_595 rfl (lv_at hl 1 rfl) ?_
  refine lv_iload hx hb dL_law_596 (lv_at hl 0 rfl) ?_
  refine lv_iconst (v := 2) hx hb dL_law_598 (by decide) ?_
  refine lv_iadd hx hb dL_law_599 ?_
  refine wti (x' := nI (i + 2)) (nI_add i 2) ?_
  refine va_sld hx hb hX hbl hbA hS (vp_in_nI (by omega) hN) dL_law_600 ?_
  refine wti (x' := f (i + 2)) (by rw [nI_clamp (by omega)]) ?_
  refine lv_aload_n hx hb dL_law_601 rfl (lv_at hl 4 rfl) ?_
  refine qL_i (wr := mWu z e9 n v) (As := [.ref (d 0), .int (f (i + 1)), .int (f (i + 2)), .ref o]) (rest := []) ⟨hx, hb, hml, hown, ht⟩ (c_L_centraliser l hst D z d H.size n len gc ft fg fo gs us tx g tg Gs hdR o fO (f (i + 1)) (f (i + 2))) (vx_cwSW 4 ht (tb_c tw_546 (tb_c tw_547 (tb_c tw_58 gL_centraliser))) rfl rfl rfl (by decide +kernel) ⟨Nat.le_trans (Nat.le_of_ble_eq_true rfl) hRf, Nat.le_trans (Nat.le_of_ble_eq_true rfl) hRl⟩) hK hP hD hS hA hV hH [0, 1, 2, 3, 4, 5, 6, 7, 8, 9, 10, 11, 12, 13, 14, 15, 16, 17, 18, 19, 20, 21, 22, 23, 24, 25, 26, 27, 28, 29, 30, 31, 32, 50] [33, 34, 35, 36, 37, 38, 39, 40, 41, 42, 43, 44, 45, 46, 47, 48, 49] rfl rfl rfl rfl (by decide) rfl rfl hl.1 rfl (Nat.le_of_ble_eq_true rfl) dL_law_602 ⟨by show _ + _ ≤ _; omega, by show _ + _ ≤ _; omega⟩ (fun r602 u602 H locs h602 hP hD hS => ?_)
  replace hP := hP.sub (ws' := LW z d e9 n u602.1 v o u602.2) [17, 18, 19, 20, 21, 22, 23, 24, 25, 26, 27, 28, 29, 30, 31, 32, 33, 34, 35, 36, 37, 38, 39, 40, 41, 42, 43, 44, 45, 46, 47, 48, 49, 0, 1, 2, 3, 4, 5, 6, 7, 8, 9, 10, 11, 12, 13, 14, 15, 16, 50] rfl
  replace hD := hD.sub (ws' := LW z d e9 n u602.1 v o u602.2) [17, 18, 19, 20, 21, 22, 23, 24, 25, 26, 27, 28, 29, 30, 31, 32, 33, 34, 35, 36, 37, 38, 39, 40, 41, 42, 43, 44, 45, 46, 47, 48, 49, 0, 1, 2, 3, 4, 5, 6, 7, 8, 9, 10, 11, 12, 13, 14, 15, 16, 50] rfl rfl
  refine lv_istore hx hb dL_law_605 hl (by decide) rfl (fun ls hl => ?_)
  replace hl : lv_has ls 7 [(5, .int r602), (4, .int (nI i)), (0, .ref q), (1, .ref (d 0)), (2, .ref (e9 0)), (3, .ref o)] := hl
  refine lv_aload_n hx hb dL_law_607 rfl (lv_at hl 4 rfl) ?_
  refine lv_aload_n hx hb dL_law_608 rfl (lv_at hl 2 rfl) ?_
  refine lv_iload hx hb dL_law_609 (lv_at hl 1 rfl) ?_
  refine lv_iconst (v := 1) hx hb dL_law_611 (by decide) ?_
  refine lv_iadd hx hb dL_law_612 ?_
  refine wti (x' := nI (i + 1)) (nI_add i 1) ?_
  refine va_sld hx hb hX hbl hbA hS (vp_in_nI (by omega) hN) dL_law_613 ?_
  refine wti (x' := f (i + 1)) (by rw [nI_clamp (by omega)]) ?_
  refine lv_aload_n hx hb dL_law_614 rfl (lv_at hl 2 rfl) ?_
  refine lv_iload hx hb dL_law_615 (lv_at hl 1 rfl) ?_
  refine lv_iconst (v := 2) hx hb dL_law_617 (by decide) ?_
  refine lv_iadd hx hb dL_law_618 ?_
  refine wti (x' := nI (i + 2)) (nI_add i 2) ?_
  refine va_sld hx hb hX hbl hbA hS (vp_in_nI (by omega) hN) dL_law_619 ?_
  refine wti (x' := f (i + 2)) (by rw [nI_clamp (by omega)]) ?_
  refine qW_i (ci := 5) (q0 := 0) (wr := dW z d n u602.1 ++ [(o, .inl (z 0, 1, .inr (.inl u602.2)))]) (As := [.int (f (i + 1)), .int (f (i + 2))]) (rest := []) ⟨hx, hb, hml, hown, ht⟩ (c_M_centraliser l D z e9 n _ tx g tg Gs hmR (f (i + 1)) (f (i + 2))) (cB 2 ht gM_centraliser rfl tw_64 tw_890 (by decide +kernel) ⟨Nat.le_trans (Nat.le_of_ble_eq_true rfl) hRf, Nat.le_trans (Nat.le_of_ble_eq_true rfl) hRl⟩) tw_891 tw_892 hK hP hD hS hA [33, 34, 35, 36, 37, 38, 39, 40, 41, 42, 43, 44, 45, 46, 47, 48, 49] [0, 1, 2, 3, 4, 5, 6, 7, 8, 9, 10, 11, 12, 13, 14, 15, 16, 17, 18, 19, 20, 21, 22, 23, 24, 25, 26, 27, 28, 29, 30, 31, 32, 50] rfl rfl rfl rfl (by decide) rfl rfl rfl rfl hl.1 rfl (Nat.le_of_ble_eq_true rfl) dL_law_620 ⟨by show _ + _ ≤ _; omega, by show _ + _ ≤ _; omega⟩ (fun r620 u620 H locs h620 hP hD hS => ?_)
  replace hP := hP.sub (ws' := LW z d e9 n u602.1 u620 o u602.2) [0, 1, 2, 3, 4, 5, 6, 7, 8, 9, 10, 11, 12, 13, 14, 15, 16, 17, 18, 19, 20, 21, 22, 23, 24, 25, 26, 27, 28, 29, 30, 31, 32, 34, 35, 36, 37, 38, 39, 40, 41, 42, 43, 44, 45, 46, 47, 48, 49, 50, 33] rfl
  replace hD := hD.sub (ws' := LW z d e9 n u602.1 u620 o u602.2) [0, 1, 2, 3, 4, 5, 6, 7, 8, 9, 10, 11, 12, 13, 14, 15, 16, 17, 18, 19, 20, 21, 22, 23, 24, 25, 26, 27, 28, 29, 30, 31, 32, 34, 35, 36, 37, 38, 39, 40, 41, 42, 43, 44, 45, 46, 47, 48, 49, 50, 33] rfl rfl
  rw [hvl, hvg] at h620
  obtain ⟨hag1, hag2, hag3⟩ := ag_centraliser  h602 h620
  refine lv_istore hx hb dL_law_623 hl (by decide) rfl (fun ls hl => ?_)
  replace hl : lv_has ls 7 [(6, .int r620), (5, .int r602), (4, .int (nI i)), (0, .ref q), (1, .ref (d 0)), (2, .ref (e9 0)), (3, .ref o)] := hl
  refine lv_aload_n hx hb dL_law_625 rfl (lv_at hl 5 rfl) ?_
  refine qV_i (ci := 5) (q0 := 0) (As := []) (rest := []) ⟨hx, hb, hml, hown, ht⟩ (c_M_thrown l D z e9 n) (cB 0 ht gM_thrown rfl tw_64 tw_729 (by decide +kernel) ⟨Nat.le_trans (Nat.le_of_ble_eq_true rfl) hRf, Nat.le_trans (Nat.le_of_ble_eq_true rfl) hRl⟩) tw_730 tw_731 hK (hP.sub (ws' := mWu z e9 n u620) [33, 34, 35, 36, 37, 38, 39, 40, 41, 42, 43, 44, 45, 46, 47, 48, 49] rfl) rfl rfl rfl hl.1 rfl (Nat.le_of_ble_eq_true rfl) dL_law_626 ⟨by show _ + _ ≤ _; omega, by show _ + _ ≤ _; omega⟩ (fun r626 h626 => ?_)
  subst h626
  refine lv_iload hx hb dL_law_629 (lv_at hl 1 rfl) ?_
  refine lv_icmp_eq (tgt := 636) hx hb dL_law_631 rfl (fun h9 => ?_) (fun h9 => absurd hag1 h9)
  refine lv_iload hx hb dL_law_636 (lv_at hl 1 rfl) ?_
  refine lv_if_ne (tgt := 653) hx hb dL_law_638 rfl (fun h10 => ?_) (fun h10 => ?_)
  · skip
    refine lv_goto (tgt := 1052) hx hb dL_law_653 rfl ?_
    exact W.widen (k := cells + 10) (n := slots + 100) (by show _ ≤ _; omega) (by show _ ≤ _; omega) (kk u602.1 u620 u602.2 _ _ ls hag3 hP hD hS (lv_sub hl [2, 3, 4, 5, 6] rfl))
  refine lv_aload_n hx hb dL_law_641 rfl (lv_at hl 6 rfl) ?_
  refine lv_iconst (v := 0) hx hb dL_law_642 (by decide) ?_
  refine va_lald hx hb hK hP 50 0 rfl rfl (vp_in_nI (n := 0) (N := 1) (by decide) (by decide)) dL_law_643 ?_
  refine wtl (x' := r620.toInt64) (hag2 h10) ?_
  refine lv_iload hx hb dL_law_644 (lv_at hl 0 rfl) ?_
  refine lv_i2l hx hb dL_law_646 rfl ?_
  refine W.lcmp hx hb dL_law_647 ?_
  refine lv_if_eq (tgt := 653) hx hb dL_law_648 rfl (fun h11 => ?_) (fun h11 => absurd ((lg_cmp_eq _ _).mpr rfl) h11)
  refine lv_goto (tgt := 1052) hx hb dL_law_653 rfl ?_
  exact W.widen (k := cells + 10) (n := slots + 100) (by show _ ≤ _; omega) (by show _ ≤ _; omega) (kk u602.1 u620 u602.2 _ _ ls hag3 hP hD hS (lv_sub hl [2, 3, 4, 5, 6] rfl))
set_option maxHeartbeats 8000000 in
set_option maxRecDepth 100000 in
theorem lw_closure {p : Program} {l : Launch} {e : Env} {R : Room} {s : State} {m : MethodId} {args : Array Value} {below : List Frame} {meth : Method} {c : Code} {H : Heap} {locs : List Loc} {cells slots : Nat} {Q : State → Prop} {ls : Array Slot} {D : va_G} {z : Nat → ClassId} {d e9 : Nat → Nat} {n : Nat} {u : dSt} {v : mSt} {o : Nat} {fO : Nat → Int64} {q N i : Nat} {f : Nat → Int32} {A : Nat → Prop} (hst : l.stackTraces = false) (hx : p.tables.exec = Jvm.exec) (hb : c.code = code) (hml : c.maxLocals = 7) (hown : s.vm.findClass "PermutationDeskLaw" = some m.cls) (ht : ∀ w ∈ TB, w.before args s = true) (hRf : 40 ≤ R.frames) (hRl : 2000 ≤ R.locals) (hcl : cells + 10 ≤ R.cells) (hsl : slots + 100 ≤ R.slots) (hK : va_K D vC (tyL z) s) (hV : xV s) (hH : xH A s s.heap) (hA : ∀ q, s.heap.size ≤ q → A q) (hP : va_P D vC (LW z d e9 n u v o fO) H) (hD : va_D A (LW z d e9 n u v o fO)) (hS : va_S A s.heap H locs) (hN : N < 2 ^ 31) (hi : i + 5 ≤ N) (hX : va_X q N f s s.heap) (hbl : q < s.heap.size) (hbA : ¬ A q) (hLS : LSt n u v) (hl : lv_has ls 7 [(4, .int (nI i)), (0, .ref q), (1, .ref (d 0)), (2, .ref (e9 0)), (3, .ref o)]) (kk : ∀ (u : dSt) (v : mSt) (fO : Nat → Int64) (H : Heap) (locs : List Loc) (ls : Array Slot), LSt n u v → va_P D vC (LW z d e9 n u v o fO) H → va_D A (LW z d e9 n u v o fO) → va_S A s.heap H locs → lv_has ls 7 [(4, .int (nI i)), (0, .ref q), (1, .ref (d 0)), (2, .ref (e9 0)), (3, .ref o)] → W p l e R s m args below meth c H locs (cells + 10) (slots + 100) Q (F0 m 1052 ls [])) : W p l e R s m args below meth c H locs cells slots Q (F0 m 656 ls []) := by
  obtain ⟨tx, g, tg, Gs, hn7, hgc6, hvl, hvg, hdR, hmR⟩ := hLS.inv
  obtain ⟨len, ft, gc, fg, fo, gs, us⟩ := u
  replace hdR : dR n tx len g gc tg Gs ft fg fo us := hdR
  replace hgc6 : gc ≤ 6 := hgc6
  replace hvl : v.2.1 = len := hvl
  replace hvg : v.2.2.2.1 = gc := hvg
  have hGG : ∀ i, i < 5 → pg_G n (Gs i) := fun i hi => (hdR.2.2.2.1 i hi).2.1
  have hgP : ∀ i, i < gc → pg_P n (g i) := fun i hi => (hdR.2.1.2.2.2.2 i hi).1
  refine lv_aload_n hx hb dL_law_656 rfl (lv_at hl 2 rfl) ?_
  refine lv_aload_n hx hb dL_law_657 rfl (lv_at hl 1 rfl) ?_
  refine lv_iload hx hb dL_law_658 (lv_at hl 0 rfl) ?_
  refine lv_iconst (v := 1) hx hb dL_law_660 (by decide) ?_
  refine lv_iadd hx hb dL_law_661 ?_
  refine wti (x' := nI (i + 1)) (nI_add i 1) ?_
  refine va_sld hx hb hX hbl hbA hS (vp_in_nI (by omega) hN) dL_law_662 ?_
  refine wti (x' := f (i + 1)) (by rw [nI_clamp (by omega)]) ?_
  refine lv_aload_n hx hb dL_law_663 rfl (lv_at hl 1 rfl) ?_
  refine lv_iload hx hb dL_law_664 (lv_at hl 0 rfl) ?_
  refine lv_iconst (v := 2) hx hb dL_law_666 (by decide) ?_
  refine lv_iadd hx hb dL_law_667 ?_
  refine wti (x' := nI (i + 2)) (nI_add i 2) ?_
  refine va_sld hx hb hX hbl hbA hS (vp_in_nI (by omega) hN) dL_law_668 ?_
  refine wti (x' := f (i + 2)) (by rw [nI_clamp (by omega)]) ?_
  refine lv_aload_n hx hb dL_law_669 rfl (lv_at hl 4 rfl) ?_
  refine qL_i (wr := mWu z e9 n v) (As := [.ref (d 0), .int (f (i + 1)), .int (f (i + 2)), .ref o]) (rest := []) ⟨hx, hb, hml, hown, ht⟩ (c_L_closure l hst D z d H.size n len gc ft fg fo gs us tx g tg Gs hdR o fO (f (i + 1)) (f (i + 2))) (vx_cwSW 4 ht (tb_c tw_563 (tb_c tw_564 (tb_c tw_58 gL_closure))) rfl rfl rfl (by decide +kernel) ⟨Nat.le_trans (Nat.le_of_ble_eq_true rfl) hRf, Nat.le_trans (Nat.le_of_ble_eq_true rfl) hRl⟩) hK hP hD hS hA hV hH [0, 1, 2, 3, 4, 5, 6, 7, 8, 9, 10, 11, 12, 13, 14, 15, 16, 17, 18, 19, 20, 21, 22, 23, 24, 25, 26, 27, 28, 29, 30, 31, 32, 50] [33, 34, 35, 36, 37, 38, 39, 40, 41, 42, 43, 44, 45, 46, 47, 48, 49] rfl rfl rfl rfl (by decide) rfl rfl hl.1 rfl (Nat.le_of_ble_eq_true rfl) dL_law_670 ⟨by show _ + _ ≤ _; omega, by show _ + _ ≤ _; omega⟩ (fun r670 u670 H locs h670 hP hD hS => ?_)
  replace hP := hP.sub (ws' := LW z d e9 n u670.1 v o u670.2) [17, 18, 19, 20, 21, 22, 23, 24, 25, 26, 27, 28, 29, 30, 31, 32, 33, 34, 35, 36, 37, 38, 39, 40, 41, 42, 43, 44, 45, 46, 47, 48, 49, 0, 1, 2, 3, 4, 5, 6, 7, 8, 9, 10, 11, 12, 13, 14, 15, 16, 50] rfl
  replace hD := hD.sub (ws' := LW z d e9 n u670.1 v o u670.2) [17, 18, 19, 20, 21, 22, 23, 24, 25, 26, 27, 28, 29, 30, 31, 32, 33, 34, 35, 36, 37, 38, 39, 40, 41, 42, 43, 44, 45, 46, 47, 48, 49, 0, 1, 2, 3, 4, 5, 6, 7, 8, 9, 10, 11, 12, 13, 14, 15, 16, 50] rfl rfl
  refine lv_istore hx hb dL_law_673 hl (by decide) rfl (fun ls hl => ?_)
  replace hl : lv_has ls 7 [(5, .int r670), (4, .int (nI i)), (0, .ref q), (1, .ref (d 0)), (2, .ref (e9 0)), (3, .ref o)] := hl
  refine lv_aload_n hx hb dL_law_675 rfl (lv_at hl 4 rfl) ?_
  refine lv_aload_n hx hb dL_law_676 rfl (lv_at hl 2 rfl) ?_
  refine lv_iload hx hb dL_law_677 (lv_at hl 1 rfl) ?_
  refine lv_iconst (v := 1) hx hb dL_law_679 (by decide) ?_
  refine lv_iadd hx hb dL_law_680 ?_
  refine wti (x' := nI (i + 1)) (nI_add i 1) ?_
  refine va_sld hx hb hX hbl hbA hS (vp_in_nI (by omega) hN) dL_law_681 ?_
  refine wti (x' := f (i + 1)) (by rw [nI_clamp (by omega)]) ?_
  refine lv_aload_n hx hb dL_law_682 rfl (lv_at hl 2 rfl) ?_
  refine lv_iload hx hb dL_law_683 (lv_at hl 1 rfl) ?_
  refine lv_iconst (v := 2) hx hb dL_law_685 (by decide) ?_
  refine lv_iadd hx hb dL_law_686 ?_
  refine wti (x' := nI (i + 2)) (nI_add i 2) ?_
  refine va_sld hx hb hX hbl hbA hS (vp_in_nI (by omega) hN) dL_law_687 ?_
  refine wti (x' := f (i + 2)) (by rw [nI_clamp (by omega)]) ?_
  refine qW_i (ci := 5) (q0 := 0) (wr := dW z d n u670.1 ++ [(o, .inl (z 0, 1, .inr (.inl u670.2)))]) (As := [.int (f (i + 1)), .int (f (i + 2))]) (rest := []) ⟨hx, hb, hml, hown, ht⟩ (c_M_closure l D z e9 n _ tx g tg Gs hmR (f (i + 1)) (f (i + 2))) (cB 2 ht gM_closure rfl tw_64 tw_894 (by decide +kernel) ⟨Nat.le_trans (Nat.le_of_ble_eq_true rfl) hRf, Nat.le_trans (Nat.le_of_ble_eq_true rfl) hRl⟩) tw_895 tw_896 hK hP hD hS hA [33, 34, 35, 36, 37, 38, 39, 40, 41, 42, 43, 44, 45, 46, 47, 48, 49] [0, 1, 2, 3, 4, 5, 6, 7, 8, 9, 10, 11, 12, 13, 14, 15, 16, 17, 18, 19, 20, 21, 22, 23, 24, 25, 26, 27, 28, 29, 30, 31, 32, 50] rfl rfl rfl rfl (by decide) rfl rfl rfl rfl hl.1 rfl (Nat.le_of_ble_eq_true rfl) dL_law_688 ⟨by show _ + _ ≤ _; omega, by show _ + _ ≤ _; omega⟩ (fun r688 u688 H locs h688 hP hD hS => ?_)
  replace hP := hP.sub (ws' := LW z d e9 n u670.1 u688 o u670.2) [0, 1, 2, 3, 4, 5, 6, 7, 8, 9, 10, 11, 12, 13, 14, 15, 16, 17, 18, 19, 20, 21, 22, 23, 24, 25, 26, 27, 28, 29, 30, 31, 32, 34, 35, 36, 37, 38, 39, 40, 41, 42, 43, 44, 45, 46, 47, 48, 49, 50, 33] rfl
  replace hD := hD.sub (ws' := LW z d e9 n u670.1 u688 o u670.2) [0, 1, 2, 3, 4, 5, 6, 7, 8, 9, 10, 11, 12, 13, 14, 15, 16, 17, 18, 19, 20, 21, 22, 23, 24, 25, 26, 27, 28, 29, 30, 31, 32, 34, 35, 36, 37, 38, 39, 40, 41, 42, 43, 44, 45, 46, 47, 48, 49, 50, 33] rfl rfl
  rw [hvl, hvg] at h688
  obtain ⟨hag1, hag2, hag3⟩ := ag_closure hGG hgP h670 h688
  refine lv_istore hx hb dL_law_691 hl (by decide) rfl (fun ls hl => ?_)
  replace hl : lv_has ls 7 [(6, .int r688), (5, .int r670), (4, .int (nI i)), (0, .ref q), (1, .ref (d 0)), (2, .ref (e9 0)), (3, .ref o)] := hl
  refine lv_aload_n hx hb dL_law_693 rfl (lv_at hl 5 rfl) ?_
  refine qV_i (ci := 5) (q0 := 0) (As := []) (rest := []) ⟨hx, hb, hml, hown, ht⟩ (c_M_thrown l D z e9 n) (cB 0 ht gM_thrown rfl tw_64 tw_729 (by decide +kernel) ⟨Nat.le_trans (Nat.le_of_ble_eq_true rfl) hRf, Nat.le_trans (Nat.le_of_ble_eq_true rfl) hRl⟩) tw_730 tw_731 hK (hP.sub (ws' := mWu z e9 n u688) [33, 34, 35, 36, 37, 38, 39, 40, 41, 42, 43, 44, 45, 46, 47, 48, 49] rfl) rfl rfl rfl hl.1 rfl (Nat.le_of_ble_eq_true rfl) dL_law_694 ⟨by show _ + _ ≤ _; omega, by show _ + _ ≤ _; omega⟩ (fun r694 h694 => ?_)
  subst h694
  refine lv_iload hx hb dL_law_697 (lv_at hl 1 rfl) ?_
  refine lv_icmp_eq (tgt := 704) hx hb dL_law_699 rfl (fun h9 => ?_) (fun h9 => absurd hag1 h9)
  refine lv_iload hx hb dL_law_704 (lv_at hl 1 rfl) ?_
  refine lv_if_ne (tgt := 721) hx hb dL_law_706 rfl (fun h10 => ?_) (fun h10 => ?_)
  · skip
    refine lv_goto (tgt := 1052) hx hb dL_law_721 rfl ?_
    exact W.widen (k := cells + 10) (n := slots + 100) (by show _ ≤ _; omega) (by show _ ≤ _; omega) (kk u670.1 u688 u670.2 _ _ ls hag3 hP hD hS (lv_sub hl [2, 3, 4, 5, 6] rfl))
  refine lv_aload_n hx hb dL_law_709 rfl (lv_at hl 6 rfl) ?_
  refine lv_iconst (v := 0) hx hb dL_law_710 (by decide) ?_
  refine va_lald hx hb hK hP 50 0 rfl rfl (vp_in_nI (n := 0) (N := 1) (by decide) (by decide)) dL_law_711 ?_
  refine wtl (x' := r688.toInt64) (hag2 h10) ?_
  refine lv_iload hx hb dL_law_712 (lv_at hl 0 rfl) ?_
  refine lv_i2l hx hb dL_law_714 rfl ?_
  refine W.lcmp hx hb dL_law_715 ?_
  refine lv_if_eq (tgt := 721) hx hb dL_law_716 rfl (fun h11 => ?_) (fun h11 => absurd ((lg_cmp_eq _ _).mpr rfl) h11)
  refine lv_goto (tgt := 1052) hx hb dL_law_721 rfl ?_
  exact W.widen (k := cells + 10) (n := slots + 100) (by show _ ≤ _; omega) (by show _ ≤ _; omega) (kk u670.1 u688 u670.2 _ _ ls hag3 hP hD hS (lv_sub hl [2, 3, 4, 5, 6] rfl))
set_option maxHeartbeats 8000000 in
set_option maxRecDepth 100000 in
theorem lw_derived {p : Program} {l : Launch} {e : Env} {R : Room} {s : State} {m : MethodId} {args : Array Value} {below : List Frame} {meth : Method} {c : Code} {H : Heap} {locs : List Loc} {cells slots : Nat} {Q : State → Prop} {ls : Array Slot} {D : va_G} {z : Nat → ClassId} {d e9 : Nat → Nat} {n : Nat} {u : dSt} {v : mSt} {o : Nat} {fO : Nat → Int64} {q N i : Nat} {f : Nat → Int32} {A : Nat → Prop} (hst : l.stackTraces = false) (hx : p.tables.exec = Jvm.exec) (hb : c.code = code) (hml : c.maxLocals = 7) (hown : s.vm.findClass "PermutationDeskLaw" = some m.cls) (ht : ∀ w ∈ TB, w.before args s = true) (hRf : 40 ≤ R.frames) (hRl : 2000 ≤ R.locals) (hcl : cells + 10 ≤ R.cells) (hsl : slots + 100 ≤ R.slots) (hK : va_K D vC (tyL z) s) (hV : xV s) (hH : xH A s s.heap) (hA : ∀ q, s.heap.size ≤ q → A q) (hP : va_P D vC (LW z d e9 n u v o fO) H) (hD : va_D A (LW z d e9 n u v o fO)) (hS : va_S A s.heap H locs) (hN : N < 2 ^ 31) (hi : i + 5 ≤ N) (hX : va_X q N f s s.heap) (hbl : q < s.heap.size) (hbA : ¬ A q) (hLS : LSt n u v) (hl : lv_has ls 7 [(4, .int (nI i)), (0, .ref q), (1, .ref (d 0)), (2, .ref (e9 0)), (3, .ref o)]) (kk : ∀ (u : dSt) (v : mSt) (fO : Nat → Int64) (H : Heap) (locs : List Loc) (ls : Array Slot), LSt n u v → va_P D vC (LW z d e9 n u v o fO) H → va_D A (LW z d e9 n u v o fO) → va_S A s.heap H locs → lv_has ls 7 [(4, .int (nI i)), (0, .ref q), (1, .ref (d 0)), (2, .ref (e9 0)), (3, .ref o)] → W p l e R s m args below meth c H locs (cells + 10) (slots + 100) Q (F0 m 1052 ls [])) : W p l e R s m args below meth c H locs cells slots Q (F0 m 724 ls []) := by
  obtain ⟨tx, g, tg, Gs, hn7, hgc6, hvl, hvg, hdR, hmR⟩ := hLS.inv
  obtain ⟨len, ft, gc, fg, fo, gs, us⟩ := u
  replace hdR : dR n tx len g gc tg Gs ft fg fo us := hdR
  replace hgc6 : gc ≤ 6 := hgc6
  replace hvl : v.2.1 = len := hvl
  replace hvg : v.2.2.2.1 = gc := hvg
  have hGG : ∀ i, i < 5 → pg_G n (Gs i) := fun i hi => (hdR.2.2.2.1 i hi).2.1
  have hgP : ∀ i, i < gc → pg_P n (g i) := fun i hi => (hdR.2.1.2.2.2.2 i hi).1
  refine lv_aload_n hx hb dL_law_724 rfl (lv_at hl 2 rfl) ?_
  refine lv_aload_n hx hb dL_law_725 rfl (lv_at hl 1 rfl) ?_
  refine lv_iload hx hb dL_law_726 (lv_at hl 0 rfl) ?_
  refine lv_iconst (v := 1) hx hb dL_law_728 (by decide) ?_
  refine lv_iadd hx hb dL_law_729 ?_
  refine wti (x' := nI (i + 1)) (nI_add i 1) ?_
  refine va_sld hx hb hX hbl hbA hS (vp_in_nI (by omega) hN) dL_law_730 ?_
  refine wti (x' := f (i + 1)) (by rw [nI_clamp (by omega)]) ?_
  refine lv_aload_n hx hb dL_law_731 rfl (lv_at hl 1 rfl) ?_
  refine lv_iload hx hb dL_law_732 (lv_at hl 0 rfl) ?_
  refine lv_iconst (v := 2) hx hb dL_law_734 (by decide) ?_
  refine lv_iadd hx hb dL_law_735 ?_
  refine wti (x' := nI (i + 2)) (nI_add i 2) ?_
  refine va_sld hx hb hX hbl hbA hS (vp_in_nI (by omega) hN) dL_law_736 ?_
  refine wti (x' := f (i + 2)) (by rw [nI_clamp (by omega)]) ?_
  refine lv_aload_n hx hb dL_law_737 rfl (lv_at hl 4 rfl) ?_
  refine qL_i (wr := mWu z e9 n v) (As := [.ref (d 0), .int (f (i + 1)), .int (f (i + 2)), .ref o]) (rest := []) ⟨hx, hb, hml, hown, ht⟩ (c_L_derived l hst D z d H.size n len gc ft fg fo gs us tx g tg Gs hdR o fO (f (i + 1)) (f (i + 2))) (vx_cwSW 4 ht (tb_c tw_578 (tb_c tw_579 (tb_c tw_58 gL_derived))) rfl rfl rfl (by decide +kernel) ⟨Nat.le_trans (Nat.le_of_ble_eq_true rfl) hRf, Nat.le_trans (Nat.le_of_ble_eq_true rfl) hRl⟩) hK hP hD hS hA hV hH [0, 1, 2, 3, 4, 5, 6, 7, 8, 9, 10, 11, 12, 13, 14, 15, 16, 17, 18, 19, 20, 21, 22, 23, 24, 25, 26, 27, 28, 29, 30, 31, 32, 50] [33, 34, 35, 36, 37, 38, 39, 40, 41, 42, 43, 44, 45, 46, 47, 48, 49] rfl rfl rfl rfl (by decide) rfl rfl hl.1 rfl (Nat.le_of_ble_eq_true rfl) dL_law_738 ⟨by show _ + _ ≤ _; omega, by show _ + _ ≤ _; omega⟩ (fun r738 u738 H locs h738 hP hD hS => ?_)
  replace hP := hP.sub (ws' := LW z d e9 n u738.1 v o u738.2) [17, 18, 19, 20, 21, 22, 23, 24, 25, 26, 27, 28, 29, 30, 31, 32, 33, 34, 35, 36, 37, 38, 39, 40, 41, 42, 43, 44, 45, 46, 47, 48, 49, 0, 1, 2, 3, 4, 5, 6, 7, 8, 9, 10, 11, 12, 13, 14, 15, 16, 50] rfl
  replace hD := hD.sub (ws' := LW z d e9 n u738.1 v o u738.2) [17, 18, 19, 20, 21, 22, 23, 24, 25, 26, 27, 28, 29, 30, 31, 32, 33, 34, 35, 36, 37, 38, 39, 40, 41, 42, 43, 44, 45, 46, 47, 48, 49, 0, 1, 2, 3, 4, 5, 6, 7, 8, 9, 10, 11, 12, 13, 14, 15, 16, 50] rfl rfl
  refine lv_istore hx hb dL_law_741 hl (by decide) rfl (fun ls hl => ?_)
  replace hl : lv_has ls 7 [(5, .int r738), (4, .int (nI i)), (0, .ref q), (1, .ref (d 0)), (2, .ref (e9 0)), (3, .ref o)] := hl
  refine lv_aload_n hx hb dL_law_743 rfl (lv_at hl 4 rfl) ?_
  refine lv_aload_n hx hb dL_law_744 rfl (lv_at hl 2 rfl) ?_
  refine lv_iload hx hb dL_law_745 (lv_at hl 1 rfl) ?_
  refine lv_iconst (v := 1) hx hb dL_law_747 (by decide) ?_
  refine lv_iadd hx hb dL_law_748 ?_
  refine wti (x' := nI (i + 1)) (nI_add i 1) ?_
  refine va_sld hx hb hX hbl hbA hS (vp_in_nI (by omega) hN) dL_law_749 ?_
  refine wti (x' := f (i + 1)) (by rw [nI_clamp (by omega)]) ?_
  refine lv_aload_n hx hb dL_law_750 rfl (lv_at hl 2 rfl) ?_
  refine lv_iload hx hb dL_law_751 (lv_at hl 1 rfl) ?_
  refine lv_iconst (v := 2) hx hb dL_law_753 (by decide) ?_
  refine lv_iadd hx hb dL_law_754 ?_
  refine wti (x' := nI (i + 2)) (nI_add i 2) ?_
  refine va_sld hx hb hX hbl hbA hS (vp_in_nI (by omega) hN) dL_law_755 ?_
  refine wti (x' := f (i + 2)) (by rw [nI_clamp (by omega)]) ?_
  refine qW_i (ci := 5) (q0 := 0) (wr := dW z d n u738.1 ++ [(o, .inl (z 0, 1, .inr (.inl u738.2)))]) (As := [.int (f (i + 1)), .int (f (i + 2))]) (rest := []) ⟨hx, hb, hml, hown, ht⟩ (c_M_derived l D z e9 n _ tx g tg Gs hmR hGG (f (i + 1)) (f (i + 2))) (cB 2 ht gM_derived rfl tw_64 tw_902 (by decide +kernel) ⟨Nat.le_trans (Nat.le_of_ble_eq_true rfl) hRf, Nat.le_trans (Nat.le_of_ble_eq_true rfl) hRl⟩) tw_903 tw_904 hK hP hD hS hA [33, 34, 35, 36, 37, 38, 39, 40, 41, 42, 43, 44, 45, 46, 47, 48, 49] [0, 1, 2, 3, 4, 5, 6, 7, 8, 9, 10, 11, 12, 13, 14, 15, 16, 17, 18, 19, 20, 21, 22, 23, 24, 25, 26, 27, 28, 29, 30, 31, 32, 50] rfl rfl rfl rfl (by decide) rfl rfl rfl rfl hl.1 rfl (Nat.le_of_ble_eq_true rfl) dL_law_756 ⟨by show _ + _ ≤ _; omega, by show _ + _ ≤ _; omega⟩ (fun r756 u756 H locs h756 hP hD hS => ?_)
  replace hP := hP.sub (ws' := LW z d e9 n u738.1 u756 o u738.2) [0, 1, 2, 3, 4, 5, 6, 7, 8, 9, 10, 11, 12, 13, 14, 15, 16, 17, 18, 19, 20, 21, 22, 23, 24, 25, 26, 27, 28, 29, 30, 31, 32, 34, 35, 36, 37, 38, 39, 40, 41, 42, 43, 44, 45, 46, 47, 48, 49, 50, 33] rfl
  replace hD := hD.sub (ws' := LW z d e9 n u738.1 u756 o u738.2) [0, 1, 2, 3, 4, 5, 6, 7, 8, 9, 10, 11, 12, 13, 14, 15, 16, 17, 18, 19, 20, 21, 22, 23, 24, 25, 26, 27, 28, 29, 30, 31, 32, 34, 35, 36, 37, 38, 39, 40, 41, 42, 43, 44, 45, 46, 47, 48, 49, 50, 33] rfl rfl
  rw [hvl, hvg] at h756
  obtain ⟨hag1, hag2, hag3⟩ := ag_derived  h738 h756
  refine lv_istore hx hb dL_law_759 hl (by decide) rfl (fun ls hl => ?_)
  replace hl : lv_has ls 7 [(6, .int r756), (5, .int r738), (4, .int (nI i)), (0, .ref q), (1, .ref (d 0)), (2, .ref (e9 0)), (3, .ref o)] := hl
  refine lv_aload_n hx hb dL_law_761 rfl (lv_at hl 5 rfl) ?_
  refine qV_i (ci := 5) (q0 := 0) (As := []) (rest := []) ⟨hx, hb, hml, hown, ht⟩ (c_M_thrown l D z e9 n) (cB 0 ht gM_thrown rfl tw_64 tw_729 (by decide +kernel) ⟨Nat.le_trans (Nat.le_of_ble_eq_true rfl) hRf, Nat.le_trans (Nat.le_of_ble_eq_true rfl) hRl⟩) tw_730 tw_731 hK (hP.sub (ws' := mWu z e9 n u756) [33, 34, 35, 36, 37, 38, 39, 40, 41, 42, 43, 44, 45, 46, 47, 48, 49] rfl) rfl rfl rfl hl.1 rfl (Nat.le_of_ble_eq_true rfl) dL_law_762 ⟨by show _ + _ ≤ _; omega, by show _ + _ ≤ _; omega⟩ (fun r762 h762 => ?_)
  subst h762
  refine lv_iload hx hb dL_law_765 (lv_at hl 1 rfl) ?_
  refine lv_icmp_eq (tgt := 772) hx hb dL_law_767 rfl (fun h9 => ?_) (fun h9 => absurd hag1 h9)
  refine lv_iload hx hb dL_law_772 (lv_at hl 1 rfl) ?_
  refine lv_if_ne (tgt := 789) hx hb dL_law_774 rfl (fun h10 => ?_) (fun h10 => ?_)
  · skip
    refine lv_goto (tgt := 1052) hx hb dL_law_789 rfl ?_
    exact W.widen (k := cells + 10) (n := slots + 100) (by show _ ≤ _; omega) (by show _ ≤ _; omega) (kk u738.1 u756 u738.2 _ _ ls hag3 hP hD hS (lv_sub hl [2, 3, 4, 5, 6] rfl))
  refine lv_aload_n hx hb dL_law_777 rfl (lv_at hl 6 rfl) ?_
  refine lv_iconst (v := 0) hx hb dL_law_778 (by decide) ?_
  refine va_lald hx hb hK hP 50 0 rfl rfl (vp_in_nI (n := 0) (N := 1) (by decide) (by decide)) dL_law_779 ?_
  refine wtl (x' := r756.toInt64) (hag2 h10) ?_
  refine lv_iload hx hb dL_law_780 (lv_at hl 0 rfl) ?_
  refine lv_i2l hx hb dL_law_782 rfl ?_
  refine W.lcmp hx hb dL_law_783 ?_
  refine lv_if_eq (tgt := 789) hx hb dL_law_784 rfl (fun h11 => ?_) (fun h11 => absurd ((lg_cmp_eq _ _).mpr rfl) h11)
  refine lv_goto (tgt := 1052) hx hb dL_law_789 rfl ?_
  exact W.widen (k := cells + 10) (n := slots + 100) (by show _ ≤ _; omega) (by show _ ≤ _; omega) (kk u738.1 u756 u738.2 _ _ ls hag3 hP hD hS (lv_sub hl [2, 3, 4, 5, 6] rfl))
set_option maxHeartbeats 8000000 in
set_option maxRecDepth 100000 in
theorem lw_order {p : Program} {l : Launch} {e : Env} {R : Room} {s : State} {m : MethodId} {args : Array Value} {below : List Frame} {meth : Method} {c : Code} {H : Heap} {locs : List Loc} {cells slots : Nat} {Q : State → Prop} {ls : Array Slot} {D : va_G} {z : Nat → ClassId} {d e9 : Nat → Nat} {n : Nat} {u : dSt} {v : mSt} {o : Nat} {fO : Nat → Int64} {q N i : Nat} {f : Nat → Int32} {A : Nat → Prop} (hst : l.stackTraces = false) (hx : p.tables.exec = Jvm.exec) (hb : c.code = code) (hml : c.maxLocals = 7) (hown : s.vm.findClass "PermutationDeskLaw" = some m.cls) (ht : ∀ w ∈ TB, w.before args s = true) (hRf : 40 ≤ R.frames) (hRl : 2000 ≤ R.locals) (hcl : cells + 10 ≤ R.cells) (hsl : slots + 100 ≤ R.slots) (hK : va_K D vC (tyL z) s) (hV : xV s) (hH : xH A s s.heap) (hA : ∀ q, s.heap.size ≤ q → A q) (hP : va_P D vC (LW z d e9 n u v o fO) H) (hD : va_D A (LW z d e9 n u v o fO)) (hS : va_S A s.heap H locs) (hN : N < 2 ^ 31) (hi : i + 5 ≤ N) (hX : va_X q N f s s.heap) (hbl : q < s.heap.size) (hbA : ¬ A q) (hLS : LSt n u v) (hl : lv_has ls 7 [(4, .int (nI i)), (0, .ref q), (1, .ref (d 0)), (2, .ref (e9 0)), (3, .ref o)]) (kk : ∀ (u : dSt) (v : mSt) (fO : Nat → Int64) (H : Heap) (locs : List Loc) (ls : Array Slot), LSt n u v → va_P D vC (LW z d e9 n u v o fO) H → va_D A (LW z d e9 n u v o fO) → va_S A s.heap H locs → lv_has ls 7 [(4, .int (nI i)), (0, .ref q), (1, .ref (d 0)), (2, .ref (e9 0)), (3, .ref o)] → W p l e R s m args below meth c H locs (cells + 10) (slots + 100) Q (F0 m 1052 ls [])) : W p l e R s m args below meth c H locs cells slots Q (F0 m 792 ls []) := by
  obtain ⟨tx, g, tg, Gs, hn7, hgc6, hvl, hvg, hdR, hmR⟩ := hLS.inv
  obtain ⟨len, ft, gc, fg, fo, gs, us⟩ := u
  replace hdR : dR n tx len g gc tg Gs ft fg fo us := hdR
  replace hgc6 : gc ≤ 6 := hgc6
  replace hvl : v.2.1 = len := hvl
  replace hvg : v.2.2.2.1 = gc := hvg
  have hGG : ∀ i, i < 5 → pg_G n (Gs i) := fun i hi => (hdR.2.2.2.1 i hi).2.1
  have hgP : ∀ i, i < gc → pg_P n (g i) := fun i hi => (hdR.2.1.2.2.2.2 i hi).1
  refine lv_aload_n hx hb dL_law_792 rfl (lv_at hl 2 rfl) ?_
  refine lv_aload_n hx hb dL_law_793 rfl (lv_at hl 1 rfl) ?_
  refine lv_iload hx hb dL_law_794 (lv_at hl 0 rfl) ?_
  refine lv_iconst (v := 1) hx hb dL_law_796 (by decide) ?_
  refine lv_iadd hx hb dL_law_797 ?_
  refine wti (x' := nI (i + 1)) (nI_add i 1) ?_
  refine va_sld hx hb hX hbl hbA hS (vp_in_nI (by omega) hN) dL_law_798 ?_
  refine wti (x' := f (i + 1)) (by rw [nI_clamp (by omega)]) ?_
  refine lv_aload_n hx hb dL_law_799 rfl (lv_at hl 4 rfl) ?_
  refine qL_i (wr := mWu z e9 n v) (As := [.ref (d 0), .int (f (i + 1)), .ref o]) (rest := []) ⟨hx, hb, hml, hown, ht⟩ (c_L_order l hst D z d H.size n len gc ft fg fo gs us tx g tg Gs hdR o fO (f (i + 1))) (vx_cwSW 3 ht (tb_c tw_590 (tb_c tw_591 (tb_c tw_58 gL_order))) rfl rfl rfl (by decide +kernel) ⟨Nat.le_trans (Nat.le_of_ble_eq_true rfl) hRf, Nat.le_trans (Nat.le_of_ble_eq_true rfl) hRl⟩) hK hP hD hS hA hV hH [0, 1, 2, 3, 4, 5, 6, 7, 8, 9, 10, 11, 12, 13, 14, 15, 16, 17, 18, 19, 20, 21, 22, 23, 24, 25, 26, 27, 28, 29, 30, 31, 32, 50] [33, 34, 35, 36, 37, 38, 39, 40, 41, 42, 43, 44, 45, 46, 47, 48, 49] rfl rfl rfl rfl (by decide) rfl rfl hl.1 rfl (Nat.le_of_ble_eq_true rfl) dL_law_800 ⟨by show _ + _ ≤ _; omega, by show _ + _ ≤ _; omega⟩ (fun r800 u800 H locs h800 hP hD hS => ?_)
  replace hP := hP.sub (ws' := LW z d e9 n u800.1 v o u800.2) [17, 18, 19, 20, 21, 22, 23, 24, 25, 26, 27, 28, 29, 30, 31, 32, 33, 34, 35, 36, 37, 38, 39, 40, 41, 42, 43, 44, 45, 46, 47, 48, 49, 0, 1, 2, 3, 4, 5, 6, 7, 8, 9, 10, 11, 12, 13, 14, 15, 16, 50] rfl
  replace hD := hD.sub (ws' := LW z d e9 n u800.1 v o u800.2) [17, 18, 19, 20, 21, 22, 23, 24, 25, 26, 27, 28, 29, 30, 31, 32, 33, 34, 35, 36, 37, 38, 39, 40, 41, 42, 43, 44, 45, 46, 47, 48, 49, 0, 1, 2, 3, 4, 5, 6, 7, 8, 9, 10, 11, 12, 13, 14, 15, 16, 50] rfl rfl
  refine lv_istore hx hb dL_law_803 hl (by decide) rfl (fun ls hl => ?_)
  replace hl : lv_has ls 7 [(5, .int r800), (4, .int (nI i)), (0, .ref q), (1, .ref (d 0)), (2, .ref (e9 0)), (3, .ref o)] := hl
  refine lv_aload_n hx hb dL_law_805 rfl (lv_at hl 4 rfl) ?_
  refine lv_aload_n hx hb dL_law_806 rfl (lv_at hl 2 rfl) ?_
  refine lv_iload hx hb dL_law_807 (lv_at hl 1 rfl) ?_
  refine lv_iconst (v := 1) hx hb dL_law_809 (by decide) ?_
  refine lv_iadd hx hb dL_law_810 ?_
  refine wti (x' := nI (i + 1)) (nI_add i 1) ?_
  refine va_sld hx hb hX hbl hbA hS (vp_in_nI (by omega) hN) dL_law_811 ?_
  refine wti (x' := f (i + 1)) (by rw [nI_clamp (by omega)]) ?_
  refine qW_i (ci := 5) (q0 := 0) (wr := dW z d n u800.1 ++ [(o, .inl (z 0, 1, .inr (.inl u800.2)))]) (As := [.int (f (i + 1))]) (rest := []) ⟨hx, hb, hml, hown, ht⟩ (c_M_order l D z e9 n _ tx g tg Gs hmR (f (i + 1))) (cB 1 ht gM_order rfl tw_64 tw_906 (by decide +kernel) ⟨Nat.le_trans (Nat.le_of_ble_eq_true rfl) hRf, Nat.le_trans (Nat.le_of_ble_eq_true rfl) hRl⟩) tw_907 tw_908 hK hP hD hS hA [33, 34, 35, 36, 37, 38, 39, 40, 41, 42, 43, 44, 45, 46, 47, 48, 49] [0, 1, 2, 3, 4, 5, 6, 7, 8, 9, 10, 11, 12, 13, 14, 15, 16, 17, 18, 19, 20, 21, 22, 23, 24, 25, 26, 27, 28, 29, 30, 31, 32, 50] rfl rfl rfl rfl (by decide) rfl rfl rfl rfl hl.1 rfl (Nat.le_of_ble_eq_true rfl) dL_law_812 ⟨by show _ + _ ≤ _; omega, by show _ + _ ≤ _; omega⟩ (fun r812 u812 H locs h812 hP hD hS => ?_)
  replace hP := hP.sub (ws' := LW z d e9 n u800.1 u812 o u800.2) [0, 1, 2, 3, 4, 5, 6, 7, 8, 9, 10, 11, 12, 13, 14, 15, 16, 17, 18, 19, 20, 21, 22, 23, 24, 25, 26, 27, 28, 29, 30, 31, 32, 34, 35, 36, 37, 38, 39, 40, 41, 42, 43, 44, 45, 46, 47, 48, 49, 50, 33] rfl
  replace hD := hD.sub (ws' := LW z d e9 n u800.1 u812 o u800.2) [0, 1, 2, 3, 4, 5, 6, 7, 8, 9, 10, 11, 12, 13, 14, 15, 16, 17, 18, 19, 20, 21, 22, 23, 24, 25, 26, 27, 28, 29, 30, 31, 32, 34, 35, 36, 37, 38, 39, 40, 41, 42, 43, 44, 45, 46, 47, 48, 49, 50, 33] rfl rfl
  rw [hvl, hvg] at h812
  obtain ⟨hag1, hag2, hag3⟩ := ag_order  h800 h812
  refine lv_istore hx hb dL_law_815 hl (by decide) rfl (fun ls hl => ?_)
  replace hl : lv_has ls 7 [(6, .int r812), (5, .int r800), (4, .int (nI i)), (0, .ref q), (1, .ref (d 0)), (2, .ref (e9 0)), (3, .ref o)] := hl
  refine lv_aload_n hx hb dL_law_817 rfl (lv_at hl 5 rfl) ?_
  refine qV_i (ci := 5) (q0 := 0) (As := []) (rest := []) ⟨hx, hb, hml, hown, ht⟩ (c_M_thrown l D z e9 n) (cB 0 ht gM_thrown rfl tw_64 tw_729 (by decide +kernel) ⟨Nat.le_trans (Nat.le_of_ble_eq_true rfl) hRf, Nat.le_trans (Nat.le_of_ble_eq_true rfl) hRl⟩) tw_730 tw_731 hK (hP.sub (ws' := mWu z e9 n u812) [33, 34, 35, 36, 37, 38, 39, 40, 41, 42, 43, 44, 45, 46, 47, 48, 49] rfl) rfl rfl rfl hl.1 rfl (Nat.le_of_ble_eq_true rfl) dL_law_818 ⟨by show _ + _ ≤ _; omega, by show _ + _ ≤ _; omega⟩ (fun r818 h818 => ?_)
  subst h818
  refine lv_iload hx hb dL_law_821 (lv_at hl 1 rfl) ?_
  refine lv_icmp_eq (tgt := 828) hx hb dL_law_823 rfl (fun h9 => ?_) (fun h9 => absurd hag1 h9)
  refine lv_iload hx hb dL_law_828 (lv_at hl 1 rfl) ?_
  refine lv_if_ne (tgt := 845) hx hb dL_law_830 rfl (fun h10 => ?_) (fun h10 => ?_)
  · skip
    refine lv_goto (tgt := 1052) hx hb dL_law_845 rfl ?_
    exact W.widen (k := cells + 10) (n := slots + 100) (by show _ ≤ _; omega) (by show _ ≤ _; omega) (kk u800.1 u812 u800.2 _ _ ls hag3 hP hD hS (lv_sub hl [2, 3, 4, 5, 6] rfl))
  refine lv_aload_n hx hb dL_law_833 rfl (lv_at hl 6 rfl) ?_
  refine lv_iconst (v := 0) hx hb dL_law_834 (by decide) ?_
  refine va_lald hx hb hK hP 50 0 rfl rfl (vp_in_nI (n := 0) (N := 1) (by decide) (by decide)) dL_law_835 ?_
  refine wtl (x' := r812.toInt64) (hag2 h10) ?_
  refine lv_iload hx hb dL_law_836 (lv_at hl 0 rfl) ?_
  refine lv_i2l hx hb dL_law_838 rfl ?_
  refine W.lcmp hx hb dL_law_839 ?_
  refine lv_if_eq (tgt := 845) hx hb dL_law_840 rfl (fun h11 => ?_) (fun h11 => absurd ((lg_cmp_eq _ _).mpr rfl) h11)
  refine lv_goto (tgt := 1052) hx hb dL_law_845 rfl ?_
  exact W.widen (k := cells + 10) (n := slots + 100) (by show _ ≤ _; omega) (by show _ ≤ _; omega) (kk u800.1 u812 u800.2 _ _ ls hag3 hP hD hS (lv_sub hl [2, 3, 4, 5, 6] rfl))
set_option maxHeartbeats 8000000 in
set_option maxRecDepth 100000 in
theorem lw_rank {p : Program} {l : Launch} {e : Env} {R : Room} {s : State} {m : MethodId} {args : Array Value} {below : List Frame} {meth : Method} {c : Code} {H : Heap} {locs : List Loc} {cells slots : Nat} {Q : State → Prop} {ls : Array Slot} {D : va_G} {z : Nat → ClassId} {d e9 : Nat → Nat} {n : Nat} {u : dSt} {v : mSt} {o : Nat} {fO : Nat → Int64} {q N i : Nat} {f : Nat → Int32} {A : Nat → Prop} (hst : l.stackTraces = false) (hx : p.tables.exec = Jvm.exec) (hb : c.code = code) (hml : c.maxLocals = 7) (hown : s.vm.findClass "PermutationDeskLaw" = some m.cls) (ht : ∀ w ∈ TB, w.before args s = true) (hRf : 40 ≤ R.frames) (hRl : 2000 ≤ R.locals) (hcl : cells + 10 ≤ R.cells) (hsl : slots + 100 ≤ R.slots) (hK : va_K D vC (tyL z) s) (hV : xV s) (hH : xH A s s.heap) (hA : ∀ q, s.heap.size ≤ q → A q) (hP : va_P D vC (LW z d e9 n u v o fO) H) (hD : va_D A (LW z d e9 n u v o fO)) (hS : va_S A s.heap H locs) (hN : N < 2 ^ 31) (hi : i + 5 ≤ N) (hX : va_X q N f s s.heap) (hbl : q < s.heap.size) (hbA : ¬ A q) (hLS : LSt n u v) (hl : lv_has ls 7 [(4, .int (nI i)), (0, .ref q), (1, .ref (d 0)), (2, .ref (e9 0)), (3, .ref o)]) (kk : ∀ (u : dSt) (v : mSt) (fO : Nat → Int64) (H : Heap) (locs : List Loc) (ls : Array Slot), LSt n u v → va_P D vC (LW z d e9 n u v o fO) H → va_D A (LW z d e9 n u v o fO) → va_S A s.heap H locs → lv_has ls 7 [(4, .int (nI i)), (0, .ref q), (1, .ref (d 0)), (2, .ref (e9 0)), (3, .ref o)] → W p l e R s m args below meth c H locs (cells + 10) (slots + 100) Q (F0 m 1052 ls [])) : W p l e R s m args below meth c H locs cells slots Q (F0 m 848 ls []) := by
  obtain ⟨tx, g, tg, Gs, hn7, hgc6, hvl, hvg, hdR, hmR⟩ := hLS.inv
  obtain ⟨len, ft, gc, fg, fo, gs, us⟩ := u
  replace hdR : dR n tx len g gc tg Gs ft fg fo us := hdR
  replace hgc6 : gc ≤ 6 := hgc6
  replace hvl : v.2.1 = len := hvl
  replace hvg : v.2.2.2.1 = gc := hvg
  have hGG : ∀ i, i < 5 → pg_G n (Gs i) := fun i hi => (hdR.2.2.2.1 i hi).2.1
  have hgP : ∀ i, i < gc → pg_P n (g i) := fun i hi => (hdR.2.1.2.2.2.2 i hi).1
  refine lv_aload_n hx hb dL_law_848 rfl (lv_at hl 2 rfl) ?_
  refine lv_aload_n hx hb dL_law_849 rfl (lv_at hl 1 rfl) ?_
  refine lv_iload hx hb dL_law_850 (lv_at hl 0 rfl) ?_
  refine lv_iconst (v := 1) hx hb dL_law_852 (by decide) ?_
  refine lv_iadd hx hb dL_law_853 ?_
  refine wti (x' := nI (i + 1)) (nI_add i 1) ?_
  refine va_sld hx hb hX hbl hbA hS (vp_in_nI (by omega) hN) dL_law_854 ?_
  refine wti (x' := f (i + 1)) (by rw [nI_clamp (by omega)]) ?_
  refine lv_aload_n hx hb dL_law_855 rfl (lv_at hl 4 rfl) ?_
  refine qL_i (wr := mWu z e9 n v) (As := [.ref (d 0), .int (f (i + 1)), .ref o]) (rest := []) ⟨hx, hb, hml, hown, ht⟩ (c_L_rank l hst D z d H.size n len gc ft fg fo gs us tx g tg Gs hdR o fO (f (i + 1))) (vx_cwSW 3 ht (tb_c tw_597 (tb_c tw_598 (tb_c tw_58 gL_rank))) rfl rfl rfl (by decide +kernel) ⟨Nat.le_trans (Nat.le_of_ble_eq_true rfl) hRf, Nat.le_trans (Nat.le_of_ble_eq_true rfl) hRl⟩) hK hP hD hS hA hV hH [0, 1, 2, 3, 4, 5, 6, 7, 8, 9, 10, 11, 12, 13, 14, 15, 16, 17, 18, 19, 20, 21, 22, 23, 24, 25, 26, 27, 28, 29, 30, 31, 32, 50] [33, 34, 35, 36, 37, 38, 39, 40, 41, 42, 43, 44, 45, 46, 47, 48, 49] rfl rfl rfl rfl (by decide) rfl rfl hl.1 rfl (Nat.le_of_ble_eq_true rfl) dL_law_856 ⟨by show _ + _ ≤ _; omega, by show _ + _ ≤ _; omega⟩ (fun r856 u856 H locs h856 hP hD hS => ?_)
  replace hP := hP.sub (ws' := LW z d e9 n u856.1 v o u856.2) [17, 18, 19, 20, 21, 22, 23, 24, 25, 26, 27, 28, 29, 30, 31, 32, 33, 34, 35, 36, 37, 38, 39, 40, 41, 42, 43, 44, 45, 46, 47, 48, 49, 0, 1, 2, 3, 4, 5, 6, 7, 8, 9, 10, 11, 12, 13, 14, 15, 16, 50] rfl
  replace hD := hD.sub (ws' := LW z d e9 n u856.1 v o u856.2) [17, 18, 19, 20, 21, 22, 23, 24, 25, 26, 27, 28, 29, 30, 31, 32, 33, 34, 35, 36, 37, 38, 39, 40, 41, 42, 43, 44, 45, 46, 47, 48, 49, 0, 1, 2, 3, 4, 5, 6, 7, 8, 9, 10, 11, 12, 13, 14, 15, 16, 50] rfl rfl
  refine lv_istore hx hb dL_law_859 hl (by decide) rfl (fun ls hl => ?_)
  replace hl : lv_has ls 7 [(5, .int r856), (4, .int (nI i)), (0, .ref q), (1, .ref (d 0)), (2, .ref (e9 0)), (3, .ref o)] := hl
  refine lv_aload_n hx hb dL_law_861 rfl (lv_at hl 4 rfl) ?_
  refine lv_aload_n hx hb dL_law_862 rfl (lv_at hl 2 rfl) ?_
  refine lv_iload hx hb dL_law_863 (lv_at hl 1 rfl) ?_
  refine lv_iconst (v := 1) hx hb dL_law_865 (by decide) ?_
  refine lv_iadd hx hb dL_law_866 ?_
  refine wti (x' := nI (i + 1)) (nI_add i 1) ?_
  refine va_sld hx hb hX hbl hbA hS (vp_in_nI (by omega) hN) dL_law_867 ?_
  refine wti (x' := f (i + 1)) (by rw [nI_clamp (by omega)]) ?_
  refine qW_i (ci := 5) (q0 := 0) (wr := dW z d n u856.1 ++ [(o, .inl (z 0, 1, .inr (.inl u856.2)))]) (As := [.int (f (i + 1))]) (rest := []) ⟨hx, hb, hml, hown, ht⟩ (c_M_rank l D z e9 n _ tx g tg Gs hmR (f (i + 1))) (cB 1 ht gM_rank rfl tw_64 tw_910 (by decide +kernel) ⟨Nat.le_trans (Nat.le_of_ble_eq_true rfl) hRf, Nat.le_trans (Nat.le_of_ble_eq_true rfl) hRl⟩) tw_911 tw_912 hK hP hD hS hA [33, 34, 35, 36, 37, 38, 39, 40, 41, 42, 43, 44, 45, 46, 47, 48, 49] [0, 1, 2, 3, 4, 5, 6, 7, 8, 9, 10, 11, 12, 13, 14, 15, 16, 17, 18, 19, 20, 21, 22, 23, 24, 25, 26, 27, 28, 29, 30, 31, 32, 50] rfl rfl rfl rfl (by decide) rfl rfl rfl rfl hl.1 rfl (Nat.le_of_ble_eq_true rfl) dL_law_868 ⟨by show _ + _ ≤ _; omega, by show _ + _ ≤ _; omega⟩ (fun r868 u868 H locs h868 hP hD hS => ?_)
  replace hP := hP.sub (ws' := LW z d e9 n u856.1 u868 o u856.2) [0, 1, 2, 3, 4, 5, 6, 7, 8, 9, 10, 11, 12, 13, 14, 15, 16, 17, 18, 19, 20, 21, 22, 23, 24, 25, 26, 27, 28, 29, 30, 31, 32, 34, 35, 36, 37, 38, 39, 40, 41, 42, 43, 44, 45, 46, 47, 48, 49, 50, 33] rfl
  replace hD := hD.sub (ws' := LW z d e9 n u856.1 u868 o u856.2) [0, 1, 2, 3, 4, 5, 6, 7, 8, 9, 10, 11, 12, 13, 14, 15, 16, 17, 18, 19, 20, 21, 22, 23, 24, 25, 26, 27, 28, 29, 30, 31, 32, 34, 35, 36, 37, 38, 39, 40, 41, 42, 43, 44, 45, 46, 47, 48, 49, 50, 33] rfl rfl
  rw [hvl, hvg] at h868
  obtain ⟨hag1, hag2, hag3⟩ := ag_rank  h856 h868
  refine lv_istore hx hb dL_law_871 hl (by decide) rfl (fun ls hl => ?_)
  replace hl : lv_has ls 7 [(6, .int r868), (5, .int r856), (4, .int (nI i)), (0, .ref q), (1, .ref (d 0)), (2, .ref (e9 0)), (3, .ref o)] := hl
  refine lv_aload_n hx hb dL_law_873 rfl (lv_at hl 5 rfl) ?_
  refine qV_i (ci := 5) (q0 := 0) (As := []) (rest := []) ⟨hx, hb, hml, hown, ht⟩ (c_M_thrown l D z e9 n) (cB 0 ht gM_thrown rfl tw_64 tw_729 (by decide +kernel) ⟨Nat.le_trans (Nat.le_of_ble_eq_true rfl) hRf, Nat.le_trans (Nat.le_of_ble_eq_true rfl) hRl⟩) tw_730 tw_731 hK (hP.sub (ws' := mWu z e9 n u868) [33, 34, 35, 36, 37, 38, 39, 40, 41, 42, 43, 44, 45, 46, 47, 48, 49] rfl) rfl rfl rfl hl.1 rfl (Nat.le_of_ble_eq_true rfl) dL_law_874 ⟨by show _ + _ ≤ _; omega, by show _ + _ ≤ _; omega⟩ (fun r874 h874 => ?_)
  subst h874
  refine lv_iload hx hb dL_law_877 (lv_at hl 1 rfl) ?_
  refine lv_icmp_eq (tgt := 884) hx hb dL_law_879 rfl (fun h9 => ?_) (fun h9 => absurd hag1 h9)
  refine lv_iload hx hb dL_law_884 (lv_at hl 1 rfl) ?_
  refine lv_if_ne (tgt := 901) hx hb dL_law_886 rfl (fun h10 => ?_) (fun h10 => ?_)
  · skip
    refine lv_goto (tgt := 1052) hx hb dL_law_901 rfl ?_
    exact W.widen (k := cells + 10) (n := slots + 100) (by show _ ≤ _; omega) (by show _ ≤ _; omega) (kk u856.1 u868 u856.2 _ _ ls hag3 hP hD hS (lv_sub hl [2, 3, 4, 5, 6] rfl))
  refine lv_aload_n hx hb dL_law_889 rfl (lv_at hl 6 rfl) ?_
  refine lv_iconst (v := 0) hx hb dL_law_890 (by decide) ?_
  refine va_lald hx hb hK hP 50 0 rfl rfl (vp_in_nI (n := 0) (N := 1) (by decide) (by decide)) dL_law_891 ?_
  refine wtl (x' := r868.toInt64) (hag2 h10) ?_
  refine lv_iload hx hb dL_law_892 (lv_at hl 0 rfl) ?_
  refine lv_i2l hx hb dL_law_894 rfl ?_
  refine W.lcmp hx hb dL_law_895 ?_
  refine lv_if_eq (tgt := 901) hx hb dL_law_896 rfl (fun h11 => ?_) (fun h11 => absurd ((lg_cmp_eq _ _).mpr rfl) h11)
  refine lv_goto (tgt := 1052) hx hb dL_law_901 rfl ?_
  exact W.widen (k := cells + 10) (n := slots + 100) (by show _ ≤ _; omega) (by show _ ≤ _; omega) (kk u856.1 u868 u856.2 _ _ ls hag3 hP hD hS (lv_sub hl [2, 3, 4, 5, 6] rfl))
set_option maxHeartbeats 8000000 in
set_option maxRecDepth 100000 in
theorem lw_element {p : Program} {l : Launch} {e : Env} {R : Room} {s : State} {m : MethodId} {args : Array Value} {below : List Frame} {meth : Method} {c : Code} {H : Heap} {locs : List Loc} {cells slots : Nat} {Q : State → Prop} {ls : Array Slot} {D : va_G} {z : Nat → ClassId} {d e9 : Nat → Nat} {n : Nat} {u : dSt} {v : mSt} {o : Nat} {fO : Nat → Int64} {q N i : Nat} {f : Nat → Int32} {A : Nat → Prop} (hst : l.stackTraces = false) (hx : p.tables.exec = Jvm.exec) (hb : c.code = code) (hml : c.maxLocals = 7) (hown : s.vm.findClass "PermutationDeskLaw" = some m.cls) (ht : ∀ w ∈ TB, w.before args s = true) (hRf : 40 ≤ R.frames) (hRl : 2000 ≤ R.locals) (hcl : cells + 10 ≤ R.cells) (hsl : slots + 100 ≤ R.slots) (hK : va_K D vC (tyL z) s) (hV : xV s) (hH : xH A s s.heap) (hA : ∀ q, s.heap.size ≤ q → A q) (hP : va_P D vC (LW z d e9 n u v o fO) H) (hD : va_D A (LW z d e9 n u v o fO)) (hS : va_S A s.heap H locs) (hN : N < 2 ^ 31) (hi : i + 5 ≤ N) (hX : va_X q N f s s.heap) (hbl : q < s.heap.size) (hbA : ¬ A q) (hLS : LSt n u v) (hl : lv_has ls 7 [(4, .int (nI i)), (0, .ref q), (1, .ref (d 0)), (2, .ref (e9 0)), (3, .ref o)]) (kk : ∀ (u : dSt) (v : mSt) (fO : Nat → Int64) (H : Heap) (locs : List Loc) (ls : Array Slot), LSt n u v → va_P D vC (LW z d e9 n u v o fO) H → va_D A (LW z d e9 n u v o fO) → va_S A s.heap H locs → lv_has ls 7 [(4, .int (nI i)), (0, .ref q), (1, .ref (d 0)), (2, .ref (e9 0)), (3, .ref o)] → W p l e R s m args below meth c H locs (cells + 10) (slots + 100) Q (F0 m 1052 ls [])) : W p l e R s m args below meth c H locs cells slots Q (F0 m 904 ls []) := by
  obtain ⟨tx, g, tg, Gs, hn7, hgc6, hvl, hvg, hdR, hmR⟩ := hLS.inv
  obtain ⟨len, ft, gc, fg, fo, gs, us⟩ := u
  replace hdR : dR n tx len g gc tg Gs ft fg fo us := hdR
  replace hgc6 : gc ≤ 6 := hgc6
  replace hvl : v.2.1 = len := hvl
  replace hvg : v.2.2.2.1 = gc := hvg
  have hGG : ∀ i, i < 5 → pg_G n (Gs i) := fun i hi => (hdR.2.2.2.1 i hi).2.1
  have hgP : ∀ i, i < gc → pg_P n (g i) := fun i hi => (hdR.2.1.2.2.2.2 i hi).1
  refine lv_aload_n hx hb dL_law_904 rfl (lv_at hl 2 rfl) ?_
  refine lv_aload_n hx hb dL_law_905 rfl (lv_at hl 1 rfl) ?_
  refine lv_iload hx hb dL_law_906 (lv_at hl 0 rfl) ?_
  refine lv_iconst (v := 1) hx hb dL_law_908 (by decide) ?_
  refine lv_iadd hx hb dL_law_909 ?_
  refine wti (x' := nI (i + 1)) (nI_add i 1) ?_
  refine va_sld hx hb hX hbl hbA hS (vp_in_nI (by omega) hN) dL_law_910 ?_
  refine wti (x' := f (i + 1)) (by rw [nI_clamp (by omega)]) ?_
  refine lv_aload_n hx hb dL_law_911 rfl (lv_at hl 1 rfl) ?_
  refine lv_iload hx hb dL_law_912 (lv_at hl 0 rfl) ?_
  refine lv_iconst (v := 2) hx hb dL_law_914 (by decide) ?_
  refine lv_iadd hx hb dL_law_915 ?_
  refine wti (x' := nI (i + 2)) (nI_add i 2) ?_
  refine va_sld hx hb hX hbl hbA hS (vp_in_nI (by omega) hN) dL_law_916 ?_
  refine wti (x' := f (i + 2)) (by rw [nI_clamp (by omega)]) ?_
  refine lv_aload_n hx hb dL_law_917 rfl (lv_at hl 1 rfl) ?_
  refine lv_iload hx hb dL_law_918 (lv_at hl 0 rfl) ?_
  refine lv_iconst (v := 3) hx hb dL_law_920 (by decide) ?_
  refine lv_iadd hx hb dL_law_921 ?_
  refine wti (x' := nI (i + 3)) (nI_add i 3) ?_
  refine va_sld hx hb hX hbl hbA hS (vp_in_nI (by omega) hN) dL_law_922 ?_
  refine wti (x' := f (i + 3)) (by rw [nI_clamp (by omega)]) ?_
  refine lv_aload_n hx hb dL_law_923 rfl (lv_at hl 4 rfl) ?_
  refine qL_i (wr := mWu z e9 n v) (As := [.ref (d 0), .int (f (i + 1)), .int (f (i + 2)), .int (f (i + 3)), .ref o]) (rest := []) ⟨hx, hb, hml, hown, ht⟩ (c_L_element l hst D z d H.size n len gc ft fg fo gs us tx g tg Gs hdR o fO (f (i + 1)) (f (i + 2)) (f (i + 3))) (vx_cwSW 5 ht (tb_c tw_612 (tb_c tw_613 (tb_c tw_58 gL_element))) rfl rfl rfl (by decide +kernel) ⟨Nat.le_trans (Nat.le_of_ble_eq_true rfl) hRf, Nat.le_trans (Nat.le_of_ble_eq_true rfl) hRl⟩) hK hP hD hS hA hV hH [0, 1, 2, 3, 4, 5, 6, 7, 8, 9, 10, 11, 12, 13, 14, 15, 16, 17, 18, 19, 20, 21, 22, 23, 24, 25, 26, 27, 28, 29, 30, 31, 32, 50] [33, 34, 35, 36, 37, 38, 39, 40, 41, 42, 43, 44, 45, 46, 47, 48, 49] rfl rfl rfl rfl (by decide) rfl rfl hl.1 rfl (Nat.le_of_ble_eq_true rfl) dL_law_924 ⟨by show _ + _ ≤ _; omega, by show _ + _ ≤ _; omega⟩ (fun r924 u924 H locs h924 hP hD hS => ?_)
  replace hP := hP.sub (ws' := LW z d e9 n u924.1 v o u924.2) [17, 18, 19, 20, 21, 22, 23, 24, 25, 26, 27, 28, 29, 30, 31, 32, 33, 34, 35, 36, 37, 38, 39, 40, 41, 42, 43, 44, 45, 46, 47, 48, 49, 0, 1, 2, 3, 4, 5, 6, 7, 8, 9, 10, 11, 12, 13, 14, 15, 16, 50] rfl
  replace hD := hD.sub (ws' := LW z d e9 n u924.1 v o u924.2) [17, 18, 19, 20, 21, 22, 23, 24, 25, 26, 27, 28, 29, 30, 31, 32, 33, 34, 35, 36, 37, 38, 39, 40, 41, 42, 43, 44, 45, 46, 47, 48, 49, 0, 1, 2, 3, 4, 5, 6, 7, 8, 9, 10, 11, 12, 13, 14, 15, 16, 50] rfl rfl
  refine lv_istore hx hb dL_law_927 hl (by decide) rfl (fun ls hl => ?_)
  replace hl : lv_has ls 7 [(5, .int r924), (4, .int (nI i)), (0, .ref q), (1, .ref (d 0)), (2, .ref (e9 0)), (3, .ref o)] := hl
  refine lv_aload_n hx hb dL_law_929 rfl (lv_at hl 4 rfl) ?_
  refine lv_aload_n hx hb dL_law_930 rfl (lv_at hl 2 rfl) ?_
  refine lv_iload hx hb dL_law_931 (lv_at hl 1 rfl) ?_
  refine lv_iconst (v := 1) hx hb dL_law_933 (by decide) ?_
  refine lv_iadd hx hb dL_law_934 ?_
  refine wti (x' := nI (i + 1)) (nI_add i 1) ?_
  refine va_sld hx hb hX hbl hbA hS (vp_in_nI (by omega) hN) dL_law_935 ?_
  refine wti (x' := f (i + 1)) (by rw [nI_clamp (by omega)]) ?_
  refine lv_aload_n hx hb dL_law_936 rfl (lv_at hl 2 rfl) ?_
  refine lv_iload hx hb dL_law_937 (lv_at hl 1 rfl) ?_
  refine lv_iconst (v := 2) hx hb dL_law_939 (by decide) ?_
  refine lv_iadd hx hb dL_law_940 ?_
  refine wti (x' := nI (i + 2)) (nI_add i 2) ?_
  refine va_sld hx hb hX hbl hbA hS (vp_in_nI (by omega) hN) dL_law_941 ?_
  refine wti (x' := f (i + 2)) (by rw [nI_clamp (by omega)]) ?_
  refine lv_aload_n hx hb dL_law_942 rfl (lv_at hl 2 rfl) ?_
  refine lv_iload hx hb dL_law_943 (lv_at hl 1 rfl) ?_
  refine lv_iconst (v := 3) hx hb dL_law_945 (by decide) ?_
  refine lv_iadd hx hb dL_law_946 ?_
  refine wti (x' := nI (i + 3)) (nI_add i 3) ?_
  refine va_sld hx hb hX hbl hbA hS (vp_in_nI (by omega) hN) dL_law_947 ?_
  refine wti (x' := f (i + 3)) (by rw [nI_clamp (by omega)]) ?_
  refine qW_i (ci := 5) (q0 := 0) (wr := dW z d n u924.1 ++ [(o, .inl (z 0, 1, .inr (.inl u924.2)))]) (As := [.int (f (i + 1)), .int (f (i + 2)), .int (f (i + 3))]) (rest := []) ⟨hx, hb, hml, hown, ht⟩ (c_M_element l D z e9 n _ tx g tg Gs hmR (f (i + 1)) (f (i + 2)) (f (i + 3))) (cB 3 ht gM_element rfl tw_64 tw_914 (by decide +kernel) ⟨Nat.le_trans (Nat.le_of_ble_eq_true rfl) hRf, Nat.le_trans (Nat.le_of_ble_eq_true rfl) hRl⟩) tw_915 tw_916 hK hP hD hS hA [33, 34, 35, 36, 37, 38, 39, 40, 41, 42, 43, 44, 45, 46, 47, 48, 49] [0, 1, 2, 3, 4, 5, 6, 7, 8, 9, 10, 11, 12, 13, 14, 15, 16, 17, 18, 19, 20, 21, 22, 23, 24, 25, 26, 27, 28, 29, 30, 31, 32, 50] rfl rfl rfl rfl (by decide) rfl rfl rfl rfl hl.1 rfl (Nat.le_of_ble_eq_true rfl) dL_law_948 ⟨by show _ + _ ≤ _; omega, by show _ + _ ≤ _; omega⟩ (fun r948 u948 H locs h948 hP hD hS => ?_)
  replace hP := hP.sub (ws' := LW z d e9 n u924.1 u948 o u924.2) [0, 1, 2, 3, 4, 5, 6, 7, 8, 9, 10, 11, 12, 13, 14, 15, 16, 17, 18, 19, 20, 21, 22, 23, 24, 25, 26, 27, 28, 29, 30, 31, 32, 34, 35, 36, 37, 38, 39, 40, 41, 42, 43, 44, 45, 46, 47, 48, 49, 50, 33] rfl
  replace hD := hD.sub (ws' := LW z d e9 n u924.1 u948 o u924.2) [0, 1, 2, 3, 4, 5, 6, 7, 8, 9, 10, 11, 12, 13, 14, 15, 16, 17, 18, 19, 20, 21, 22, 23, 24, 25, 26, 27, 28, 29, 30, 31, 32, 34, 35, 36, 37, 38, 39, 40, 41, 42, 43, 44, 45, 46, 47, 48, 49, 50, 33] rfl rfl
  rw [hvl, hvg] at h948
  obtain ⟨hag1, hag2, hag3⟩ := ag_element hn7 hGG h924 h948
  refine lv_istore hx hb dL_law_951 hl (by decide) rfl (fun ls hl => ?_)
  replace hl : lv_has ls 7 [(6, .int r948), (5, .int r924), (4, .int (nI i)), (0, .ref q), (1, .ref (d 0)), (2, .ref (e9 0)), (3, .ref o)] := hl
  refine lv_aload_n hx hb dL_law_953 rfl (lv_at hl 5 rfl) ?_
  refine qV_i (ci := 5) (q0 := 0) (As := []) (rest := []) ⟨hx, hb, hml, hown, ht⟩ (c_M_thrown l D z e9 n) (cB 0 ht gM_thrown rfl tw_64 tw_729 (by decide +kernel) ⟨Nat.le_trans (Nat.le_of_ble_eq_true rfl) hRf, Nat.le_trans (Nat.le_of_ble_eq_true rfl) hRl⟩) tw_730 tw_731 hK (hP.sub (ws' := mWu z e9 n u948) [33, 34, 35, 36, 37, 38, 39, 40, 41, 42, 43, 44, 45, 46, 47, 48, 49] rfl) rfl rfl rfl hl.1 rfl (Nat.le_of_ble_eq_true rfl) dL_law_954 ⟨by show _ + _ ≤ _; omega, by show _ + _ ≤ _; omega⟩ (fun r954 h954 => ?_)
  subst h954
  refine lv_iload hx hb dL_law_957 (lv_at hl 1 rfl) ?_
  refine lv_icmp_eq (tgt := 964) hx hb dL_law_959 rfl (fun h9 => ?_) (fun h9 => absurd hag1 h9)
  refine lv_iload hx hb dL_law_964 (lv_at hl 1 rfl) ?_
  refine lv_if_ne (tgt := 981) hx hb dL_law_966 rfl (fun h10 => ?_) (fun h10 => ?_)
  · skip
    refine lv_goto (tgt := 1052) hx hb dL_law_981 rfl ?_
    exact W.widen (k := cells + 10) (n := slots + 100) (by show _ ≤ _; omega) (by show _ ≤ _; omega) (kk u924.1 u948 u924.2 _ _ ls hag3 hP hD hS (lv_sub hl [2, 3, 4, 5, 6] rfl))
  refine lv_aload_n hx hb dL_law_969 rfl (lv_at hl 6 rfl) ?_
  refine lv_iconst (v := 0) hx hb dL_law_970 (by decide) ?_
  refine va_lald hx hb hK hP 50 0 rfl rfl (vp_in_nI (n := 0) (N := 1) (by decide) (by decide)) dL_law_971 ?_
  refine wtl (x' := r948.toInt64) (hag2 h10) ?_
  refine lv_iload hx hb dL_law_972 (lv_at hl 0 rfl) ?_
  refine lv_i2l hx hb dL_law_974 rfl ?_
  refine W.lcmp hx hb dL_law_975 ?_
  refine lv_if_eq (tgt := 981) hx hb dL_law_976 rfl (fun h11 => ?_) (fun h11 => absurd ((lg_cmp_eq _ _).mpr rfl) h11)
  refine lv_goto (tgt := 1052) hx hb dL_law_981 rfl ?_
  exact W.widen (k := cells + 10) (n := slots + 100) (by show _ ≤ _; omega) (by show _ ≤ _; omega) (kk u924.1 u948 u924.2 _ _ ls hag3 hP hD hS (lv_sub hl [2, 3, 4, 5, 6] rfl))
set_option maxHeartbeats 8000000 in
set_option maxRecDepth 100000 in
theorem lw_orbit {p : Program} {l : Launch} {e : Env} {R : Room} {s : State} {m : MethodId} {args : Array Value} {below : List Frame} {meth : Method} {c : Code} {H : Heap} {locs : List Loc} {cells slots : Nat} {Q : State → Prop} {ls : Array Slot} {D : va_G} {z : Nat → ClassId} {d e9 : Nat → Nat} {n : Nat} {u : dSt} {v : mSt} {o : Nat} {fO : Nat → Int64} {q N i : Nat} {f : Nat → Int32} {A : Nat → Prop} (hst : l.stackTraces = false) (hx : p.tables.exec = Jvm.exec) (hb : c.code = code) (hml : c.maxLocals = 7) (hown : s.vm.findClass "PermutationDeskLaw" = some m.cls) (ht : ∀ w ∈ TB, w.before args s = true) (hRf : 40 ≤ R.frames) (hRl : 2000 ≤ R.locals) (hcl : cells + 10 ≤ R.cells) (hsl : slots + 100 ≤ R.slots) (hK : va_K D vC (tyL z) s) (hV : xV s) (hH : xH A s s.heap) (hA : ∀ q, s.heap.size ≤ q → A q) (hP : va_P D vC (LW z d e9 n u v o fO) H) (hD : va_D A (LW z d e9 n u v o fO)) (hS : va_S A s.heap H locs) (hN : N < 2 ^ 31) (hi : i + 5 ≤ N) (hX : va_X q N f s s.heap) (hbl : q < s.heap.size) (hbA : ¬ A q) (hLS : LSt n u v) (hl : lv_has ls 7 [(4, .int (nI i)), (0, .ref q), (1, .ref (d 0)), (2, .ref (e9 0)), (3, .ref o)]) (kk : ∀ (u : dSt) (v : mSt) (fO : Nat → Int64) (H : Heap) (locs : List Loc) (ls : Array Slot), LSt n u v → va_P D vC (LW z d e9 n u v o fO) H → va_D A (LW z d e9 n u v o fO) → va_S A s.heap H locs → lv_has ls 7 [(4, .int (nI i)), (0, .ref q), (1, .ref (d 0)), (2, .ref (e9 0)), (3, .ref o)] → W p l e R s m args below meth c H locs (cells + 10) (slots + 100) Q (F0 m 1052 ls [])) : W p l e R s m args below meth c H locs cells slots Q (F0 m 984 ls []) := by
  obtain ⟨tx, g, tg, Gs, hn7, hgc6, hvl, hvg, hdR, hmR⟩ := hLS.inv
  obtain ⟨len, ft, gc, fg, fo, gs, us⟩ := u
  replace hdR : dR n tx len g gc tg Gs ft fg fo us := hdR
  replace hgc6 : gc ≤ 6 := hgc6
  replace hvl : v.2.1 = len := hvl
  replace hvg : v.2.2.2.1 = gc := hvg
  have hGG : ∀ i, i < 5 → pg_G n (Gs i) := fun i hi => (hdR.2.2.2.1 i hi).2.1
  have hgP : ∀ i, i < gc → pg_P n (g i) := fun i hi => (hdR.2.1.2.2.2.2 i hi).1
  refine lv_aload_n hx hb dL_law_984 rfl (lv_at hl 2 rfl) ?_
  refine lv_aload_n hx hb dL_law_985 rfl (lv_at hl 1 rfl) ?_
  refine lv_iload hx hb dL_law_986 (lv_at hl 0 rfl) ?_
  refine lv_iconst (v := 1) hx hb dL_law_988 (by decide) ?_
  refine lv_iadd hx hb dL_law_989 ?_
  refine wti (x' := nI (i + 1)) (nI_add i 1) ?_
  refine va_sld hx hb hX hbl hbA hS (vp_in_nI (by omega) hN) dL_law_990 ?_
  refine wti (x' := f (i + 1)) (by rw [nI_clamp (by omega)]) ?_
  refine lv_aload_n hx hb dL_law_991 rfl (lv_at hl 1 rfl) ?_
  refine lv_iload hx hb dL_law_992 (lv_at hl 0 rfl) ?_
  refine lv_iconst (v := 2) hx hb dL_law_994 (by decide) ?_
  refine lv_iadd hx hb dL_law_995 ?_
  refine wti (x' := nI (i + 2)) (nI_add i 2) ?_
  refine va_sld hx hb hX hbl hbA hS (vp_in_nI (by omega) hN) dL_law_996 ?_
  refine wti (x' := f (i + 2)) (by rw [nI_clamp (by omega)]) ?_
  refine lv_aload_n hx hb dL_law_997 rfl (lv_at hl 4 rfl) ?_
  refine qL_i (wr := mWu z e9 n v) (As := [.ref (d 0), .int (f (i + 1)), .int (f (i + 2)), .ref o]) (rest := []) ⟨hx, hb, hml, hown, ht⟩ (c_L_orbit l hst D z d H.size n len gc ft fg fo gs us tx g tg Gs hdR o fO (f (i + 1)) (f (i + 2))) (vx_cwSW 4 ht (tb_c tw_624 (tb_c tw_625 (tb_c tw_58 gL_orbit))) rfl rfl rfl (by decide +kernel) ⟨Nat.le_trans (Nat.le_of_ble_eq_true rfl) hRf, Nat.le_trans (Nat.le_of_ble_eq_true rfl) hRl⟩) hK hP hD hS hA hV hH [0, 1, 2, 3, 4, 5, 6, 7, 8, 9, 10, 11, 12, 13, 14, 15, 16, 17, 18, 19, 20, 21, 22, 23, 24, 25, 26, 27, 28, 29, 30, 31, 32, 50] [33, 34, 35, 36, 37, 38, 39, 40, 41, 42, 43, 44, 45, 46, 47, 48, 49] rfl rfl rfl rfl (by decide) rfl rfl hl.1 rfl (Nat.le_of_ble_eq_true rfl) dL_law_998 ⟨by show _ + _ ≤ _; omega, by show _ + _ ≤ _; omega⟩ (fun r998 u998 H locs h998 hP hD hS => ?_)
  replace hP := hP.sub (ws' := LW z d e9 n u998.1 v o u998.2) [17, 18, 19, 20, 21, 22, 23, 24, 25, 26, 27, 28, 29, 30, 31, 32, 33, 34, 35, 36, 37, 38, 39, 40, 41, 42, 43, 44, 45, 46, 47, 48, 49, 0, 1, 2, 3, 4, 5, 6, 7, 8, 9, 10, 11, 12, 13, 14, 15, 16, 50] rfl
  replace hD := hD.sub (ws' := LW z d e9 n u998.1 v o u998.2) [17, 18, 19, 20, 21, 22, 23, 24, 25, 26, 27, 28, 29, 30, 31, 32, 33, 34, 35, 36, 37, 38, 39, 40, 41, 42, 43, 44, 45, 46, 47, 48, 49, 0, 1, 2, 3, 4, 5, 6, 7, 8, 9, 10, 11, 12, 13, 14, 15, 16, 50] rfl rfl
  refine lv_istore hx hb dL_law_1001 hl (by decide) rfl (fun ls hl => ?_)
  replace hl : lv_has ls 7 [(5, .int r998), (4, .int (nI i)), (0, .ref q), (1, .ref (d 0)), (2, .ref (e9 0)), (3, .ref o)] := hl
  refine lv_aload_n hx hb dL_law_1003 rfl (lv_at hl 4 rfl) ?_
  refine lv_aload_n hx hb dL_law_1004 rfl (lv_at hl 2 rfl) ?_
  refine lv_iload hx hb dL_law_1005 (lv_at hl 1 rfl) ?_
  refine lv_iconst (v := 1) hx hb dL_law_1007 (by decide) ?_
  refine lv_iadd hx hb dL_law_1008 ?_
  refine wti (x' := nI (i + 1)) (nI_add i 1) ?_
  refine va_sld hx hb hX hbl hbA hS (vp_in_nI (by omega) hN) dL_law_1009 ?_
  refine wti (x' := f (i + 1)) (by rw [nI_clamp (by omega)]) ?_
  refine lv_aload_n hx hb dL_law_1010 rfl (lv_at hl 2 rfl) ?_
  refine lv_iload hx hb dL_law_1011 (lv_at hl 1 rfl) ?_
  refine lv_iconst (v := 2) hx hb dL_law_1013 (by decide) ?_
  refine lv_iadd hx hb dL_law_1014 ?_
  refine wti (x' := nI (i + 2)) (nI_add i 2) ?_
  refine va_sld hx hb hX hbl hbA hS (vp_in_nI (by omega) hN) dL_law_1015 ?_
  refine wti (x' := f (i + 2)) (by rw [nI_clamp (by omega)]) ?_
  refine qW_i (ci := 5) (q0 := 0) (wr := dW z d n u998.1 ++ [(o, .inl (z 0, 1, .inr (.inl u998.2)))]) (As := [.int (f (i + 1)), .int (f (i + 2))]) (rest := []) ⟨hx, hb, hml, hown, ht⟩ (c_M_orbit l D z e9 n _ tx g tg Gs hmR (f (i + 1)) (f (i + 2))) (cB 2 ht gM_orbit rfl tw_64 tw_918 (by decide +kernel) ⟨Nat.le_trans (Nat.le_of_ble_eq_true rfl) hRf, Nat.le_trans (Nat.le_of_ble_eq_true rfl) hRl⟩) tw_919 tw_920 hK hP hD hS hA [33, 34, 35, 36, 37, 38, 39, 40, 41, 42, 43, 44, 45, 46, 47, 48, 49] [0, 1, 2, 3, 4, 5, 6, 7, 8, 9, 10, 11, 12, 13, 14, 15, 16, 17, 18, 19, 20, 21, 22, 23, 24, 25, 26, 27, 28, 29, 30, 31, 32, 50] rfl rfl rfl rfl (by decide) rfl rfl rfl rfl hl.1 rfl (Nat.le_of_ble_eq_true rfl) dL_law_1016 ⟨by show _ + _ ≤ _; omega, by show _ + _ ≤ _; omega⟩ (fun r1016 u1016 H locs h1016 hP hD hS => ?_)
  replace hP := hP.sub (ws' := LW z d e9 n u998.1 u1016 o u998.2) [0, 1, 2, 3, 4, 5, 6, 7, 8, 9, 10, 11, 12, 13, 14, 15, 16, 17, 18, 19, 20, 21, 22, 23, 24, 25, 26, 27, 28, 29, 30, 31, 32, 34, 35, 36, 37, 38, 39, 40, 41, 42, 43, 44, 45, 46, 47, 48, 49, 50, 33] rfl
  replace hD := hD.sub (ws' := LW z d e9 n u998.1 u1016 o u998.2) [0, 1, 2, 3, 4, 5, 6, 7, 8, 9, 10, 11, 12, 13, 14, 15, 16, 17, 18, 19, 20, 21, 22, 23, 24, 25, 26, 27, 28, 29, 30, 31, 32, 34, 35, 36, 37, 38, 39, 40, 41, 42, 43, 44, 45, 46, 47, 48, 49, 50, 33] rfl rfl
  rw [hvl, hvg] at h1016
  obtain ⟨hag1, hag2, hag3⟩ := ag_orbit hn7 h998 h1016
  refine lv_istore hx hb dL_law_1019 hl (by decide) rfl (fun ls hl => ?_)
  replace hl : lv_has ls 7 [(6, .int r1016), (5, .int r998), (4, .int (nI i)), (0, .ref q), (1, .ref (d 0)), (2, .ref (e9 0)), (3, .ref o)] := hl
  refine lv_aload_n hx hb dL_law_1021 rfl (lv_at hl 5 rfl) ?_
  refine qV_i (ci := 5) (q0 := 0) (As := []) (rest := []) ⟨hx, hb, hml, hown, ht⟩ (c_M_thrown l D z e9 n) (cB 0 ht gM_thrown rfl tw_64 tw_729 (by decide +kernel) ⟨Nat.le_trans (Nat.le_of_ble_eq_true rfl) hRf, Nat.le_trans (Nat.le_of_ble_eq_true rfl) hRl⟩) tw_730 tw_731 hK (hP.sub (ws' := mWu z e9 n u1016) [33, 34, 35, 36, 37, 38, 39, 40, 41, 42, 43, 44, 45, 46, 47, 48, 49] rfl) rfl rfl rfl hl.1 rfl (Nat.le_of_ble_eq_true rfl) dL_law_1022 ⟨by show _ + _ ≤ _; omega, by show _ + _ ≤ _; omega⟩ (fun r1022 h1022 => ?_)
  subst h1022
  refine lv_iload hx hb dL_law_1025 (lv_at hl 1 rfl) ?_
  refine lv_icmp_eq (tgt := 1032) hx hb dL_law_1027 rfl (fun h9 => ?_) (fun h9 => absurd hag1 h9)
  refine lv_iload hx hb dL_law_1032 (lv_at hl 1 rfl) ?_
  refine lv_if_ne (tgt := 1049) hx hb dL_law_1034 rfl (fun h10 => ?_) (fun h10 => ?_)
  · skip
    refine lv_goto (tgt := 1052) hx hb dL_law_1049 rfl ?_
    exact W.widen (k := cells + 10) (n := slots + 100) (by show _ ≤ _; omega) (by show _ ≤ _; omega) (kk u998.1 u1016 u998.2 _ _ ls hag3 hP hD hS (lv_sub hl [2, 3, 4, 5, 6] rfl))
  refine lv_aload_n hx hb dL_law_1037 rfl (lv_at hl 6 rfl) ?_
  refine lv_iconst (v := 0) hx hb dL_law_1038 (by decide) ?_
  refine va_lald hx hb hK hP 50 0 rfl rfl (vp_in_nI (n := 0) (N := 1) (by decide) (by decide)) dL_law_1039 ?_
  refine wtl (x' := r1016.toInt64) (hag2 h10) ?_
  refine lv_iload hx hb dL_law_1040 (lv_at hl 0 rfl) ?_
  refine lv_i2l hx hb dL_law_1042 rfl ?_
  refine W.lcmp hx hb dL_law_1043 ?_
  refine lv_if_eq (tgt := 1049) hx hb dL_law_1044 rfl (fun h11 => ?_) (fun h11 => absurd ((lg_cmp_eq _ _).mpr rfl) h11)
  refine lv_goto (tgt := 1052) hx hb dL_law_1049 rfl ?_
  exact W.widen (k := cells + 10) (n := slots + 100) (by show _ ≤ _; omega) (by show _ ≤ _; omega) (kk u998.1 u1016 u998.2 _ _ ls hag3 hP hD hS (lv_sub hl [2, 3, 4, 5, 6] rfl))
