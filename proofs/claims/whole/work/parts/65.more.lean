/-! The law: the other cases. -/
theorem i2c_any (y : Int32) : ∃ c : Nat, c < 65536 ∧ (y.toUInt32 % 65536).toInt32 = nI c := by
  have h : (y.toUInt32 % 65536).toNat < 65536 := by
    rw [UInt32.toNat_mod]
    exact Nat.mod_lt _ (by decide)
  refine ⟨(y.toUInt32 % 65536).toNat, h, ?_⟩
  apply Int32.toBitVec_inj.mp
  apply BitVec.eq_of_toNat_eq
  show (y.toUInt32 % 65536).toNat = (y.toUInt32 % 65536).toNat % 2 ^ 32
  rw [Nat.mod_eq_of_lt (by omega)]
set_option maxHeartbeats 8000000 in
set_option maxRecDepth 100000 in
theorem lw_type {p : Program} {l : Launch} {e : Env} {R : Room} {s : State} {m : MethodId} {args : Array Value} {below : List Frame} {meth : Method} {c : Code} {H : Heap} {locs : List Loc} {cells slots : Nat} {Q : State → Prop} {ls : Array Slot} {D : va_G} {z : Nat → ClassId} {d e9 : Nat → Nat} {n : Nat} {u : dSt} {v : mSt} {o : Nat} {fO : Nat → Int64} {q N i : Nat} {f : Nat → Int32} {A : Nat → Prop} (hst : l.stackTraces = false) (hx : p.tables.exec = Jvm.exec) (hb : c.code = code) (hml : c.maxLocals = 7) (hown : s.vm.findClass "PermutationDeskLaw" = some m.cls) (ht : ∀ w ∈ TB, w.before args s = true) (hRf : 40 ≤ R.frames) (hRl : 2000 ≤ R.locals) (hcl : cells + 10 ≤ R.cells) (hsl : slots + 100 ≤ R.slots) (hK : va_K D vC (tyL z) s) (hV : xV s) (hH : xH A s s.heap) (hA : ∀ q, s.heap.size ≤ q → A q) (hP : va_P D vC (LW z d e9 n u v o fO) H) (hD : va_D A (LW z d e9 n u v o fO)) (hS : va_S A s.heap H locs) (hN : N < 2 ^ 31) (hi : i + 5 ≤ N) (hX : va_X q N f s s.heap) (hbl : q < s.heap.size) (hbA : ¬ A q) (hLS : LSt n u v) (hl : lv_has ls 7 [(4, .int (nI i)), (0, .ref q), (1, .ref (d 0)), (2, .ref (e9 0)), (3, .ref o)]) (kk : ∀ (u : dSt) (v : mSt) (fO : Nat → Int64) (H : Heap) (locs : List Loc) (ls : Array Slot), LSt n u v → va_P D vC (LW z d e9 n u v o fO) H → va_D A (LW z d e9 n u v o fO) → va_S A s.heap H locs → lv_has ls 7 [(4, .int (nI i)), (0, .ref q), (1, .ref (d 0)), (2, .ref (e9 0)), (3, .ref o)] → W p l e R s m args below meth c H locs (cells + 10) (slots + 100) Q (F0 m 1052 ls [])) : W p l e R s m args below meth c H locs cells slots Q (F0 m 132 ls []) := by
  obtain ⟨tx, g, tg, Gs, hn7, hgc6, hvl, hvg, hdR, hmR⟩ := hLS.inv
  obtain ⟨len, ft, gc, fg, fo, gs, us⟩ := u
  replace hdR : dR n tx len g gc tg Gs ft fg fo us := hdR
  replace hgc6 : gc ≤ 6 := hgc6
  replace hvl : v.2.1 = len := hvl
  replace hvg : v.2.2.2.1 = gc := hvg
  have hGG : ∀ i, i < 5 → pg_G n (Gs i) := fun i hi => (hdR.2.2.2.1 i hi).2.1
  have hgP : ∀ i, i < gc → pg_P n (g i) := fun i hi => (hdR.2.1.2.2.2.2 i hi).1
  obtain ⟨cv, hcv9, hcv⟩ := i2c_any (f (i + 1))
  refine lv_aload_n hx hb dL_law_132 rfl (lv_at hl 2 rfl) ?_
  refine lv_aload_n hx hb dL_law_133 rfl (lv_at hl 1 rfl) ?_
  refine lv_iload hx hb dL_law_134 (lv_at hl 0 rfl) ?_
  refine lv_iconst (v := 1) hx hb dL_law_136 (by decide) ?_
  refine lv_iadd hx hb dL_law_137 ?_
  refine wti (x' := nI (i + 1)) (nI_add i 1) ?_
  refine va_sld hx hb hX hbl hbA hS (vp_in_nI (by omega) hN) dL_law_138 ?_
  refine wti (x' := f (i + 1)) (by rw [nI_clamp (by omega)]) ?_
  refine lv_i2c hx hb dL_law_139 hcv ?_
  refine qW_i (ci := 2) (q0 := 0) (wr := mWu z e9 n v ++ [(o, .inl (z 0, 1, .inr (.inl fO)))]) (As := [.int (nI cv)]) (rest := []) ⟨hx, hb, hml, hown, ht⟩ (c_D_type l D z d H.size n (tx, len, g, gc, tg, Gs) (len, ft, gc, fg, fo, gs, us) (hdR.rp gs) cv hcv9) (cB 1 ht gD_type rfl tw_59 tw_153 (by decide +kernel) ⟨Nat.le_trans (Nat.le_of_ble_eq_true rfl) hRf, Nat.le_trans (Nat.le_of_ble_eq_true rfl) hRl⟩) tw_154 tw_155 hK hP hD hS hA [0, 1, 2, 3, 4, 5, 6, 7, 8, 9, 10, 11, 12, 13, 14, 15, 16, 17, 18, 19, 20, 21, 22, 23, 24, 25, 26, 27, 28, 29, 30, 31, 32] [33, 34, 35, 36, 37, 38, 39, 40, 41, 42, 43, 44, 45, 46, 47, 48, 49, 50] rfl rfl rfl rfl (by decide) rfl rfl rfl rfl hl.1 rfl (Nat.le_of_ble_eq_true rfl) dL_law_140 ⟨by show _ + _ ≤ _; omega, by show _ + _ ≤ _; omega⟩ (fun r140 u140 H locs h140 hP hD hS => ?_)
  replace hP := hP.sub (ws' := LW z d e9 n u140 v o fO) [18, 19, 20, 21, 22, 23, 24, 25, 26, 27, 28, 29, 30, 31, 32, 33, 34, 35, 36, 37, 38, 39, 40, 41, 42, 43, 44, 45, 46, 47, 48, 49, 50, 0, 1, 2, 3, 4, 5, 6, 7, 8, 9, 10, 11, 12, 13, 14, 15, 16, 17] rfl
  replace hD := hD.sub (ws' := LW z d e9 n u140 v o fO) [18, 19, 20, 21, 22, 23, 24, 25, 26, 27, 28, 29, 30, 31, 32, 33, 34, 35, 36, 37, 38, 39, 40, 41, 42, 43, 44, 45, 46, 47, 48, 49, 50, 0, 1, 2, 3, 4, 5, 6, 7, 8, 9, 10, 11, 12, 13, 14, 15, 16, 17] rfl rfl
  refine lv_aload_n hx hb dL_law_143 rfl (lv_at hl 3 rfl) ?_
  refine lv_aload_n hx hb dL_law_144 rfl (lv_at hl 1 rfl) ?_
  refine lv_iload hx hb dL_law_145 (lv_at hl 0 rfl) ?_
  refine lv_iconst (v := 1) hx hb dL_law_147 (by decide) ?_
  refine lv_iadd hx hb dL_law_148 ?_
  refine wti (x' := nI (i + 1)) (nI_add i 1) ?_
  refine va_sld hx hb hX hbl hbA hS (vp_in_nI (by omega) hN) dL_law_149 ?_
  refine wti (x' := f (i + 1)) (by rw [nI_clamp (by omega)]) ?_
  refine lv_i2c hx hb dL_law_150 hcv ?_
  refine qW_i (ci := 5) (q0 := 0) (wr := dW z d n u140 ++ [(o, .inl (z 0, 1, .inr (.inl fO)))]) (As := [.int (nI cv)]) (rest := [.int r140]) ⟨hx, hb, hml, hown, ht⟩ (c_M_type l D z e9 n _ tx g tg Gs hmR cv hcv9) (cB 1 ht gM_type rfl tw_64 tw_733 (by decide +kernel) ⟨Nat.le_trans (Nat.le_of_ble_eq_true rfl) hRf, Nat.le_trans (Nat.le_of_ble_eq_true rfl) hRl⟩) tw_734 tw_735 hK hP hD hS hA [33, 34, 35, 36, 37, 38, 39, 40, 41, 42, 43, 44, 45, 46, 47, 48, 49] [0, 1, 2, 3, 4, 5, 6, 7, 8, 9, 10, 11, 12, 13, 14, 15, 16, 17, 18, 19, 20, 21, 22, 23, 24, 25, 26, 27, 28, 29, 30, 31, 32, 50] rfl rfl rfl rfl (by decide) rfl rfl rfl rfl hl.1 rfl (Nat.le_of_ble_eq_true rfl) dL_law_151 ⟨by show _ + _ ≤ _; omega, by show _ + _ ≤ _; omega⟩ (fun r151 u151 H locs h151 hP hD hS => ?_)
  replace hP := hP.sub (ws' := LW z d e9 n u140 u151 o fO) [0, 1, 2, 3, 4, 5, 6, 7, 8, 9, 10, 11, 12, 13, 14, 15, 16, 17, 18, 19, 20, 21, 22, 23, 24, 25, 26, 27, 28, 29, 30, 31, 32, 34, 35, 36, 37, 38, 39, 40, 41, 42, 43, 44, 45, 46, 47, 48, 49, 50, 33] rfl
  replace hD := hD.sub (ws' := LW z d e9 n u140 u151 o fO) [0, 1, 2, 3, 4, 5, 6, 7, 8, 9, 10, 11, 12, 13, 14, 15, 16, 17, 18, 19, 20, 21, 22, 23, 24, 25, 26, 27, 28, 29, 30, 31, 32, 34, 35, 36, 37, 38, 39, 40, 41, 42, 43, 44, 45, 46, 47, 48, 49, 50, 33] rfl rfl
  rw [hvl, hvg] at h151
  refine lv_icmp_eq (tgt := 1052) hx hb dL_law_154 rfl (fun h9 => ?_) (fun h9 => absurd (h140.1.trans h151.2.1.symm) h9)
  exact W.widen (k := cells + 10) (n := slots + 100) (by show _ ≤ _; omega) (by show _ ≤ _; omega) (kk u140 u151 fO _ _ ls ⟨_, h140.2, h151.2.2⟩ hP hD hS (lv_sub hl [0, 1, 2, 3, 4] rfl))
set_option maxHeartbeats 8000000 in
set_option maxRecDepth 100000 in
theorem lw_wipe {p : Program} {l : Launch} {e : Env} {R : Room} {s : State} {m : MethodId} {args : Array Value} {below : List Frame} {meth : Method} {c : Code} {H : Heap} {locs : List Loc} {cells slots : Nat} {Q : State → Prop} {ls : Array Slot} {D : va_G} {z : Nat → ClassId} {d e9 : Nat → Nat} {n : Nat} {u : dSt} {v : mSt} {o : Nat} {fO : Nat → Int64} {q N i : Nat} {f : Nat → Int32} {A : Nat → Prop} (hst : l.stackTraces = false) (hx : p.tables.exec = Jvm.exec) (hb : c.code = code) (hml : c.maxLocals = 7) (hown : s.vm.findClass "PermutationDeskLaw" = some m.cls) (ht : ∀ w ∈ TB, w.before args s = true) (hRf : 40 ≤ R.frames) (hRl : 2000 ≤ R.locals) (hcl : cells + 10 ≤ R.cells) (hsl : slots + 100 ≤ R.slots) (hK : va_K D vC (tyL z) s) (hV : xV s) (hH : xH A s s.heap) (hA : ∀ q, s.heap.size ≤ q → A q) (hP : va_P D vC (LW z d e9 n u v o fO) H) (hD : va_D A (LW z d e9 n u v o fO)) (hS : va_S A s.heap H locs) (hN : N < 2 ^ 31) (hi : i + 5 ≤ N) (hX : va_X q N f s s.heap) (hbl : q < s.heap.size) (hbA : ¬ A q) (hLS : LSt n u v) (hl : lv_has ls 7 [(4, .int (nI i)), (0, .ref q), (1, .ref (d 0)), (2, .ref (e9 0)), (3, .ref o)]) (kk : ∀ (u : dSt) (v : mSt) (fO : Nat → Int64) (H : Heap) (locs : List Loc) (ls : Array Slot), LSt n u v → va_P D vC (LW z d e9 n u v o fO) H → va_D A (LW z d e9 n u v o fO) → va_S A s.heap H locs → lv_has ls 7 [(4, .int (nI i)), (0, .ref q), (1, .ref (d 0)), (2, .ref (e9 0)), (3, .ref o)] → W p l e R s m args below meth c H locs (cells + 10) (slots + 100) Q (F0 m 1052 ls [])) : W p l e R s m args below meth c H locs cells slots Q (F0 m 159 ls []) := by
  obtain ⟨tx, g, tg, Gs, hn7, hgc6, hvl, hvg, hdR, hmR⟩ := hLS.inv
  obtain ⟨len, ft, gc, fg, fo, gs, us⟩ := u
  replace hdR : dR n tx len g gc tg Gs ft fg fo us := hdR
  replace hgc6 : gc ≤ 6 := hgc6
  replace hvl : v.2.1 = len := hvl
  replace hvg : v.2.2.2.1 = gc := hvg
  have hGG : ∀ i, i < 5 → pg_G n (Gs i) := fun i hi => (hdR.2.2.2.1 i hi).2.1
  have hgP : ∀ i, i < gc → pg_P n (g i) := fun i hi => (hdR.2.1.2.2.2.2 i hi).1
  refine lv_aload_n hx hb dL_law_159 rfl (lv_at hl 2 rfl) ?_
  refine qW_v (ci := 2) (q0 := 0) (wr := mWu z e9 n v ++ [(o, .inl (z 0, 1, .inr (.inl fO)))]) (As := []) (rest := []) ⟨hx, hb, hml, hown, ht⟩ (c_D_wipe l D z d H.size n (tx, len, g, gc, tg, Gs) (len, ft, gc, fg, fo, gs, us) (hdR.rp gs)) (cB 0 ht gD_wipe rfl tw_59 tw_157 (by decide +kernel) ⟨Nat.le_trans (Nat.le_of_ble_eq_true rfl) hRf, Nat.le_trans (Nat.le_of_ble_eq_true rfl) hRl⟩) tw_158 tw_159 hK hP hD hS hA [0, 1, 2, 3, 4, 5, 6, 7, 8, 9, 10, 11, 12, 13, 14, 15, 16, 17, 18, 19, 20, 21, 22, 23, 24, 25, 26, 27, 28, 29, 30, 31, 32] [33, 34, 35, 36, 37, 38, 39, 40, 41, 42, 43, 44, 45, 46, 47, 48, 49, 50] rfl rfl rfl rfl (by decide) rfl rfl rfl rfl hl.1 rfl (Nat.le_of_ble_eq_true rfl) dL_law_160 ⟨by show _ + _ ≤ _; omega, by show _ + _ ≤ _; omega⟩ (fun u160 H locs h160 hP hD hS => ?_)
  replace hP := hP.sub (ws' := LW z d e9 n u160 v o fO) [18, 19, 20, 21, 22, 23, 24, 25, 26, 27, 28, 29, 30, 31, 32, 33, 34, 35, 36, 37, 38, 39, 40, 41, 42, 43, 44, 45, 46, 47, 48, 49, 50, 0, 1, 2, 3, 4, 5, 6, 7, 8, 9, 10, 11, 12, 13, 14, 15, 16, 17] rfl
  replace hD := hD.sub (ws' := LW z d e9 n u160 v o fO) [18, 19, 20, 21, 22, 23, 24, 25, 26, 27, 28, 29, 30, 31, 32, 33, 34, 35, 36, 37, 38, 39, 40, 41, 42, 43, 44, 45, 46, 47, 48, 49, 50, 0, 1, 2, 3, 4, 5, 6, 7, 8, 9, 10, 11, 12, 13, 14, 15, 16, 17] rfl rfl
  refine lv_aload_n hx hb dL_law_163 rfl (lv_at hl 3 rfl) ?_
  refine qW_v (ci := 5) (q0 := 0) (wr := dW z d n u160 ++ [(o, .inl (z 0, 1, .inr (.inl fO)))]) (As := []) (rest := []) ⟨hx, hb, hml, hown, ht⟩ (c_M_wipe l D z e9 n _ tx g tg Gs hmR) (cB 0 ht gM_wipe rfl tw_64 tw_737 (by decide +kernel) ⟨Nat.le_trans (Nat.le_of_ble_eq_true rfl) hRf, Nat.le_trans (Nat.le_of_ble_eq_true rfl) hRl⟩) tw_738 tw_739 hK hP hD hS hA [33, 34, 35, 36, 37, 38, 39, 40, 41, 42, 43, 44, 45, 46, 47, 48, 49] [0, 1, 2, 3, 4, 5, 6, 7, 8, 9, 10, 11, 12, 13, 14, 15, 16, 17, 18, 19, 20, 21, 22, 23, 24, 25, 26, 27, 28, 29, 30, 31, 32, 50] rfl rfl rfl rfl (by decide) rfl rfl rfl rfl hl.1 rfl (Nat.le_of_ble_eq_true rfl) dL_law_164 ⟨by show _ + _ ≤ _; omega, by show _ + _ ≤ _; omega⟩ (fun u164 H locs h164 hP hD hS => ?_)
  replace hP := hP.sub (ws' := LW z d e9 n u160 u164 o fO) [0, 1, 2, 3, 4, 5, 6, 7, 8, 9, 10, 11, 12, 13, 14, 15, 16, 17, 18, 19, 20, 21, 22, 23, 24, 25, 26, 27, 28, 29, 30, 31, 32, 34, 35, 36, 37, 38, 39, 40, 41, 42, 43, 44, 45, 46, 47, 48, 49, 50, 33] rfl
  replace hD := hD.sub (ws' := LW z d e9 n u160 u164 o fO) [0, 1, 2, 3, 4, 5, 6, 7, 8, 9, 10, 11, 12, 13, 14, 15, 16, 17, 18, 19, 20, 21, 22, 23, 24, 25, 26, 27, 28, 29, 30, 31, 32, 34, 35, 36, 37, 38, 39, 40, 41, 42, 43, 44, 45, 46, 47, 48, 49, 50, 33] rfl rfl
  rw [hvl, hvg] at h164
  refine lv_goto (tgt := 1052) hx hb dL_law_167 rfl ?_
  exact W.widen (k := cells + 10) (n := slots + 100) (by show _ ≤ _; omega) (by show _ ≤ _; omega) (kk u160 u164 fO _ _ ls ⟨_, h160, h164.2⟩ hP hD hS (lv_sub hl [0, 1, 2, 3, 4] rfl))
set_option maxHeartbeats 8000000 in
set_option maxRecDepth 100000 in
theorem lw_forget {p : Program} {l : Launch} {e : Env} {R : Room} {s : State} {m : MethodId} {args : Array Value} {below : List Frame} {meth : Method} {c : Code} {H : Heap} {locs : List Loc} {cells slots : Nat} {Q : State → Prop} {ls : Array Slot} {D : va_G} {z : Nat → ClassId} {d e9 : Nat → Nat} {n : Nat} {u : dSt} {v : mSt} {o : Nat} {fO : Nat → Int64} {q N i : Nat} {f : Nat → Int32} {A : Nat → Prop} (hst : l.stackTraces = false) (hx : p.tables.exec = Jvm.exec) (hb : c.code = code) (hml : c.maxLocals = 7) (hown : s.vm.findClass "PermutationDeskLaw" = some m.cls) (ht : ∀ w ∈ TB, w.before args s = true) (hRf : 40 ≤ R.frames) (hRl : 2000 ≤ R.locals) (hcl : cells + 10 ≤ R.cells) (hsl : slots + 100 ≤ R.slots) (hK : va_K D vC (tyL z) s) (hV : xV s) (hH : xH A s s.heap) (hA : ∀ q, s.heap.size ≤ q → A q) (hP : va_P D vC (LW z d e9 n u v o fO) H) (hD : va_D A (LW z d e9 n u v o fO)) (hS : va_S A s.heap H locs) (hN : N < 2 ^ 31) (hi : i + 5 ≤ N) (hX : va_X q N f s s.heap) (hbl : q < s.heap.size) (hbA : ¬ A q) (hLS : LSt n u v) (hl : lv_has ls 7 [(4, .int (nI i)), (0, .ref q), (1, .ref (d 0)), (2, .ref (e9 0)), (3, .ref o)]) (kk : ∀ (u : dSt) (v : mSt) (fO : Nat → Int64) (H : Heap) (locs : List Loc) (ls : Array Slot), LSt n u v → va_P D vC (LW z d e9 n u v o fO) H → va_D A (LW z d e9 n u v o fO) → va_S A s.heap H locs → lv_has ls 7 [(4, .int (nI i)), (0, .ref q), (1, .ref (d 0)), (2, .ref (e9 0)), (3, .ref o)] → W p l e R s m args below meth c H locs (cells + 10) (slots + 100) Q (F0 m 1052 ls [])) : W p l e R s m args below meth c H locs cells slots Q (F0 m 270 ls []) := by
  obtain ⟨tx, g, tg, Gs, hn7, hgc6, hvl, hvg, hdR, hmR⟩ := hLS.inv
  obtain ⟨len, ft, gc, fg, fo, gs, us⟩ := u
  replace hdR : dR n tx len g gc tg Gs ft fg fo us := hdR
  replace hgc6 : gc ≤ 6 := hgc6
  replace hvl : v.2.1 = len := hvl
  replace hvg : v.2.2.2.1 = gc := hvg
  have hGG : ∀ i, i < 5 → pg_G n (Gs i) := fun i hi => (hdR.2.2.2.1 i hi).2.1
  have hgP : ∀ i, i < gc → pg_P n (g i) := fun i hi => (hdR.2.1.2.2.2.2 i hi).1
  refine lv_aload_n hx hb dL_law_270 rfl (lv_at hl 2 rfl) ?_
  refine qW_v (ci := 2) (q0 := 0) (wr := mWu z e9 n v ++ [(o, .inl (z 0, 1, .inr (.inl fO)))]) (As := []) (rest := []) ⟨hx, hb, hml, hown, ht⟩ (c_D_forget l D z d H.size n (len, ft, gc, fg, fo, gs, us) (tx, len, g, gc, tg, Gs) (hdR.rp gs)) (cB 0 ht gD_forget rfl tw_59 tw_161 (by decide +kernel) ⟨Nat.le_trans (Nat.le_of_ble_eq_true rfl) hRf, Nat.le_trans (Nat.le_of_ble_eq_true rfl) hRl⟩) tw_162 tw_163 hK hP hD hS hA [0, 1, 2, 3, 4, 5, 6, 7, 8, 9, 10, 11, 12, 13, 14, 15, 16, 17, 18, 19, 20, 21, 22, 23, 24, 25, 26, 27, 28, 29, 30, 31, 32] [33, 34, 35, 36, 37, 38, 39, 40, 41, 42, 43, 44, 45, 46, 47, 48, 49, 50] rfl rfl rfl rfl (by decide) rfl rfl rfl rfl hl.1 rfl (Nat.le_of_ble_eq_true rfl) dL_law_271 ⟨by show _ + _ ≤ _; omega, by show _ + _ ≤ _; omega⟩ (fun u271 H locs h271 hP hD hS => ?_)
  replace hP := hP.sub (ws' := LW z d e9 n u271 v o fO) [18, 19, 20, 21, 22, 23, 24, 25, 26, 27, 28, 29, 30, 31, 32, 33, 34, 35, 36, 37, 38, 39, 40, 41, 42, 43, 44, 45, 46, 47, 48, 49, 50, 0, 1, 2, 3, 4, 5, 6, 7, 8, 9, 10, 11, 12, 13, 14, 15, 16, 17] rfl
  replace hD := hD.sub (ws' := LW z d e9 n u271 v o fO) [18, 19, 20, 21, 22, 23, 24, 25, 26, 27, 28, 29, 30, 31, 32, 33, 34, 35, 36, 37, 38, 39, 40, 41, 42, 43, 44, 45, 46, 47, 48, 49, 50, 0, 1, 2, 3, 4, 5, 6, 7, 8, 9, 10, 11, 12, 13, 14, 15, 16, 17] rfl rfl
  refine lv_aload_n hx hb dL_law_274 rfl (lv_at hl 3 rfl) ?_
  refine qW_v (ci := 5) (q0 := 0) (wr := dW z d n u271 ++ [(o, .inl (z 0, 1, .inr (.inl fO)))]) (As := []) (rest := []) ⟨hx, hb, hml, hown, ht⟩ (c_M_forget l D z e9 n _ tx g tg Gs hmR) (cB 0 ht gM_forget rfl tw_64 tw_848 (by decide +kernel) ⟨Nat.le_trans (Nat.le_of_ble_eq_true rfl) hRf, Nat.le_trans (Nat.le_of_ble_eq_true rfl) hRl⟩) tw_849 tw_850 hK hP hD hS hA [33, 34, 35, 36, 37, 38, 39, 40, 41, 42, 43, 44, 45, 46, 47, 48, 49] [0, 1, 2, 3, 4, 5, 6, 7, 8, 9, 10, 11, 12, 13, 14, 15, 16, 17, 18, 19, 20, 21, 22, 23, 24, 25, 26, 27, 28, 29, 30, 31, 32, 50] rfl rfl rfl rfl (by decide) rfl rfl rfl rfl hl.1 rfl (Nat.le_of_ble_eq_true rfl) dL_law_275 ⟨by show _ + _ ≤ _; omega, by show _ + _ ≤ _; omega⟩ (fun u275 H locs h275 hP hD hS => ?_)
  replace hP := hP.sub (ws' := LW z d e9 n u271 u275 o fO) [0, 1, 2, 3, 4, 5, 6, 7, 8, 9, 10, 11, 12, 13, 14, 15, 16, 17, 18, 19, 20, 21, 22, 23, 24, 25, 26, 27, 28, 29, 30, 31, 32, 34, 35, 36, 37, 38, 39, 40, 41, 42, 43, 44, 45, 46, 47, 48, 49, 50, 33] rfl
  replace hD := hD.sub (ws' := LW z d e9 n u271 u275 o fO) [0, 1, 2, 3, 4, 5, 6, 7, 8, 9, 10, 11, 12, 13, 14, 15, 16, 17, 18, 19, 20, 21, 22, 23, 24, 25, 26, 27, 28, 29, 30, 31, 32, 34, 35, 36, 37, 38, 39, 40, 41, 42, 43, 44, 45, 46, 47, 48, 49, 50, 33] rfl rfl
  rw [hvl, hvg] at h275
  refine lv_goto (tgt := 1052) hx hb dL_law_278 rfl ?_
  exact W.widen (k := cells + 10) (n := slots + 100) (by show _ ≤ _; omega) (by show _ ≤ _; omega) (kk u271 u275 fO _ _ ls ⟨_, h271, h275.2⟩ hP hD hS (lv_sub hl [0, 1, 2, 3, 4] rfl))
set_option maxHeartbeats 8000000 in
set_option maxRecDepth 100000 in
theorem lw_image {p : Program} {l : Launch} {e : Env} {R : Room} {s : State} {m : MethodId} {args : Array Value} {below : List Frame} {meth : Method} {c : Code} {H : Heap} {locs : List Loc} {cells slots : Nat} {Q : State → Prop} {ls : Array Slot} {D : va_G} {z : Nat → ClassId} {d e9 : Nat → Nat} {n : Nat} {u : dSt} {v : mSt} {o : Nat} {fO : Nat → Int64} {q N i : Nat} {f : Nat → Int32} {A : Nat → Prop} (hst : l.stackTraces = false) (hx : p.tables.exec = Jvm.exec) (hb : c.code = code) (hml : c.maxLocals = 7) (hown : s.vm.findClass "PermutationDeskLaw" = some m.cls) (ht : ∀ w ∈ TB, w.before args s = true) (hRf : 40 ≤ R.frames) (hRl : 2000 ≤ R.locals) (hcl : cells + 10 ≤ R.cells) (hsl : slots + 100 ≤ R.slots) (hK : va_K D vC (tyL z) s) (hV : xV s) (hH : xH A s s.heap) (hA : ∀ q, s.heap.size ≤ q → A q) (hP : va_P D vC (LW z d e9 n u v o fO) H) (hD : va_D A (LW z d e9 n u v o fO)) (hS : va_S A s.heap H locs) (hN : N < 2 ^ 31) (hi : i + 5 ≤ N) (hX : va_X q N f s s.heap) (hbl : q < s.heap.size) (hbA : ¬ A q) (hLS : LSt n u v) (hl : lv_has ls 7 [(4, .int (nI i)), (0, .ref q), (1, .ref (d 0)), (2, .ref (e9 0)), (3, .ref o)]) (kk : ∀ (u : dSt) (v : mSt) (fO : Nat → Int64) (H : Heap) (locs : List Loc) (ls : Array Slot), LSt n u v → va_P D vC (LW z d e9 n u v o fO) H → va_D A (LW z d e9 n u v o fO) → va_S A s.heap H locs → lv_has ls 7 [(4, .int (nI i)), (0, .ref q), (1, .ref (d 0)), (2, .ref (e9 0)), (3, .ref o)] → W p l e R s m args below meth c H locs (cells + 10) (slots + 100) Q (F0 m 1052 ls [])) : W p l e R s m args below meth c H locs cells slots Q (F0 m 281 ls []) := by
  obtain ⟨tx, g, tg, Gs, hn7, hgc6, hvl, hvg, hdR, hmR⟩ := hLS.inv
  obtain ⟨len, ft, gc, fg, fo, gs, us⟩ := u
  replace hdR : dR n tx len g gc tg Gs ft fg fo us := hdR
  replace hgc6 : gc ≤ 6 := hgc6
  replace hvl : v.2.1 = len := hvl
  replace hvg : v.2.2.2.1 = gc := hvg
  have hGG : ∀ i, i < 5 → pg_G n (Gs i) := fun i hi => (hdR.2.2.2.1 i hi).2.1
  have hgP : ∀ i, i < gc → pg_P n (g i) := fun i hi => (hdR.2.1.2.2.2.2 i hi).1
  refine lv_aload_n hx hb dL_law_281 rfl (lv_at hl 2 rfl) ?_
  refine lv_aload_n hx hb dL_law_282 rfl (lv_at hl 1 rfl) ?_
  refine lv_iload hx hb dL_law_283 (lv_at hl 0 rfl) ?_
  refine lv_iconst (v := 1) hx hb dL_law_285 (by decide) ?_
  refine lv_iadd hx hb dL_law_286 ?_
  refine wti (x' := nI (i + 1)) (nI_add i 1) ?_
  refine va_sld hx hb hX hbl hbA hS (vp_in_nI (by omega) hN) dL_law_287 ?_
  refine wti (x' := f (i + 1)) (by rw [nI_clamp (by omega)]) ?_
  refine qL_i (wr := mWu z e9 n v ++ [(o, .inl (z 0, 1, .inr (.inl fO)))]) (As := [.ref (d 0), .int (f (i + 1))]) (rest := []) ⟨hx, hb, hml, hown, ht⟩ (c_L_image l hst D z d H.size n len gc ft fg fo gs us tx g tg Gs hdR o fO (f (i + 1))) (vx_cwSW 2 ht (tb_c tw_416 (tb_c tw_417 (tb_c tw_58 gL_image))) rfl rfl rfl (by decide +kernel) ⟨Nat.le_trans (Nat.le_of_ble_eq_true rfl) hRf, Nat.le_trans (Nat.le_of_ble_eq_true rfl) hRl⟩) hK hP hD hS hA hV hH [0, 1, 2, 3, 4, 5, 6, 7, 8, 9, 10, 11, 12, 13, 14, 15, 16, 17, 18, 19, 20, 21, 22, 23, 24, 25, 26, 27, 28, 29, 30, 31, 32] [33, 34, 35, 36, 37, 38, 39, 40, 41, 42, 43, 44, 45, 46, 47, 48, 49, 50] rfl rfl rfl rfl (by decide) rfl rfl hl.1 rfl (Nat.le_of_ble_eq_true rfl) dL_law_288 ⟨by show _ + _ ≤ _; omega, by show _ + _ ≤ _; omega⟩ (fun r288 u288 H locs h288 hP hD hS => ?_)
  replace hP := hP.sub (ws' := LW z d e9 n u288 v o fO) [18, 19, 20, 21, 22, 23, 24, 25, 26, 27, 28, 29, 30, 31, 32, 33, 34, 35, 36, 37, 38, 39, 40, 41, 42, 43, 44, 45, 46, 47, 48, 49, 50, 0, 1, 2, 3, 4, 5, 6, 7, 8, 9, 10, 11, 12, 13, 14, 15, 16, 17] rfl
  replace hD := hD.sub (ws' := LW z d e9 n u288 v o fO) [18, 19, 20, 21, 22, 23, 24, 25, 26, 27, 28, 29, 30, 31, 32, 33, 34, 35, 36, 37, 38, 39, 40, 41, 42, 43, 44, 45, 46, 47, 48, 49, 50, 0, 1, 2, 3, 4, 5, 6, 7, 8, 9, 10, 11, 12, 13, 14, 15, 16, 17] rfl rfl
  refine lv_istore hx hb dL_law_291 hl (by decide) rfl (fun ls hl => ?_)
  replace hl : lv_has ls 7 [(5, .int r288), (4, .int (nI i)), (0, .ref q), (1, .ref (d 0)), (2, .ref (e9 0)), (3, .ref o)] := hl
  refine lv_aload_n hx hb dL_law_293 rfl (lv_at hl 4 rfl) ?_
  refine lv_aload_n hx hb dL_law_294 rfl (lv_at hl 2 rfl) ?_
  refine lv_iload hx hb dL_law_295 (lv_at hl 1 rfl) ?_
  refine lv_iconst (v := 1) hx hb dL_law_297 (by decide) ?_
  refine lv_iadd hx hb dL_law_298 ?_
  refine wti (x' := nI (i + 1)) (nI_add i 1) ?_
  refine va_sld hx hb hX hbl hbA hS (vp_in_nI (by omega) hN) dL_law_299 ?_
  refine wti (x' := f (i + 1)) (by rw [nI_clamp (by omega)]) ?_
  refine qW_v (ci := 5) (q0 := 0) (wr := dW z d n u288 ++ [(o, .inl (z 0, 1, .inr (.inl fO)))]) (As := [.int (f (i + 1))]) (rest := []) ⟨hx, hb, hml, hown, ht⟩ (c_M_image l D z e9 n _ tx g tg Gs hmR (f (i + 1))) (cB 1 ht gM_image rfl tw_64 tw_852 (by decide +kernel) ⟨Nat.le_trans (Nat.le_of_ble_eq_true rfl) hRf, Nat.le_trans (Nat.le_of_ble_eq_true rfl) hRl⟩) tw_853 tw_854 hK hP hD hS hA [33, 34, 35, 36, 37, 38, 39, 40, 41, 42, 43, 44, 45, 46, 47, 48, 49] [0, 1, 2, 3, 4, 5, 6, 7, 8, 9, 10, 11, 12, 13, 14, 15, 16, 17, 18, 19, 20, 21, 22, 23, 24, 25, 26, 27, 28, 29, 30, 31, 32, 50] rfl rfl rfl rfl (by decide) rfl rfl rfl rfl hl.1 rfl (Nat.le_of_ble_eq_true rfl) dL_law_300 ⟨by show _ + _ ≤ _; omega, by show _ + _ ≤ _; omega⟩ (fun u300 H locs h300 hP hD hS => ?_)
  replace hP := hP.sub (ws' := LW z d e9 n u288 u300 o fO) [0, 1, 2, 3, 4, 5, 6, 7, 8, 9, 10, 11, 12, 13, 14, 15, 16, 17, 18, 19, 20, 21, 22, 23, 24, 25, 26, 27, 28, 29, 30, 31, 32, 34, 35, 36, 37, 38, 39, 40, 41, 42, 43, 44, 45, 46, 47, 48, 49, 50, 33] rfl
  replace hD := hD.sub (ws' := LW z d e9 n u288 u300 o fO) [0, 1, 2, 3, 4, 5, 6, 7, 8, 9, 10, 11, 12, 13, 14, 15, 16, 17, 18, 19, 20, 21, 22, 23, 24, 25, 26, 27, 28, 29, 30, 31, 32, 34, 35, 36, 37, 38, 39, 40, 41, 42, 43, 44, 45, 46, 47, 48, 49, 50, 33] rfl rfl
  rw [hvl, hvg] at h300
  obtain ⟨hag1, hag3⟩ := ag_image hgc6 h288 h300
  refine lv_aload_n hx hb dL_law_303 rfl (lv_at hl 4 rfl) ?_
  refine qV_i (ci := 5) (q0 := 0) (As := []) (rest := []) ⟨hx, hb, hml, hown, ht⟩ (c_M_thrown l D z e9 n) (cB 0 ht gM_thrown rfl tw_64 tw_729 (by decide +kernel) ⟨Nat.le_trans (Nat.le_of_ble_eq_true rfl) hRf, Nat.le_trans (Nat.le_of_ble_eq_true rfl) hRl⟩) tw_730 tw_731 hK (hP.sub (ws' := mWu z e9 n u300) [33, 34, 35, 36, 37, 38, 39, 40, 41, 42, 43, 44, 45, 46, 47, 48, 49] rfl) rfl rfl rfl hl.1 rfl (Nat.le_of_ble_eq_true rfl) dL_law_304 ⟨by show _ + _ ≤ _; omega, by show _ + _ ≤ _; omega⟩ (fun r304 h304 => ?_)
  subst h304
  refine lv_iload hx hb dL_law_307 (lv_at hl 0 rfl) ?_
  refine lv_icmp_eq (tgt := 314) hx hb dL_law_309 rfl (fun h9 => ?_) (fun h9 => absurd hag1 h9)
  refine lv_goto (tgt := 1052) hx hb dL_law_314 rfl ?_
  exact W.widen (k := cells + 10) (n := slots + 100) (by show _ ≤ _; omega) (by show _ ≤ _; omega) (kk u288 u300 fO _ _ ls hag3 hP hD hS (lv_sub hl [1, 2, 3, 4, 5] rfl))
set_option maxHeartbeats 8000000 in
set_option maxRecDepth 100000 in
theorem lw_extend {p : Program} {l : Launch} {e : Env} {R : Room} {s : State} {m : MethodId} {args : Array Value} {below : List Frame} {meth : Method} {c : Code} {H : Heap} {locs : List Loc} {cells slots : Nat} {Q : State → Prop} {ls : Array Slot} {D : va_G} {z : Nat → ClassId} {d e9 : Nat → Nat} {n : Nat} {u : dSt} {v : mSt} {o : Nat} {fO : Nat → Int64} {q N i : Nat} {f : Nat → Int32} {A : Nat → Prop} (hst : l.stackTraces = false) (hx : p.tables.exec = Jvm.exec) (hb : c.code = code) (hml : c.maxLocals = 7) (hown : s.vm.findClass "PermutationDeskLaw" = some m.cls) (ht : ∀ w ∈ TB, w.before args s = true) (hRf : 40 ≤ R.frames) (hRl : 2000 ≤ R.locals) (hcl : cells + 10 ≤ R.cells) (hsl : slots + 100 ≤ R.slots) (hK : va_K D vC (tyL z) s) (hV : xV s) (hH : xH A s s.heap) (hA : ∀ q, s.heap.size ≤ q → A q) (hP : va_P D vC (LW z d e9 n u v o fO) H) (hD : va_D A (LW z d e9 n u v o fO)) (hS : va_S A s.heap H locs) (hN : N < 2 ^ 31) (hi : i + 5 ≤ N) (hX : va_X q N f s s.heap) (hbl : q < s.heap.size) (hbA : ¬ A q) (hLS : LSt n u v) (hl : lv_has ls 7 [(4, .int (nI i)), (0, .ref q), (1, .ref (d 0)), (2, .ref (e9 0)), (3, .ref o)]) (kk : ∀ (u : dSt) (v : mSt) (fO : Nat → Int64) (H : Heap) (locs : List Loc) (ls : Array Slot), LSt n u v → va_P D vC (LW z d e9 n u v o fO) H → va_D A (LW z d e9 n u v o fO) → va_S A s.heap H locs → lv_has ls 7 [(4, .int (nI i)), (0, .ref q), (1, .ref (d 0)), (2, .ref (e9 0)), (3, .ref o)] → W p l e R s m args below meth c H locs (cells + 10) (slots + 100) Q (F0 m 1052 ls [])) : W p l e R s m args below meth c H locs cells slots Q (F0 m 317 ls []) := by
  obtain ⟨tx, g, tg, Gs, hn7, hgc6, hvl, hvg, hdR, hmR⟩ := hLS.inv
  obtain ⟨len, ft, gc, fg, fo, gs, us⟩ := u
  replace hdR : dR n tx len g gc tg Gs ft fg fo us := hdR
  replace hgc6 : gc ≤ 6 := hgc6
  replace hvl : v.2.1 = len := hvl
  replace hvg : v.2.2.2.1 = gc := hvg
  have hGG : ∀ i, i < 5 → pg_G n (Gs i) := fun i hi => (hdR.2.2.2.1 i hi).2.1
  have hgP : ∀ i, i < gc → pg_P n (g i) := fun i hi => (hdR.2.1.2.2.2.2 i hi).1
  refine lv_aload_n hx hb dL_law_317 rfl (lv_at hl 2 rfl) ?_
  refine lv_aload_n hx hb dL_law_318 rfl (lv_at hl 4 rfl) ?_
  refine qL_i (wr := mWu z e9 n v) (As := [.ref (d 0), .ref o]) (rest := []) ⟨hx, hb, hml, hown, ht⟩ (c_L_extend l hst D z d H.size n len gc ft fg fo gs us tx g tg Gs hdR o fO) (vx_cwSW 2 ht (tb_c tw_424 (tb_c tw_425 (tb_c tw_58 gL_extend))) rfl rfl rfl (by decide +kernel) ⟨Nat.le_trans (Nat.le_of_ble_eq_true rfl) hRf, Nat.le_trans (Nat.le_of_ble_eq_true rfl) hRl⟩) hK hP hD hS hA hV hH [0, 1, 2, 3, 4, 5, 6, 7, 8, 9, 10, 11, 12, 13, 14, 15, 16, 17, 18, 19, 20, 21, 22, 23, 24, 25, 26, 27, 28, 29, 30, 31, 32, 50] [33, 34, 35, 36, 37, 38, 39, 40, 41, 42, 43, 44, 45, 46, 47, 48, 49] rfl rfl rfl rfl (by decide) rfl rfl hl.1 rfl (Nat.le_of_ble_eq_true rfl) dL_law_319 ⟨by show _ + _ ≤ _; omega, by show _ + _ ≤ _; omega⟩ (fun r319 u319 H locs h319 hP hD hS => ?_)
  replace hP := hP.sub (ws' := LW z d e9 n u319.1 v o u319.2) [17, 18, 19, 20, 21, 22, 23, 24, 25, 26, 27, 28, 29, 30, 31, 32, 33, 34, 35, 36, 37, 38, 39, 40, 41, 42, 43, 44, 45, 46, 47, 48, 49, 0, 1, 2, 3, 4, 5, 6, 7, 8, 9, 10, 11, 12, 13, 14, 15, 16, 50] rfl
  replace hD := hD.sub (ws' := LW z d e9 n u319.1 v o u319.2) [17, 18, 19, 20, 21, 22, 23, 24, 25, 26, 27, 28, 29, 30, 31, 32, 33, 34, 35, 36, 37, 38, 39, 40, 41, 42, 43, 44, 45, 46, 47, 48, 49, 0, 1, 2, 3, 4, 5, 6, 7, 8, 9, 10, 11, 12, 13, 14, 15, 16, 50] rfl rfl
  refine lv_istore hx hb dL_law_322 hl (by decide) rfl (fun ls hl => ?_)
  replace hl : lv_has ls 7 [(5, .int r319), (4, .int (nI i)), (0, .ref q), (1, .ref (d 0)), (2, .ref (e9 0)), (3, .ref o)] := hl
  refine lv_aload_n hx hb dL_law_324 rfl (lv_at hl 4 rfl) ?_
  refine qW_i (ci := 5) (q0 := 0) (wr := dW z d n u319.1 ++ [(o, .inl (z 0, 1, .inr (.inl u319.2)))]) (As := []) (rest := []) ⟨hx, hb, hml, hown, ht⟩ (c_M_extend l D z e9 n _ tx g tg Gs hmR) (cB 0 ht gM_extend rfl tw_64 tw_856 (by decide +kernel) ⟨Nat.le_trans (Nat.le_of_ble_eq_true rfl) hRf, Nat.le_trans (Nat.le_of_ble_eq_true rfl) hRl⟩) tw_857 tw_858 hK hP hD hS hA [33, 34, 35, 36, 37, 38, 39, 40, 41, 42, 43, 44, 45, 46, 47, 48, 49] [0, 1, 2, 3, 4, 5, 6, 7, 8, 9, 10, 11, 12, 13, 14, 15, 16, 17, 18, 19, 20, 21, 22, 23, 24, 25, 26, 27, 28, 29, 30, 31, 32, 50] rfl rfl rfl rfl (by decide) rfl rfl rfl rfl hl.1 rfl (Nat.le_of_ble_eq_true rfl) dL_law_325 ⟨by show _ + _ ≤ _; omega, by show _ + _ ≤ _; omega⟩ (fun r325 u325 H locs h325 hP hD hS => ?_)
  replace hP := hP.sub (ws' := LW z d e9 n u319.1 u325 o u319.2) [0, 1, 2, 3, 4, 5, 6, 7, 8, 9, 10, 11, 12, 13, 14, 15, 16, 17, 18, 19, 20, 21, 22, 23, 24, 25, 26, 27, 28, 29, 30, 31, 32, 34, 35, 36, 37, 38, 39, 40, 41, 42, 43, 44, 45, 46, 47, 48, 49, 50, 33] rfl
  replace hD := hD.sub (ws' := LW z d e9 n u319.1 u325 o u319.2) [0, 1, 2, 3, 4, 5, 6, 7, 8, 9, 10, 11, 12, 13, 14, 15, 16, 17, 18, 19, 20, 21, 22, 23, 24, 25, 26, 27, 28, 29, 30, 31, 32, 34, 35, 36, 37, 38, 39, 40, 41, 42, 43, 44, 45, 46, 47, 48, 49, 50, 33] rfl rfl
  rw [hvl, hvg] at h325
  obtain ⟨hag1, hag2, hag3⟩ := ag_extend h319 h325
  have hb01 : r319 = 0 → r325 = 0 ∨ r325 = 1 := by
    intro h0
    rcases h325.1 with ⟨e1, tt', b2, f1, f2, f3⟩ | ⟨e1, f1⟩
    · rw [f2]
      cases b2
      · exact Or.inl rfl
      · exact Or.inr rfl
    · rw [e1, h0] at hag1
      exact absurd hag1 (by decide)
  refine lv_istore hx hb dL_law_328 hl (by decide) rfl (fun ls hl => ?_)
  replace hl : lv_has ls 7 [(6, .int r325), (5, .int r319), (4, .int (nI i)), (0, .ref q), (1, .ref (d 0)), (2, .ref (e9 0)), (3, .ref o)] := hl
  refine lv_aload_n hx hb dL_law_330 rfl (lv_at hl 5 rfl) ?_
  refine qV_i (ci := 5) (q0 := 0) (As := []) (rest := []) ⟨hx, hb, hml, hown, ht⟩ (c_M_thrown l D z e9 n) (cB 0 ht gM_thrown rfl tw_64 tw_729 (by decide +kernel) ⟨Nat.le_trans (Nat.le_of_ble_eq_true rfl) hRf, Nat.le_trans (Nat.le_of_ble_eq_true rfl) hRl⟩) tw_730 tw_731 hK (hP.sub (ws' := mWu z e9 n u325) [33, 34, 35, 36, 37, 38, 39, 40, 41, 42, 43, 44, 45, 46, 47, 48, 49] rfl) rfl rfl rfl hl.1 rfl (Nat.le_of_ble_eq_true rfl) dL_law_331 ⟨by show _ + _ ≤ _; omega, by show _ + _ ≤ _; omega⟩ (fun r331 h331 => ?_)
  subst h331
  refine lv_iload hx hb dL_law_334 (lv_at hl 1 rfl) ?_
  refine lv_icmp_eq (tgt := 341) hx hb dL_law_336 rfl (fun h9 => ?_) (fun h9 => absurd hag1 h9)
  refine lv_iload hx hb dL_law_341 (lv_at hl 1 rfl) ?_
  refine lv_if_ne (tgt := 365) hx hb dL_law_343 rfl (fun h10 => ?_) (fun h10 => ?_)
  · skip
    refine lv_goto (tgt := 1052) hx hb dL_law_365 rfl ?_
    exact W.widen (k := cells + 10) (n := slots + 100) (by show _ ≤ _; omega) (by show _ ≤ _; omega) (kk u319.1 u325 u319.2 _ _ ls hag3 hP hD hS (lv_sub hl [2, 3, 4, 5, 6] rfl))
  refine lv_aload_n hx hb dL_law_346 rfl (lv_at hl 6 rfl) ?_
  refine lv_iconst (v := 0) hx hb dL_law_347 (by decide) ?_
  refine va_lald hx hb hK hP 50 0 rfl rfl (vp_in_nI (n := 0) (N := 1) (by decide) (by decide)) dL_law_348 ?_
  refine wtl (x' := r325.toInt64) (hag2 h10) ?_
  refine lv_iload hx hb dL_law_349 (lv_at hl 0 rfl) ?_
  refine lv_if_eq (tgt := 358) hx hb dL_law_351 rfl (fun h11 => ?_) (fun h11 => ?_)
  · skip
    refine lv_lconst (v := 0) hx hb dL_law_358 (by decide) ?_
    refine W.lcmp hx hb dL_law_359 ?_
    refine lv_if_eq (tgt := 365) hx hb dL_law_360 rfl (fun h12 => ?_) (fun h12 => absurd ((lg_cmp_eq _ _).mpr (by rw [h11]; rfl)) h12)
    refine lv_goto (tgt := 1052) hx hb dL_law_365 rfl ?_
    exact W.widen (k := cells + 10) (n := slots + 100) (by show _ ≤ _; omega) (by show _ ≤ _; omega) (kk u319.1 u325 u319.2 _ _ ls hag3 hP hD hS (lv_sub hl [2, 3, 4, 5, 6] rfl))
  refine lv_lconst (v := 1) hx hb dL_law_354 (by decide) ?_
  refine lv_goto (tgt := 359) hx hb dL_law_355 rfl ?_
  refine W.lcmp hx hb dL_law_359 ?_
  refine lv_if_eq (tgt := 365) hx hb dL_law_360 rfl (fun h12 => ?_) (fun h12 => absurd ((lg_cmp_eq _ _).mpr (by rw [(hb01 h10).resolve_left h11]; rfl)) h12)
  refine lv_goto (tgt := 1052) hx hb dL_law_365 rfl ?_
  exact W.widen (k := cells + 10) (n := slots + 100) (by show _ ≤ _; omega) (by show _ ≤ _; omega) (kk u319.1 u325 u319.2 _ _ ls hag3 hP hD hS (lv_sub hl [2, 3, 4, 5, 6] rfl))
