/-! The reference: its world; elements as ints; what only reads. -/
def mL (n : Nat) : Nat → Int32 := fun r => match (pg_all n)[r]? with
  | some x => eI n x
  | none => 0
theorem mL_at {n r : Nat} {x : pg_F} (h : (pg_all n)[r]? = some x) : mL n r = eI n x := by
  unfold mL
  rw [h]
theorem mL_0 (n : Nat) : mL n 0 = eI n pg_id := mL_at (pg_all_0 n)
def mOn : Nat → Int32 := fun k => if k < 128 then nI (pg_cb 7 k) else 0
def mFc : Nat → Int32 := fun k => if k < 8 then nI (pg_fac k) else 0
/-- the reference's object and its sixteen arrays -/
abbrev mW (z : Nat → ClassId) (d : Nat → Nat) (n : Nat) (cd : Int32) (ty : Nat) (ft : Nat → Int32) (gc : Nat) (fg fo fh : Nat → Int32) (fs ff : Nat → Int64) (fq : Nat → Int32) (mk : Nat) (fm fi : Nat → Int32) (de ps : Nat) (re : Int32) (go : Bool) (kd pr fa fr : Nat → Int32) : va_W := [(d 0, .inr (5, [.int (nI n), .int (nI (pg_fac n)), .int cd, .ref (d 1), .ref (d 2), .ref (d 3), .int (nI ty), .ref (d 4), .int (nI gc), .ref (d 5), .ref (d 6), .ref (d 7), .ref (d 8), .ref (d 9), .ref (d 10), .int (nI mk), .ref (d 11), .ref (d 12), .int (nI de), .int (nI ps), .int re, .int (bI go), .ref (d 13), .ref (d 14), .ref (d 15), .ref (d 16)])), (d 1, .inl (z 1, 5040, .inl (mL n))), (d 2, .inl (z 1, 128, .inl mOn)), (d 3, .inl (z 1, 8, .inl mFc)), (d 4, .inl (z 1, 24, .inl ft)), (d 5, .inl (z 1, 6, .inl fg)), (d 6, .inl (z 1, 6, .inl fo)), (d 7, .inl (z 4, 6, .inl fh)), (d 8, .inl (z 0, 395, .inr (.inl fs))), (d 9, .inl (z 0, 79, .inr (.inl ff))), (d 10, .inl (z 1, 5040, .inl fq)), (d 11, .inl (z 1, 20, .inl fm)), (d 12, .inl (z 1, 5040, .inl fi)), (d 13, .inl (z 1, 6, .inl kd)), (d 14, .inl (z 1, 6, .inl pr)), (d 15, .inl (z 1, 6, .inl fa)), (d 16, .inl (z 1, 6, .inl fr))]
section QM
variable {p : Program} {l : Launch} {e : Env} {R : Room} {s : State} {m : MethodId} {args : Array Value} {below : List Frame} {meth : Method} {c : Code} {H : Heap} {locs : List Loc} {cells slots : Nat} {Q : State → Prop}
variable {cc bytes : ByteArray} {nL maxL index n mc ms : Nat} {own C : String} {y : MethodName} {ret : Option FieldType} {rm : Room} {ws ws' : List Cond}
variable {pc : Nat} {ls : Array Slot} {rest st0 As : List Value} {b q0 ci : Nat} {fs : List Value} {D : va_G} {ty : List (ClassId × FieldType)} {cw : va_W} {r : vw_C}
variable {A : Nat → Prop} {H0 : Heap}
theorem qM_free (hD : va_D A cw) (hS : va_S A H0 H locs) (hA : ∀ q, H0.size ≤ q → A q) : ∀ q, va_A cw H.size q → A q := by
  rintro q (⟨k, e, h⟩ | h)
  · exact hD.2 k _ h
  · exact hA q (Nat.le_trans hS.1 h)
/-- a method that is handed the whole world: void -/
theorem qM_v {Sg : Type} {post : Sg → Prop} {w1 : Sg → va_W} (S : CallFix p m c cc nL s args TB own) (hM : Met l y ws rm (va_Pc (.ref b :: As) (fun U => U.heap.size = H.size ∧ va_P D vC cw U.heap ∧ va_K D vC ty U ∧ va_D (fun _ => True) cw)) (va_Qv post (fun u t => va_P D vC (w1 u) t.heap ∧ va_D (va_A cw H.size) (w1 u)) (va_A cw H.size)) mc ms (va_A cw H.size)) (cB : CallB R s args own index y bytes maxL ret ws rm mc ms n) (hin : Cond.instanceMethod y ∈ TB) (hsel : Cond.selects r.1 y y ∈ TB)
    (hK : va_K D vC ty s) (hP : va_P D vC cw H) (hD : va_D A cw) (hS : va_S A H0 H locs) (hA : ∀ q, H0.size ≤ q → A q)
    (hc : vC[ci]? = some r) (he : cw[q0]? = some (b, .inr (ci, fs)))
    (hn : As.length = n) (hsize : ls.size = nL) (hstack : st0 = As.reverse ++ .ref b :: rest) (hW : (rest.map fun v => v.category).sum ≤ 8) (hdg : decode cc pc = .ok (.invokevirtual index, 3)) (hf : cells + mc ≤ R.cells ∧ slots + ms ≤ R.slots)
    (kk : ∀ (u : Sg) (H1 : Heap) (locs1 : List Loc), post u → va_P D vC (w1 u) H1 → va_D A (w1 u) → va_S A H0 H1 locs1 → W p l e R s m args below meth c H1 locs1 (cells + mc) (slots + ms) Q (F0 m (pc + 3) ls rest)) : W p l e R s m args below meth c H locs cells slots Q (F0 m pc ls st0) := by
  have hFc := qM_free hD hS hA
  refine va_callv (va_runV (C := r.1) (As := As) (rest := rest) S hM ⟨cB, S.2.2.2.2 _ hin, S.2.2.2.2 _ hsel⟩ ⟨fb_worldD, va_recv hK hP hc he, fun U hU hW => ⟨rfl, by rw [hU], by rw [hU]; exact hP, va_K.moved hW.alike hK, hD.weaken (fun _ _ _ _ => trivial)⟩⟩ rfl hn hsize hstack (lv_room hW) hdg hf) hS (fun q _ h => hFc q h) hFc (fun u t H1 locs1 ht hvm hp hB hz1 hk1 hS => ?_)
  obtain ⟨hP1, hD1⟩ := hB
  rw [ht] at hP1
  exact kk u H1 locs1 hp hP1 (hD1.weaken (fun _ _ _ h => hFc _ h)) hS
/-- .. an int -/
theorem qM_i {Sg : Type} {post : Int32 → Sg → Prop} {w1 : Sg → va_W} (S : CallFix p m c cc nL s args TB own) (hM : Met l y ws rm (va_Pc (.ref b :: As) (fun U => U.heap.size = H.size ∧ va_P D vC cw U.heap ∧ va_K D vC ty U ∧ va_D (fun _ => True) cw)) (va_Qi post (fun u t => va_P D vC (w1 u) t.heap ∧ va_D (va_A cw H.size) (w1 u)) (va_A cw H.size)) mc ms (va_A cw H.size)) (cB : CallB R s args own index y bytes maxL ret ws rm mc ms n) (hin : Cond.instanceMethod y ∈ TB) (hsel : Cond.selects r.1 y y ∈ TB)
    (hK : va_K D vC ty s) (hP : va_P D vC cw H) (hD : va_D A cw) (hS : va_S A H0 H locs) (hA : ∀ q, H0.size ≤ q → A q)
    (hc : vC[ci]? = some r) (he : cw[q0]? = some (b, .inr (ci, fs)))
    (hn : As.length = n) (hsize : ls.size = nL) (hstack : st0 = As.reverse ++ .ref b :: rest) (hW : (rest.map fun v => v.category).sum ≤ 8) (hdg : decode cc pc = .ok (.invokevirtual index, 3)) (hf : cells + mc ≤ R.cells ∧ slots + ms ≤ R.slots)
    (kk : ∀ (x : Int32) (u : Sg) (H1 : Heap) (locs1 : List Loc), post x u → va_P D vC (w1 u) H1 → va_D A (w1 u) → va_S A H0 H1 locs1 → W p l e R s m args below meth c H1 locs1 (cells + mc) (slots + ms) Q (F0 m (pc + 3) ls (.int x :: rest))) : W p l e R s m args below meth c H locs cells slots Q (F0 m pc ls st0) := by
  have hFc := qM_free hD hS hA
  refine va_calli (va_runV (C := r.1) (As := As) (rest := rest) S hM ⟨cB, S.2.2.2.2 _ hin, S.2.2.2.2 _ hsel⟩ ⟨fb_worldD, va_recv hK hP hc he, fun U hU hW => ⟨rfl, by rw [hU], by rw [hU]; exact hP, va_K.moved hW.alike hK, hD.weaken (fun _ _ _ _ => trivial)⟩⟩ rfl hn hsize hstack (lv_room hW) hdg hf) hS (fun q _ h => hFc q h) hFc (fun x u t H1 locs1 ht hvm hp hB hz1 hk1 hS => ?_)
  obtain ⟨hP1, hD1⟩ := hB
  rw [ht] at hP1
  exact kk x u H1 locs1 hp hP1 (hD1.weaken (fun _ _ _ h => hFc _ h)) hS
end QM
theorem eI_congr {n : Nat} {x y : pg_F} (h : ∀ j, j < n → x j = y j) : eI n x = eI n y := congrArg nI (pg_e_congr n h)
theorem eI_cut (n : Nat) (x : pg_F) : eI n (pg_cut x n) = eI n x := eI_congr (fun j hj => if_pos hj)
theorem pg_cut_d3 {n : Nat} {x : pg_F} (h : ∀ p, p < n → x p < 2 ^ 3) (k : Nat) : ∀ p, p < n → pg_cut x k p < 2 ^ 3 := by
  intro p hp
  unfold pg_cut
  split
  · exact h p hp
  · exact Nat.two_pow_pos 3
theorem pg_scI_s {n : Nat} {u w : pg_F} (hu : pg_P n u) {k : Nat} (hk : k < n) {v : Nat} (hv : w (u k) = v) : eI n (va_up (pg_sc n u w k) (u k) v) = eI n (pg_sc n u w (k + 1)) := by
  refine eI_congr (fun j hj => ?_)
  by_cases q : j = u k
  · rw [q, va_up_self]
    unfold pg_sc
    rw [pg_inv_at hu rfl, if_pos (by omega), hv]
  · rw [va_up_ne _ _ q]
    unfold pg_sc
    have : pg_inv n u j ≠ k := fun r => q (by rw [← r, (pg_inv_lt hu hj).1])
    by_cases r : pg_inv n u j < k
    · rw [if_pos r, if_pos (by omega)]
    · rw [if_neg r, if_neg (by omega)]
theorem pg_scI_d {n : Nat} {u w : pg_F} (h : ∀ p, p < n → w p < 2 ^ 3) (k : Nat) : ∀ p, p < n → pg_sc n u w k p < 2 ^ 3 := by
  intro p hp
  unfold pg_sc
  split
  · exact h p hp
  · exact Nat.two_pow_pos 3
theorem pg_scI_n {n : Nat} {u w : pg_F} (hu : pg_P n u) : eI n (pg_sc n u w n) = eI n w := eI_congr (fun _ hj => if_pos (pg_inv_lt hu hj).2)
set_option maxHeartbeats 1000000 in
set_option maxRecDepth 100000 in
theorem c_M_apply (l : Launch) (D : va_G) (z : Nat → ClassId) (d : Nat → Nat) (n : Nat) {cd : Int32} {ty : Nat} {ft : Nat → Int32} {gc : Nat} {fg fo fh : Nat → Int32} {fs ff : Nat → Int64} {fq : Nat → Int32} {mk : Nat} {fm fi : Nat → Int32} {de ps : Nat} {re : Int32} {go : Bool} {kd pr fa fr : Nat → Int32} (k : Nat) (x : pg_F) (hn : n ≤ 7) (hx9 : ∀ p, p < n → x p < 2 ^ 3) (hk : k < n) : Met l yM_apply wM_apply (rmF 0) (va_Pc [.ref (d 0), .int (eI n x), .int (nI k)] (fun U => va_P D vC (mW z d n cd ty ft gc fg fo fh fs ff fq mk fm fi de ps re go kd pr fa fr) U.heap ∧ va_K D vC (tyL z) U)) (vp_Si (fun r => r = nI (x k))) 0 0 (fun _ => False) := by
  refine Met.ofW (cc := prog_9_method_5_code) (maxL := 3) (ret := (some .int)) (by decide) rfl ?_
  intro p e s m args below meth c s₁ B hml hv
  have hx := B.exec
  have hb := B.bytes
  have hr := B.returns
  have ht : ∀ w ∈ TB, w.before args s = true := fun w h => atoms_spec (ws := wM_apply) B.pre w (List.mem_cons_of_mem _ h)
  have hown : s.vm.findClass "PermutationDeskModel" = some m.cls := findClass_of_methodNamed B.named
  have hlocks := B.notSynchronized
  obtain ⟨rfl, hP, hK⟩ := hv
  have hl := lv_entry ([.ref (d 0), .int (eI n x), .int (nI k)]) (n := 3) (Nat.le_of_ble_eq_true rfl)
  rw [lg_entry_eq]
  generalize (lg_sl ([.ref (d 0), .int (eI n x), .int (nI k)]) ++ List.replicate (3 - (lg_sl ([.ref (d 0), .int (eI n x), .int (nI k)])).length) Slot.unset).toArray = ls at hl ⊢
  have hl : lv_has ls 3 [(0, .ref (d 0)), (1, .int (eI n x)), (2, .int (nI k))] := hl
  refine lv_iload_n hx hb dM_apply_0 rfl (lv_at hl 1 rfl) ?_
  refine lv_iconst (v := 3) hx hb dM_apply_1 (by decide) ?_
  refine lv_iload_n hx hb dM_apply_2 rfl (lv_at hl 2 rfl) ?_
  refine lv_imul hx hb dM_apply_3 ?_
  refine lv_ishr hx hb dM_apply_4 ?_
  refine lv_bipush (v := 7) hx hb dM_apply_5 (by decide) ?_
  refine lv_iand hx hb dM_apply_7 ?_
  refine wti (x' := nI (x k)) (by rw [show (3 : Int32) * nI k = nI (3 * k) from pk_mul 3 k]; exact eI_at hn hx9 hk) ?_
  exact W.iret hx hb hr (fun t h _ => ⟨_, rfl, rfl, h⟩) (fun q h => by cases h) dM_apply_8
set_option maxHeartbeats 1000000 in
set_option maxRecDepth 100000 in
theorem c_M_times (l : Launch) (D : va_G) (z : Nat → ClassId) (d : Nat → Nat) (n : Nat) {cd : Int32} {ty : Nat} {ft : Nat → Int32} {gc : Nat} {fg fo fh : Nat → Int32} {fs ff : Nat → Int64} {fq : Nat → Int32} {mk : Nat} {fm fi : Nat → Int32} {de ps : Nat} {re : Int32} {go : Bool} {kd pr fa fr : Nat → Int32} (x y : pg_F) (hn : n ≤ 7) (hxP : pg_P n x) (hyP : pg_P n y) : Met l yM_times wM_times (rmF 1) (va_Pc [.ref (d 0), .int (eI n x), .int (eI n y)] (fun U => va_P D vC (mW z d n cd ty ft gc fg fo fh fs ff fq mk fm fi de ps re go kd pr fa fr) U.heap ∧ va_K D vC (tyL z) U)) (vp_Si (fun r => r = eI n (pg_mul x y))) 0 0 (fun _ => False) := by
  have hx9 := hxP.d3 (by omega : n ≤ 8)
  have hy9 := hyP.d3 (by omega : n ≤ 8)
  have hd9 := (pg_P_mul hxP hyP).d3 (by omega : n ≤ 8)
  refine Met.ofW (cc := prog_9_method_6_code) (maxL := 5) (ret := (some .int)) (by decide) rfl ?_
  intro p e s m args below meth c s₁ B hml hv
  have hx := B.exec
  have hb := B.bytes
  have hr := B.returns
  have ht : ∀ w ∈ TB, w.before args s = true := fun w h => atoms_spec (ws := wM_times) B.pre w (List.mem_cons_of_mem _ h)
  have hown : s.vm.findClass "PermutationDeskModel" = some m.cls := findClass_of_methodNamed B.named
  have hlocks := B.notSynchronized
  obtain ⟨rfl, hP, hK⟩ := hv
  have hl := lv_entry ([.ref (d 0), .int (eI n x), .int (eI n y)]) (n := 5) (Nat.le_of_ble_eq_true rfl)
  rw [lg_entry_eq]
  generalize (lg_sl ([.ref (d 0), .int (eI n x), .int (eI n y)]) ++ List.replicate (5 - (lg_sl ([.ref (d 0), .int (eI n x), .int (eI n y)])).length) Slot.unset).toArray = ls at hl ⊢
  have hl : lv_has ls 5 [(0, .ref (d 0)), (1, .int (eI n x)), (2, .int (eI n y))] := hl
  refine lv_iconst (v := 0) hx hb dM_times_0 (by decide) ?_
  refine lv_topi (fun v1 e1 => ?_)
  refine lv_istore_n hx hb dM_times_1 rfl hl (by decide) rfl (fun ls hl => ?_)
  replace hl : lv_has ls 5 [(3, .int v1), (0, .ref (d 0)), (1, .int (eI n x)), (2, .int (eI n y))] := hl
  refine lv_iconst (v := 0) hx hb dM_times_2 (by decide) ?_
  refine lv_topi (fun v3 e3 => ?_)
  refine lv_istore hx hb dM_times_3 hl (by decide) rfl (fun ls hl => ?_)
  replace hl : lv_has ls 5 [(4, .int v3), (3, .int v1), (0, .ref (d 0)), (1, .int (eI n x)), (2, .int (eI n y))] := hl
  refine wl0 (σ := Nat) (I := fun q k ls => q + k = n ∧ lv_has ls 5 [(4, .int (nI k)), (3, .int (eI n (pg_cut (pg_mul x y) k))), (0, .ref (d 0)), (1, .int (eI n x)), (2, .int (eI n y))]) ?_ n 0 ls ⟨rfl, by rw [pg_cut_0, ← eI_0]; rw [e1, e3] at hl; exact hl⟩
  rintro q k ls ⟨hdk, hl⟩ ih
  refine lv_iload hx hb dM_times_5 (lv_at hl 0 rfl) ?_
  refine lv_aload_n hx hb dM_times_7 rfl (lv_at hl 2 rfl) ?_
  refine va_get (ci := 5) (C := RM) (T := TM) (N := 26) hx hb ht inM hown hK hP 0 rfl rfl 0 (by decide) (ht _ tw_649) (fun _ h9 => h9) rfl dM_times_8 ?_
  refine lv_icmp_ge (tgt := 40) hx hb dM_times_11 rfl (fun h => ?_) (fun h => ?_)
  · have hk : k = n := by have := (nI_leI (by omega) (by omega)).mp h; omega
    subst hk
    refine lv_iload_n hx hb dM_times_40 rfl (lv_at hl 1 rfl) ?_
    exact W.iret hx hb hr (fun t h _ => ⟨_, rfl, eI_cut k _, h⟩) (fun q h => by cases h) dM_times_41
  have hk : k < n := by
    rw [nI_leI (by omega) (by omega)] at h
    omega
  refine lv_iload_n hx hb dM_times_14 rfl (lv_at hl 1 rfl) ?_
  refine lv_aload_n hx hb dM_times_15 rfl (lv_at hl 2 rfl) ?_
  refine lv_iload_n hx hb dM_times_16 rfl (lv_at hl 4 rfl) ?_
  refine lv_aload_n hx hb dM_times_17 rfl (lv_at hl 2 rfl) ?_
  refine lv_iload_n hx hb dM_times_18 rfl (lv_at hl 3 rfl) ?_
  refine lv_iload hx hb dM_times_19 (lv_at hl 0 rfl) ?_
  refine qV_i (ci := 5) (q0 := 0) (As := [.int (eI n x), .int (nI k)]) (rest := [.int (eI n y), .ref (d 0), .int (eI n (pg_cut (pg_mul x y) k))]) ⟨hx, hb, hml, hown, ht⟩ (c_M_apply l D z d n k x hn hx9 hk) (cB 2 ht gM_apply rfl tw_64 tw_765 (by decide +kernel) ⟨by decide, by decide⟩) tw_767 tw_35 hK (hP) rfl rfl rfl hl.1 rfl (Nat.le_of_ble_eq_true rfl) dM_times_21 ⟨by decide, by decide⟩ (fun r21 h21 => ?_)
  subst h21
  refine qV_i (ci := 5) (q0 := 0) (As := [.int (eI n y), .int (nI (x k))]) (rest := [.int (eI n (pg_cut (pg_mul x y) k))]) ⟨hx, hb, hml, hown, ht⟩ (c_M_apply l D z d n (x k) y hn hy9 (hxP.1 k hk)) (cB 2 ht gM_apply rfl tw_64 tw_765 (by decide +kernel) ⟨by decide, by decide⟩) tw_767 tw_35 hK (hP) rfl rfl rfl hl.1 rfl (Nat.le_of_ble_eq_true rfl) dM_times_24 ⟨by decide, by decide⟩ (fun r24 h24 => ?_)
  subst h24
  refine lv_iconst (v := 3) hx hb dM_times_27 (by decide) ?_
  refine lv_iload hx hb dM_times_28 (lv_at hl 0 rfl) ?_
  refine lv_imul hx hb dM_times_30 ?_
  refine lv_ishl hx hb dM_times_31 ?_
  refine lv_ior hx hb dM_times_32 ?_
  refine wti (x' := eI n (pg_cut (pg_mul x y) (k + 1))) (by rw [show (3 : Int32) * nI k = nI (3 * k) from pk_mul 3 k, ← pg_cut_s]; exact eI_or hn (pg_cut_d3 hd9 k) hk (pg_cut_k _ _) (hy9 _ (hxP.1 k hk))) ?_
  refine lv_istore_n hx hb dM_times_33 rfl hl (by decide) rfl (fun ls hl => ?_)
  replace hl : lv_has ls 5 [(3, .int (eI n (pg_cut (pg_mul x y) (k + 1)))), (4, .int (nI k)), (0, .ref (d 0)), (1, .int (eI n x)), (2, .int (eI n y))] := hl
  refine lv_iinc (k := 1) (v := (nI (k + 1))) hx hb dM_times_34 hl rfl (by exact nI_1 _) (by decide) rfl (fun ls hl => ?_)
  replace hl : lv_has ls 5 [(4, .int (nI (k + 1))), (3, .int (eI n (pg_cut (pg_mul x y) (k + 1)))), (0, .ref (d 0)), (1, .int (eI n x)), (2, .int (eI n y))] := hl
  refine lv_goto (tgt := 5) hx hb dM_times_37 rfl ?_
  exact ih (q - 1) (k + 1) ls (by omega) ⟨by omega, lv_sub hl [0, 1, 2, 3, 4] rfl⟩
set_option maxHeartbeats 1000000 in
set_option maxRecDepth 100000 in
theorem c_M_inverse (l : Launch) (D : va_G) (z : Nat → ClassId) (d : Nat → Nat) (n : Nat) {cd : Int32} {ty : Nat} {ft : Nat → Int32} {gc : Nat} {fg fo fh : Nat → Int32} {fs ff : Nat → Int64} {fq : Nat → Int32} {mk : Nat} {fm fi : Nat → Int32} {de ps : Nat} {re : Int32} {go : Bool} {kd pr fa fr : Nat → Int32} (x : pg_F) (hn : n ≤ 7) (hxP : pg_P n x) : Met l yM_inverse wM_inverse (rmF 1) (va_Pc [.ref (d 0), .int (eI n x)] (fun U => va_P D vC (mW z d n cd ty ft gc fg fo fh fs ff fq mk fm fi de ps re go kd pr fa fr) U.heap ∧ va_K D vC (tyL z) U)) (vp_Si (fun r => r = eI n (pg_inv n x))) 0 0 (fun _ => False) := by
  have hx9 := hxP.d3 (by omega : n ≤ 8)
  have hi9 := (pg_P_inv hxP).d3 (by omega : n ≤ 8)
  refine Met.ofW (cc := prog_9_method_7_code) (maxL := 4) (ret := (some .int)) (by decide) rfl ?_
  intro p e s m args below meth c s₁ B hml hv
  have hx := B.exec
  have hb := B.bytes
  have hr := B.returns
  have ht : ∀ w ∈ TB, w.before args s = true := fun w h => atoms_spec (ws := wM_inverse) B.pre w (List.mem_cons_of_mem _ h)
  have hown : s.vm.findClass "PermutationDeskModel" = some m.cls := findClass_of_methodNamed B.named
  have hlocks := B.notSynchronized
  obtain ⟨rfl, hP, hK⟩ := hv
  have hl := lv_entry ([.ref (d 0), .int (eI n x)]) (n := 4) (Nat.le_of_ble_eq_true rfl)
  rw [lg_entry_eq]
  generalize (lg_sl ([.ref (d 0), .int (eI n x)]) ++ List.replicate (4 - (lg_sl ([.ref (d 0), .int (eI n x)])).length) Slot.unset).toArray = ls at hl ⊢
  have hl : lv_has ls 4 [(0, .ref (d 0)), (1, .int (eI n x))] := hl
  refine lv_iconst (v := 0) hx hb dM_inverse_0 (by decide) ?_
  refine lv_topi (fun v1 e1 => ?_)
  refine lv_istore_n hx hb dM_inverse_1 rfl hl (by decide) rfl (fun ls hl => ?_)
  replace hl : lv_has ls 4 [(2, .int v1), (0, .ref (d 0)), (1, .int (eI n x))] := hl
  refine lv_iconst (v := 0) hx hb dM_inverse_2 (by decide) ?_
  refine lv_topi (fun v3 e3 => ?_)
  refine lv_istore_n hx hb dM_inverse_3 rfl hl (by decide) rfl (fun ls hl => ?_)
  replace hl : lv_has ls 4 [(3, .int v3), (2, .int v1), (0, .ref (d 0)), (1, .int (eI n x))] := hl
  refine wl0 (σ := Nat) (I := fun q k ls => q + k = n ∧ lv_has ls 4 [(3, .int (nI k)), (2, .int (eI n (pg_sc n x (pg_inv n x) k))), (0, .ref (d 0)), (1, .int (eI n x))]) ?_ n 0 ls ⟨rfl, by rw [pg_sc_0, ← eI_0]; rw [e1, e3] at hl; exact hl⟩
  rintro q k ls ⟨hdk, hl⟩ ih
  refine lv_iload_n hx hb dM_inverse_4 rfl (lv_at hl 0 rfl) ?_
  refine lv_aload_n hx hb dM_inverse_5 rfl (lv_at hl 2 rfl) ?_
  refine va_get (ci := 5) (C := RM) (T := TM) (N := 26) hx hb ht inM hown hK hP 0 rfl rfl 0 (by decide) (ht _ tw_649) (fun _ h9 => h9) rfl dM_inverse_6 ?_
  refine lv_icmp_ge (tgt := 31) hx hb dM_inverse_9 rfl (fun h => ?_) (fun h => ?_)
  · have hk : k = n := by have := (nI_leI (by omega) (by omega)).mp h; omega
    subst hk
    refine lv_iload_n hx hb dM_inverse_31 rfl (lv_at hl 1 rfl) ?_
    exact W.iret hx hb hr (fun t h _ => ⟨_, rfl, pg_scI_n hxP, h⟩) (fun q h => by cases h) dM_inverse_32
  have hk : k < n := by
    rw [nI_leI (by omega) (by omega)] at h
    omega
  refine lv_iload_n hx hb dM_inverse_12 rfl (lv_at hl 1 rfl) ?_
  refine lv_iload_n hx hb dM_inverse_13 rfl (lv_at hl 0 rfl) ?_
  refine lv_iconst (v := 3) hx hb dM_inverse_14 (by decide) ?_
  refine lv_aload_n hx hb dM_inverse_15 rfl (lv_at hl 2 rfl) ?_
  refine lv_iload_n hx hb dM_inverse_16 rfl (lv_at hl 3 rfl) ?_
  refine lv_iload_n hx hb dM_inverse_17 rfl (lv_at hl 0 rfl) ?_
  refine qV_i (ci := 5) (q0 := 0) (As := [.int (eI n x), .int (nI k)]) (rest := [.int 3, .int (nI k), .int (eI n (pg_sc n x (pg_inv n x) k))]) ⟨hx, hb, hml, hown, ht⟩ (c_M_apply l D z d n k x hn hx9 hk) (cB 2 ht gM_apply rfl tw_64 tw_765 (by decide +kernel) ⟨by decide, by decide⟩) tw_767 tw_35 hK (hP) rfl rfl rfl hl.1 rfl (Nat.le_of_ble_eq_true rfl) dM_inverse_18 ⟨by decide, by decide⟩ (fun r18 h18 => ?_)
  subst h18
  refine lv_imul hx hb dM_inverse_21 ?_
  refine lv_ishl hx hb dM_inverse_22 ?_
  refine lv_ior hx hb dM_inverse_23 ?_
  refine wti (x' := eI n (pg_sc n x (pg_inv n x) (k + 1))) (by rw [show (3 : Int32) * nI (x k) = nI (3 * x k) from pk_mul 3 (x k), ← pg_scI_s hxP hk (pg_inv_at hxP rfl)]; exact eI_or hn (pg_scI_d hi9 k) (hxP.1 k hk) (pg_sc_k hxP k) (by omega)) ?_
  refine lv_istore_n hx hb dM_inverse_24 rfl hl (by decide) rfl (fun ls hl => ?_)
  replace hl : lv_has ls 4 [(2, .int (eI n (pg_sc n x (pg_inv n x) (k + 1)))), (3, .int (nI k)), (0, .ref (d 0)), (1, .int (eI n x))] := hl
  refine lv_iinc (k := 1) (v := (nI (k + 1))) hx hb dM_inverse_25 hl rfl (by exact nI_1 _) (by decide) rfl (fun ls hl => ?_)
  replace hl : lv_has ls 4 [(3, .int (nI (k + 1))), (2, .int (eI n (pg_sc n x (pg_inv n x) (k + 1)))), (0, .ref (d 0)), (1, .int (eI n x))] := hl
  refine lv_goto (tgt := 4) hx hb dM_inverse_28 rfl ?_
  exact ih (q - 1) (k + 1) ls (by omega) ⟨by omega, lv_sub hl [0, 1, 2, 3] rfl⟩
set_option maxHeartbeats 1000000 in
set_option maxRecDepth 100000 in
theorem c_M_commutator (l : Launch) (D : va_G) (z : Nat → ClassId) (d : Nat → Nat) (n : Nat) {cd : Int32} {ty : Nat} {ft : Nat → Int32} {gc : Nat} {fg fo fh : Nat → Int32} {fs ff : Nat → Int64} {fq : Nat → Int32} {mk : Nat} {fm fi : Nat → Int32} {de ps : Nat} {re : Int32} {go : Bool} {kd pr fa fr : Nat → Int32} (x y : pg_F) (hn : n ≤ 7) (hxP : pg_P n x) (hyP : pg_P n y) : Met l yM_commutator wM_commutator (rmF 2) (va_Pc [.ref (d 0), .int (eI n x), .int (eI n y)] (fun U => va_P D vC (mW z d n cd ty ft gc fg fo fh fs ff fq mk fm fi de ps re go kd pr fa fr) U.heap ∧ va_K D vC (tyL z) U)) (vp_Si (fun r => r = eI n (pg_comm n x y))) 0 0 (fun _ => False) := by
  refine Met.ofW (cc := prog_9_method_9_code) (maxL := 5) (ret := (some .int)) (by decide) rfl ?_
  intro p e s m args below meth c s₁ B hml hv
  have hx := B.exec
  have hb := B.bytes
  have hr := B.returns
  have ht : ∀ w ∈ TB, w.before args s = true := fun w h => atoms_spec (ws := wM_commutator) B.pre w (List.mem_cons_of_mem _ h)
  have hown : s.vm.findClass "PermutationDeskModel" = some m.cls := findClass_of_methodNamed B.named
  have hlocks := B.notSynchronized
  obtain ⟨rfl, hP, hK⟩ := hv
  have hl := lv_entry ([.ref (d 0), .int (eI n x), .int (eI n y)]) (n := 5) (Nat.le_of_ble_eq_true rfl)
  rw [lg_entry_eq]
  generalize (lg_sl ([.ref (d 0), .int (eI n x), .int (eI n y)]) ++ List.replicate (5 - (lg_sl ([.ref (d 0), .int (eI n x), .int (eI n y)])).length) Slot.unset).toArray = ls at hl ⊢
  have hl : lv_has ls 5 [(0, .ref (d 0)), (1, .int (eI n x)), (2, .int (eI n y))] := hl
  refine lv_aload_n hx hb dM_commutator_0 rfl (lv_at hl 0 rfl) ?_
  refine lv_aload_n hx hb dM_commutator_1 rfl (lv_at hl 0 rfl) ?_
  refine lv_iload_n hx hb dM_commutator_2 rfl (lv_at hl 1 rfl) ?_
  refine qV_i (ci := 5) (q0 := 0) (As := [.int (eI n x)]) (rest := [.ref (d 0)]) ⟨hx, hb, hml, hown, ht⟩ (c_M_inverse l D z d n x hn hxP) (cB 1 ht gM_inverse rfl tw_64 tw_780 (by decide +kernel) ⟨by decide, by decide⟩) tw_782 tw_38 hK (hP) rfl rfl rfl hl.1 rfl (Nat.le_of_ble_eq_true rfl) dM_commutator_3 ⟨by decide, by decide⟩ (fun r3 h3 => ?_)
  subst h3
  refine lv_aload_n hx hb dM_commutator_6 rfl (lv_at hl 0 rfl) ?_
  refine lv_iload_n hx hb dM_commutator_7 rfl (lv_at hl 2 rfl) ?_
  refine qV_i (ci := 5) (q0 := 0) (As := [.int (eI n y)]) (rest := [.int (eI n (pg_inv n x)), .ref (d 0)]) ⟨hx, hb, hml, hown, ht⟩ (c_M_inverse l D z d n y hn hyP) (cB 1 ht gM_inverse rfl tw_64 tw_780 (by decide +kernel) ⟨by decide, by decide⟩) tw_782 tw_38 hK (hP) rfl rfl rfl hl.1 rfl (Nat.le_of_ble_eq_true rfl) dM_commutator_8 ⟨by decide, by decide⟩ (fun r8 h8 => ?_)
  subst h8
  refine qV_i (ci := 5) (q0 := 0) (As := [.int (eI n (pg_inv n x)), .int (eI n (pg_inv n y))]) (rest := []) ⟨hx, hb, hml, hown, ht⟩ (c_M_times l D z d n (pg_inv n x) (pg_inv n y) hn (pg_P_inv hxP) (pg_P_inv hyP)) (cB 2 ht gM_times rfl tw_64 tw_761 (by decide +kernel) ⟨by decide, by decide⟩) tw_763 tw_34 hK (hP) rfl rfl rfl hl.1 rfl (Nat.le_of_ble_eq_true rfl) dM_commutator_11 ⟨by decide, by decide⟩ (fun r11 h11 => ?_)
  subst h11
  refine lv_istore_n hx hb dM_commutator_14 rfl hl (by decide) rfl (fun ls hl => ?_)
  replace hl : lv_has ls 5 [(3, .int (eI n (pg_mul (pg_inv n x) (pg_inv n y)))), (0, .ref (d 0)), (1, .int (eI n x)), (2, .int (eI n y))] := hl
  refine lv_aload_n hx hb dM_commutator_15 rfl (lv_at hl 1 rfl) ?_
  refine lv_iload_n hx hb dM_commutator_16 rfl (lv_at hl 2 rfl) ?_
  refine lv_iload_n hx hb dM_commutator_17 rfl (lv_at hl 3 rfl) ?_
  refine qV_i (ci := 5) (q0 := 0) (As := [.int (eI n x), .int (eI n y)]) (rest := []) ⟨hx, hb, hml, hown, ht⟩ (c_M_times l D z d n x y hn hxP hyP) (cB 2 ht gM_times rfl tw_64 tw_761 (by decide +kernel) ⟨by decide, by decide⟩) tw_763 tw_34 hK (hP) rfl rfl rfl hl.1 rfl (Nat.le_of_ble_eq_true rfl) dM_commutator_18 ⟨by decide, by decide⟩ (fun r18 h18 => ?_)
  subst h18
  refine lv_istore hx hb dM_commutator_21 hl (by decide) rfl (fun ls hl => ?_)
  replace hl : lv_has ls 5 [(4, .int (eI n (pg_mul x y))), (3, .int (eI n (pg_mul (pg_inv n x) (pg_inv n y)))), (0, .ref (d 0)), (1, .int (eI n x)), (2, .int (eI n y))] := hl
  refine lv_aload_n hx hb dM_commutator_23 rfl (lv_at hl 2 rfl) ?_
  refine lv_iload_n hx hb dM_commutator_24 rfl (lv_at hl 1 rfl) ?_
  refine lv_iload hx hb dM_commutator_25 (lv_at hl 0 rfl) ?_
  refine qV_i (ci := 5) (q0 := 0) (As := [.int (eI n (pg_mul (pg_inv n x) (pg_inv n y))), .int (eI n (pg_mul x y))]) (rest := []) ⟨hx, hb, hml, hown, ht⟩ (c_M_times l D z d n (pg_mul (pg_inv n x) (pg_inv n y)) (pg_mul x y) hn (pg_P_mul (pg_P_inv hxP) (pg_P_inv hyP)) (pg_P_mul hxP hyP)) (cB 2 ht gM_times rfl tw_64 tw_761 (by decide +kernel) ⟨by decide, by decide⟩) tw_763 tw_34 hK (hP) rfl rfl rfl hl.1 rfl (Nat.le_of_ble_eq_true rfl) dM_commutator_27 ⟨by decide, by decide⟩ (fun r27 h27 => ?_)
  subst h27
  exact W.iret hx hb hr (fun t h _ => ⟨_, rfl, rfl, h⟩) (fun q h => by cases h) dM_commutator_30
set_option maxHeartbeats 1000000 in
set_option maxRecDepth 100000 in
theorem c_M_conjugate (l : Launch) (D : va_G) (z : Nat → ClassId) (d : Nat → Nat) (n : Nat) {cd : Int32} {ty : Nat} {ft : Nat → Int32} {gc : Nat} {fg fo fh : Nat → Int32} {fs ff : Nat → Int64} {fq : Nat → Int32} {mk : Nat} {fm fi : Nat → Int32} {de ps : Nat} {re : Int32} {go : Bool} {kd pr fa fr : Nat → Int32} (x y : pg_F) (hn : n ≤ 7) (hxP : pg_P n x) (hyP : pg_P n y) : Met l yM_conjugate wM_conjugate (rmF 2) (va_Pc [.ref (d 0), .int (eI n x), .int (eI n y)] (fun U => va_P D vC (mW z d n cd ty ft gc fg fo fh fs ff fq mk fm fi de ps re go kd pr fa fr) U.heap ∧ va_K D vC (tyL z) U)) (vp_Si (fun r => r = eI n (pg_conj n y x))) 0 0 (fun _ => False) := by
  refine Met.ofW (cc := prog_9_method_45_code) (maxL := 4) (ret := (some .int)) (by decide) rfl ?_
  intro p e s m args below meth c s₁ B hml hv
  have hx := B.exec
  have hb := B.bytes
  have hr := B.returns
  have ht : ∀ w ∈ TB, w.before args s = true := fun w h => atoms_spec (ws := wM_conjugate) B.pre w (List.mem_cons_of_mem _ h)
  have hown : s.vm.findClass "PermutationDeskModel" = some m.cls := findClass_of_methodNamed B.named
  have hlocks := B.notSynchronized
  obtain ⟨rfl, hP, hK⟩ := hv
  have hl := lv_entry ([.ref (d 0), .int (eI n x), .int (eI n y)]) (n := 4) (Nat.le_of_ble_eq_true rfl)
  rw [lg_entry_eq]
  generalize (lg_sl ([.ref (d 0), .int (eI n x), .int (eI n y)]) ++ List.replicate (4 - (lg_sl ([.ref (d 0), .int (eI n x), .int (eI n y)])).length) Slot.unset).toArray = ls at hl ⊢
  have hl : lv_has ls 4 [(0, .ref (d 0)), (1, .int (eI n x)), (2, .int (eI n y))] := hl
  refine lv_aload_n hx hb dM_conjugate_0 rfl (lv_at hl 0 rfl) ?_
  refine lv_aload_n hx hb dM_conjugate_1 rfl (lv_at hl 0 rfl) ?_
  refine lv_iload_n hx hb dM_conjugate_2 rfl (lv_at hl 1 rfl) ?_
  refine qV_i (ci := 5) (q0 := 0) (As := [.int (eI n x)]) (rest := [.ref (d 0)]) ⟨hx, hb, hml, hown, ht⟩ (c_M_inverse l D z d n x hn hxP) (cB 1 ht gM_inverse rfl tw_64 tw_780 (by decide +kernel) ⟨by decide, by decide⟩) tw_782 tw_38 hK (hP) rfl rfl rfl hl.1 rfl (Nat.le_of_ble_eq_true rfl) dM_conjugate_3 ⟨by decide, by decide⟩ (fun r3 h3 => ?_)
  subst h3
  refine lv_iload_n hx hb dM_conjugate_6 rfl (lv_at hl 2 rfl) ?_
  refine qV_i (ci := 5) (q0 := 0) (As := [.int (eI n (pg_inv n x)), .int (eI n y)]) (rest := []) ⟨hx, hb, hml, hown, ht⟩ (c_M_times l D z d n (pg_inv n x) y hn (pg_P_inv hxP) hyP) (cB 2 ht gM_times rfl tw_64 tw_761 (by decide +kernel) ⟨by decide, by decide⟩) tw_763 tw_34 hK (hP) rfl rfl rfl hl.1 rfl (Nat.le_of_ble_eq_true rfl) dM_conjugate_7 ⟨by decide, by decide⟩ (fun r7 h7 => ?_)
  subst h7
  refine lv_istore_n hx hb dM_conjugate_10 rfl hl (by decide) rfl (fun ls hl => ?_)
  replace hl : lv_has ls 4 [(3, .int (eI n (pg_mul (pg_inv n x) y))), (0, .ref (d 0)), (1, .int (eI n x)), (2, .int (eI n y))] := hl
  refine lv_aload_n hx hb dM_conjugate_11 rfl (lv_at hl 1 rfl) ?_
  refine lv_iload_n hx hb dM_conjugate_12 rfl (lv_at hl 0 rfl) ?_
  refine lv_iload_n hx hb dM_conjugate_13 rfl (lv_at hl 2 rfl) ?_
  refine qV_i (ci := 5) (q0 := 0) (As := [.int (eI n (pg_mul (pg_inv n x) y)), .int (eI n x)]) (rest := []) ⟨hx, hb, hml, hown, ht⟩ (c_M_times l D z d n (pg_mul (pg_inv n x) y) x hn (pg_P_mul (pg_P_inv hxP) hyP) hxP) (cB 2 ht gM_times rfl tw_64 tw_761 (by decide +kernel) ⟨by decide, by decide⟩) tw_763 tw_34 hK (hP) rfl rfl rfl hl.1 rfl (Nat.le_of_ble_eq_true rfl) dM_conjugate_14 ⟨by decide, by decide⟩ (fun r14 h14 => ?_)
  subst h14
  exact W.iret hx hb hr (fun t h _ => ⟨_, rfl, rfl, h⟩) (fun q h => by cases h) dM_conjugate_17
set_option maxHeartbeats 1000000 in
set_option maxRecDepth 100000 in
theorem c_M_with (l : Launch) (n q v : Nat) (x : pg_F) (hn : n ≤ 7) (hx9 : ∀ p, p < n → x p < 2 ^ 3) (hq : q < n) (hv9 : v < 2 ^ 3) : Met l yM_with wM_with rmZ (va_Pc [.int (eI n x), .int (nI q), .int (nI v)] (fun _ => True)) (vp_Si (fun r => r = eI n (va_up x q v))) 0 0 (fun _ => False) := by
  refine Met.ofW (cc := prog_9_method_18_code) (maxL := 3) (ret := (some .int)) (by decide) rfl ?_
  intro p e s m args below meth c s₁ B hml hv
  have hx := B.exec
  have hb := B.bytes
  have hr := B.returns
  have ht : ∀ w ∈ TB, w.before args s = true := fun w h => atoms_spec (ws := wM_with) B.pre w (List.mem_cons_of_mem _ h)
  have hown : s.vm.findClass "PermutationDeskModel" = some m.cls := findClass_of_methodNamed B.named
  have hlocks := B.notSynchronized
  obtain ⟨rfl, -⟩ := hv
  have hl := lv_entry ([.int (eI n x), .int (nI q), .int (nI v)]) (n := 3) (Nat.le_of_ble_eq_true rfl)
  rw [lg_entry_eq]
  generalize (lg_sl ([.int (eI n x), .int (nI q), .int (nI v)]) ++ List.replicate (3 - (lg_sl ([.int (eI n x), .int (nI q), .int (nI v)])).length) Slot.unset).toArray = ls at hl ⊢
  have hl : lv_has ls 3 [(0, .int (eI n x)), (1, .int (nI q)), (2, .int (nI v))] := hl
  refine lv_iload_n hx hb dM_with_0 rfl (lv_at hl 0 rfl) ?_
  refine lv_bipush (v := 7) hx hb dM_with_1 (by decide) ?_
  refine lv_iconst (v := 3) hx hb dM_with_3 (by decide) ?_
  refine lv_iload_n hx hb dM_with_4 rfl (lv_at hl 1 rfl) ?_
  refine lv_imul hx hb dM_with_5 ?_
  refine lv_ishl hx hb dM_with_6 ?_
  refine lv_iconst (v := (-1)) hx hb dM_with_7 (by decide) ?_
  refine lv_ixor hx hb dM_with_8 ?_
  refine lv_iand hx hb dM_with_9 ?_
  refine lv_iload_n hx hb dM_with_10 rfl (lv_at hl 2 rfl) ?_
  refine lv_iconst (v := 3) hx hb dM_with_11 (by decide) ?_
  refine lv_iload_n hx hb dM_with_12 rfl (lv_at hl 1 rfl) ?_
  refine lv_imul hx hb dM_with_13 ?_
  refine lv_ishl hx hb dM_with_14 ?_
  refine lv_ior hx hb dM_with_15 ?_
  refine wti (x' := eI n (va_up x q v)) (by rw [show (3 : Int32) * nI q = nI (3 * q) from pk_mul 3 q]; exact eI_with hn hx9 hq hv9) ?_
  exact W.iret (v := eI n (va_up x q v)) hx hb hr (fun t h _ => ⟨_, rfl, rfl, h⟩) (fun q h => by cases h) dM_with_16
set_option maxHeartbeats 1000000 in
set_option maxRecDepth 100000 in
theorem c_M_isSlot (l : Launch) (x : Int32) : Met l yM_isSlot wM_isSlot rmZ (va_Pc [.int x] (fun _ => True)) (vp_Si (fun r => ∃ b : Bool, r = bI b ∧ (b = true ↔ iN x 5))) 0 0 (fun _ => False) := by
  refine Met.ofW (cc := prog_9_method_39_code) (maxL := 1) (ret := (some .boolean)) (by decide) rfl ?_
  intro p e s m args below meth c s₁ B hml hv
  have hx := B.exec
  have hb := B.bytes
  have hr := B.returns
  have ht : ∀ w ∈ TB, w.before args s = true := fun w h => atoms_spec (ws := wM_isSlot) B.pre w (List.mem_cons_of_mem _ h)
  have hown : s.vm.findClass "PermutationDeskModel" = some m.cls := findClass_of_methodNamed B.named
  have hlocks := B.notSynchronized
  obtain ⟨rfl, -⟩ := hv
  have hl := lv_entry ([.int x]) (n := 1) (Nat.le_of_ble_eq_true rfl)
  rw [lg_entry_eq]
  generalize (lg_sl ([.int x]) ++ List.replicate (1 - (lg_sl ([.int x])).length) Slot.unset).toArray = ls at hl ⊢
  have hl : lv_has ls 1 [(0, .int x)] := hl
  refine lv_iload_n hx hb dM_isSlot_0 rfl (lv_at hl 0 rfl) ?_
  refine lv_if_lt (tgt := 13) hx hb dM_isSlot_1 rfl (fun h => ?_) (fun h => ?_)
  · skip
    refine lv_iconst (v := 0) hx hb dM_isSlot_13 (by decide) ?_
    exact W.zret (v := 0) hx hb hr rfl (fun t h9 _ => ⟨_, rfl, ⟨false, rfl, ⟨fun q => (by cases q), fun q => absurd h ((iN_of (N := 5) (by decide)).mp q).1⟩⟩, h9⟩) (fun q h => by cases h) dM_isSlot_14
  refine lv_iload_n hx hb dM_isSlot_4 rfl (lv_at hl 0 rfl) ?_
  refine lv_iconst (v := 5) hx hb dM_isSlot_5 (by decide) ?_
  refine lv_icmp_ge (tgt := 13) hx hb dM_isSlot_6 rfl (fun h2 => ?_) (fun h2 => ?_)
  · skip
    refine lv_iconst (v := 0) hx hb dM_isSlot_13 (by decide) ?_
    exact W.zret (v := 0) hx hb hr rfl (fun t h9 _ => ⟨_, rfl, ⟨false, rfl, ⟨fun q => (by cases q), fun q => absurd h2 ((iN_of (N := 5) (by decide)).mp q).2⟩⟩, h9⟩) (fun q h => by cases h) dM_isSlot_14
  refine lv_iconst (v := 1) hx hb dM_isSlot_9 (by decide) ?_
  refine lv_goto (tgt := 14) hx hb dM_isSlot_10 rfl ?_
  exact W.zret (v := 1) hx hb hr rfl (fun t h9 _ => ⟨_, rfl, ⟨true, rfl, ⟨fun _ => (iN_of (N := 5) (by decide)).mpr ⟨h, h2⟩, fun _ => rfl⟩⟩, h9⟩) (fun q h => by cases h) dM_isSlot_14
set_option maxHeartbeats 1000000 in
set_option maxRecDepth 100000 in
theorem c_M_isTo (l : Launch) (x : Int32) : Met l yM_isTo wM_isTo rmZ (va_Pc [.int x] (fun _ => True)) (vp_Si (fun r => ∃ b : Bool, r = bI b ∧ (b = true ↔ (iN x 5 ∧ x ≠ 0)))) 0 0 (fun _ => False) := by
  refine Met.ofW (cc := prog_9_method_38_code) (maxL := 1) (ret := (some .boolean)) (by decide) rfl ?_
  intro p e s m args below meth c s₁ B hml hv
  have hx := B.exec
  have hb := B.bytes
  have hr := B.returns
  have ht : ∀ w ∈ TB, w.before args s = true := fun w h => atoms_spec (ws := wM_isTo) B.pre w (List.mem_cons_of_mem _ h)
  have hown : s.vm.findClass "PermutationDeskModel" = some m.cls := findClass_of_methodNamed B.named
  have hlocks := B.notSynchronized
  obtain ⟨rfl, -⟩ := hv
  have hl := lv_entry ([.int x]) (n := 1) (Nat.le_of_ble_eq_true rfl)
  rw [lg_entry_eq]
  generalize (lg_sl ([.int x]) ++ List.replicate (1 - (lg_sl ([.int x])).length) Slot.unset).toArray = ls at hl ⊢
  have hl : lv_has ls 1 [(0, .int x)] := hl
  refine lv_iload_n hx hb dM_isTo_0 rfl (lv_at hl 0 rfl) ?_
  refine lv_iconst (v := 1) hx hb dM_isTo_1 (by decide) ?_
  refine lv_icmp_lt (tgt := 14) hx hb dM_isTo_2 rfl (fun h => ?_) (fun h => ?_)
  · skip
    refine lv_iconst (v := 0) hx hb dM_isTo_14 (by decide) ?_
    refine W.zret (v := 0) hx hb hr rfl (fun t h9 _ => ⟨_, rfl, ⟨false, rfl, ⟨fun q => (by cases q), fun q => ?_⟩⟩, h9⟩) (fun q h => by cases h) dM_isTo_15
    obtain ⟨⟨k, rfl, hk⟩, h0⟩ := q
    have h1 := (nI_ltI (a := k) (b := 1) (by omega) (by omega)).mp h
    exact absurd (by rw [show k = 0 by omega]; rfl) h0
  refine lv_iload_n hx hb dM_isTo_5 rfl (lv_at hl 0 rfl) ?_
  refine lv_iconst (v := 5) hx hb dM_isTo_6 (by decide) ?_
  refine lv_icmp_ge (tgt := 14) hx hb dM_isTo_7 rfl (fun h2 => ?_) (fun h2 => ?_)
  · skip
    refine lv_iconst (v := 0) hx hb dM_isTo_14 (by decide) ?_
    exact W.zret (v := 0) hx hb hr rfl (fun t h9 _ => ⟨_, rfl, ⟨false, rfl, ⟨fun q => (by cases q), fun q => absurd h2 ((iN_of (N := 5) (by decide)).mp q.1).2⟩⟩, h9⟩) (fun q h => by cases h) dM_isTo_15
  refine lv_iconst (v := 1) hx hb dM_isTo_10 (by decide) ?_
  refine lv_goto (tgt := 15) hx hb dM_isTo_11 rfl ?_
  refine W.zret (v := 1) hx hb hr rfl (fun t h9 _ => ⟨_, rfl, ⟨true, rfl, ⟨fun _ => ⟨(iN_of (N := 5) (by decide)).mpr ⟨fun q => h ?_, h2⟩, fun q => h (by rw [q]; decide)⟩, fun _ => rfl⟩⟩, h9⟩) (fun q h => by cases h) dM_isTo_15
  have h3 := Int32.lt_iff_toInt_lt.mp q
  exact Int32.lt_iff_toInt_lt.mpr (Int.lt_trans h3 (by decide))
set_option maxHeartbeats 1000000 in
set_option maxRecDepth 100000 in
theorem c_M_thrown (l : Launch) (D : va_G) (z : Nat → ClassId) (d : Nat → Nat) (n : Nat) {cd : Int32} {ty : Nat} {ft : Nat → Int32} {gc : Nat} {fg fo fh : Nat → Int32} {fs ff : Nat → Int64} {fq : Nat → Int32} {mk : Nat} {fm fi : Nat → Int32} {de ps : Nat} {re : Int32} {go : Bool} {kd pr fa fr : Nat → Int32} : Met l yM_thrown wM_thrown (rmF 0) (va_Pc [.ref (d 0)] (fun U => va_P D vC (mW z d n cd ty ft gc fg fo fh fs ff fq mk fm fi de ps re go kd pr fa fr) U.heap ∧ va_K D vC (tyL z) U)) (vp_Si (fun r => r = cd)) 0 0 (fun _ => False) := by
  refine Met.ofW (cc := prog_9_method_3_code) (maxL := 1) (ret := (some .int)) (by decide) rfl ?_
  intro p e s m args below meth c s₁ B hml hv
  have hx := B.exec
  have hb := B.bytes
  have hr := B.returns
  have ht : ∀ w ∈ TB, w.before args s = true := fun w h => atoms_spec (ws := wM_thrown) B.pre w (List.mem_cons_of_mem _ h)
  have hown : s.vm.findClass "PermutationDeskModel" = some m.cls := findClass_of_methodNamed B.named
  have hlocks := B.notSynchronized
  obtain ⟨rfl, hP, hK⟩ := hv
  have hl := lv_entry ([.ref (d 0)]) (n := 1) (Nat.le_of_ble_eq_true rfl)
  rw [lg_entry_eq]
  generalize (lg_sl ([.ref (d 0)]) ++ List.replicate (1 - (lg_sl ([.ref (d 0)])).length) Slot.unset).toArray = ls at hl ⊢
  have hl : lv_has ls 1 [(0, .ref (d 0))] := hl
  refine lv_aload_n hx hb dM_thrown_0 rfl (lv_at hl 0 rfl) ?_
  refine va_get (ci := 5) (C := RM) (T := TM) (N := 26) hx hb ht inM hown hK hP 0 rfl rfl 2 (by decide) (ht _ tw_651) (fun _ h9 => h9) rfl dM_thrown_1 ?_
  exact W.iret hx hb hr (fun t h _ => ⟨_, rfl, rfl, h⟩) (fun q h => by cases h) dM_thrown_4
set_option maxHeartbeats 1000000 in
set_option maxRecDepth 100000 in
theorem c_M_fail (l : Launch) (D : va_G) (z : Nat → ClassId) (d : Nat → Nat) (n : Nat) {cd : Int32} {ty : Nat} {ft : Nat → Int32} {gc : Nat} {fg fo fh : Nat → Int32} {fs ff : Nat → Int64} {fq : Nat → Int32} {mk : Nat} {fm fi : Nat → Int32} {de ps : Nat} {re : Int32} {go : Bool} {kd pr fa fr : Nat → Int32} (sz : Nat) (q9 : Int32) : Met l yM_fail wM_fail (rmF 0) (va_Pc [.ref (d 0), .int q9] (fun U => U.heap.size = sz ∧ va_P D vC (mW z d n cd ty ft gc fg fo fh fs ff fq mk fm fi de ps re go kd pr fa fr) U.heap ∧ va_K D vC (tyL z) U ∧ va_D (fun _ => True) (mW z d n cd ty ft gc fg fo fh fs ff fq mk fm fi de ps re go kd pr fa fr))) (va_Qi (fun r (_ : Unit) => r = 0) (fun _ t => va_P D vC (mW z d n q9 ty ft gc fg fo fh fs ff fq mk fm fi de ps re go kd pr fa fr) t.heap ∧ va_D (va_A (mW z d n cd ty ft gc fg fo fh fs ff fq mk fm fi de ps re go kd pr fa fr) sz) (mW z d n q9 ty ft gc fg fo fh fs ff fq mk fm fi de ps re go kd pr fa fr)) (va_A (mW z d n cd ty ft gc fg fo fh fs ff fq mk fm fi de ps re go kd pr fa fr) sz)) 0 0 (va_A (mW z d n cd ty ft gc fg fo fh fs ff fq mk fm fi de ps re go kd pr fa fr) sz) := by
  refine Met.ofW (cc := prog_9_method_4_code) (maxL := 2) (ret := (some .int)) (by decide) rfl ?_
  intro p e s m args below meth c s₁ B hml hv
  have hx := B.exec
  have hb := B.bytes
  have hr := B.returns
  have ht : ∀ w ∈ TB, w.before args s = true := fun w h => atoms_spec (ws := wM_fail) B.pre w (List.mem_cons_of_mem _ h)
  have hown : s.vm.findClass "PermutationDeskModel" = some m.cls := findClass_of_methodNamed B.named
  have hlocks := B.notSynchronized
  obtain ⟨rfl, hsz, hP, hK, hD0⟩ := hv
  subst hsz
  have hD := hD0.self (sz := s.heap.size)
  generalize hAe : va_A (mW z d n cd ty ft gc fg fo fh fs ff fq mk fm fi de ps re go kd pr fa fr) s.heap.size = A at hD ⊢
  have hA : ∀ q : Nat, s.heap.size ≤ q → A q := fun q h => by rw [← hAe]; exact Or.inr h
  have hS : va_S A s.heap s.heap [] := va_S.rf
  have hl := lv_entry ([.ref (d 0), .int q9]) (n := 2) (Nat.le_of_ble_eq_true rfl)
  rw [lg_entry_eq]
  generalize (lg_sl ([.ref (d 0), .int q9]) ++ List.replicate (2 - (lg_sl ([.ref (d 0), .int q9])).length) Slot.unset).toArray = ls at hl ⊢
  have hl : lv_has ls 2 [(0, .ref (d 0)), (1, .int q9)] := hl
  refine lv_aload_n hx hb dM_fail_0 rfl (lv_at hl 0 rfl) ?_
  refine lv_iload_n hx hb dM_fail_1 rfl (lv_at hl 1 rfl) ?_
  refine va_put (ci := 5) (ty := .int) (C := RM) (T := TM) (N := 26) hx hb ht inM tyM tyM_ok nmM hown hK hP hD hS 0 rfl rfl 2 (by decide) (ht _ tw_651) (fun _ h9 => h9) rfl (by decide +kernel) rfl rfl (Nat.le_of_ble_eq_true rfl) dM_fail_2 (fun H locs hP hD hS => ?_)
  have hP : va_P D vC (mW z d n q9 ty ft gc fg fo fh fs ff fq mk fm fi de ps re go kd pr fa fr) H := hP
  have hD : va_D A (mW z d n q9 ty ft gc fg fo fh fs ff fq mk fm fi de ps re go kd pr fa fr) := hD
  refine lv_iconst (v := 0) hx hb dM_fail_5 (by decide) ?_
  exact W.iret hx hb hr (fun t ht hW => ⟨⟨_, (), rfl, rfl, by rw [ht]; exact hP, hD⟩, hS.F ht⟩) hS.2.2 dM_fail_6
