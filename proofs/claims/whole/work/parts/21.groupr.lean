/-! Group: the methods that only read. -/
abbrev rmF (k : Nat) : Room := { frames := k, cells := 0, slots := 0, locals := 40 * k }
set_option maxHeartbeats 1000000 in
set_option maxRecDepth 100000 in
/-- step: the table's entry -/
theorem c_G_step (l : Launch) (D : va_G) (z : Nat → ClassId) (g : Nat → Nat) (n nc : Nat) (fS fM : Nat → Int64) (fL : Nat → Int32) (T : pg_T) (hn : n ≤ 14) (hT : pg_ok n T) (hG : gS n T fS) (k i : Nat) (hk : k < n) (hi : i < n) : Met l yG_step wG_step (rmF 0) (va_Pc [.ref (g 0), .int (nI k), .int (nI i)] (fun U => va_P D vC (gW z g n nc fS fM fL) U.heap ∧ va_K D vC (tyL z) U)) (vp_Sl (fun r => r = oL n (T k i))) 0 0 (fun _ => False) := by
  have hnn := nn_lt hn
  have hix := ix_lt hk hi
  refine Met.ofW (cc := prog_5_method_6_code) (maxL := 3) (ret := (some .long)) (by decide) rfl ?_
  intro p e s m args below meth c s₁ B hml hv
  have hx := B.exec
  have hb := B.bytes
  have hr := B.returns
  have ht : ∀ w ∈ TB, w.before args s = true := fun w h => atoms_spec (ws := wG_step) B.pre w (List.mem_cons_of_mem _ h)
  have hown : s.vm.findClass "PermutationDesk$Group" = some m.cls := findClass_of_methodNamed B.named
  have hlocks := B.notSynchronized
  obtain ⟨rfl, hP, hK⟩ := hv
  have hl := lv_entry ([.ref (g 0), .int (nI k), .int (nI i)]) (n := 3) (Nat.le_of_ble_eq_true rfl)
  rw [lg_entry_eq]
  generalize (lg_sl ([.ref (g 0), .int (nI k), .int (nI i)]) ++ List.replicate (3 - (lg_sl ([.ref (g 0), .int (nI k), .int (nI i)])).length) Slot.unset).toArray = ls at hl ⊢
  have hl : lv_has ls 3 [(0, .ref (g 0)), (1, .int (nI k)), (2, .int (nI i))] := hl
  refine lv_iload_n hx hb dG_step_0 rfl (lv_at hl 1 rfl) ?_
  refine lv_if_lt (tgt := 24) hx hb dG_step_1 rfl (fun h => ?_) (fun h => ?_)
  · exact absurd h (nI_pos (by omega))
  refine lv_iload_n hx hb dG_step_4 rfl (lv_at hl 1 rfl) ?_
  refine lv_aload_n hx hb dG_step_5 rfl (lv_at hl 0 rfl) ?_
  refine va_get (ci := 0) (C := RG) (T := TG) (N := 6) hx hb ht inG hown hK hP 0 rfl rfl 0 (by decide) (ht _ tw_103) (fun _ h9 => h9) rfl dG_step_6 ?_
  refine lv_icmp_ge (tgt := 24) hx hb dG_step_9 rfl (fun h => ?_) (fun h => ?_)
  · exact absurd h (nI_ge hk (by omega))
  refine lv_iload_n hx hb dG_step_12 rfl (lv_at hl 2 rfl) ?_
  refine lv_if_lt (tgt := 24) hx hb dG_step_13 rfl (fun h => ?_) (fun h => ?_)
  · exact absurd h (nI_pos (by omega))
  refine lv_iload_n hx hb dG_step_16 rfl (lv_at hl 2 rfl) ?_
  refine lv_aload_n hx hb dG_step_17 rfl (lv_at hl 0 rfl) ?_
  refine va_get (ci := 0) (C := RG) (T := TG) (N := 6) hx hb ht inG hown hK hP 0 rfl rfl 0 (by decide) (ht _ tw_103) (fun _ h9 => h9) rfl dG_step_18 ?_
  refine lv_icmp_lt (tgt := 28) hx hb dG_step_21 rfl (fun h => ?_) (fun h => ?_)
  · skip
    refine lv_aload_n hx hb dG_step_28 rfl (lv_at hl 0 rfl) ?_
    refine va_get (ci := 0) (C := RG) (T := TG) (N := 6) hx hb ht inG hown hK hP 0 rfl rfl 2 (by decide) (ht _ tw_105) (fun _ h9 => h9) rfl dG_step_29 ?_
    refine lv_iload_n hx hb dG_step_32 rfl (lv_at hl 1 rfl) ?_
    refine lv_aload_n hx hb dG_step_33 rfl (lv_at hl 0 rfl) ?_
    refine va_get (ci := 0) (C := RG) (T := TG) (N := 6) hx hb ht inG hown hK hP 0 rfl rfl 0 (by decide) (ht _ tw_103) (fun _ h9 => h9) rfl dG_step_34 ?_
    refine lv_imul hx hb dG_step_37 ?_
    refine lv_iload_n hx hb dG_step_38 rfl (lv_at hl 2 rfl) ?_
    refine lv_iadd hx hb dG_step_39 ?_
    refine wti (x' := nI (k * n + i)) (by rw [pk_mul, nI_add]) ?_
    refine va_lald hx hb hK hP 1 0 rfl rfl (vp_in_nI hix hnn) dG_step_40 ?_
    refine wtl (x' := oL n (T k i)) (by rw [nI_clamp (by omega)]; exact hG k i hk hi) ?_
    exact W.lret hx hb hr (fun t h _ => ⟨_, rfl, rfl, h⟩) (fun q h => by cases h) dG_step_41
  · exact absurd (nI_lt hi (by omega)) h
theorem pg_w0 {n : Nat} {T : pg_T} (hT : pg_ok n T) (k : Nat) : (List.range k).countP (fun i => (T k i).isSome) = 0 := by
  refine List.countP_eq_zero.mpr (fun i hi => ?_)
  rw [List.mem_range] at hi
  cases h : T k i with
  | none => exact fun e => by cases e
  | some x => have := (hT.2 k i x h).2.2.1; omega
set_option maxHeartbeats 1000000 in
set_option maxRecDepth 100000 in
/-- width: how many steps a level has -/
theorem c_G_width (l : Launch) (D : va_G) (z : Nat → ClassId) (g : Nat → Nat) (n nc : Nat) (fS fM : Nat → Int64) (fL : Nat → Int32) (T : pg_T) (hn : n ≤ 14) (hT : pg_ok n T) (hG : gS n T fS) (k : Nat) (hk : k < n) : Met l yG_width wG_width (rmF 1) (va_Pc [.ref (g 0), .int (nI k)] (fun U => va_P D vC (gW z g n nc fS fM fL) U.heap ∧ va_K D vC (tyL z) U)) (vp_Si (fun r => r = nI (pg_w n T k))) 0 0 (fun _ => False) := by
  refine Met.ofW (cc := prog_5_method_5_code) (maxL := 4) (ret := (some .int)) (by decide) rfl ?_
  intro p e s m args below meth c s₁ B hml hv
  have hx := B.exec
  have hb := B.bytes
  have hr := B.returns
  have ht : ∀ w ∈ TB, w.before args s = true := fun w h => atoms_spec (ws := wG_width) B.pre w (List.mem_cons_of_mem _ h)
  have hown : s.vm.findClass "PermutationDesk$Group" = some m.cls := findClass_of_methodNamed B.named
  have hlocks := B.notSynchronized
  obtain ⟨rfl, hP, hK⟩ := hv
  have hl := lv_entry ([.ref (g 0), .int (nI k)]) (n := 4) (Nat.le_of_ble_eq_true rfl)
  rw [lg_entry_eq]
  generalize (lg_sl ([.ref (g 0), .int (nI k)]) ++ List.replicate (4 - (lg_sl ([.ref (g 0), .int (nI k)])).length) Slot.unset).toArray = ls at hl ⊢
  have hl : lv_has ls 4 [(0, .ref (g 0)), (1, .int (nI k))] := hl
  refine lv_iconst (v := 0) hx hb dG_width_0 (by decide) ?_
  refine lv_istore_n hx hb dG_width_1 rfl hl (by decide) rfl (fun ls hl => ?_)
  replace hl : lv_has ls 4 [(2, .int (0) ), (0, .ref (g 0)), (1, .int (nI k))] := hl
  refine lv_iload_n hx hb dG_width_2 rfl (lv_at hl 2 rfl) ?_
  refine lv_istore_n hx hb dG_width_3 rfl hl (by decide) rfl (fun ls hl => ?_)
  replace hl : lv_has ls 4 [(3, .int (nI k)), (2, .int (0) ), (0, .ref (g 0)), (1, .int (nI k))] := hl
  refine wl0 (σ := Nat) (I := fun d i ls => d + i = n ∧ k ≤ i ∧ lv_has ls 4 [(3, .int (nI i)), (2, .int (nI ((List.range i).countP (fun i => (T k i).isSome)))), (0, .ref (g 0)), (1, .int (nI k))]) ?_ (n - k) k ls ⟨by omega, Nat.le_refl _, by rw [pg_w0 hT k]; exact hl⟩
  rintro d i ls ⟨hdk, hki, hl⟩ ih
  refine lv_iload_n hx hb dG_width_4 rfl (lv_at hl 0 rfl) ?_
  refine lv_aload_n hx hb dG_width_5 rfl (lv_at hl 2 rfl) ?_
  refine va_get (ci := 0) (C := RG) (T := TG) (N := 6) hx hb ht inG hown hK hP 0 rfl rfl 0 (by decide) (ht _ tw_103) (fun _ h9 => h9) rfl dG_width_6 ?_
  refine lv_icmp_ge (tgt := 34) hx hb dG_width_9 rfl (fun h => ?_) (fun h => ?_)
  · have hk : i = n := by have := (nI_leI (by omega) (by omega)).mp h; omega
    subst hk
    refine lv_iload_n hx hb dG_width_34 rfl (lv_at hl 1 rfl) ?_
    exact W.iret hx hb hr (fun t h _ => ⟨_, rfl, rfl, h⟩) (fun q h => by cases h) dG_width_35
  · have hi : i < n := by
      rw [nI_leI (by omega) (by omega)] at h
      omega
    refine lv_aload_n hx hb dG_width_12 rfl (lv_at hl 2 rfl) ?_
    refine lv_iload_n hx hb dG_width_13 rfl (lv_at hl 3 rfl) ?_
    refine lv_iload_n hx hb dG_width_14 rfl (lv_at hl 0 rfl) ?_
    refine qV_l (ci := 0) (q0 := 0) (As := [.int (nI k), .int (nI i)]) (rest := []) ⟨hx, hb, hml, hown, ht⟩ (c_G_step l D z g n nc fS fM fL T hn hT hG k i hk hi) (cB 2 ht gG_step rfl tw_61 tw_402 (by decide +kernel) ⟨by decide, by decide⟩) tw_404 tw_14 hK (hP) rfl rfl rfl hl.1 rfl (Nat.le_of_ble_eq_true rfl) dG_width_15 ⟨by decide, by decide⟩ (fun r15 h15 => ?_)
    subst h15
    refine W.ldc2 hx hb hown (ht _ tw_99) rfl dG_width_18 ?_
    refine W.lcmp hx hb dG_width_21 ?_
    refine lv_if_eq (tgt := 28) hx hb dG_width_22 rfl (fun h2 => ?_) (fun h2 => ?_)
    · have h3 := (oL_none hT hn).mp ((lg_cmp_eq _ _).mp h2)
      refine lv_iinc (k := 0) (v := (nI (i + 1))) hx hb dG_width_28 hl rfl (by exact nI_1 _) (by decide) rfl (fun ls hl => ?_)
      replace hl : lv_has ls 4 [(3, .int (nI (i + 1))), (2, .int (nI ((List.range i).countP (fun i => (T k i).isSome)))), (0, .ref (g 0)), (1, .int (nI k))] := hl
      refine lv_goto (tgt := 4) hx hb dG_width_31 rfl ?_
      refine ih (d - 1) (i + 1) ls (by omega) ⟨by omega, by omega, ?_⟩
      rw [pg_count_succ, h3]
      exact lv_sub hl [0, 1, 2, 3] rfl
    · have h3 : T k i ≠ none := fun e => h2 ((lg_cmp_eq _ _).mpr ((oL_none hT hn).mpr e))
      refine lv_iinc (k := 1) (v := (nI (((List.range i).countP (fun i => (T k i).isSome)) + 1))) hx hb dG_width_25 hl rfl (by exact nI_1 _) (by decide) rfl (fun ls hl => ?_)
      replace hl : lv_has ls 4 [(2, .int (nI (((List.range i).countP (fun i => (T k i).isSome)) + 1))), (3, .int (nI i)), (0, .ref (g 0)), (1, .int (nI k))] := hl
      refine lv_iinc (k := 1) (v := (nI (i + 1))) hx hb dG_width_28 hl rfl (by exact nI_1 _) (by decide) rfl (fun ls hl => ?_)
      replace hl : lv_has ls 4 [(3, .int (nI (i + 1))), (2, .int (nI (((List.range i).countP (fun i => (T k i).isSome)) + 1))), (0, .ref (g 0)), (1, .int (nI k))] := hl
      refine lv_goto (tgt := 4) hx hb dG_width_31 rfl ?_
      refine ih (d - 1) (i + 1) ls (by omega) ⟨by omega, by omega, ?_⟩
      rw [pg_count_succ, if_pos (by cases h4 : T k i with | none => exact absurd h4 h3 | some x => rfl)]
      exact lv_sub hl [0, 1, 2, 3] rfl
set_option maxHeartbeats 1000000 in
set_option maxRecDepth 100000 in
/-- sizeBelow: how many elements leave all points below k (the level before it) -/
theorem c_G_sizeBelow (l : Launch) (D : va_G) (z : Nat → ClassId) (g : Nat → Nat) (n nc : Nat) (fS fM : Nat → Int64) (fL : Nat → Int32) (T : pg_T) (hn : n ≤ 14) (hT : pg_ok n T) (hG : gS n T fS) (k : Nat) (hk : k ≤ n) (a : Int32) (ha : a + 1 = nI k) : Met l yG_sizeBelow wG_sizeBelow (rmF 2) (va_Pc [.ref (g 0), .int a] (fun U => va_P D vC (gW z g n nc fS fM fL) U.heap ∧ va_K D vC (tyL z) U)) (vp_Si (fun r => r = nI (pg_len n T (n - k) k))) 0 0 (fun _ => False) := by
  refine Met.ofW (cc := prog_5_method_4_code) (maxL := 4) (ret := (some .int)) (by decide) rfl ?_
  intro p e s m args below meth c s₁ B hml hv
  have hx := B.exec
  have hb := B.bytes
  have hr := B.returns
  have ht : ∀ w ∈ TB, w.before args s = true := fun w h => atoms_spec (ws := wG_sizeBelow) B.pre w (List.mem_cons_of_mem _ h)
  have hown : s.vm.findClass "PermutationDesk$Group" = some m.cls := findClass_of_methodNamed B.named
  have hlocks := B.notSynchronized
  obtain ⟨rfl, hP, hK⟩ := hv
  have hl := lv_entry ([.ref (g 0), .int a]) (n := 4) (Nat.le_of_ble_eq_true rfl)
  rw [lg_entry_eq]
  generalize (lg_sl ([.ref (g 0), .int a]) ++ List.replicate (4 - (lg_sl ([.ref (g 0), .int a])).length) Slot.unset).toArray = ls at hl ⊢
  have hl : lv_has ls 4 [(0, .ref (g 0)), (1, .int a)] := hl
  refine lv_iconst (v := 1) hx hb dG_sizeBelow_0 (by decide) ?_
  refine lv_topi (fun v1 e1 => ?_)
  refine lv_istore_n hx hb dG_sizeBelow_1 rfl hl (by decide) rfl (fun ls hl => ?_)
  replace hl : lv_has ls 4 [(2, .int v1), (0, .ref (g 0)), (1, .int a)] := hl
  refine lv_iload_n hx hb dG_sizeBelow_2 rfl (lv_at hl 2 rfl) ?_
  refine lv_iconst (v := 1) hx hb dG_sizeBelow_3 (by decide) ?_
  refine lv_iadd hx hb dG_sizeBelow_4 ?_
  refine lv_topi (fun v5 e5 => ?_)
  refine lv_istore_n hx hb dG_sizeBelow_5 rfl hl (by decide) rfl (fun ls hl => ?_)
  replace hl : lv_has ls 4 [(3, .int v5), (2, .int v1), (0, .ref (g 0)), (1, .int a)] := hl
  rw [ha] at e5
  refine wl0 (σ := Nat × Nat) (I := fun d st ls => d + st.1 = n ∧ pg_len n T (n - k) k = st.2 * pg_len n T d st.1 ∧ lv_has ls 4 [(3, .int (nI st.1)), (2, .int (nI st.2)), (0, .ref (g 0))]) ?_ (n - k) (k, 1) ls ⟨by show n - k + k = n; omega, by show _ = 1 * _; rw [Nat.one_mul], by rw [e1, e5] at hl; exact lv_sub hl [0, 1, 2] rfl⟩
  rintro d ⟨i, sz⟩ ls ⟨hdk, hsz, hl⟩ ih
  have hdk : d + i = n := hdk
  have hsz : pg_len n T (n - k) k = sz * pg_len n T d i := hsz
  refine lv_iload_n hx hb dG_sizeBelow_6 rfl (lv_at hl 0 rfl) ?_
  refine lv_aload_n hx hb dG_sizeBelow_7 rfl (lv_at hl 2 rfl) ?_
  refine va_get (ci := 0) (C := RG) (T := TG) (N := 6) hx hb ht inG hown hK hP 0 rfl rfl 0 (by decide) (ht _ tw_103) (fun _ h9 => h9) rfl dG_sizeBelow_8 ?_
  refine lv_icmp_ge (tgt := 28) hx hb dG_sizeBelow_11 rfl (fun h => ?_) (fun h => ?_)
  · have hk : i = n := by have := (nI_leI (by omega) (by omega)).mp h; omega
    have hd0 : d = 0 := by omega
    subst hd0
    refine lv_iload_n hx hb dG_sizeBelow_28 rfl (lv_at hl 1 rfl) ?_
    exact W.iret hx hb hr (fun t h _ => ⟨_, rfl, by rw [hsz]; show nI sz = nI (sz * 1); rw [Nat.mul_one], h⟩) (fun q h => by cases h) dG_sizeBelow_29
  · have hi : i < n := by
      rw [nI_leI (by omega) (by omega)] at h
      omega
    refine lv_iload_n hx hb dG_sizeBelow_14 rfl (lv_at hl 1 rfl) ?_
    refine lv_aload_n hx hb dG_sizeBelow_15 rfl (lv_at hl 2 rfl) ?_
    refine lv_iload_n hx hb dG_sizeBelow_16 rfl (lv_at hl 0 rfl) ?_
    refine qV_i (ci := 0) (q0 := 0) (As := [.int (nI i)]) (rest := [.int (nI sz)]) ⟨hx, hb, hml, hown, ht⟩ (c_G_width l D z g n nc fS fM fL T hn hT hG i hi) (cB 1 ht gG_width rfl tw_61 tw_451 (by decide +kernel) ⟨by decide, by decide⟩) tw_453 tw_20 hK (hP) rfl rfl rfl hl.1 rfl (Nat.le_of_ble_eq_true rfl) dG_sizeBelow_17 ⟨by decide, by decide⟩ (fun r17 h17 => ?_)
    subst h17
    refine lv_imul hx hb dG_sizeBelow_20 ?_
    refine wti (x' := nI (sz * pg_w n T i)) (pk_mul _ _) ?_
    refine lv_istore_n hx hb dG_sizeBelow_21 rfl hl (by decide) rfl (fun ls hl => ?_)
    replace hl : lv_has ls 4 [(2, .int (nI (sz * pg_w n T i))), (3, .int (nI i)), (0, .ref (g 0))] := hl
    refine lv_iinc (k := 1) (v := (nI (i + 1))) hx hb dG_sizeBelow_22 hl rfl (by exact nI_1 _) (by decide) rfl (fun ls hl => ?_)
    replace hl : lv_has ls 4 [(3, .int (nI (i + 1))), (2, .int (nI (sz * pg_w n T i))), (0, .ref (g 0))] := hl
    refine lv_goto (tgt := 6) hx hb dG_sizeBelow_25 rfl ?_
    refine ih (d - 1) (i + 1, sz * pg_w n T i) ls (by omega) ⟨by show d - 1 + (i + 1) = n; omega, ?_, lv_sub hl [0, 1, 2] rfl⟩
    show pg_len n T (n - k) k = sz * pg_w n T i * pg_len n T (d - 1) (i + 1)
    rw [hsz, Nat.mul_assoc]
    obtain ⟨d', rfl⟩ : ∃ d', d = d' + 1 := ⟨d - 1, by omega⟩
    rfl
set_option maxHeartbeats 1000000 in
set_option maxRecDepth 100000 in
/-- size: how many elements there are -/
theorem c_G_size (l : Launch) (D : va_G) (z : Nat → ClassId) (g : Nat → Nat) (n nc : Nat) (fS fM : Nat → Int64) (fL : Nat → Int32) (T : pg_T) (hn : n ≤ 14) (hT : pg_ok n T) (hG : gS n T fS) : Met l yG_size wG_size (rmF 3) (va_Pc [.ref (g 0)] (fun U => va_P D vC (gW z g n nc fS fM fL) U.heap ∧ va_K D vC (tyL z) U)) (vp_Si (fun r => r = nI (pg_len n T n 0))) 0 0 (fun _ => False) := by
  refine Met.ofW (cc := prog_5_method_3_code) (maxL := 1) (ret := (some .int)) (by decide) rfl ?_
  intro p e s m args below meth c s₁ B hml hv
  have hx := B.exec
  have hb := B.bytes
  have hr := B.returns
  have ht : ∀ w ∈ TB, w.before args s = true := fun w h => atoms_spec (ws := wG_size) B.pre w (List.mem_cons_of_mem _ h)
  have hown : s.vm.findClass "PermutationDesk$Group" = some m.cls := findClass_of_methodNamed B.named
  have hlocks := B.notSynchronized
  obtain ⟨rfl, hP, hK⟩ := hv
  have hl := lv_entry ([.ref (g 0)]) (n := 1) (Nat.le_of_ble_eq_true rfl)
  rw [lg_entry_eq]
  generalize (lg_sl ([.ref (g 0)]) ++ List.replicate (1 - (lg_sl ([.ref (g 0)])).length) Slot.unset).toArray = ls at hl ⊢
  have hl : lv_has ls 1 [(0, .ref (g 0))] := hl
  refine lv_aload_n hx hb dG_size_0 rfl (lv_at hl 0 rfl) ?_
  refine lv_iconst (v := (-1)) hx hb dG_size_1 (by decide) ?_
  refine qV_i (ci := 0) (q0 := 0) (As := [.int (-1)]) (rest := []) ⟨hx, hb, hml, hown, ht⟩ (c_G_sizeBelow l D z g n nc fS fM fL T hn hT hG 0 (Nat.zero_le _) (-1) (by decide)) (cB 1 ht gG_sizeBelow rfl tw_61 tw_447 (by decide +kernel) ⟨by decide, by decide⟩) tw_449 tw_19 hK (hP) rfl rfl rfl hl.1 rfl (Nat.le_of_ble_eq_true rfl) dG_size_2 ⟨by decide, by decide⟩ (fun r2 h2 => ?_)
  exact W.iret hx hb hr (fun t h _ => ⟨_, rfl, h2, h⟩) (fun q h => by cases h) dG_size_5
