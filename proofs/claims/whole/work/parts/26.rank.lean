/-! Group: lesserSteps, placeOf, atPlace. -/
theorem pg_les0 {n : Nat} {T : pg_T} (hT : pg_ok n T) (k : Nat) (f : Nat → Bool) : (List.range k).countP (fun i => (T k i).isSome && f i) = 0 := by
  refine List.countP_eq_zero.mpr (fun i hi => ?_)
  rw [List.mem_range] at hi
  cases h : T k i with
  | none => exact fun e => by cases e
  | some x => have := (hT.2 k i x h).2.2.1; omega
set_option maxHeartbeats 1000000 in
set_option maxRecDepth 100000 in
/-- lesserSteps: the steps of a level that lead, with x behind them, to less than w -/
theorem c_G_lesserSteps (l : Launch) (D : va_G) (z : Nat → ClassId) (g : Nat → Nat) (n nc : Nat) (fS fM : Nat → Int64) (fL : Nat → Int32) (T : pg_T) (hn : n ≤ 14) (hT : pg_ok n T) (hG : gS n T fS) (k w : Nat) (x : pg_F) (hk : k < n) (hw : w < n) (hxP : pg_P n x) : Met l yG_lesserSteps wG_lesserSteps (rmF 1) (va_Pc [.ref (g 0), .int (nI k), .long (eL n x), .int (nI w)] (fun U => va_P D vC (gW z g n nc fS fM fL) U.heap ∧ va_K D vC (tyL z) U)) (vp_Si (fun r => r = nI ((List.range n).countP (fun i => (T k i).isSome && decide (x i < w))))) 0 0 (fun _ => False) := by
  have hx9 := hxP.d4 (by omega : n ≤ 16)
  refine Met.ofW (cc := prog_5_method_17_code) (maxL := 7) (ret := (some .int)) (by decide) rfl ?_
  intro p e s m args below meth c s₁ B hml hv
  have hx := B.exec
  have hb := B.bytes
  have hr := B.returns
  have ht : ∀ w ∈ TB, w.before args s = true := fun w h => atoms_spec (ws := wG_lesserSteps) B.pre w (List.mem_cons_of_mem _ h)
  have hown : s.vm.findClass "PermutationDesk$Group" = some m.cls := findClass_of_methodNamed B.named
  have hlocks := B.notSynchronized
  obtain ⟨rfl, hP, hK⟩ := hv
  have hl := lv_entry ([.ref (g 0), .int (nI k), .long (eL n x), .int (nI w)]) (n := 7) (Nat.le_of_ble_eq_true rfl)
  rw [lg_entry_eq]
  generalize (lg_sl ([.ref (g 0), .int (nI k), .long (eL n x), .int (nI w)]) ++ List.replicate (7 - (lg_sl ([.ref (g 0), .int (nI k), .long (eL n x), .int (nI w)])).length) Slot.unset).toArray = ls at hl ⊢
  have hl : lv_has ls 7 [(0, .ref (g 0)), (1, .int (nI k)), (2, .long (eL n x)), (4, .int (nI w))] := hl
  refine lv_iconst (v := 0) hx hb dG_lesserSteps_0 (by decide) ?_
  refine lv_istore hx hb dG_lesserSteps_1 hl (by decide) rfl (fun ls hl => ?_)
  replace hl : lv_has ls 7 [(5, .int (nI 0)), (0, .ref (g 0)), (1, .int (nI k)), (2, .long (eL n x)), (4, .int (nI w))] := hl
  refine lv_iload_n hx hb dG_lesserSteps_3 rfl (lv_at hl 2 rfl) ?_
  refine lv_istore hx hb dG_lesserSteps_4 hl (by decide) rfl (fun ls hl => ?_)
  replace hl : lv_has ls 7 [(6, .int (nI k)), (5, .int (nI 0)), (0, .ref (g 0)), (1, .int (nI k)), (2, .long (eL n x)), (4, .int (nI w))] := hl
  refine wl0 (σ := Nat) (I := fun d i ls => d + i = n ∧ k ≤ i ∧ lv_has ls 7 [(6, .int (nI i)), (5, .int (nI ((List.range i).countP (fun i => (T k i).isSome && decide (x i < w))))), (0, .ref (g 0)), (1, .int (nI k)), (2, .long (eL n x)), (4, .int (nI w))]) ?_ (n - k) k ls ⟨by omega, Nat.le_refl _, by rw [pg_les0 hT k]; exact hl⟩
  rintro d i ls ⟨hdk, hki, hl⟩ ih
  refine lv_iload hx hb dG_lesserSteps_6 (lv_at hl 0 rfl) ?_
  refine lv_aload_n hx hb dG_lesserSteps_8 rfl (lv_at hl 2 rfl) ?_
  refine va_get (ci := 0) (C := RG) (T := TG) (N := 6) hx hb ht inG hown hK hP 0 rfl rfl 0 (by decide) (ht _ tw_103) (fun _ h9 => h9) rfl dG_lesserSteps_9 ?_
  refine lv_icmp_ge (tgt := 49) hx hb dG_lesserSteps_12 rfl (fun h => ?_) (fun h => ?_)
  · have hk : i = n := by have := (nI_leI (by omega) (by omega)).mp h; omega
    subst hk
    refine lv_iload hx hb dG_lesserSteps_49 (lv_at hl 1 rfl) ?_
    exact W.iret hx hb hr (fun t h _ => ⟨_, rfl, rfl, h⟩) (fun q h => by cases h) dG_lesserSteps_51
  have hi : i < n := by
    rw [nI_leI (by omega) (by omega)] at h
    omega
  have hxi := hxP.1 i hi
  refine lv_aload_n hx hb dG_lesserSteps_15 rfl (lv_at hl 2 rfl) ?_
  refine lv_iload_n hx hb dG_lesserSteps_16 rfl (lv_at hl 3 rfl) ?_
  refine lv_iload hx hb dG_lesserSteps_17 (lv_at hl 0 rfl) ?_
  refine qV_l (ci := 0) (q0 := 0) (As := [.int (nI k), .int (nI i)]) (rest := []) ⟨hx, hb, hml, hown, ht⟩ (c_G_step l D z g n nc fS fM fL T hn hT hG k i hk hi) (cB 2 ht gG_step rfl tw_61 tw_402 (by decide +kernel) ⟨by decide, by decide⟩) tw_404 tw_14 hK (hP) rfl rfl rfl hl.1 rfl (Nat.le_of_ble_eq_true rfl) dG_lesserSteps_19 ⟨by decide, by decide⟩ (fun r19 h19 => ?_)
  subst h19
  refine W.ldc2 hx hb hown (ht _ tw_99) rfl dG_lesserSteps_22 ?_
  refine W.lcmp hx hb dG_lesserSteps_25 ?_
  refine lv_if_eq (tgt := 43) hx hb dG_lesserSteps_26 rfl (fun h2 => ?_) (fun h2 => ?_)
  · have h3 := (oL_none hT hn).mp ((lg_cmp_eq _ _).mp h2)
    refine lv_iinc (k := 0) (v := (nI (i + 1))) hx hb dG_lesserSteps_43 hl rfl (by exact nI_1 _) (by decide) rfl (fun ls hl => ?_)
    replace hl : lv_has ls 7 [(6, .int (nI (i + 1))), (5, .int (nI ((List.range i).countP (fun i => (T k i).isSome && decide (x i < w))))), (0, .ref (g 0)), (1, .int (nI k)), (2, .long (eL n x)), (4, .int (nI w))] := hl
    refine lv_goto (tgt := 6) hx hb dG_lesserSteps_46 rfl ?_
    refine ih (d - 1) (i + 1) ls (by omega) ⟨by omega, by omega, ?_⟩
    rw [pg_count_succ, h3]
    exact lv_sub hl [0, 1, 2, 3, 4, 5] rfl
  have h3 : T k i ≠ none := fun e => h2 ((lg_cmp_eq _ _).mpr ((oL_none hT hn).mpr e))
  have h4 : (T k i).isSome = true := by cases h5 : T k i with | none => exact absurd h5 h3 | some x => rfl
  refine lv_lload_n hx hb dG_lesserSteps_29 rfl (lv_at hl 4 rfl) ?_
  refine lv_iload hx hb dG_lesserSteps_30 (lv_at hl 0 rfl) ?_
  refine qS_i (As := [.long (eL n x), .int (nI i)]) (rest := []) ⟨hx, hb, hml, hown, ht⟩ (c_E_at l n i x hn hx9 hi) (cB 2 ht gE_at rfl tw_62 tw_401 (by decide +kernel) ⟨by decide, by decide⟩) tw_254 rfl hl.1 rfl (Nat.le_of_ble_eq_true rfl) dG_lesserSteps_32 ⟨by decide, by decide⟩ (fun r32 h32 => ?_)
  subst h32
  refine lv_iload hx hb dG_lesserSteps_35 (lv_at hl 5 rfl) ?_
  refine lv_icmp_ge (tgt := 43) hx hb dG_lesserSteps_37 rfl (fun h6 => ?_) (fun h6 => ?_)
  · have h7 := (nI_leI (by omega) (by omega)).mp h6
    refine lv_iinc (k := 0) (v := (nI (i + 1))) hx hb dG_lesserSteps_43 hl rfl (by exact nI_1 _) (by decide) rfl (fun ls hl => ?_)
    replace hl : lv_has ls 7 [(6, .int (nI (i + 1))), (5, .int (nI ((List.range i).countP (fun i => (T k i).isSome && decide (x i < w))))), (0, .ref (g 0)), (1, .int (nI k)), (2, .long (eL n x)), (4, .int (nI w))] := hl
    refine lv_goto (tgt := 6) hx hb dG_lesserSteps_46 rfl ?_
    refine ih (d - 1) (i + 1) ls (by omega) ⟨by omega, by omega, ?_⟩
    rw [pg_count_succ, h4, decide_eq_false (by omega)]
    exact lv_sub hl [0, 1, 2, 3, 4, 5] rfl
  have h7 : x i < w := by
    rw [nI_leI (by omega) (by omega)] at h6
    omega
  refine lv_iinc (k := 1) (v := (nI (((List.range i).countP (fun i => (T k i).isSome && decide (x i < w))) + 1))) hx hb dG_lesserSteps_40 hl rfl (by exact nI_1 _) (by decide) rfl (fun ls hl => ?_)
  replace hl : lv_has ls 7 [(5, .int (nI (((List.range i).countP (fun i => (T k i).isSome && decide (x i < w))) + 1))), (6, .int (nI i)), (0, .ref (g 0)), (1, .int (nI k)), (2, .long (eL n x)), (4, .int (nI w))] := hl
  refine lv_iinc (k := 1) (v := (nI (i + 1))) hx hb dG_lesserSteps_43 hl rfl (by exact nI_1 _) (by decide) rfl (fun ls hl => ?_)
  replace hl : lv_has ls 7 [(6, .int (nI (i + 1))), (5, .int (nI (((List.range i).countP (fun i => (T k i).isSome && decide (x i < w))) + 1))), (0, .ref (g 0)), (1, .int (nI k)), (2, .long (eL n x)), (4, .int (nI w))] := hl
  refine lv_goto (tgt := 6) hx hb dG_lesserSteps_46 rfl ?_
  refine ih (d - 1) (i + 1) ls (by omega) ⟨by omega, by omega, ?_⟩
  rw [pg_count_succ, h4, decide_eq_true h7]
  exact lv_sub hl [0, 1, 2, 3, 4, 5] rfl
/-- where the row of a table stands: place blocks of the row lie ahead of the block behind x -/
def pg_blk (n : Nat) (T : pg_T) (d k place : Nat) (x : pg_F) : Prop := ∀ t, t < pg_len n T d k → (pg_L n T n 0 pg_id)[place * pg_len n T d k + t]? = (pg_L n T d k x)[t]?
theorem pg_les_lt {n : Nat} {T : pg_T} {x s : pg_F} {k w : Nat} (hx : pg_P n x) (hw : w < n) (hs : T k (pg_inv n x w) = some s) : (List.range w).countP (fun v => (T k (pg_inv n x v)).isSome) < pg_w n T k := by
  have h1 : (List.range (w + 1)).countP (fun v => (T k (pg_inv n x v)).isSome) ≤ (List.range n).countP (fun v => (T k (pg_inv n x v)).isSome) := pg_count_le hw
  rw [pg_count_succ, if_pos (by rw [hs]; rfl), pg_count_inv hx (fun i => (T k i).isSome)] at h1
  exact h1
theorem pg_blk_s {n : Nat} {T : pg_T} (hT : pg_ok n T) {d k place w : Nat} {x s : pg_F} (hx : pg_P n x) (h : pg_blk n T (d + 1) k place x) (hw : w < n) (hs : T k (pg_inv n x w) = some s) : pg_blk n T d (k + 1) (place * pg_w n T k + (List.range w).countP (fun v => (T k (pg_inv n x v)).isSome)) (pg_mul s x) := by
  intro t ht
  have hl := pg_les_lt hx hw hs
  generalize hc : (List.range w).countP (fun v => (T k (pg_inv n x v)).isSome) = cw at hl ⊢
  have e1 : (place * pg_w n T k + cw) * pg_len n T d (k + 1) + t = place * pg_len n T (d + 1) k + (cw * pg_len n T d (k + 1) + t) := by
    show _ = place * (pg_w n T k * pg_len n T d (k + 1)) + _
    rw [Nat.add_mul, Nat.mul_assoc, Nat.add_assoc]
  have e2 : cw * pg_len n T d (k + 1) + t < pg_len n T (d + 1) k := by
    have h9 : (cw + 1) * pg_len n T d (k + 1) ≤ pg_w n T k * pg_len n T d (k + 1) := Nat.mul_le_mul_right _ hl
    rw [Nat.add_mul, Nat.one_mul] at h9
    show _ < pg_w n T k * pg_len n T d (k + 1)
    omega
  rw [e1, h _ e2, ← hc]
  exact pg_L_get hT hx hw hs ht
set_option maxHeartbeats 1000000 in
set_option maxRecDepth 100000 in
/-- placeOf: an element's place in the row, or -1 -/
theorem c_G_placeOf (l : Launch) (D : va_G) (z : Nat → ClassId) (g : Nat → Nat) (n nc : Nat) (fS fM : Nat → Int64) (fL : Nat → Int32) (T : pg_T) (hn : n ≤ 14) (hT : pg_ok n T) (hG : gS n T fS) (q : pg_F) (hqP : pg_P n q) : Met l yG_placeOf wG_placeOf (rmF 2) (va_Pc [.ref (g 0), .long (eL n q)] (fun U => va_P D vC (gW z g n nc fS fM fL) U.heap ∧ va_K D vC (tyL z) U)) (vp_Si (fun r => (∃ i : Nat, r = nI i ∧ (pg_L n T n 0 pg_id)[i]? = some q) ∨ (r = -1 ∧ ¬ pg_In T n 0 q))) 0 0 (fun _ => False) := by
  have hq9 := hqP.d4 (by omega : n ≤ 16)
  refine Met.ofW (cc := prog_5_method_16_code) (maxL := 10) (ret := (some .int)) (by decide) rfl ?_
  intro p e s m args below meth c s₁ B hml hv
  have hx := B.exec
  have hb := B.bytes
  have hr := B.returns
  have ht : ∀ w ∈ TB, w.before args s = true := fun w h => atoms_spec (ws := wG_placeOf) B.pre w (List.mem_cons_of_mem _ h)
  have hown : s.vm.findClass "PermutationDesk$Group" = some m.cls := findClass_of_methodNamed B.named
  have hlocks := B.notSynchronized
  obtain ⟨rfl, hP, hK⟩ := hv
  have hl := lv_entry ([.ref (g 0), .long (eL n q)]) (n := 10) (Nat.le_of_ble_eq_true rfl)
  rw [lg_entry_eq]
  generalize (lg_sl ([.ref (g 0), .long (eL n q)]) ++ List.replicate (10 - (lg_sl ([.ref (g 0), .long (eL n q)])).length) Slot.unset).toArray = ls at hl ⊢
  have hl : lv_has ls 10 [(0, .ref (g 0)), (1, .long (eL n q))] := hl
  refine lv_iconst (v := 0) hx hb dG_placeOf_0 (by decide) ?_
  refine lv_istore_n hx hb dG_placeOf_1 rfl hl (by decide) rfl (fun ls hl => ?_)
  replace hl : lv_has ls 10 [(3, .int (nI 0)), (0, .ref (g 0)), (1, .long (eL n q))] := hl
  refine lv_aload_n hx hb dG_placeOf_2 rfl (lv_at hl 1 rfl) ?_
  refine va_get (ci := 0) (C := RG) (T := TG) (N := 6) hx hb ht inG hown hK hP 0 rfl rfl 1 (by decide) (ht _ tw_104) (fun _ h9 => h9) rfl dG_placeOf_3 ?_
  refine lv_lstore hx hb dG_placeOf_6 hl (by decide) rfl (fun ls hl => ?_)
  replace hl : lv_has ls 10 [(4, .long (eL n pg_id)), (3, .int (nI 0)), (0, .ref (g 0)), (1, .long (eL n q))] := hl
  refine lv_iconst (v := 0) hx hb dG_placeOf_8 (by decide) ?_
  refine lv_istore hx hb dG_placeOf_9 hl (by decide) rfl (fun ls hl => ?_)
  replace hl : lv_has ls 10 [(6, .int (nI 0)), (4, .long (eL n pg_id)), (3, .int (nI 0)), (0, .ref (g 0)), (1, .long (eL n q))] := hl
  refine wl0 (σ := Nat × Nat × pg_F) (I := fun d st ls => d + st.1 = n ∧ pg_P n st.2.2 ∧ (∀ j, j < st.1 → st.2.2 j = q j) ∧ (pg_In T n 0 q → q ∈ pg_L n T d st.1 st.2.2) ∧ pg_blk n T d st.1 st.2.1 st.2.2 ∧ lv_has ls 10 [(6, .int (nI st.1)), (4, .long (eL n st.2.2)), (3, .int (nI st.2.1)), (0, .ref (g 0)), (1, .long (eL n q))]) ?_ n (0, 0, pg_id) ls ⟨rfl, pg_P_id n, fun j hj => absurd hj (Nat.not_lt_zero j), fun h => ((pg_L_row hT).2 q).mpr h, fun t _ => by rw [Nat.zero_mul, Nat.zero_add], hl⟩
  rintro d ⟨k, pl, x⟩ ls ⟨hdk, hxP, hxq, hmem, hblk, hl⟩ ih
  have hdk : d + k = n := hdk
  have hxP : pg_P n x := hxP
  have hxq : ∀ j, j < k → x j = q j := hxq
  have hmem : pg_In T n 0 q → q ∈ pg_L n T d k x := hmem
  have hblk : pg_blk n T d k pl x := hblk
  have hl : lv_has ls 10 [(6, .int (nI k)), (4, .long (eL n x)), (3, .int (nI pl)), (0, .ref (g 0)), (1, .long (eL n q))] := hl
  refine lv_iload hx hb dG_placeOf_11 (lv_at hl 0 rfl) ?_
  refine lv_aload_n hx hb dG_placeOf_13 rfl (lv_at hl 3 rfl) ?_
  refine va_get (ci := 0) (C := RG) (T := TG) (N := 6) hx hb ht inG hown hK hP 0 rfl rfl 0 (by decide) (ht _ tw_103) (fun _ h9 => h9) rfl dG_placeOf_14 ?_
  refine lv_icmp_ge (tgt := 100) hx hb dG_placeOf_17 rfl (fun h => ?_) (fun h => ?_)
  · have hk : k = n := by have := (nI_leI (by omega) (by omega)).mp h; omega
    have hd0 : d = 0 := by omega
    subst hd0
    have hxq2 : x = q := pg_ext hxP hqP (fun j hj => hxq j (by omega))
    subst hxq2
    refine lv_iload_n hx hb dG_placeOf_100 rfl (lv_at hl 2 rfl) ?_
    exact W.iret hx hb hr (fun t h _ => ⟨_, rfl, Or.inl ⟨pl, rfl, by
      have h9 := hblk 0 (by show 0 < 1; omega)
      have h9 : (pg_L n T n 0 pg_id)[pl * 1 + 0]? = [x][0]? := h9
      rw [Nat.mul_one, Nat.add_zero] at h9
      exact h9⟩, h⟩) (fun q h => by cases h) dG_placeOf_101
  have hk : k < n := by
    rw [nI_leI (by omega) (by omega)] at h
    omega
  obtain ⟨d, rfl⟩ : ∃ d', d = d' + 1 := ⟨d - 1, by omega⟩
  have hqk := hqP.1 k hk
  have hi9 := (pg_P_inv hxP).d4 (by omega : n ≤ 16)
  have hil := (pg_inv_lt hxP hqk).2
  refine lv_lload_n hx hb dG_placeOf_20 rfl (lv_at hl 4 rfl) ?_
  refine lv_iload hx hb dG_placeOf_21 (lv_at hl 0 rfl) ?_
  refine qS_i (As := [.long (eL n q), .int (nI k)]) (rest := []) ⟨hx, hb, hml, hown, ht⟩ (c_E_at l n k q hn hq9 hk) (cB 2 ht gE_at rfl tw_62 tw_401 (by decide +kernel) ⟨by decide, by decide⟩) tw_254 rfl hl.1 rfl (Nat.le_of_ble_eq_true rfl) dG_placeOf_23 ⟨by decide, by decide⟩ (fun r23 h23 => ?_)
  subst h23
  refine lv_istore hx hb dG_placeOf_26 hl (by decide) rfl (fun ls hl => ?_)
  replace hl : lv_has ls 10 [(7, .int (nI (q k))), (6, .int (nI k)), (4, .long (eL n x)), (3, .int (nI pl)), (0, .ref (g 0)), (1, .long (eL n q))] := hl
  refine lv_aload_n hx hb dG_placeOf_28 rfl (lv_at hl 4 rfl) ?_
  refine lv_iload hx hb dG_placeOf_29 (lv_at hl 1 rfl) ?_
  refine lv_lload hx hb dG_placeOf_31 (lv_at hl 2 rfl) ?_
  refine lv_aload_n hx hb dG_placeOf_33 rfl (lv_at hl 4 rfl) ?_
  refine va_get (ci := 0) (C := RG) (T := TG) (N := 6) hx hb ht inG hown hK hP 0 rfl rfl 0 (by decide) (ht _ tw_103) (fun _ h9 => h9) rfl dG_placeOf_34 ?_
  refine qS_l (As := [.long (eL n x), .int (nI n)]) (rest := [.int (nI k), .ref (g 0)]) ⟨hx, hb, hml, hown, ht⟩ (c_E_inverse l n x hn hxP) (cB 2 ht gE_inverse rfl tw_62 tw_410 (by decide +kernel) ⟨by decide, by decide⟩) tw_268 rfl hl.1 rfl (Nat.le_of_ble_eq_true rfl) dG_placeOf_37 ⟨by decide, by decide⟩ (fun r37 h37 => ?_)
  subst h37
  refine lv_iload hx hb dG_placeOf_40 (lv_at hl 0 rfl) ?_
  refine qS_i (As := [.long (eL n (pg_inv n x)), .int (nI (q k))]) (rest := [.int (nI k), .ref (g 0)]) ⟨hx, hb, hml, hown, ht⟩ (c_E_at l n (q k) (pg_inv n x) hn hi9 hqk) (cB 2 ht gE_at rfl tw_62 tw_401 (by decide +kernel) ⟨by decide, by decide⟩) tw_254 rfl hl.1 rfl (Nat.le_of_ble_eq_true rfl) dG_placeOf_42 ⟨by decide, by decide⟩ (fun r42 h42 => ?_)
  subst h42
  refine qV_l (ci := 0) (q0 := 0) (As := [.int (nI k), .int (nI (pg_inv n x (q k)))]) (rest := []) ⟨hx, hb, hml, hown, ht⟩ (c_G_step l D z g n nc fS fM fL T hn hT hG k (pg_inv n x (q k)) hk hil) (cB 2 ht gG_step rfl tw_61 tw_402 (by decide +kernel) ⟨by decide, by decide⟩) tw_404 tw_14 hK (hP) rfl rfl rfl hl.1 rfl (Nat.le_of_ble_eq_true rfl) dG_placeOf_45 ⟨by decide, by decide⟩ (fun r45 h45 => ?_)
  subst h45
  refine lv_lstore hx hb dG_placeOf_48 hl (by decide) rfl (fun ls hl => ?_)
  replace hl : lv_has ls 10 [(8, .long (oL n (T k (pg_inv n x (q k))))), (7, .int (nI (q k))), (6, .int (nI k)), (4, .long (eL n x)), (3, .int (nI pl)), (0, .ref (g 0)), (1, .long (eL n q))] := hl
  refine lv_lload hx hb dG_placeOf_50 (lv_at hl 0 rfl) ?_
  refine W.ldc2 hx hb hown (ht _ tw_99) rfl dG_placeOf_52 ?_
  refine W.lcmp hx hb dG_placeOf_55 ?_
  refine lv_if_ne (tgt := 61) hx hb dG_placeOf_56 rfl (fun h2 => ?_) (fun h2 => ?_)
  · have h4 : T k (pg_inv n x (q k)) ≠ none := fun e => h2 ((lg_cmp_eq _ _).mpr ((oL_none hT hn).mpr e))
    obtain ⟨st, hst⟩ : ∃ st, T k (pg_inv n x (q k)) = some st := by
      cases e : T k (pg_inv n x (q k)) with
      | none => exact absurd e h4
      | some st => exact ⟨st, rfl⟩
    have hstP := (hT.2 _ _ _ hst).2.2.2.1
    rw [hst] at hl
    have hl : lv_has ls 10 [(8, .long (eL n st)), (7, .int (nI (q k))), (6, .int (nI k)), (4, .long (eL n x)), (3, .int (nI pl)), (0, .ref (g 0)), (1, .long (eL n q))] := hl
    refine lv_iload_n hx hb dG_placeOf_61 rfl (lv_at hl 4 rfl) ?_
    refine lv_aload_n hx hb dG_placeOf_62 rfl (lv_at hl 5 rfl) ?_
    refine lv_iload hx hb dG_placeOf_63 (lv_at hl 2 rfl) ?_
    refine qV_i (ci := 0) (q0 := 0) (As := [.int (nI k)]) (rest := [.int (nI pl)]) ⟨hx, hb, hml, hown, ht⟩ (c_G_width l D z g n nc fS fM fL T hn hT hG k hk) (cB 1 ht gG_width rfl tw_61 tw_451 (by decide +kernel) ⟨by decide, by decide⟩) tw_453 tw_20 hK (hP) rfl rfl rfl hl.1 rfl (Nat.le_of_ble_eq_true rfl) dG_placeOf_65 ⟨by decide, by decide⟩ (fun r65 h65 => ?_)
    subst h65
    refine lv_imul hx hb dG_placeOf_68 ?_
    refine lv_aload_n hx hb dG_placeOf_69 rfl (lv_at hl 5 rfl) ?_
    refine lv_iload hx hb dG_placeOf_70 (lv_at hl 2 rfl) ?_
    refine lv_lload hx hb dG_placeOf_72 (lv_at hl 3 rfl) ?_
    refine lv_iload hx hb dG_placeOf_74 (lv_at hl 1 rfl) ?_
    refine qV_i (ci := 0) (q0 := 0) (As := [.int (nI k), .long (eL n x), .int (nI (q k))]) (rest := [.int (nI pl * nI (pg_w n T k))]) ⟨hx, hb, hml, hown, ht⟩ (c_G_lesserSteps l D z g n nc fS fM fL T hn hT hG k (q k) x hk hqk hxP) (cB 3 ht gG_lesserSteps rfl tw_61 tw_608 (by decide +kernel) ⟨by decide, by decide⟩) tw_610 tw_27 hK (hP) rfl rfl rfl hl.1 rfl (Nat.le_of_ble_eq_true rfl) dG_placeOf_76 ⟨by decide, by decide⟩ (fun r76 h76 => ?_)
    rw [pg_lesser hxP (fun i => (T k i).isSome) (by omega)] at h76
    subst h76
    refine lv_iadd hx hb dG_placeOf_79 ?_
    refine wti (x' := nI (pl * pg_w n T k + (List.range (q k)).countP (fun v => (T k (pg_inv n x v)).isSome))) (by rw [pk_mul, nI_add]) ?_
    refine lv_istore_n hx hb dG_placeOf_80 rfl hl (by decide) rfl (fun ls hl => ?_)
    replace hl : lv_has ls 10 [(3, .int (nI (pl * pg_w n T k + (List.range (q k)).countP (fun v => (T k (pg_inv n x v)).isSome)))), (8, .long (eL n st)), (7, .int (nI (q k))), (6, .int (nI k)), (4, .long (eL n x)), (0, .ref (g 0)), (1, .long (eL n q))] := hl
    refine lv_lload hx hb dG_placeOf_81 (lv_at hl 1 rfl) ?_
    refine lv_lload hx hb dG_placeOf_83 (lv_at hl 4 rfl) ?_
    refine lv_aload_n hx hb dG_placeOf_85 rfl (lv_at hl 5 rfl) ?_
    refine va_get (ci := 0) (C := RG) (T := TG) (N := 6) hx hb ht inG hown hK hP 0 rfl rfl 0 (by decide) (ht _ tw_103) (fun _ h9 => h9) rfl dG_placeOf_86 ?_
    refine qS_l (As := [.long (eL n st), .long (eL n x), .int (nI n)]) (rest := []) ⟨hx, hb, hml, hown, ht⟩ (c_E_product l n st x hn hstP hxP) (cB 3 ht gE_product rfl tw_62 tw_411 (by decide +kernel) ⟨by decide, by decide⟩) tw_265 rfl hl.1 rfl (Nat.le_of_ble_eq_true rfl) dG_placeOf_89 ⟨by decide, by decide⟩ (fun r89 h89 => ?_)
    subst h89
    refine lv_lstore hx hb dG_placeOf_92 hl (by decide) rfl (fun ls hl => ?_)
    replace hl : lv_has ls 10 [(4, .long (eL n (pg_mul st x))), (3, .int (nI (pl * pg_w n T k + (List.range (q k)).countP (fun v => (T k (pg_inv n x v)).isSome)))), (8, .long (eL n st)), (7, .int (nI (q k))), (6, .int (nI k)), (0, .ref (g 0)), (1, .long (eL n q))] := hl
    refine lv_iinc (k := 4) (v := (nI (k + 1))) hx hb dG_placeOf_94 hl rfl (by exact nI_1 _) (by decide) rfl (fun ls hl => ?_)
    replace hl : lv_has ls 10 [(6, .int (nI (k + 1))), (4, .long (eL n (pg_mul st x))), (3, .int (nI (pl * pg_w n T k + (List.range (q k)).countP (fun v => (T k (pg_inv n x v)).isSome)))), (8, .long (eL n st)), (7, .int (nI (q k))), (0, .ref (g 0)), (1, .long (eL n q))] := hl
    refine lv_goto (tgt := 11) hx hb dG_placeOf_97 rfl ?_
    obtain ⟨b1, b2, b3, -⟩ := pg_L_blk (d := d) hT hxP hqk hst
    exact ih d (k + 1, pl * pg_w n T k + (List.range (q k)).countP (fun v => (T k (pg_inv n x v)).isSome), pg_mul st x) ls (by omega) ⟨by show d + (k + 1) = n; omega, b1, fun j hj => by
      have hj : j < k + 1 := hj
      show pg_mul st x j = q j
      by_cases r : j = k
      · rw [r, b2]
      · rw [b3 j (by omega), hxq j (by omega)], fun hin => (pg_rank_step hT hxP hqP hk hst).mp (hmem hin), pg_blk_s hT hxP hblk hqk hst, lv_sub hl [0, 1, 2, 5, 6] rfl⟩
  · have h4 := (oL_none hT hn).mp ((lg_cmp_eq _ _).mp h2)
    refine lv_iconst (v := (-1)) hx hb dG_placeOf_59 (by decide) ?_
    exact W.iret hx hb hr (fun t h _ => ⟨_, rfl, Or.inr ⟨rfl, fun hin => pg_rank_none hT hxP h4 (hmem hin)⟩, h⟩) (fun q h => by cases h) dG_placeOf_60
theorem pg_len_le {n : Nat} {T : pg_T} (hT : pg_ok n T) : ∀ (j d k : Nat), k + d = n → j ≤ k → pg_len n T d k ≤ pg_len n T (n - (k - j)) (k - j) := by
  intro j
  induction j with
  | zero => intro d k h _; rw [show n - (k - 0) = d by omega]; exact Nat.le_refl _
  | succ j ih =>
    intro d k h hj
    have h1 := ih d k h (by omega)
    have h2 : n - (k - (j + 1)) = (n - (k - j)) + 1 := by omega
    have h3 : k - j = (k - (j + 1)) + 1 := by omega
    rw [h2]
    show _ ≤ pg_w n T (k - (j + 1)) * pg_len n T (n - (k - j)) (k - (j + 1) + 1)
    rw [← h3]
    have h4 := pg_w_pos hT (k := k - (j + 1)) (by omega)
    exact Nat.le_trans h1 (Nat.le_mul_of_pos_left _ h4)
theorem pg_len_top {n : Nat} {T : pg_T} (hT : pg_ok n T) {d k : Nat} (h : k + d = n) : pg_len n T d k ≤ pg_len n T n 0 := by
  have := pg_len_le hT k d k h (Nat.le_refl _)
  rw [Nat.sub_self, Nat.sub_zero] at this
  exact this
set_option maxHeartbeats 1000000 in
set_option maxRecDepth 100000 in
/-- atPlace: the element at a place of the row -/
theorem c_G_atPlace (l : Launch) (D : va_G) (z : Nat → ClassId) (g : Nat → Nat) (n nc : Nat) (fS fM : Nat → Int64) (fL : Nat → Int32) (T : pg_T) (hn : n ≤ 14) (hT : pg_ok n T) (hG : gS n T fS) (pl : Nat) (hpl : pl < pg_len n T n 0) (hsm : pg_len n T n 0 < 2 ^ 31) : Met l yG_atPlace wG_atPlace (rmF 3) (va_Pc [.ref (g 0), .int (nI pl)] (fun U => va_P D vC (gW z g n nc fS fM fL) U.heap ∧ va_K D vC (tyL z) U)) (vp_Sl (fun r => ∃ q : pg_F, r = eL n q ∧ (pg_L n T n 0 pg_id)[pl]? = some q)) 0 0 (fun _ => False) := by
  refine Met.ofW (cc := prog_5_method_18_code) (maxL := 12) (ret := (some .long)) (by decide) rfl ?_
  intro p e s m args below meth c s₁ B hml hv
  have hx := B.exec
  have hb := B.bytes
  have hr := B.returns
  have ht : ∀ w ∈ TB, w.before args s = true := fun w h => atoms_spec (ws := wG_atPlace) B.pre w (List.mem_cons_of_mem _ h)
  have hown : s.vm.findClass "PermutationDesk$Group" = some m.cls := findClass_of_methodNamed B.named
  have hlocks := B.notSynchronized
  obtain ⟨rfl, hP, hK⟩ := hv
  have hl := lv_entry ([.ref (g 0), .int (nI pl)]) (n := 12) (Nat.le_of_ble_eq_true rfl)
  rw [lg_entry_eq]
  generalize (lg_sl ([.ref (g 0), .int (nI pl)]) ++ List.replicate (12 - (lg_sl ([.ref (g 0), .int (nI pl)])).length) Slot.unset).toArray = ls at hl ⊢
  have hl : lv_has ls 12 [(0, .ref (g 0)), (1, .int (nI pl))] := hl
  refine lv_iload_n hx hb dG_atPlace_0 rfl (lv_at hl 1 rfl) ?_
  refine lv_istore_n hx hb dG_atPlace_1 rfl hl (by decide) rfl (fun ls hl => ?_)
  replace hl : lv_has ls 12 [(2, .int (nI pl)), (0, .ref (g 0)), (1, .int (nI pl))] := hl
  refine lv_aload_n hx hb dG_atPlace_2 rfl (lv_at hl 1 rfl) ?_
  refine va_get (ci := 0) (C := RG) (T := TG) (N := 6) hx hb ht inG hown hK hP 0 rfl rfl 1 (by decide) (ht _ tw_104) (fun _ h9 => h9) rfl dG_atPlace_3 ?_
  refine lv_lstore_n hx hb dG_atPlace_6 rfl hl (by decide) rfl (fun ls hl => ?_)
  replace hl : lv_has ls 12 [(3, .long (eL n pg_id)), (2, .int (nI pl)), (0, .ref (g 0)), (1, .int (nI pl))] := hl
  refine lv_iconst (v := 0) hx hb dG_atPlace_7 (by decide) ?_
  refine lv_istore hx hb dG_atPlace_8 hl (by decide) rfl (fun ls hl => ?_)
  replace hl : lv_has ls 12 [(5, .int (nI 0)), (3, .long (eL n pg_id)), (2, .int (nI pl)), (0, .ref (g 0)), (1, .int (nI pl))] := hl
  refine wl0 (σ := Nat × Nat × pg_F) (I := fun d st ls => d + st.1 = n ∧ pg_P n st.2.2 ∧ st.2.1 < pg_len n T d st.1 ∧ (pg_L n T n 0 pg_id)[pl]? = (pg_L n T d st.1 st.2.2)[st.2.1]? ∧ lv_has ls 12 [(5, .int (nI st.1)), (3, .long (eL n st.2.2)), (2, .int (nI st.2.1)), (0, .ref (g 0))]) ?_ n (0, pl, pg_id) ls ⟨rfl, pg_P_id n, hpl, rfl, lv_sub hl [0, 1, 2, 3] rfl⟩
  rintro d ⟨k, left, x⟩ ls ⟨hdk, hxP, hleft, hrow, hl⟩ ih
  have hdk : d + k = n := hdk
  have hxP : pg_P n x := hxP
  have hleft : left < pg_len n T d k := hleft
  have hrow : (pg_L n T n 0 pg_id)[pl]? = (pg_L n T d k x)[left]? := hrow
  have hl : lv_has ls 12 [(5, .int (nI k)), (3, .long (eL n x)), (2, .int (nI left)), (0, .ref (g 0))] := hl
  refine lv_iload hx hb dG_atPlace_10 (lv_at hl 0 rfl) ?_
  refine lv_aload_n hx hb dG_atPlace_12 rfl (lv_at hl 3 rfl) ?_
  refine va_get (ci := 0) (C := RG) (T := TG) (N := 6) hx hb ht inG hown hK hP 0 rfl rfl 0 (by decide) (ht _ tw_103) (fun _ h9 => h9) rfl dG_atPlace_13 ?_
  refine lv_icmp_ge (tgt := 139) hx hb dG_atPlace_16 rfl (fun h => ?_) (fun h => ?_)
  · have hk : k = n := by have := (nI_leI (by omega) (by omega)).mp h; omega
    have hd0 : d = 0 := by omega
    subst hd0
    have hleft : left < 1 := hleft
    have hl0 : left = 0 := by omega
    subst hl0
    refine lv_lload_n hx hb dG_atPlace_139 rfl (lv_at hl 1 rfl) ?_
    exact W.lret hx hb hr (fun t h _ => ⟨_, rfl, ⟨x, rfl, hrow⟩, h⟩) (fun q h => by cases h) dG_atPlace_140
  have hk : k < n := by
    rw [nI_leI (by omega) (by omega)] at h
    omega
  obtain ⟨d, rfl⟩ : ∃ d', d = d' + 1 := ⟨d - 1, by omega⟩
  have hi9 := (pg_P_inv hxP).d4 (by omega : n ≤ 16)
  have hlen1 := pg_len_top hT (d := d) (k := k + 1) (by omega)
  have hlen0 := pg_len_top hT (d := d + 1) (k := k) (by omega)
  have hleft2 : left < pg_w n T k * pg_len n T d (k + 1) := hleft
  refine lv_aload_n hx hb dG_atPlace_19 rfl (lv_at hl 3 rfl) ?_
  refine lv_iload hx hb dG_atPlace_20 (lv_at hl 0 rfl) ?_
  refine qV_i (ci := 0) (q0 := 0) (As := [.int (nI k)]) (rest := []) ⟨hx, hb, hml, hown, ht⟩ (c_G_sizeBelow l D z g n nc fS fM fL T hn hT hG (k + 1) (by omega) (nI k) (nI_1 k)) (cB 1 ht gG_sizeBelow rfl tw_61 tw_447 (by decide +kernel) ⟨by decide, by decide⟩) tw_449 tw_19 hK (hP) rfl rfl rfl hl.1 rfl (Nat.le_of_ble_eq_true rfl) dG_atPlace_22 ⟨by decide, by decide⟩ (fun r22 h22 => ?_)
  rw [show n - (k + 1) = d by omega] at h22
  subst h22
  refine lv_istore hx hb dG_atPlace_25 hl (by decide) rfl (fun ls hl => ?_)
  replace hl : lv_has ls 12 [(6, .int (nI (pg_len n T d (k + 1)))), (5, .int (nI k)), (3, .long (eL n x)), (2, .int (nI left)), (0, .ref (g 0))] := hl
  refine lv_lload_n hx hb dG_atPlace_27 rfl (lv_at hl 2 rfl) ?_
  refine lv_aload_n hx hb dG_atPlace_28 rfl (lv_at hl 4 rfl) ?_
  refine va_get (ci := 0) (C := RG) (T := TG) (N := 6) hx hb ht inG hown hK hP 0 rfl rfl 0 (by decide) (ht _ tw_103) (fun _ h9 => h9) rfl dG_atPlace_29 ?_
  refine qS_l (As := [.long (eL n x), .int (nI n)]) (rest := []) ⟨hx, hb, hml, hown, ht⟩ (c_E_inverse l n x hn hxP) (cB 2 ht gE_inverse rfl tw_62 tw_410 (by decide +kernel) ⟨by decide, by decide⟩) tw_268 rfl hl.1 rfl (Nat.le_of_ble_eq_true rfl) dG_atPlace_32 ⟨by decide, by decide⟩ (fun r32 h32 => ?_)
  subst h32
  refine lv_lstore hx hb dG_atPlace_35 hl (by decide) rfl (fun ls hl => ?_)
  replace hl : lv_has ls 12 [(7, .long (eL n (pg_inv n x))), (6, .int (nI (pg_len n T d (k + 1)))), (5, .int (nI k)), (3, .long (eL n x)), (2, .int (nI left)), (0, .ref (g 0))] := hl
  refine W.ldc2 hx hb hown (ht _ tw_99) rfl dG_atPlace_37 ?_
  refine lv_lstore hx hb dG_atPlace_40 hl (by decide) rfl (fun ls hl => ?_)
  replace hl : lv_has ls 12 [(9, .long (-1)), (7, .long (eL n (pg_inv n x))), (6, .int (nI (pg_len n T d (k + 1)))), (5, .int (nI k)), (3, .long (eL n x)), (2, .int (nI left)), (0, .ref (g 0))] := hl
  refine lv_iconst (v := 0) hx hb dG_atPlace_42 (by decide) ?_
  refine lv_istore hx hb dG_atPlace_43 hl (by decide) rfl (fun ls hl => ?_)
  replace hl : lv_has ls 12 [(11, .int (nI 0)), (9, .long (-1)), (7, .long (eL n (pg_inv n x))), (6, .int (nI (pg_len n T d (k + 1)))), (5, .int (nI k)), (3, .long (eL n x)), (2, .int (nI left)), (0, .ref (g 0))] := hl
  refine wl0 (σ := Nat × Nat × Option pg_F) (pc := 45) (I := fun d2 st ls => d2 + st.1 = n ∧ st.2.1 ≤ left ∧ (match st.2.2 with
    | none => left = (List.range st.1).countP (fun v => (T k (pg_inv n x v)).isSome) * pg_len n T d (k + 1) + st.2.1
    | some y => ∃ w, w < n ∧ T k (pg_inv n x w) = some y ∧ st.2.1 < pg_len n T d (k + 1) ∧ left = (List.range w).countP (fun v => (T k (pg_inv n x v)).isSome) * pg_len n T d (k + 1) + st.2.1) ∧ lv_has ls 12 [(11, .int (nI st.1)), (9, .long (oL n st.2.2)), (7, .long (eL n (pg_inv n x))), (6, .int (nI (pg_len n T d (k + 1)))), (5, .int (nI k)), (3, .long (eL n x)), (2, .int (nI st.2.1)), (0, .ref (g 0))]) ?_ n (0, left, none) ls ⟨rfl, Nat.le_refl _, by show left = 0 * _ + left; rw [Nat.zero_mul, Nat.zero_add], hl⟩
  clear hl
  rintro d2 ⟨w, lf, o⟩ ls ⟨hdw, hlf, hst, hl⟩ ih2
  have hdw : d2 + w = n := hdw
  have hlf : lf ≤ left := hlf
  have hl : lv_has ls 12 [(11, .int (nI w)), (9, .long (oL n o)), (7, .long (eL n (pg_inv n x))), (6, .int (nI (pg_len n T d (k + 1)))), (5, .int (nI k)), (3, .long (eL n x)), (2, .int (nI lf)), (0, .ref (g 0))] := hl
  cases o with
  | some y =>
    obtain ⟨w1, hw1, hy, hlt, hleq⟩ := hst
    have hlt : lf < pg_len n T d (k + 1) := hlt
    have hleq : left = (List.range w1).countP (fun v => (T k (pg_inv n x v)).isSome) * pg_len n T d (k + 1) + lf := hleq
    have hyP := (hT.2 _ _ _ hy).2.2.2.1
    have hne : ¬ lg_cmp (eL n y) (-1) = 0 := fun e => eL_ne hn (hyP.d4 (by omega)) ((lg_cmp_eq _ _).mp e)
    have hl : lv_has ls 12 [(11, .int (nI w)), (9, .long (eL n y)), (7, .long (eL n (pg_inv n x))), (6, .int (nI (pg_len n T d (k + 1)))), (5, .int (nI k)), (3, .long (eL n x)), (2, .int (nI lf)), (0, .ref (g 0))] := hl
    refine wj (σ := Unit) (pc := 109) (I := fun _ H locs ls => H = s.heap ∧ locs = [] ∧ lv_has ls 12 [(9, .long (eL n y)), (5, .int (nI k)), (3, .long (eL n x)), (2, .int (nI lf)), (0, .ref (g 0))]) ?_ (fun jn => ?_)
    · rintro - H locs ls ⟨rfl, rfl, hl⟩
      refine lv_lload hx hb dG_atPlace_109 (lv_at hl 0 rfl) ?_
      refine W.ldc2 hx hb hown (ht _ tw_99) rfl dG_atPlace_111 ?_
      refine W.lcmp hx hb dG_atPlace_114 ?_
      refine lv_if_ne (tgt := 122) hx hb dG_atPlace_115 rfl (fun h5 => ?_) (fun h5 => ?_)
      · skip
        refine lv_lload hx hb dG_atPlace_122 (lv_at hl 0 rfl) ?_
        refine lv_lload_n hx hb dG_atPlace_124 rfl (lv_at hl 2 rfl) ?_
        refine lv_aload_n hx hb dG_atPlace_125 rfl (lv_at hl 4 rfl) ?_
        refine va_get (ci := 0) (C := RG) (T := TG) (N := 6) hx hb ht inG hown hK hP 0 rfl rfl 0 (by decide) (ht _ tw_103) (fun _ h9 => h9) rfl dG_atPlace_126 ?_
        refine qS_l (As := [.long (eL n y), .long (eL n x), .int (nI n)]) (rest := []) ⟨hx, hb, hml, hown, ht⟩ (c_E_product l n y x hn hyP hxP) (cB 3 ht gE_product rfl tw_62 tw_411 (by decide +kernel) ⟨by decide, by decide⟩) tw_265 rfl hl.1 rfl (Nat.le_of_ble_eq_true rfl) dG_atPlace_129 ⟨by decide, by decide⟩ (fun r129 h129 => ?_)
        subst h129
        refine lv_lstore_n hx hb dG_atPlace_132 rfl hl (by decide) rfl (fun ls hl => ?_)
        replace hl : lv_has ls 12 [(3, .long (eL n (pg_mul y x))), (9, .long (eL n y)), (5, .int (nI k)), (2, .int (nI lf)), (0, .ref (g 0))] := hl
        refine lv_iinc (k := 2) (v := (nI (k + 1))) hx hb dG_atPlace_133 hl rfl (by exact nI_1 _) (by decide) rfl (fun ls hl => ?_)
        replace hl : lv_has ls 12 [(5, .int (nI (k + 1))), (3, .long (eL n (pg_mul y x))), (9, .long (eL n y)), (2, .int (nI lf)), (0, .ref (g 0))] := hl
        refine lv_goto (tgt := 10) hx hb dG_atPlace_136 rfl ?_
        refine ih d (k + 1, lf, pg_mul y x) ls (by omega) ⟨by show d + (k + 1) = n; omega, (show pg_P n (pg_mul y x) from pg_P_mul hyP hxP), hlt, ?_, lv_sub hl [0, 1, 3, 4] rfl⟩
        show (pg_L n T n 0 pg_id)[pl]? = (pg_L n T d (k + 1) (pg_mul y x))[lf]?
        rw [hrow, hleq]
        exact pg_L_get hT hxP hw1 hy hlt
      · exact absurd h5 hne
    · skip
      refine lv_iload hx hb dG_atPlace_45 (lv_at hl 0 rfl) ?_
      refine lv_aload_n hx hb dG_atPlace_47 rfl (lv_at hl 7 rfl) ?_
      refine va_get (ci := 0) (C := RG) (T := TG) (N := 6) hx hb ht inG hown hK hP 0 rfl rfl 0 (by decide) (ht _ tw_103) (fun _ h9 => h9) rfl dG_atPlace_48 ?_
      refine lv_icmp_ge (tgt := 109) hx hb dG_atPlace_51 rfl (fun h4 => ?_) (fun h4 => ?_)
      · exact jn () _ _ ls ⟨rfl, rfl, lv_sub hl [1, 4, 5, 6, 7] rfl⟩
      refine lv_lload hx hb dG_atPlace_54 (lv_at hl 1 rfl) ?_
      refine W.ldc2 hx hb hown (ht _ tw_99) rfl dG_atPlace_56 ?_
      refine W.lcmp hx hb dG_atPlace_59 ?_
      refine lv_if_ne (tgt := 109) hx hb dG_atPlace_60 rfl (fun h5 => ?_) (fun h5 => ?_)
      · exact jn () _ _ ls ⟨rfl, rfl, lv_sub hl [1, 4, 5, 6, 7] rfl⟩
      exact absurd h5 hne
  | none =>
    have hleq : left = (List.range w).countP (fun v => (T k (pg_inv n x v)).isSome) * pg_len n T d (k + 1) + lf := hst
    have hl : lv_has ls 12 [(11, .int (nI w)), (9, .long (-1)), (7, .long (eL n (pg_inv n x))), (6, .int (nI (pg_len n T d (k + 1)))), (5, .int (nI k)), (3, .long (eL n x)), (2, .int (nI lf)), (0, .ref (g 0))] := hl
    refine lv_iload hx hb dG_atPlace_45 (lv_at hl 0 rfl) ?_
    refine lv_aload_n hx hb dG_atPlace_47 rfl (lv_at hl 7 rfl) ?_
    refine va_get (ci := 0) (C := RG) (T := TG) (N := 6) hx hb ht inG hown hK hP 0 rfl rfl 0 (by decide) (ht _ tw_103) (fun _ h9 => h9) rfl dG_atPlace_48 ?_
    refine lv_icmp_ge (tgt := 109) hx hb dG_atPlace_51 rfl (fun h4 => ?_) (fun h4 => ?_)
    · have hwn : w = n := by have := (nI_leI (by omega) (by omega)).mp h4; omega
      subst hwn
      rw [pg_count_inv hxP (fun i => (T k i).isSome)] at hleq
      have hleq : left = pg_w w T k * pg_len w T d (k + 1) + lf := hleq
      omega
    have hwn : w < n := by
      rw [nI_leI (by omega) (by omega)] at h4
      omega
    have hil := (pg_inv_lt hxP hwn).2
    refine lv_lload hx hb dG_atPlace_54 (lv_at hl 1 rfl) ?_
    refine W.ldc2 hx hb hown (ht _ tw_99) rfl dG_atPlace_56 ?_
    refine W.lcmp hx hb dG_atPlace_59 ?_
    refine lv_if_ne (tgt := 109) hx hb dG_atPlace_60 rfl (fun h5 => ?_) (fun h5 => ?_)
    · exact absurd ((lg_cmp_eq _ _).mpr rfl) h5
    refine lv_aload_n hx hb dG_atPlace_63 rfl (lv_at hl 7 rfl) ?_
    refine lv_iload hx hb dG_atPlace_64 (lv_at hl 4 rfl) ?_
    refine lv_lload hx hb dG_atPlace_66 (lv_at hl 2 rfl) ?_
    refine lv_iload hx hb dG_atPlace_68 (lv_at hl 0 rfl) ?_
    refine qS_i (As := [.long (eL n (pg_inv n x)), .int (nI w)]) (rest := [.int (nI k), .ref (g 0)]) ⟨hx, hb, hml, hown, ht⟩ (c_E_at l n w (pg_inv n x) hn hi9 hwn) (cB 2 ht gE_at rfl tw_62 tw_401 (by decide +kernel) ⟨by decide, by decide⟩) tw_254 rfl hl.1 rfl (Nat.le_of_ble_eq_true rfl) dG_atPlace_70 ⟨by decide, by decide⟩ (fun r70 h70 => ?_)
    subst h70
    refine qV_l (ci := 0) (q0 := 0) (As := [.int (nI k), .int (nI (pg_inv n x w))]) (rest := []) ⟨hx, hb, hml, hown, ht⟩ (c_G_step l D z g n nc fS fM fL T hn hT hG k (pg_inv n x w) hk hil) (cB 2 ht gG_step rfl tw_61 tw_402 (by decide +kernel) ⟨by decide, by decide⟩) tw_404 tw_14 hK (hP) rfl rfl rfl hl.1 rfl (Nat.le_of_ble_eq_true rfl) dG_atPlace_73 ⟨by decide, by decide⟩ (fun r73 h73 => ?_)
    subst h73
    refine lv_lstore hx hb dG_atPlace_76 hl (by decide) rfl (fun ls hl => ?_)
    replace hl : lv_has ls 12 [(9, .long (oL n (T k (pg_inv n x w)))), (11, .int (nI w)), (7, .long (eL n (pg_inv n x))), (6, .int (nI (pg_len n T d (k + 1)))), (5, .int (nI k)), (3, .long (eL n x)), (2, .int (nI lf)), (0, .ref (g 0))] := hl
    refine lv_lload hx hb dG_atPlace_78 (lv_at hl 0 rfl) ?_
    refine W.ldc2 hx hb hown (ht _ tw_99) rfl dG_atPlace_80 ?_
    refine W.lcmp hx hb dG_atPlace_83 ?_
    refine lv_if_eq (tgt := 103) hx hb dG_atPlace_84 rfl (fun h6 => ?_) (fun h6 => ?_)
    · have h7 := (oL_none hT hn).mp ((lg_cmp_eq _ _).mp h6)
      refine lv_iinc (k := 1) (v := (nI (w + 1))) hx hb dG_atPlace_103 hl rfl (by exact nI_1 _) (by decide) rfl (fun ls hl => ?_)
      replace hl : lv_has ls 12 [(11, .int (nI (w + 1))), (9, .long (oL n (T k (pg_inv n x w)))), (7, .long (eL n (pg_inv n x))), (6, .int (nI (pg_len n T d (k + 1)))), (5, .int (nI k)), (3, .long (eL n x)), (2, .int (nI lf)), (0, .ref (g 0))] := hl
      refine lv_goto (tgt := 45) hx hb dG_atPlace_106 rfl ?_
      rw [h7] at hl
      refine ih2 (d2 - 1) (w + 1, lf, none) ls (by omega) ⟨by show d2 - 1 + (w + 1) = n; omega, hlf, ?_, lv_sub hl [0, 1, 2, 3, 4, 5, 6, 7] rfl⟩
      show left = (List.range (w + 1)).countP _ * _ + lf
      rw [pg_count_succ, h7]
      exact hleq
    have h7 : T k (pg_inv n x w) ≠ none := fun e => h6 ((lg_cmp_eq _ _).mpr ((oL_none hT hn).mpr e))
    obtain ⟨st, hst⟩ : ∃ st, T k (pg_inv n x w) = some st := by
      cases e : T k (pg_inv n x w) with
      | none => exact absurd e h7
      | some st => exact ⟨st, rfl⟩
    refine lv_iload_n hx hb dG_atPlace_87 rfl (lv_at hl 6 rfl) ?_
    refine lv_iload hx hb dG_atPlace_88 (lv_at hl 3 rfl) ?_
    refine lv_icmp_lt (tgt := 103) hx hb dG_atPlace_90 rfl (fun h8 => ?_) (fun h8 => ?_)
    · have h9 := (nI_ltI (by omega) (by omega)).mp h8
      refine lv_iinc (k := 1) (v := (nI (w + 1))) hx hb dG_atPlace_103 hl rfl (by exact nI_1 _) (by decide) rfl (fun ls hl => ?_)
      replace hl : lv_has ls 12 [(11, .int (nI (w + 1))), (9, .long (oL n (T k (pg_inv n x w)))), (7, .long (eL n (pg_inv n x))), (6, .int (nI (pg_len n T d (k + 1)))), (5, .int (nI k)), (3, .long (eL n x)), (2, .int (nI lf)), (0, .ref (g 0))] := hl
      refine lv_goto (tgt := 45) hx hb dG_atPlace_106 rfl ?_
      rw [hst] at hl
      exact ih2 (d2 - 1) (w + 1, lf, some st) ls (by omega) ⟨by show d2 - 1 + (w + 1) = n; omega, hlf, ⟨w, hwn, hst, h9, hleq⟩, lv_sub hl [0, 1, 2, 3, 4, 5, 6, 7] rfl⟩
    have h9 : pg_len n T d (k + 1) ≤ lf := by
      rw [nI_ltI (by omega) (by omega)] at h8
      omega
    refine lv_iload_n hx hb dG_atPlace_93 rfl (lv_at hl 6 rfl) ?_
    refine lv_iload hx hb dG_atPlace_94 (lv_at hl 3 rfl) ?_
    refine lv_isub hx hb dG_atPlace_96 ?_
    refine wti (x' := nI (lf - pg_len n T d (k + 1))) (pk_sub h9) ?_
    refine lv_istore_n hx hb dG_atPlace_97 rfl hl (by decide) rfl (fun ls hl => ?_)
    replace hl : lv_has ls 12 [(2, .int (nI (lf - pg_len n T d (k + 1)))), (9, .long (oL n (T k (pg_inv n x w)))), (11, .int (nI w)), (7, .long (eL n (pg_inv n x))), (6, .int (nI (pg_len n T d (k + 1)))), (5, .int (nI k)), (3, .long (eL n x)), (0, .ref (g 0))] := hl
    refine W.ldc2 hx hb hown (ht _ tw_99) rfl dG_atPlace_98 ?_
    refine lv_lstore hx hb dG_atPlace_101 hl (by decide) rfl (fun ls hl => ?_)
    replace hl : lv_has ls 12 [(9, .long (-1)), (2, .int (nI (lf - pg_len n T d (k + 1)))), (11, .int (nI w)), (7, .long (eL n (pg_inv n x))), (6, .int (nI (pg_len n T d (k + 1)))), (5, .int (nI k)), (3, .long (eL n x)), (0, .ref (g 0))] := hl
    refine lv_iinc (k := 2) (v := (nI (w + 1))) hx hb dG_atPlace_103 hl rfl (by exact nI_1 _) (by decide) rfl (fun ls hl => ?_)
    replace hl : lv_has ls 12 [(11, .int (nI (w + 1))), (9, .long (-1)), (2, .int (nI (lf - pg_len n T d (k + 1)))), (7, .long (eL n (pg_inv n x))), (6, .int (nI (pg_len n T d (k + 1)))), (5, .int (nI k)), (3, .long (eL n x)), (0, .ref (g 0))] := hl
    refine lv_goto (tgt := 45) hx hb dG_atPlace_106 rfl ?_
    refine ih2 (d2 - 1) (w + 1, lf - pg_len n T d (k + 1), none) ls (by omega) ⟨by show d2 - 1 + (w + 1) = n; omega, by show lf - _ ≤ left; omega, ?_, lv_sub hl [0, 1, 3, 4, 5, 6, 2, 7] rfl⟩
    show left = (List.range (w + 1)).countP _ * _ + (lf - pg_len n T d (k + 1))
    rw [pg_count_succ, if_pos (by rw [hst]; rfl), Nat.add_mul, Nat.one_mul, hleq]
    omega
