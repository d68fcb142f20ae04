/-! The reference: all elements in a row, the constructor. -/
def mUr (n k r left rest : Nat) (y : pg_F) : Prop := left < 2 ^ 7 ∧ (List.range n).countP left.testBit = n - k ∧ (∀ v, left.testBit v = true ↔ v < n ∧ ∀ j, j < k → y j ≠ v) ∧ rest < pg_fac (n - k) ∧ pg_P n y ∧ (pg_all n)[r]? = (pg_L n (pg_full n) (n - k) k y)[rest]?
theorem mUr_0 {n r : Nat} (hn : n ≤ 7) (hr : r < pg_fac n) : mUr n 0 r (2 ^ n - 1) r pg_id := by
  have h1 : 2 ^ n ≤ 2 ^ 7 := Nat.pow_le_pow_right (by decide) hn
  have h2 := Nat.two_pow_pos n
  refine ⟨by omega, ?_, fun v => ?_, hr, pg_P_id n, rfl⟩
  · rw [← pg_count_ge n 0]
    refine List.countP_congr (fun i hi => ?_)
    rw [List.mem_range] at hi
    rw [Nat.testBit_two_pow_sub_one, decide_eq_true hi, decide_eq_true (Nat.zero_le i)]
  · rw [Nat.testBit_two_pow_sub_one]
    exact ⟨fun h => ⟨of_decide_eq_true h, fun j hj => absurd hj (Nat.not_lt_zero j)⟩, fun h => decide_eq_true h.1⟩
theorem mUr_bit {left v w : Nat} (hl : left < 2 ^ 7) : (left &&& (2 ^ v ^^^ (2 ^ 32 - 1))).testBit w = (left.testBit w && !(decide (w = v))) := by
  rw [Nat.testBit_and, Nat.testBit_xor, Nat.testBit_two_pow, Nat.testBit_two_pow_sub_one]
  by_cases h : left.testBit w = true
  · have hw : w < 7 := Classical.byContradiction (fun q => by
      have := Nat.testBit_lt_two_pow (Nat.lt_of_lt_of_le hl (Nat.pow_le_pow_right (by decide) (by omega : 7 ≤ w)))
      rw [this] at h; cases h)
    rw [h, decide_eq_true (by omega : w < 32)]
    by_cases e : w = v
    · rw [e, decide_eq_true rfl]; rfl
    · rw [decide_eq_false e, decide_eq_false (fun q => e q.symm)]; rfl
  · have h' : left.testBit w = false := by
      cases q : left.testBit w with
      | false => rfl
      | true => exact absurd q h
    rw [h', Bool.false_and, Bool.false_and]
theorem mUr_s {n k r left rest v : Nat} {y : pg_F} (h : mUr n k r left rest y) (hk : k < n) (hv : v < n) (hb : left.testBit v = true) (hc : (List.range v).countP left.testBit = rest / pg_fac (n - 1 - k)) : ∃ y', mUr n (k + 1) r (left &&& (2 ^ v ^^^ (2 ^ 32 - 1))) (rest % pg_fac (n - 1 - k)) y' ∧ y' k = v ∧ ∀ j, j < k → y' j = y j := by
  obtain ⟨h1, h2, h3, h4, h5, h6⟩ := h
  have hpos := pg_fac_pos (n - 1 - k)
  obtain ⟨y', e1, e2, e3, e4⟩ := pg_all_step (n := n) (k := k) (d := n - 1 - k) (by omega) h5 (u := fun w => !(left.testBit w)) (fun w hw => by
    constructor
    · intro q
      refine Classical.byContradiction (fun q2 => ?_)
      have : left.testBit w = true := (h3 w).mpr ⟨hw, fun j hj e => q2 ⟨j, hj, e⟩⟩
      rw [this] at q; cases q
    · rintro ⟨j, hj, e⟩
      cases q : left.testBit w with
      | false => rfl
      | true => exact absurd e (((h3 w).mp q).2 j hj)) hv (by rw [hb]; rfl)
  have hfree : pg_free (fun w => !(left.testBit w)) v = rest / pg_fac (n - 1 - k) := by
    rw [← hc]
    unfold pg_free
    refine List.countP_congr (fun w _ => ?_)
    rw [Bool.not_not]
  refine ⟨y', ⟨Nat.lt_of_le_of_lt Nat.and_le_left h1, ?_, fun w => ?_, ?_, e1, ?_⟩, e2, e3⟩
  · have := pg_count1 (f := fun w => (left &&& (2 ^ v ^^^ (2 ^ 32 - 1))).testBit w) (g := left.testBit) (List.range n) v List.nodup_range (List.mem_range.mpr hv) (by rw [mUr_bit h1, decide_eq_true rfl, Bool.not_true, Bool.and_false]) hb (fun b hne => by rw [mUr_bit h1, decide_eq_false hne, Bool.not_false, Bool.and_true])
    rw [h2] at this
    have e9 : (List.range n).countP (fun w => (left &&& (2 ^ v ^^^ (2 ^ 32 - 1))).testBit w) = (List.range n).countP (left &&& (2 ^ v ^^^ (2 ^ 32 - 1))).testBit := rfl
    omega
  · rw [mUr_bit h1, Bool.and_eq_true, h3 w]
    constructor
    · rintro ⟨⟨q1, q2⟩, q3⟩
      refine ⟨q1, fun j hj => ?_⟩
      by_cases e : j = k
      · rw [e, e2]
        intro q4
        rw [decide_eq_true q4.symm] at q3
        cases q3
      · rw [e3 j (by omega)]; exact q2 j (by omega)
    · rintro ⟨q1, q2⟩
      refine ⟨⟨q1, fun j hj => by rw [← e3 j hj]; exact q2 j (by omega)⟩, ?_⟩
      have : w ≠ v := fun e => q2 k (by omega) (by rw [e2, e])
      rw [decide_eq_false this]; rfl
  · rw [show n - (k + 1) = n - 1 - k by omega]
    exact Nat.mod_lt _ hpos
  · have e5 := e4 (rest % pg_fac (n - 1 - k)) (Nat.mod_lt _ hpos)
    rw [hfree, Nat.mul_comm, Nat.div_add_mod] at e5
    rw [show n - (k + 1) = n - 1 - k by omega, ← e5, h6, show n - k = n - 1 - k + 1 by omega]
theorem mUr_n {n r left rest : Nat} {y : pg_F} (h : mUr n n r left rest y) : (pg_all n)[r]? = some y := by
  obtain ⟨-, -, -, h4, -, h6⟩ := h
  rw [Nat.sub_self] at h4 h6
  have : rest = 0 := by
    have : pg_fac 0 = 1 := rfl
    omega
  rw [this] at h6
  exact h6
set_option maxHeartbeats 4000000 in
set_option maxRecDepth 100000 in
theorem c_M_unranked (l : Launch) (D : va_G) (z : Nat → ClassId) (q0 q3 n r : Nat) (hn : n ≤ 7) (hr9 : r < pg_fac n) (v1 v2 v3 v4 v6 v7 v8 v9 v10 v11 v12 v13 v14 v15 v16 v17 v18 v19 v20 v21 v22 v23 v24 v25 : Value) : Met l yM_unranked wM_unranked (rmF 0) (va_Pc [.ref q0, .int (nI r)] (fun U => va_P D vC [(q0, .inr (5, [.int (nI n), v1, v2, v3, v4, .ref q3, v6, v7, v8, v9, v10, v11, v12, v13, v14, v15, v16, v17, v18, v19, v20, v21, v22, v23, v24, v25])), (q3, .inl (z 1, 8, .inl mFc))] U.heap ∧ va_K D vC (tyL z) U)) (vp_Si (fun w => ∃ x, (pg_all n)[r]? = some x ∧ w = eI n x)) 0 0 (fun _ => False) := by
  have hfac := pg_fac_le n hn
  have h2n : 2 ^ n ≤ 2 ^ 7 := Nat.pow_le_pow_right (by decide) hn
  have h2p := Nat.two_pow_pos n
  refine Met.ofW (cc := prog_9_method_2_code) (maxL := 8) (ret := (some .int)) (by decide) rfl ?_
  intro p e s m args below meth c s₁ B hml hv
  have hx := B.exec
  have hb := B.bytes
  have hr := B.returns
  have ht : ∀ w ∈ TB, w.before args s = true := fun w h => atoms_spec (ws := wM_unranked) B.pre w (List.mem_cons_of_mem _ h)
  have hown : s.vm.findClass "PermutationDeskModel" = some m.cls := findClass_of_methodNamed B.named
  have hlocks := B.notSynchronized
  obtain ⟨rfl, hP, hK⟩ := hv
  have hl := lv_entry ([.ref q0, .int (nI r)]) (n := 8) (Nat.le_of_ble_eq_true rfl)
  rw [lg_entry_eq]
  generalize (lg_sl ([.ref q0, .int (nI r)]) ++ List.replicate (8 - (lg_sl ([.ref q0, .int (nI r)])).length) Slot.unset).toArray = ls at hl ⊢
  have hl : lv_has ls 8 [(0, .ref q0), (1, .int (nI r))] := hl
  refine lv_iconst (v := 1) hx hb dM_unranked_0 (by decide) ?_
  refine lv_aload_n hx hb dM_unranked_1 rfl (lv_at hl 0 rfl) ?_
  refine va_get (ci := 5) (C := RM) (T := TM) (N := 26) hx hb ht inM hown hK hP 0 rfl rfl 0 (by decide) (ht _ tw_649) (fun _ h9 => h9) rfl dM_unranked_2 ?_
  refine lv_ishl hx hb dM_unranked_5 ?_
  refine lv_iconst (v := 1) hx hb dM_unranked_6 (by decide) ?_
  refine lv_isub hx hb dM_unranked_7 ?_
  refine wti (x' := nI (2 ^ n - 1)) (by rw [pe_shl1 (by omega)]; exact pk_sub (b := 1) h2p) ?_
  refine lv_istore_n hx hb dM_unranked_8 rfl hl (by decide) rfl (fun ls hl => ?_)
  replace hl : lv_has ls 8 [(2, .int (nI (2 ^ n - 1))), (0, .ref q0), (1, .int (nI r))] := hl
  refine lv_iload_n hx hb dM_unranked_9 rfl (lv_at hl 2 rfl) ?_
  refine lv_istore_n hx hb dM_unranked_10 rfl hl (by decide) rfl (fun ls hl => ?_)
  replace hl : lv_has ls 8 [(3, .int (nI r)), (2, .int (nI (2 ^ n - 1))), (0, .ref q0), (1, .int (nI r))] := hl
  refine lv_iconst (v := 0) hx hb dM_unranked_11 (by decide) ?_
  refine lv_topi (fun v12 e12 => ?_)
  refine lv_istore hx hb dM_unranked_12 hl (by decide) rfl (fun ls hl => ?_)
  replace hl : lv_has ls 8 [(4, .int v12), (3, .int (nI r)), (2, .int (nI (2 ^ n - 1))), (0, .ref q0), (1, .int (nI r))] := hl
  refine lv_iconst (v := 0) hx hb dM_unranked_14 (by decide) ?_
  refine lv_topi (fun v15 e15 => ?_)
  refine lv_istore hx hb dM_unranked_15 hl (by decide) rfl (fun ls hl => ?_)
  replace hl : lv_has ls 8 [(5, .int v15), (4, .int v12), (3, .int (nI r)), (2, .int (nI (2 ^ n - 1))), (0, .ref q0), (1, .int (nI r))] := hl
  refine wl0 (σ := Nat × Nat × Nat × pg_F) (pc := 17) (I := fun q st ls => q + st.1 = n ∧ mUr n st.1 r st.2.1 st.2.2.1 st.2.2.2 ∧ lv_has ls 8 [(5, .int (nI st.1)), (4, .int (eI n (pg_cut st.2.2.2 st.1))), (3, .int (nI st.2.2.1)), (2, .int (nI st.2.1)), (0, .ref q0), (1, .int (nI r))]) ?_ n (0, 2 ^ n - 1, r, pg_id) ls ⟨rfl, mUr_0 hn hr9, by
    show lv_has ls 8 [(5, .int (nI 0)), (4, .int (eI n (pg_cut pg_id 0))), (3, .int (nI r)), (2, .int (nI (2 ^ n - 1))), (0, .ref q0), (1, .int (nI r))]
    rw [pg_cut_0, ← eI_0]; rw [e12, e15] at hl; exact hl⟩
  rintro q ⟨k, lf, rs, y⟩ ls ⟨hdk, hur, hl⟩ ih
  replace hdk : q + k = n := hdk
  replace hur : mUr n k r lf rs y := hur
  replace hl : lv_has ls 8 [(5, .int (nI k)), (4, .int (eI n (pg_cut y k))), (3, .int (nI rs)), (2, .int (nI lf)), (0, .ref q0), (1, .int (nI r))] := hl
  have hlf := hur.1
  have hyP := hur.2.2.2.2.1
  have hrs := hur.2.2.2.1
  have hrs9 : rs < 2 ^ 31 := by
    have := pg_fac_le (n - k) (by omega)
    omega
  refine lv_iload hx hb dM_unranked_17 (lv_at hl 0 rfl) ?_
  refine lv_aload_n hx hb dM_unranked_19 rfl (lv_at hl 4 rfl) ?_
  refine va_get (ci := 5) (C := RM) (T := TM) (N := 26) hx hb ht inM hown hK hP 0 rfl rfl 0 (by decide) (ht _ tw_649) (fun _ h9 => h9) rfl dM_unranked_20 ?_
  refine lv_icmp_ge (tgt := 122) hx hb dM_unranked_23 rfl (fun h => ?_) (fun h => ?_)
  · have hk : k = n := by have := (nI_leI (by omega) (by omega)).mp h; omega
    subst hk
    refine lv_iload hx hb dM_unranked_122 (lv_at hl 1 rfl) ?_
    exact W.iret hx hb hr (fun t h _ => ⟨_, rfl, ⟨y, mUr_n hur, eI_cut k y⟩, h⟩) (fun q h => by cases h) dM_unranked_124
  have hk : k < n := by
    rw [nI_leI (by omega) (by omega)] at h
    omega
  have hfp := pg_fac_pos (n - 1 - k)
  have hfl := pg_fac_le (n - 1 - k) (by omega)
  have hne : ¬ nI (pg_fac (n - 1 - k)) = 0 := fun e => by
    have := (nI_eq (a := pg_fac (n - 1 - k)) (b := 0) (by omega) (by omega)).mp e
    omega
  refine lv_iload_n hx hb dM_unranked_26 rfl (lv_at hl 2 rfl) ?_
  refine lv_aload_n hx hb dM_unranked_27 rfl (lv_at hl 4 rfl) ?_
  refine va_get (ci := 5) (C := RM) (T := TM) (N := 26) hx hb ht inM hown hK hP 0 rfl rfl 5 (by decide) (ht _ tw_654) (fun _ h9 => h9) rfl dM_unranked_28 ?_
  refine lv_aload_n hx hb dM_unranked_31 rfl (lv_at hl 4 rfl) ?_
  refine va_get (ci := 5) (C := RM) (T := TM) (N := 26) hx hb ht inM hown hK hP 0 rfl rfl 0 (by decide) (ht _ tw_649) (fun _ h9 => h9) rfl dM_unranked_32 ?_
  refine lv_iconst (v := 1) hx hb dM_unranked_35 (by decide) ?_
  refine lv_isub hx hb dM_unranked_36 ?_
  refine lv_iload hx hb dM_unranked_37 (lv_at hl 0 rfl) ?_
  refine lv_isub hx hb dM_unranked_39 ?_
  refine wti (x' := nI (n - 1 - k)) (by rw [show nI n - 1 = nI (n - 1) from pk_sub (b := 1) (by omega), pk_sub (by omega)]) ?_
  refine va_iald hx hb hK hP 1 1 rfl rfl (vp_in_nI (N := 8) (by omega) (by decide)) dM_unranked_40 ?_
  refine wti (x' := nI (pg_fac (n - 1 - k))) (by rw [nI_clamp (by omega)]; exact if_pos (by omega)) ?_
  refine lv_idiv hx hb dM_unranked_41 hne ?_
  refine wti (x' := nI (rs / pg_fac (n - 1 - k))) (pk_div hrs9 hfp (by omega)) ?_
  refine lv_istore hx hb dM_unranked_42 hl (by decide) rfl (fun ls hl => ?_)
  replace hl : lv_has ls 8 [(6, .int (nI (rs / pg_fac (n - 1 - k)))), (5, .int (nI k)), (4, .int (eI n (pg_cut y k))), (3, .int (nI rs)), (2, .int (nI lf)), (0, .ref q0), (1, .int (nI r))] := hl
  refine lv_iload_n hx hb dM_unranked_44 rfl (lv_at hl 3 rfl) ?_
  refine lv_aload_n hx hb dM_unranked_45 rfl (lv_at hl 5 rfl) ?_
  refine va_get (ci := 5) (C := RM) (T := TM) (N := 26) hx hb ht inM hown hK hP 0 rfl rfl 5 (by decide) (ht _ tw_654) (fun _ h9 => h9) rfl dM_unranked_46 ?_
  refine lv_aload_n hx hb dM_unranked_49 rfl (lv_at hl 5 rfl) ?_
  refine va_get (ci := 5) (C := RM) (T := TM) (N := 26) hx hb ht inM hown hK hP 0 rfl rfl 0 (by decide) (ht _ tw_649) (fun _ h9 => h9) rfl dM_unranked_50 ?_
  refine lv_iconst (v := 1) hx hb dM_unranked_53 (by decide) ?_
  refine lv_isub hx hb dM_unranked_54 ?_
  refine lv_iload hx hb dM_unranked_55 (lv_at hl 1 rfl) ?_
  refine lv_isub hx hb dM_unranked_57 ?_
  refine wti (x' := nI (n - 1 - k)) (by rw [show nI n - 1 = nI (n - 1) from pk_sub (b := 1) (by omega), pk_sub (by omega)]) ?_
  refine va_iald hx hb hK hP 1 1 rfl rfl (vp_in_nI (N := 8) (by omega) (by decide)) dM_unranked_58 ?_
  refine wti (x' := nI (pg_fac (n - 1 - k))) (by rw [nI_clamp (by omega)]; exact if_pos (by omega)) ?_
  refine lv_irem hx hb dM_unranked_59 hne ?_
  refine wti (x' := nI (rs % pg_fac (n - 1 - k))) (pk_rem hrs9 hfp (by omega)) ?_
  refine lv_istore_n hx hb dM_unranked_60 rfl hl (by decide) rfl (fun ls hl => ?_)
  replace hl : lv_has ls 8 [(3, .int (nI (rs % pg_fac (n - 1 - k)))), (6, .int (nI (rs / pg_fac (n - 1 - k)))), (5, .int (nI k)), (4, .int (eI n (pg_cut y k))), (2, .int (nI lf)), (0, .ref q0), (1, .int (nI r))] := hl
  refine lv_iconst (v := 0) hx hb dM_unranked_61 (by decide) ?_
  refine lv_istore hx hb dM_unranked_62 hl (by decide) rfl (fun ls hl => ?_)
  replace hl : lv_has ls 8 [(7, .int (nI 0)), (3, .int (nI (rs % pg_fac (n - 1 - k)))), (6, .int (nI (rs / pg_fac (n - 1 - k)))), (5, .int (nI k)), (4, .int (eI n (pg_cut y k))), (2, .int (nI lf)), (0, .ref q0), (1, .int (nI r))] := hl
  have hskl : rs / pg_fac (n - 1 - k) < n - k := by
    refine Nat.div_lt_of_lt_mul ?_
    have e9 : pg_fac (n - k) = pg_fac (n - 1 - k) * (n - k) := by
      rw [show n - k = n - 1 - k + 1 by omega]; rfl
    omega
  generalize hsk : rs / pg_fac (n - 1 - k) = sk at hl hskl
  replace hl : lv_has ls 8 [(7, .int (nI 0)), (3, .int (nI (rs % pg_fac (n - 1 - k)))), (6, .int (nI sk)), (5, .int (nI k)), (4, .int (eI n (pg_cut y k))), (2, .int (nI lf)), (0, .ref q0), (1, .int (nI r))] := hl
  refine wl0 (σ := Nat) (pc := 64) (I := fun q v ls => q + v = n ∧ (List.range v).countP lf.testBit ≤ sk ∧ lv_has ls 8 [(7, .int (nI v)), (6, .int (nI (sk - (List.range v).countP lf.testBit))), (3, .int (nI (rs % pg_fac (n - 1 - k)))), (5, .int (nI k)), (4, .int (eI n (pg_cut y k))), (2, .int (nI lf)), (0, .ref q0), (1, .int (nI r))]) ?_ n 0 ls ⟨rfl, Nat.zero_le _, lv_sub hl [0, 2, 1, 3, 4, 5, 6, 7] rfl⟩
  clear hl
  rintro q2 v ls ⟨hdv, hcv, hl⟩ ih2
  have hv : v < n := by
    refine Classical.byContradiction (fun q9 => ?_)
    have e9 : v = n := by omega
    rw [e9, hur.2.1] at hcv
    omega
  refine wj (σ := Unit) (pc := 78) (I := fun _ H1 locs1 ls1 => H1 = s.heap ∧ locs1 = [] ∧ ls = ls1 ∧ (List.range (v + 1)).countP lf.testBit ≤ sk) ?_ (fun jn => ?_)
  · rintro - H1 locs1 ls1 ⟨rfl, rfl, rfl, hc2⟩
    refine lv_iload hx hb dM_unranked_78 (lv_at hl 1 rfl) ?_
    refine lv_iload_n hx hb dM_unranked_80 rfl (lv_at hl 5 rfl) ?_
    refine lv_iload hx hb dM_unranked_81 (lv_at hl 0 rfl) ?_
    refine lv_ishr hx hb dM_unranked_83 ?_
    refine lv_iconst (v := 1) hx hb dM_unranked_84 (by decide) ?_
    refine lv_iand hx hb dM_unranked_85 ?_
    refine wti (x' := nI (lf / 2 ^ v % 2)) (pe_bitS (by omega) (by omega)) ?_
    refine lv_isub hx hb dM_unranked_86 ?_
    have hbv : (List.range (v + 1)).countP lf.testBit = (List.range v).countP lf.testBit + lf / 2 ^ v % 2 := by
      rw [pg_count_succ]
      cases e9 : lf.testBit v with
      | true =>
        rw [if_pos rfl]
        have := pe_bit1.mpr e9
        have := (nI_eq (a := lf / 2 ^ v % 2) (b := 1) (by omega) (by omega)).mp this
        omega
      | false =>
        rw [if_neg (by decide)]
        have h8 : lf / 2 ^ v % 2 ≠ 1 := fun q8 => by
          have := pe_bit1.mp (by rw [q8]; rfl : nI (lf / 2 ^ v % 2) = 1)
          rw [e9] at this; cases this
        omega
    refine wti (x' := nI (sk - (List.range (v + 1)).countP lf.testBit)) (by rw [pk_sub (by omega), hbv, Nat.sub_sub]) ?_
    refine lv_istore hx hb dM_unranked_87 hl (by decide) rfl (fun ls hl => ?_)
    replace hl : lv_has ls 8 [(6, .int (nI (sk - (List.range (v + 1)).countP lf.testBit))), (7, .int (nI v)), (3, .int (nI (rs % pg_fac (n - 1 - k)))), (5, .int (nI k)), (4, .int (eI n (pg_cut y k))), (2, .int (nI lf)), (0, .ref q0), (1, .int (nI r))] := hl
    refine lv_iinc (k := 1) (v := (nI (v + 1))) hx hb dM_unranked_89 hl rfl (by exact nI_1 _) (by decide) rfl (fun ls hl => ?_)
    replace hl : lv_has ls 8 [(7, .int (nI (v + 1))), (6, .int (nI (sk - (List.range (v + 1)).countP lf.testBit))), (3, .int (nI (rs % pg_fac (n - 1 - k)))), (5, .int (nI k)), (4, .int (eI n (pg_cut y k))), (2, .int (nI lf)), (0, .ref q0), (1, .int (nI r))] := hl
    refine lv_goto (tgt := 64) hx hb dM_unranked_92 rfl ?_
    exact ih2 (q2 - 1) (v + 1) ls (by omega) ⟨by omega, hc2, lv_sub hl [0, 1, 2, 3, 4, 5, 6, 7] rfl⟩
  refine lv_iload_n hx hb dM_unranked_64 rfl (lv_at hl 5 rfl) ?_
  refine lv_iload hx hb dM_unranked_65 (lv_at hl 0 rfl) ?_
  refine lv_ishr hx hb dM_unranked_67 ?_
  refine lv_iconst (v := 1) hx hb dM_unranked_68 (by decide) ?_
  refine lv_iand hx hb dM_unranked_69 ?_
  refine wti (x' := nI (lf / 2 ^ v % 2)) (pe_bitS (by omega) (by omega)) ?_
  refine lv_if_eq (tgt := 78) hx hb dM_unranked_70 rfl (fun h70 => ?_) (fun h70 => ?_)
  · have hb0 : lf.testBit v = false := by
      cases e9 : lf.testBit v with
      | false => rfl
      | true => rw [pe_bit1.mpr e9] at h70; exact absurd h70 (by decide)
    exact jn () _ _ ls ⟨rfl, rfl, rfl, by rw [pg_count_succ, hb0]; exact hcv⟩
  have hb1 : lf.testBit v = true := by
    cases e9 : lf.testBit v with
    | true => rfl
    | false =>
      refine absurd ?_ h70
      have h8 : lf / 2 ^ v % 2 ≠ 1 := fun q8 => by
        have := pe_bit1.mp (by rw [q8]; rfl : nI (lf / 2 ^ v % 2) = 1)
        rw [e9] at this; cases this
      rw [show lf / 2 ^ v % 2 = 0 by omega]
      rfl
  refine lv_iload hx hb dM_unranked_73 (lv_at hl 1 rfl) ?_
  refine lv_if_le (tgt := 95) hx hb dM_unranked_75 rfl (fun h75 => ?_) (fun h75 => ?_)
  rotate_left
  · refine jn () _ _ ls ⟨rfl, rfl, rfl, ?_⟩
    rw [pg_count_succ, hb1, if_pos rfl]
    have : ¬ sk - (List.range v).countP lf.testBit ≤ 0 := fun q8 => h75 ((nI_leI (a := sk - (List.range v).countP lf.testBit) (b := 0) (by omega) (by omega)).mpr q8)
    omega
  clear jn
  have hc0 : (List.range v).countP lf.testBit = sk := by
    have := (nI_leI (a := sk - (List.range v).countP lf.testBit) (b := 0) (by omega) (by omega)).mp h75
    omega
  obtain ⟨y', hur', hyk, hyj⟩ := mUr_s hur hk hv hb1 (by rw [hc0, hsk])
  have hy'P := hur'.2.2.2.2.1
  refine lv_iload_n hx hb dM_unranked_95 rfl (lv_at hl 5 rfl) ?_
  refine lv_iconst (v := 1) hx hb dM_unranked_96 (by decide) ?_
  refine lv_iload hx hb dM_unranked_97 (lv_at hl 0 rfl) ?_
  refine lv_ishl hx hb dM_unranked_99 ?_
  refine lv_iconst (v := (-1)) hx hb dM_unranked_100 (by decide) ?_
  refine lv_ixor hx hb dM_unranked_101 ?_
  refine lv_iand hx hb dM_unranked_102 ?_
  refine wti (x' := nI (lf &&& (2 ^ v ^^^ (2 ^ 32 - 1)))) (by rw [pe_shl1 (by omega), show (-1 : Int32) = nI (2 ^ 32 - 1) from rfl, pe_xor, pe_and]) ?_
  refine lv_istore_n hx hb dM_unranked_103 rfl hl (by decide) rfl (fun ls hl => ?_)
  replace hl : lv_has ls 8 [(2, .int (nI (lf &&& (2 ^ v ^^^ (2 ^ 32 - 1))))), (7, .int (nI v)), (6, .int (nI (sk - (List.range v).countP lf.testBit))), (3, .int (nI (rs % pg_fac (n - 1 - k)))), (5, .int (nI k)), (4, .int (eI n (pg_cut y k))), (0, .ref q0), (1, .int (nI r))] := hl
  refine lv_iload hx hb dM_unranked_104 (lv_at hl 5 rfl) ?_
  refine lv_iload hx hb dM_unranked_106 (lv_at hl 1 rfl) ?_
  refine lv_iconst (v := 3) hx hb dM_unranked_108 (by decide) ?_
  refine lv_iload hx hb dM_unranked_109 (lv_at hl 4 rfl) ?_
  refine lv_imul hx hb dM_unranked_111 ?_
  refine lv_ishl hx hb dM_unranked_112 ?_
  refine lv_ior hx hb dM_unranked_113 ?_
  have hcut : eI n (pg_cut y k) = eI n (pg_cut y' k) := eI_congr (fun j hj => by
    unfold pg_cut
    by_cases e : j < k
    · rw [if_pos e, if_pos e, hyj j e]
    · rw [if_neg e, if_neg e])
  refine wti (x' := eI n (pg_cut y' (k + 1))) (by rw [show (3 : Int32) * nI k = nI (3 * k) from pk_mul 3 k, hcut, ← pg_cut_s, hyk]; exact eI_or hn (pg_cut_d3 (hy'P.d3 (by omega)) k) hk (pg_cut_k _ _) (by omega)) ?_
  refine lv_istore hx hb dM_unranked_114 hl (by decide) rfl (fun ls hl => ?_)
  replace hl : lv_has ls 8 [(4, .int (eI n (pg_cut y' (k + 1)))), (2, .int (nI (lf &&& (2 ^ v ^^^ (2 ^ 32 - 1))))), (7, .int (nI v)), (6, .int (nI (sk - (List.range v).countP lf.testBit))), (3, .int (nI (rs % pg_fac (n - 1 - k)))), (5, .int (nI k)), (0, .ref q0), (1, .int (nI r))] := hl
  refine lv_iinc (k := 5) (v := (nI (k + 1))) hx hb dM_unranked_116 hl rfl (by exact nI_1 _) (by decide) rfl (fun ls hl => ?_)
  replace hl : lv_has ls 8 [(5, .int (nI (k + 1))), (4, .int (eI n (pg_cut y' (k + 1)))), (2, .int (nI (lf &&& (2 ^ v ^^^ (2 ^ 32 - 1))))), (7, .int (nI v)), (6, .int (nI (sk - (List.range v).countP lf.testBit))), (3, .int (nI (rs % pg_fac (n - 1 - k)))), (0, .ref q0), (1, .int (nI r))] := hl
  refine lv_goto (tgt := 17) hx hb dM_unranked_119 rfl ?_
  exact ih (q - 1) (k + 1, lf &&& (2 ^ v ^^^ (2 ^ 32 - 1)), rs % pg_fac (n - 1 - k), y') ls (by omega) ⟨by show q - 1 + (k + 1) = n; omega, hur', lv_sub hl [0, 1, 5, 2, 6, 7] rfl⟩
theorem mn_of (x : Int32) : ∃ n : Nat, 1 ≤ n ∧ n ≤ 7 ∧ (if (7 : Int32) < 1 + (x &&& 7) then 7 else 1 + (x &&& 7)) = nI n ∧ (x &&& 7 = 7 → n = 7) ∧ (¬ x &&& 7 = 7 → 1 + (x &&& 7) = nI n) := by
  obtain ⟨m, hm, rfl⟩ := i_any x
  have e : nI m &&& 7 = nI (m % 8) := pe_mask32 m 3 (by decide)
  rw [e]
  have h8 : m % 8 < 8 := Nat.mod_lt _ (by decide)
  generalize m % 8 = k at h8
  have key : ∀ k, k < 8 → ∃ n : Nat, 1 ≤ n ∧ n ≤ 7 ∧ (if (7 : Int32) < 1 + nI k then 7 else 1 + nI k) = nI n ∧ (nI k = 7 → n = 7) ∧ (¬ nI k = 7 → 1 + nI k = nI n) := by
    intro k hk
    refine ⟨if k = 7 then 7 else 1 + k, ?_⟩
    revert k
    decide +kernel
  exact key k h8
theorem m_ones : ∀ k, k < 128 → pg_cb 7 (k / 2) + k % 2 = pg_cb 7 k := by decide +kernel
abbrev rmM : Room := { frames := 1, cells := 16, slots := 15816, locals := 40 }
set_option maxHeartbeats 8000000 in
set_option maxRecDepth 100000 in
theorem c_M_init (l : Launch) (D : va_G) (z : Nat → ClassId) (sz q0 n : Nat) (x : Int32) (h1n : 1 ≤ n) (hn : n ≤ 7) (hx7 : x &&& 7 = 7 → n = 7) (hx8 : ¬ x &&& 7 = 7 → 1 + (x &&& 7) = nI n) : Met l yM_init wM_init rmM (va_Pc [.ref q0, .int x] (fun U => U.heap.size = sz ∧ va_P D vC [(q0, .inr (5, [.int 0, .int 0, .int 0, .null, .null, .null, .int 0, .null, .int 0, .null, .null, .null, .null, .null, .null, .int 0, .null, .null, .int 0, .int 0, .int 0, .int 0, .null, .null, .null, .null]))] U.heap ∧ va_K D vC (tyL z) U ∧ va_D (fun _ => True) [(q0, .inr (5, [.int 0, .int 0, .int 0, .null, .null, .null, .int 0, .null, .int 0, .null, .null, .null, .null, .null, .null, .int 0, .null, .null, .int 0, .int 0, .int 0, .int 0, .null, .null, .null, .null]))])) (va_Qv (fun u : (Nat → Nat) × mSt => u.1 0 = q0 ∧ mRp n ((fun _ => 0), 0, (fun _ => pg_id), 0, (fun _ => none), (fun _ x => x = pg_id)) u.2) (fun u t => va_P D vC (mWu z u.1 n u.2) t.heap ∧ va_D (va_A [(q0, .inr (5, [.int 0, .int 0, .int 0, .null, .null, .null, .int 0, .null, .int 0, .null, .null, .null, .null, .null, .null, .int 0, .null, .null, .int 0, .int 0, .int 0, .int 0, .null, .null, .null, .null]))] sz) (mWu z u.1 n u.2)) (va_A [(q0, .inr (5, [.int 0, .int 0, .int 0, .null, .null, .null, .int 0, .null, .int 0, .null, .null, .null, .null, .null, .null, .int 0, .null, .null, .int 0, .int 0, .int 0, .int 0, .null, .null, .null, .null]))] sz)) 16 15816 (va_A [(q0, .inr (5, [.int 0, .int 0, .int 0, .null, .null, .null, .int 0, .null, .int 0, .null, .null, .null, .null, .null, .null, .int 0, .null, .null, .int 0, .int 0, .int 0, .int 0, .null, .null, .null, .null]))] sz) := by
  have hfac := pg_fac_le n hn
  refine Met.ofW (cc := prog_9_method_1_code) (maxL := 3) (ret := none) (by decide) rfl ?_
  intro p e s m args below meth c s₁ B hml hv
  have hx := B.exec
  have hb := B.bytes
  have hr := B.returns
  have ht : ∀ w ∈ TB, w.before args s = true := fun w h => atoms_spec (ws := wM_init) B.pre w (List.mem_cons_of_mem _ h)
  have hown : s.vm.findClass "PermutationDeskModel" = some m.cls := findClass_of_methodNamed B.named
  have hlocks := B.notSynchronized
  have hin : meth.name = "<init>" := (name_of_methodNamed B.named B.method).1
  obtain ⟨rfl, hsz, hP, hK, hD0⟩ := hv
  subst hsz
  have hD := hD0.self (sz := s.heap.size)
  generalize hAe : va_A ([(q0, .inr (5, [.int 0, .int 0, .int 0, .null, .null, .null, .int 0, .null, .int 0, .null, .null, .null, .null, .null, .null, .int 0, .null, .null, .int 0, .int 0, .int 0, .int 0, .null, .null, .null, .null]))]) s.heap.size = A at hD ⊢
  have hA : ∀ q : Nat, s.heap.size ≤ q → A q := fun q h => by rw [← hAe]; exact Or.inr h
  have hS : va_S A s.heap s.heap [] := va_S.rf
  have hl := lv_entry ([.ref q0, .int x]) (n := 3) (Nat.le_of_ble_eq_true rfl)
  rw [lg_entry_eq]
  generalize (lg_sl ([.ref q0, .int x]) ++ List.replicate (3 - (lg_sl ([.ref q0, .int x])).length) Slot.unset).toArray = ls at hl ⊢
  have hl : lv_has ls 3 [(0, .ref q0), (1, .int x)] := hl
  refine lv_aload_n hx hb dM_init_0 rfl (lv_at hl 0 rfl) ?_
  refine W.objInit hx hb hown (ht _ tw_644) (ht _ tw_80) (ht _ tw_81) rfl (by rw [hml]; exact hl.1) rfl dM_init_1 (Nat.le_of_ble_eq_true rfl) (Nat.le_of_ble_eq_true rfl) ?_
  refine lv_aload_n hx hb dM_init_4 rfl (lv_at hl 0 rfl) ?_
  refine lv_sipush (v := 5040) hx hb dM_init_5 (by decide) ?_
  refine qNewa (atype := .int) (t0 := 1) (N9 := 5040) (a0 := (5040, .inl (fun _ => 0))) hx hb (ht _ tw_124) rfl hK hP hD hS hA rfl (fun _ h9 => h9) (fun _ => rfl) (by decide) rfl (by decide) (by decide) (by decide) dM_init_8 (fun q8 H hP hD hS => ?_)
  refine va_putF (ci := 5) (ty := .array .int) (C := RM) (T := TM) (N := 26) hx hb ht inM tyM tyM_ok nmM hown hK hP hD hS 0 rfl rfl 3 (by decide) (ht _ tw_652) (fun _ h9 => h9) rfl hin rfl (by decide +kernel) rfl rfl (Nat.le_of_ble_eq_true rfl) dM_init_10 (fun H locs hP hD hS => ?_)
  replace hP : va_P D vC ([(q0, .inr (5, [.int 0, .int 0, .int 0, .ref q8, .null, .null, .int 0, .null, .int 0, .null, .null, .null, .null, .null, .null, .int 0, .null, .null, .int 0, .int 0, .int 0, .int 0, .null, .null, .null, .null])), (q8, .inl (z 1, 5040, .inl (fun _ => 0)))]) H := hP
  replace hD : va_D A ([(q0, .inr (5, [.int 0, .int 0, .int 0, .ref q8, .null, .null, .int 0, .null, .int 0, .null, .null, .null, .null, .null, .null, .int 0, .null, .null, .int 0, .int 0, .int 0, .int 0, .null, .null, .null, .null])), (q8, .inl (z 1, 5040, .inl (fun _ => 0)))]) := hD
  refine lv_aload_n hx hb dM_init_13 rfl (lv_at hl 0 rfl) ?_
  refine lv_sipush (v := 128) hx hb dM_init_14 (by decide) ?_
  refine qNewa (atype := .int) (t0 := 1) (N9 := 128) (a0 := (128, .inl (fun _ => 0))) hx hb (ht _ tw_124) rfl hK hP hD hS hA rfl (fun _ h9 => h9) (fun _ => rfl) (by decide) rfl (by decide) (by decide) (by decide) dM_init_17 (fun q17 H hP hD hS => ?_)
  refine va_putF (ci := 5) (ty := .array .int) (C := RM) (T := TM) (N := 26) hx hb ht inM tyM tyM_ok nmM hown hK hP hD hS 0 rfl rfl 4 (by decide) (ht _ tw_653) (fun _ h9 => h9) rfl hin rfl (by decide +kernel) rfl rfl (Nat.le_of_ble_eq_true rfl) dM_init_19 (fun H locs hP hD hS => ?_)
  replace hP : va_P D vC ([(q0, .inr (5, [.int 0, .int 0, .int 0, .ref q8, .ref q17, .null, .int 0, .null, .int 0, .null, .null, .null, .null, .null, .null, .int 0, .null, .null, .int 0, .int 0, .int 0, .int 0, .null, .null, .null, .null])), (q8, .inl (z 1, 5040, .inl (fun _ => 0))), (q17, .inl (z 1, 128, .inl (fun _ => 0)))]) H := hP
  replace hD : va_D A ([(q0, .inr (5, [.int 0, .int 0, .int 0, .ref q8, .ref q17, .null, .int 0, .null, .int 0, .null, .null, .null, .null, .null, .null, .int 0, .null, .null, .int 0, .int 0, .int 0, .int 0, .null, .null, .null, .null])), (q8, .inl (z 1, 5040, .inl (fun _ => 0))), (q17, .inl (z 1, 128, .inl (fun _ => 0)))]) := hD
  refine lv_aload_n hx hb dM_init_22 rfl (lv_at hl 0 rfl) ?_
  refine lv_bipush (v := 8) hx hb dM_init_23 (by decide) ?_
  refine qNewa (atype := .int) (t0 := 1) (N9 := 8) (a0 := (8, .inl (fun _ => 0))) hx hb (ht _ tw_124) rfl hK hP hD hS hA rfl (fun _ h9 => h9) (fun _ => rfl) (by decide) rfl (by decide) (by decide) (by decide) dM_init_25 (fun q25 H hP hD hS => ?_)
  refine va_putF (ci := 5) (ty := .array .int) (C := RM) (T := TM) (N := 26) hx hb ht inM tyM tyM_ok nmM hown hK hP hD hS 0 rfl rfl 5 (by decide) (ht _ tw_654) (fun _ h9 => h9) rfl hin rfl (by decide +kernel) rfl rfl (Nat.le_of_ble_eq_true rfl) dM_init_27 (fun H locs hP hD hS => ?_)
  replace hP : va_P D vC ([(q0, .inr (5, [.int 0, .int 0, .int 0, .ref q8, .ref q17, .ref q25, .int 0, .null, .int 0, .null, .null, .null, .null, .null, .null, .int 0, .null, .null, .int 0, .int 0, .int 0, .int 0, .null, .null, .null, .null])), (q8, .inl (z 1, 5040, .inl (fun _ => 0))), (q17, .inl (z 1, 128, .inl (fun _ => 0))), (q25, .inl (z 1, 8, .inl (fun _ => 0)))]) H := hP
  replace hD : va_D A ([(q0, .inr (5, [.int 0, .int 0, .int 0, .ref q8, .ref q17, .ref q25, .int 0, .null, .int 0, .null, .null, .null, .null, .null, .null, .int 0, .null, .null, .int 0, .int 0, .int 0, .int 0, .null, .null, .null, .null])), (q8, .inl (z 1, 5040, .inl (fun _ => 0))), (q17, .inl (z 1, 128, .inl (fun _ => 0))), (q25, .inl (z 1, 8, .inl (fun _ => 0)))]) := hD
  refine lv_aload_n hx hb dM_init_30 rfl (lv_at hl 0 rfl) ?_
  refine lv_bipush (v := 24) hx hb dM_init_31 (by decide) ?_
  refine qNewa (atype := .int) (t0 := 1) (N9 := 24) (a0 := (24, .inl (fun _ => 0))) hx hb (ht _ tw_124) rfl hK hP hD hS hA rfl (fun _ h9 => h9) (fun _ => rfl) (by decide) rfl (by decide) (by decide) (by decide) dM_init_33 (fun q33 H hP hD hS => ?_)
  refine va_putF (ci := 5) (ty := .array .int) (C := RM) (T := TM) (N := 26) hx hb ht inM tyM tyM_ok nmM hown hK hP hD hS 0 rfl rfl 7 (by decide) (ht _ tw_656) (fun _ h9 => h9) rfl hin rfl (by decide +kernel) rfl rfl (Nat.le_of_ble_eq_true rfl) dM_init_35 (fun H locs hP hD hS => ?_)
  replace hP : va_P D vC ([(q0, .inr (5, [.int 0, .int 0, .int 0, .ref q8, .ref q17, .ref q25, .int 0, .ref q33, .int 0, .null, .null, .null, .null, .null, .null, .int 0, .null, .null, .int 0, .int 0, .int 0, .int 0, .null, .null, .null, .null])), (q8, .inl (z 1, 5040, .inl (fun _ => 0))), (q17, .inl (z 1, 128, .inl (fun _ => 0))), (q25, .inl (z 1, 8, .inl (fun _ => 0))), (q33, .inl (z 1, 24, .inl (fun _ => 0)))]) H := hP
  replace hD : va_D A ([(q0, .inr (5, [.int 0, .int 0, .int 0, .ref q8, .ref q17, .ref q25, .int 0, .ref q33, .int 0, .null, .null, .null, .null, .null, .null, .int 0, .null, .null, .int 0, .int 0, .int 0, .int 0, .null, .null, .null, .null])), (q8, .inl (z 1, 5040, .inl (fun _ => 0))), (q17, .inl (z 1, 128, .inl (fun _ => 0))), (q25, .inl (z 1, 8, .inl (fun _ => 0))), (q33, .inl (z 1, 24, .inl (fun _ => 0)))]) := hD
  refine lv_aload_n hx hb dM_init_38 rfl (lv_at hl 0 rfl) ?_
  refine lv_bipush (v := 6) hx hb dM_init_39 (by decide) ?_
  refine qNewa (atype := .int) (t0 := 1) (N9 := 6) (a0 := (6, .inl (fun _ => 0))) hx hb (ht _ tw_124) rfl hK hP hD hS hA rfl (fun _ h9 => h9) (fun _ => rfl) (by decide) rfl (by decide) (by decide) (by decide) dM_init_41 (fun q41 H hP hD hS => ?_)
  refine va_putF (ci := 5) (ty := .array .int) (C := RM) (T := TM) (N := 26) hx hb ht inM tyM tyM_ok nmM hown hK hP hD hS 0 rfl rfl 9 (by decide) (ht _ tw_658) (fun _ h9 => h9) rfl hin rfl (by decide +kernel) rfl rfl (Nat.le_of_ble_eq_true rfl) dM_init_43 (fun H locs hP hD hS => ?_)
  replace hP : va_P D vC ([(q0, .inr (5, [.int 0, .int 0, .int 0, .ref q8, .ref q17, .ref q25, .int 0, .ref q33, .int 0, .ref q41, .null, .null, .null, .null, .null, .int 0, .null, .null, .int 0, .int 0, .int 0, .int 0, .null, .null, .null, .null])), (q8, .inl (z 1, 5040, .inl (fun _ => 0))), (q17, .inl (z 1, 128, .inl (fun _ => 0))), (q25, .inl (z 1, 8, .inl (fun _ => 0))), (q33, .inl (z 1, 24, .inl (fun _ => 0))), (q41, .inl (z 1, 6, .inl (fun _ => 0)))]) H := hP
  replace hD : va_D A ([(q0, .inr (5, [.int 0, .int 0, .int 0, .ref q8, .ref q17, .ref q25, .int 0, .ref q33, .int 0, .ref q41, .null, .null, .null, .null, .null, .int 0, .null, .null, .int 0, .int 0, .int 0, .int 0, .null, .null, .null, .null])), (q8, .inl (z 1, 5040, .inl (fun _ => 0))), (q17, .inl (z 1, 128, .inl (fun _ => 0))), (q25, .inl (z 1, 8, .inl (fun _ => 0))), (q33, .inl (z 1, 24, .inl (fun _ => 0))), (q41, .inl (z 1, 6, .inl (fun _ => 0)))]) := hD
  refine lv_aload_n hx hb dM_init_46 rfl (lv_at hl 0 rfl) ?_
  refine lv_bipush (v := 6) hx hb dM_init_47 (by decide) ?_
  refine qNewa (atype := .int) (t0 := 1) (N9 := 6) (a0 := (6, .inl (fun _ => 0))) hx hb (ht _ tw_124) rfl hK hP hD hS hA rfl (fun _ h9 => h9) (fun _ => rfl) (by decide) rfl (by decide) (by decide) (by decide) dM_init_49 (fun q49 H hP hD hS => ?_)
  refine va_putF (ci := 5) (ty := .array .int) (C := RM) (T := TM) (N := 26) hx hb ht inM tyM tyM_ok nmM hown hK hP hD hS 0 rfl rfl 10 (by decide) (ht _ tw_659) (fun _ h9 => h9) rfl hin rfl (by decide +kernel) rfl rfl (Nat.le_of_ble_eq_true rfl) dM_init_51 (fun H locs hP hD hS => ?_)
  replace hP : va_P D vC ([(q0, .inr (5, [.int 0, .int 0, .int 0, .ref q8, .ref q17, .ref q25, .int 0, .ref q33, .int 0, .ref q41, .ref q49, .null, .null, .null, .null, .int 0, .null, .null, .int 0, .int 0, .int 0, .int 0, .null, .null, .null, .null])), (q8, .inl (z 1, 5040, .inl (fun _ => 0))), (q17, .inl (z 1, 128, .inl (fun _ => 0))), (q25, .inl (z 1, 8, .inl (fun _ => 0))), (q33, .inl (z 1, 24, .inl (fun _ => 0))), (q41, .inl (z 1, 6, .inl (fun _ => 0))), (q49, .inl (z 1, 6, .inl (fun _ => 0)))]) H := hP
  replace hD : va_D A ([(q0, .inr (5, [.int 0, .int 0, .int 0, .ref q8, .ref q17, .ref q25, .int 0, .ref q33, .int 0, .ref q41, .ref q49, .null, .null, .null, .null, .int 0, .null, .null, .int 0, .int 0, .int 0, .int 0, .null, .null, .null, .null])), (q8, .inl (z 1, 5040, .inl (fun _ => 0))), (q17, .inl (z 1, 128, .inl (fun _ => 0))), (q25, .inl (z 1, 8, .inl (fun _ => 0))), (q33, .inl (z 1, 24, .inl (fun _ => 0))), (q41, .inl (z 1, 6, .inl (fun _ => 0))), (q49, .inl (z 1, 6, .inl (fun _ => 0)))]) := hD
  refine lv_aload_n hx hb dM_init_54 rfl (lv_at hl 0 rfl) ?_
  refine lv_bipush (v := 6) hx hb dM_init_55 (by decide) ?_
  refine qNewa (atype := .boolean) (t0 := 4) (N9 := 6) (a0 := (6, .inl (fun _ => 0))) hx hb (ht _ tw_728) rfl hK hP hD hS hA rfl (fun _ h9 => h9) (fun _ => rfl) (by decide) rfl (by decide) (by decide) (by decide) dM_init_57 (fun q57 H hP hD hS => ?_)
  refine va_putF (ci := 5) (ty := .array .boolean) (C := RM) (T := TM) (N := 26) hx hb ht inM tyM tyM_ok nmM hown hK hP hD hS 0 rfl rfl 11 (by decide) (ht _ tw_660) (fun _ h9 => h9) rfl hin rfl (by decide +kernel) rfl rfl (Nat.le_of_ble_eq_true rfl) dM_init_59 (fun H locs hP hD hS => ?_)
  replace hP : va_P D vC ([(q0, .inr (5, [.int 0, .int 0, .int 0, .ref q8, .ref q17, .ref q25, .int 0, .ref q33, .int 0, .ref q41, .ref q49, .ref q57, .null, .null, .null, .int 0, .null, .null, .int 0, .int 0, .int 0, .int 0, .null, .null, .null, .null])), (q8, .inl (z 1, 5040, .inl (fun _ => 0))), (q17, .inl (z 1, 128, .inl (fun _ => 0))), (q25, .inl (z 1, 8, .inl (fun _ => 0))), (q33, .inl (z 1, 24, .inl (fun _ => 0))), (q41, .inl (z 1, 6, .inl (fun _ => 0))), (q49, .inl (z 1, 6, .inl (fun _ => 0))), (q57, .inl (z 4, 6, .inl (fun _ => 0)))]) H := hP
  replace hD : va_D A ([(q0, .inr (5, [.int 0, .int 0, .int 0, .ref q8, .ref q17, .ref q25, .int 0, .ref q33, .int 0, .ref q41, .ref q49, .ref q57, .null, .null, .null, .int 0, .null, .null, .int 0, .int 0, .int 0, .int 0, .null, .null, .null, .null])), (q8, .inl (z 1, 5040, .inl (fun _ => 0))), (q17, .inl (z 1, 128, .inl (fun _ => 0))), (q25, .inl (z 1, 8, .inl (fun _ => 0))), (q33, .inl (z 1, 24, .inl (fun _ => 0))), (q41, .inl (z 1, 6, .inl (fun _ => 0))), (q49, .inl (z 1, 6, .inl (fun _ => 0))), (q57, .inl (z 4, 6, .inl (fun _ => 0)))]) := hD
  refine lv_aload_n hx hb dM_init_62 rfl (lv_at hl 0 rfl) ?_
  refine lv_sipush (v := 395) hx hb dM_init_63 (by decide) ?_
  refine qNewa (atype := .long) (t0 := 0) (N9 := 395) (a0 := (395, .inr (.inl (fun _ => 0)))) hx hb (ht _ tw_123) rfl hK hP hD hS hA rfl (fun _ h9 => h9) (fun _ => rfl) (by decide) rfl (by decide) (by decide) (by decide) dM_init_66 (fun q66 H hP hD hS => ?_)
  refine va_putF (ci := 5) (ty := .array .long) (C := RM) (T := TM) (N := 26) hx hb ht inM tyM tyM_ok nmM hown hK hP hD hS 0 rfl rfl 12 (by decide) (ht _ tw_661) (fun _ h9 => h9) rfl hin rfl (by decide +kernel) rfl rfl (Nat.le_of_ble_eq_true rfl) dM_init_68 (fun H locs hP hD hS => ?_)
  replace hP : va_P D vC ([(q0, .inr (5, [.int 0, .int 0, .int 0, .ref q8, .ref q17, .ref q25, .int 0, .ref q33, .int 0, .ref q41, .ref q49, .ref q57, .ref q66, .null, .null, .int 0, .null, .null, .int 0, .int 0, .int 0, .int 0, .null, .null, .null, .null])), (q8, .inl (z 1, 5040, .inl (fun _ => 0))), (q17, .inl (z 1, 128, .inl (fun _ => 0))), (q25, .inl (z 1, 8, .inl (fun _ => 0))), (q33, .inl (z 1, 24, .inl (fun _ => 0))), (q41, .inl (z 1, 6, .inl (fun _ => 0))), (q49, .inl (z 1, 6, .inl (fun _ => 0))), (q57, .inl (z 4, 6, .inl (fun _ => 0))), (q66, .inl (z 0, 395, .inr (.inl (fun _ => 0))))]) H := hP
  replace hD : va_D A ([(q0, .inr (5, [.int 0, .int 0, .int 0, .ref q8, .ref q17, .ref q25, .int 0, .ref q33, .int 0, .ref q41, .ref q49, .ref q57, .ref q66, .null, .null, .int 0, .null, .null, .int 0, .int 0, .int 0, .int 0, .null, .null, .null, .null])), (q8, .inl (z 1, 5040, .inl (fun _ => 0))), (q17, .inl (z 1, 128, .inl (fun _ => 0))), (q25, .inl (z 1, 8, .inl (fun _ => 0))), (q33, .inl (z 1, 24, .inl (fun _ => 0))), (q41, .inl (z 1, 6, .inl (fun _ => 0))), (q49, .inl (z 1, 6, .inl (fun _ => 0))), (q57, .inl (z 4, 6, .inl (fun _ => 0))), (q66, .inl (z 0, 395, .inr (.inl (fun _ => 0))))]) := hD
  refine lv_aload_n hx hb dM_init_71 rfl (lv_at hl 0 rfl) ?_
  refine lv_bipush (v := 79) hx hb dM_init_72 (by decide) ?_
  refine qNewa (atype := .long) (t0 := 0) (N9 := 79) (a0 := (79, .inr (.inl (fun _ => 0)))) hx hb (ht _ tw_123) rfl hK hP hD hS hA rfl (fun _ h9 => h9) (fun _ => rfl) (by decide) rfl (by decide) (by decide) (by decide) dM_init_74 (fun q74 H hP hD hS => ?_)
  refine va_putF (ci := 5) (ty := .array .long) (C := RM) (T := TM) (N := 26) hx hb ht inM tyM tyM_ok nmM hown hK hP hD hS 0 rfl rfl 13 (by decide) (ht _ tw_662) (fun _ h9 => h9) rfl hin rfl (by decide +kernel) rfl rfl (Nat.le_of_ble_eq_true rfl) dM_init_76 (fun H locs hP hD hS => ?_)
  replace hP : va_P D vC ([(q0, .inr (5, [.int 0, .int 0, .int 0, .ref q8, .ref q17, .ref q25, .int 0, .ref q33, .int 0, .ref q41, .ref q49, .ref q57, .ref q66, .ref q74, .null, .int 0, .null, .null, .int 0, .int 0, .int 0, .int 0, .null, .null, .null, .null])), (q8, .inl (z 1, 5040, .inl (fun _ => 0))), (q17, .inl (z 1, 128, .inl (fun _ => 0))), (q25, .inl (z 1, 8, .inl (fun _ => 0))), (q33, .inl (z 1, 24, .inl (fun _ => 0))), (q41, .inl (z 1, 6, .inl (fun _ => 0))), (q49, .inl (z 1, 6, .inl (fun _ => 0))), (q57, .inl (z 4, 6, .inl (fun _ => 0))), (q66, .inl (z 0, 395, .inr (.inl (fun _ => 0)))), (q74, .inl (z 0, 79, .inr (.inl (fun _ => 0))))]) H := hP
  replace hD : va_D A ([(q0, .inr (5, [.int 0, .int 0, .int 0, .ref q8, .ref q17, .ref q25, .int 0, .ref q33, .int 0, .ref q41, .ref q49, .ref q57, .ref q66, .ref q74, .null, .int 0, .null, .null, .int 0, .int 0, .int 0, .int 0, .null, .null, .null, .null])), (q8, .inl (z 1, 5040, .inl (fun _ => 0))), (q17, .inl (z 1, 128, .inl (fun _ => 0))), (q25, .inl (z 1, 8, .inl (fun _ => 0))), (q33, .inl (z 1, 24, .inl (fun _ => 0))), (q41, .inl (z 1, 6, .inl (fun _ => 0))), (q49, .inl (z 1, 6, .inl (fun _ => 0))), (q57, .inl (z 4, 6, .inl (fun _ => 0))), (q66, .inl (z 0, 395, .inr (.inl (fun _ => 0)))), (q74, .inl (z 0, 79, .inr (.inl (fun _ => 0))))]) := hD
  refine lv_aload_n hx hb dM_init_79 rfl (lv_at hl 0 rfl) ?_
  refine lv_sipush (v := 5040) hx hb dM_init_80 (by decide) ?_
  refine qNewa (atype := .int) (t0 := 1) (N9 := 5040) (a0 := (5040, .inl (fun _ => 0))) hx hb (ht _ tw_124) rfl hK hP hD hS hA rfl (fun _ h9 => h9) (fun _ => rfl) (by decide) rfl (by decide) (by decide) (by decide) dM_init_83 (fun q83 H hP hD hS => ?_)
  refine va_putF (ci := 5) (ty := .array .int) (C := RM) (T := TM) (N := 26) hx hb ht inM tyM tyM_ok nmM hown hK hP hD hS 0 rfl rfl 14 (by decide) (ht _ tw_663) (fun _ h9 => h9) rfl hin rfl (by decide +kernel) rfl rfl (Nat.le_of_ble_eq_true rfl) dM_init_85 (fun H locs hP hD hS => ?_)
  replace hP : va_P D vC ([(q0, .inr (5, [.int 0, .int 0, .int 0, .ref q8, .ref q17, .ref q25, .int 0, .ref q33, .int 0, .ref q41, .ref q49, .ref q57, .ref q66, .ref q74, .ref q83, .int 0, .null, .null, .int 0, .int 0, .int 0, .int 0, .null, .null, .null, .null])), (q8, .inl (z 1, 5040, .inl (fun _ => 0))), (q17, .inl (z 1, 128, .inl (fun _ => 0))), (q25, .inl (z 1, 8, .inl (fun _ => 0))), (q33, .inl (z 1, 24, .inl (fun _ => 0))), (q41, .inl (z 1, 6, .inl (fun _ => 0))), (q49, .inl (z 1, 6, .inl (fun _ => 0))), (q57, .inl (z 4, 6, .inl (fun _ => 0))), (q66, .inl (z 0, 395, .inr (.inl (fun _ => 0)))), (q74, .inl (z 0, 79, .inr (.inl (fun _ => 0)))), (q83, .inl (z 1, 5040, .inl (fun _ => 0)))]) H := hP
  replace hD : va_D A ([(q0, .inr (5, [.int 0, .int 0, .int 0, .ref q8, .ref q17, .ref q25, .int 0, .ref q33, .int 0, .ref q41, .ref q49, .ref q57, .ref q66, .ref q74, .ref q83, .int 0, .null, .null, .int 0, .int 0, .int 0, .int 0, .null, .null, .null, .null])), (q8, .inl (z 1, 5040, .inl (fun _ => 0))), (q17, .inl (z 1, 128, .inl (fun _ => 0))), (q25, .inl (z 1, 8, .inl (fun _ => 0))), (q33, .inl (z 1, 24, .inl (fun _ => 0))), (q41, .inl (z 1, 6, .inl (fun _ => 0))), (q49, .inl (z 1, 6, .inl (fun _ => 0))), (q57, .inl (z 4, 6, .inl (fun _ => 0))), (q66, .inl (z 0, 395, .inr (.inl (fun _ => 0)))), (q74, .inl (z 0, 79, .inr (.inl (fun _ => 0)))), (q83, .inl (z 1, 5040, .inl (fun _ => 0)))]) := hD
  refine lv_aload_n hx hb dM_init_88 rfl (lv_at hl 0 rfl) ?_
  refine lv_bipush (v := 20) hx hb dM_init_89 (by decide) ?_
  refine qNewa (atype := .int) (t0 := 1) (N9 := 20) (a0 := (20, .inl (fun _ => 0))) hx hb (ht _ tw_124) rfl hK hP hD hS hA rfl (fun _ h9 => h9) (fun _ => rfl) (by decide) rfl (by decide) (by decide) (by decide) dM_init_91 (fun q91 H hP hD hS => ?_)
  refine va_putF (ci := 5) (ty := .array .int) (C := RM) (T := TM) (N := 26) hx hb ht inM tyM tyM_ok nmM hown hK hP hD hS 0 rfl rfl 16 (by decide) (ht _ tw_665) (fun _ h9 => h9) rfl hin rfl (by decide +kernel) rfl rfl (Nat.le_of_ble_eq_true rfl) dM_init_93 (fun H locs hP hD hS => ?_)
  replace hP : va_P D vC ([(q0, .inr (5, [.int 0, .int 0, .int 0, .ref q8, .ref q17, .ref q25, .int 0, .ref q33, .int 0, .ref q41, .ref q49, .ref q57, .ref q66, .ref q74, .ref q83, .int 0, .ref q91, .null, .int 0, .int 0, .int 0, .int 0, .null, .null, .null, .null])), (q8, .inl (z 1, 5040, .inl (fun _ => 0))), (q17, .inl (z 1, 128, .inl (fun _ => 0))), (q25, .inl (z 1, 8, .inl (fun _ => 0))), (q33, .inl (z 1, 24, .inl (fun _ => 0))), (q41, .inl (z 1, 6, .inl (fun _ => 0))), (q49, .inl (z 1, 6, .inl (fun _ => 0))), (q57, .inl (z 4, 6, .inl (fun _ => 0))), (q66, .inl (z 0, 395, .inr (.inl (fun _ => 0)))), (q74, .inl (z 0, 79, .inr (.inl (fun _ => 0)))), (q83, .inl (z 1, 5040, .inl (fun _ => 0))), (q91, .inl (z 1, 20, .inl (fun _ => 0)))]) H := hP
  replace hD : va_D A ([(q0, .inr (5, [.int 0, .int 0, .int 0, .ref q8, .ref q17, .ref q25, .int 0, .ref q33, .int 0, .ref q41, .ref q49, .ref q57, .ref q66, .ref q74, .ref q83, .int 0, .ref q91, .null, .int 0, .int 0, .int 0, .int 0, .null, .null, .null, .null])), (q8, .inl (z 1, 5040, .inl (fun _ => 0))), (q17, .inl (z 1, 128, .inl (fun _ => 0))), (q25, .inl (z 1, 8, .inl (fun _ => 0))), (q33, .inl (z 1, 24, .inl (fun _ => 0))), (q41, .inl (z 1, 6, .inl (fun _ => 0))), (q49, .inl (z 1, 6, .inl (fun _ => 0))), (q57, .inl (z 4, 6, .inl (fun _ => 0))), (q66, .inl (z 0, 395, .inr (.inl (fun _ => 0)))), (q74, .inl (z 0, 79, .inr (.inl (fun _ => 0)))), (q83, .inl (z 1, 5040, .inl (fun _ => 0))), (q91, .inl (z 1, 20, .inl (fun _ => 0)))]) := hD
  refine lv_aload_n hx hb dM_init_96 rfl (lv_at hl 0 rfl) ?_
  refine lv_sipush (v := 5040) hx hb dM_init_97 (by decide) ?_
  refine qNewa (atype := .int) (t0 := 1) (N9 := 5040) (a0 := (5040, .inl (fun _ => 0))) hx hb (ht _ tw_124) rfl hK hP hD hS hA rfl (fun _ h9 => h9) (fun _ => rfl) (by decide) rfl (by decide) (by decide) (by decide) dM_init_100 (fun q100 H hP hD hS => ?_)
  refine va_putF (ci := 5) (ty := .array .int) (C := RM) (T := TM) (N := 26) hx hb ht inM tyM tyM_ok nmM hown hK hP hD hS 0 rfl rfl 17 (by decide) (ht _ tw_666) (fun _ h9 => h9) rfl hin rfl (by decide +kernel) rfl rfl (Nat.le_of_ble_eq_true rfl) dM_init_102 (fun H locs hP hD hS => ?_)
  replace hP : va_P D vC ([(q0, .inr (5, [.int 0, .int 0, .int 0, .ref q8, .ref q17, .ref q25, .int 0, .ref q33, .int 0, .ref q41, .ref q49, .ref q57, .ref q66, .ref q74, .ref q83, .int 0, .ref q91, .ref q100, .int 0, .int 0, .int 0, .int 0, .null, .null, .null, .null])), (q8, .inl (z 1, 5040, .inl (fun _ => 0))), (q17, .inl (z 1, 128, .inl (fun _ => 0))), (q25, .inl (z 1, 8, .inl (fun _ => 0))), (q33, .inl (z 1, 24, .inl (fun _ => 0))), (q41, .inl (z 1, 6, .inl (fun _ => 0))), (q49, .inl (z 1, 6, .inl (fun _ => 0))), (q57, .inl (z 4, 6, .inl (fun _ => 0))), (q66, .inl (z 0, 395, .inr (.inl (fun _ => 0)))), (q74, .inl (z 0, 79, .inr (.inl (fun _ => 0)))), (q83, .inl (z 1, 5040, .inl (fun _ => 0))), (q91, .inl (z 1, 20, .inl (fun _ => 0))), (q100, .inl (z 1, 5040, .inl (fun _ => 0)))]) H := hP
  replace hD : va_D A ([(q0, .inr (5, [.int 0, .int 0, .int 0, .ref q8, .ref q17, .ref q25, .int 0, .ref q33, .int 0, .ref q41, .ref q49, .ref q57, .ref q66, .ref q74, .ref q83, .int 0, .ref q91, .ref q100, .int 0, .int 0, .int 0, .int 0, .null, .null, .null, .null])), (q8, .inl (z 1, 5040, .inl (fun _ => 0))), (q17, .inl (z 1, 128, .inl (fun _ => 0))), (q25, .inl (z 1, 8, .inl (fun _ => 0))), (q33, .inl (z 1, 24, .inl (fun _ => 0))), (q41, .inl (z 1, 6, .inl (fun _ => 0))), (q49, .inl (z 1, 6, .inl (fun _ => 0))), (q57, .inl (z 4, 6, .inl (fun _ => 0))), (q66, .inl (z 0, 395, .inr (.inl (fun _ => 0)))), (q74, .inl (z 0, 79, .inr (.inl (fun _ => 0)))), (q83, .inl (z 1, 5040, .inl (fun _ => 0))), (q91, .inl (z 1, 20, .inl (fun _ => 0))), (q100, .inl (z 1, 5040, .inl (fun _ => 0)))]) := hD
  refine lv_aload_n hx hb dM_init_105 rfl (lv_at hl 0 rfl) ?_
  refine lv_bipush (v := 6) hx hb dM_init_106 (by decide) ?_
  refine qNewa (atype := .int) (t0 := 1) (N9 := 6) (a0 := (6, .inl (fun _ => 0))) hx hb (ht _ tw_124) rfl hK hP hD hS hA rfl (fun _ h9 => h9) (fun _ => rfl) (by decide) rfl (by decide) (by decide) (by decide) dM_init_108 (fun q108 H hP hD hS => ?_)
  refine va_putF (ci := 5) (ty := .array .int) (C := RM) (T := TM) (N := 26) hx hb ht inM tyM tyM_ok nmM hown hK hP hD hS 0 rfl rfl 22 (by decide) (ht _ tw_671) (fun _ h9 => h9) rfl hin rfl (by decide +kernel) rfl rfl (Nat.le_of_ble_eq_true rfl) dM_init_110 (fun H locs hP hD hS => ?_)
  replace hP : va_P D vC ([(q0, .inr (5, [.int 0, .int 0, .int 0, .ref q8, .ref q17, .ref q25, .int 0, .ref q33, .int 0, .ref q41, .ref q49, .ref q57, .ref q66, .ref q74, .ref q83, .int 0, .ref q91, .ref q100, .int 0, .int 0, .int 0, .int 0, .ref q108, .null, .null, .null])), (q8, .inl (z 1, 5040, .inl (fun _ => 0))), (q17, .inl (z 1, 128, .inl (fun _ => 0))), (q25, .inl (z 1, 8, .inl (fun _ => 0))), (q33, .inl (z 1, 24, .inl (fun _ => 0))), (q41, .inl (z 1, 6, .inl (fun _ => 0))), (q49, .inl (z 1, 6, .inl (fun _ => 0))), (q57, .inl (z 4, 6, .inl (fun _ => 0))), (q66, .inl (z 0, 395, .inr (.inl (fun _ => 0)))), (q74, .inl (z 0, 79, .inr (.inl (fun _ => 0)))), (q83, .inl (z 1, 5040, .inl (fun _ => 0))), (q91, .inl (z 1, 20, .inl (fun _ => 0))), (q100, .inl (z 1, 5040, .inl (fun _ => 0))), (q108, .inl (z 1, 6, .inl (fun _ => 0)))]) H := hP
  replace hD : va_D A ([(q0, .inr (5, [.int 0, .int 0, .int 0, .ref q8, .ref q17, .ref q25, .int 0, .ref q33, .int 0, .ref q41, .ref q49, .ref q57, .ref q66, .ref q74, .ref q83, .int 0, .ref q91, .ref q100, .int 0, .int 0, .int 0, .int 0, .ref q108, .null, .null, .null])), (q8, .inl (z 1, 5040, .inl (fun _ => 0))), (q17, .inl (z 1, 128, .inl (fun _ => 0))), (q25, .inl (z 1, 8, .inl (fun _ => 0))), (q33, .inl (z 1, 24, .inl (fun _ => 0))), (q41, .inl (z 1, 6, .inl (fun _ => 0))), (q49, .inl (z 1, 6, .inl (fun _ => 0))), (q57, .inl (z 4, 6, .inl (fun _ => 0))), (q66, .inl (z 0, 395, .inr (.inl (fun _ => 0)))), (q74, .inl (z 0, 79, .inr (.inl (fun _ => 0)))), (q83, .inl (z 1, 5040, .inl (fun _ => 0))), (q91, .inl (z 1, 20, .inl (fun _ => 0))), (q100, .inl (z 1, 5040, .inl (fun _ => 0))), (q108, .inl (z 1, 6, .inl (fun _ => 0)))]) := hD
  refine lv_aload_n hx hb dM_init_113 rfl (lv_at hl 0 rfl) ?_
  refine lv_bipush (v := 6) hx hb dM_init_114 (by decide) ?_
  refine qNewa (atype := .int) (t0 := 1) (N9 := 6) (a0 := (6, .inl (fun _ => 0))) hx hb (ht _ tw_124) rfl hK hP hD hS hA rfl (fun _ h9 => h9) (fun _ => rfl) (by decide) rfl (by decide) (by decide) (by decide) dM_init_116 (fun q116 H hP hD hS => ?_)
  refine va_putF (ci := 5) (ty := .array .int) (C := RM) (T := TM) (N := 26) hx hb ht inM tyM tyM_ok nmM hown hK hP hD hS 0 rfl rfl 23 (by decide) (ht _ tw_672) (fun _ h9 => h9) rfl hin rfl (by decide +kernel) rfl rfl (Nat.le_of_ble_eq_true rfl) dM_init_118 (fun H locs hP hD hS => ?_)
  replace hP : va_P D vC ([(q0, .inr (5, [.int 0, .int 0, .int 0, .ref q8, .ref q17, .ref q25, .int 0, .ref q33, .int 0, .ref q41, .ref q49, .ref q57, .ref q66, .ref q74, .ref q83, .int 0, .ref q91, .ref q100, .int 0, .int 0, .int 0, .int 0, .ref q108, .ref q116, .null, .null])), (q8, .inl (z 1, 5040, .inl (fun _ => 0))), (q17, .inl (z 1, 128, .inl (fun _ => 0))), (q25, .inl (z 1, 8, .inl (fun _ => 0))), (q33, .inl (z 1, 24, .inl (fun _ => 0))), (q41, .inl (z 1, 6, .inl (fun _ => 0))), (q49, .inl (z 1, 6, .inl (fun _ => 0))), (q57, .inl (z 4, 6, .inl (fun _ => 0))), (q66, .inl (z 0, 395, .inr (.inl (fun _ => 0)))), (q74, .inl (z 0, 79, .inr (.inl (fun _ => 0)))), (q83, .inl (z 1, 5040, .inl (fun _ => 0))), (q91, .inl (z 1, 20, .inl (fun _ => 0))), (q100, .inl (z 1, 5040, .inl (fun _ => 0))), (q108, .inl (z 1, 6, .inl (fun _ => 0))), (q116, .inl (z 1, 6, .inl (fun _ => 0)))]) H := hP
  replace hD : va_D A ([(q0, .inr (5, [.int 0, .int 0, .int 0, .ref q8, .ref q17, .ref q25, .int 0, .ref q33, .int 0, .ref q41, .ref q49, .ref q57, .ref q66, .ref q74, .ref q83, .int 0, .ref q91, .ref q100, .int 0, .int 0, .int 0, .int 0, .ref q108, .ref q116, .null, .null])), (q8, .inl (z 1, 5040, .inl (fun _ => 0))), (q17, .inl (z 1, 128, .inl (fun _ => 0))), (q25, .inl (z 1, 8, .inl (fun _ => 0))), (q33, .inl (z 1, 24, .inl (fun _ => 0))), (q41, .inl (z 1, 6, .inl (fun _ => 0))), (q49, .inl (z 1, 6, .inl (fun _ => 0))), (q57, .inl (z 4, 6, .inl (fun _ => 0))), (q66, .inl (z 0, 395, .inr (.inl (fun _ => 0)))), (q74, .inl (z 0, 79, .inr (.inl (fun _ => 0)))), (q83, .inl (z 1, 5040, .inl (fun _ => 0))), (q91, .inl (z 1, 20, .inl (fun _ => 0))), (q100, .inl (z 1, 5040, .inl (fun _ => 0))), (q108, .inl (z 1, 6, .inl (fun _ => 0))), (q116, .inl (z 1, 6, .inl (fun _ => 0)))]) := hD
  refine lv_aload_n hx hb dM_init_121 rfl (lv_at hl 0 rfl) ?_
  refine lv_bipush (v := 6) hx hb dM_init_122 (by decide) ?_
  refine qNewa (atype := .int) (t0 := 1) (N9 := 6) (a0 := (6, .inl (fun _ => 0))) hx hb (ht _ tw_124) rfl hK hP hD hS hA rfl (fun _ h9 => h9) (fun _ => rfl) (by decide) rfl (by decide) (by decide) (by decide) dM_init_124 (fun q124 H hP hD hS => ?_)
  refine va_putF (ci := 5) (ty := .array .int) (C := RM) (T := TM) (N := 26) hx hb ht inM tyM tyM_ok nmM hown hK hP hD hS 0 rfl rfl 24 (by decide) (ht _ tw_673) (fun _ h9 => h9) rfl hin rfl (by decide +kernel) rfl rfl (Nat.le_of_ble_eq_true rfl) dM_init_126 (fun H locs hP hD hS => ?_)
  replace hP : va_P D vC ([(q0, .inr (5, [.int 0, .int 0, .int 0, .ref q8, .ref q17, .ref q25, .int 0, .ref q33, .int 0, .ref q41, .ref q49, .ref q57, .ref q66, .ref q74, .ref q83, .int 0, .ref q91, .ref q100, .int 0, .int 0, .int 0, .int 0, .ref q108, .ref q116, .ref q124, .null])), (q8, .inl (z 1, 5040, .inl (fun _ => 0))), (q17, .inl (z 1, 128, .inl (fun _ => 0))), (q25, .inl (z 1, 8, .inl (fun _ => 0))), (q33, .inl (z 1, 24, .inl (fun _ => 0))), (q41, .inl (z 1, 6, .inl (fun _ => 0))), (q49, .inl (z 1, 6, .inl (fun _ => 0))), (q57, .inl (z 4, 6, .inl (fun _ => 0))), (q66, .inl (z 0, 395, .inr (.inl (fun _ => 0)))), (q74, .inl (z 0, 79, .inr (.inl (fun _ => 0)))), (q83, .inl (z 1, 5040, .inl (fun _ => 0))), (q91, .inl (z 1, 20, .inl (fun _ => 0))), (q100, .inl (z 1, 5040, .inl (fun _ => 0))), (q108, .inl (z 1, 6, .inl (fun _ => 0))), (q116, .inl (z 1, 6, .inl (fun _ => 0))), (q124, .inl (z 1, 6, .inl (fun _ => 0)))]) H := hP
  replace hD : va_D A ([(q0, .inr (5, [.int 0, .int 0, .int 0, .ref q8, .ref q17, .ref q25, .int 0, .ref q33, .int 0, .ref q41, .ref q49, .ref q57, .ref q66, .ref q74, .ref q83, .int 0, .ref q91, .ref q100, .int 0, .int 0, .int 0, .int 0, .ref q108, .ref q116, .ref q124, .null])), (q8, .inl (z 1, 5040, .inl (fun _ => 0))), (q17, .inl (z 1, 128, .inl (fun _ => 0))), (q25, .inl (z 1, 8, .inl (fun _ => 0))), (q33, .inl (z 1, 24, .inl (fun _ => 0))), (q41, .inl (z 1, 6, .inl (fun _ => 0))), (q49, .inl (z 1, 6, .inl (fun _ => 0))), (q57, .inl (z 4, 6, .inl (fun _ => 0))), (q66, .inl (z 0, 395, .inr (.inl (fun _ => 0)))), (q74, .inl (z 0, 79, .inr (.inl (fun _ => 0)))), (q83, .inl (z 1, 5040, .inl (fun _ => 0))), (q91, .inl (z 1, 20, .inl (fun _ => 0))), (q100, .inl (z 1, 5040, .inl (fun _ => 0))), (q108, .inl (z 1, 6, .inl (fun _ => 0))), (q116, .inl (z 1, 6, .inl (fun _ => 0))), (q124, .inl (z 1, 6, .inl (fun _ => 0)))]) := hD
  refine lv_aload_n hx hb dM_init_129 rfl (lv_at hl 0 rfl) ?_
  refine lv_bipush (v := 6) hx hb dM_init_130 (by decide) ?_
  refine qNewa (atype := .int) (t0 := 1) (N9 := 6) (a0 := (6, .inl (fun _ => 0))) hx hb (ht _ tw_124) rfl hK hP hD hS hA rfl (fun _ h9 => h9) (fun _ => rfl) (by decide) rfl (by decide) (by decide) (by decide) dM_init_132 (fun q132 H hP hD hS => ?_)
  refine va_putF (ci := 5) (ty := .array .int) (C := RM) (T := TM) (N := 26) hx hb ht inM tyM tyM_ok nmM hown hK hP hD hS 0 rfl rfl 25 (by decide) (ht _ tw_674) (fun _ h9 => h9) rfl hin rfl (by decide +kernel) rfl rfl (Nat.le_of_ble_eq_true rfl) dM_init_134 (fun H locs hP hD hS => ?_)
  replace hP : va_P D vC ([(q0, .inr (5, [.int 0, .int 0, .int 0, .ref q8, .ref q17, .ref q25, .int 0, .ref q33, .int 0, .ref q41, .ref q49, .ref q57, .ref q66, .ref q74, .ref q83, .int 0, .ref q91, .ref q100, .int 0, .int 0, .int 0, .int 0, .ref q108, .ref q116, .ref q124, .ref q132])), (q8, .inl (z 1, 5040, .inl (fun _ => 0))), (q17, .inl (z 1, 128, .inl (fun _ => 0))), (q25, .inl (z 1, 8, .inl (fun _ => 0))), (q33, .inl (z 1, 24, .inl (fun _ => 0))), (q41, .inl (z 1, 6, .inl (fun _ => 0))), (q49, .inl (z 1, 6, .inl (fun _ => 0))), (q57, .inl (z 4, 6, .inl (fun _ => 0))), (q66, .inl (z 0, 395, .inr (.inl (fun _ => 0)))), (q74, .inl (z 0, 79, .inr (.inl (fun _ => 0)))), (q83, .inl (z 1, 5040, .inl (fun _ => 0))), (q91, .inl (z 1, 20, .inl (fun _ => 0))), (q100, .inl (z 1, 5040, .inl (fun _ => 0))), (q108, .inl (z 1, 6, .inl (fun _ => 0))), (q116, .inl (z 1, 6, .inl (fun _ => 0))), (q124, .inl (z 1, 6, .inl (fun _ => 0))), (q132, .inl (z 1, 6, .inl (fun _ => 0)))]) H := hP
  replace hD : va_D A ([(q0, .inr (5, [.int 0, .int 0, .int 0, .ref q8, .ref q17, .ref q25, .int 0, .ref q33, .int 0, .ref q41, .ref q49, .ref q57, .ref q66, .ref q74, .ref q83, .int 0, .ref q91, .ref q100, .int 0, .int 0, .int 0, .int 0, .ref q108, .ref q116, .ref q124, .ref q132])), (q8, .inl (z 1, 5040, .inl (fun _ => 0))), (q17, .inl (z 1, 128, .inl (fun _ => 0))), (q25, .inl (z 1, 8, .inl (fun _ => 0))), (q33, .inl (z 1, 24, .inl (fun _ => 0))), (q41, .inl (z 1, 6, .inl (fun _ => 0))), (q49, .inl (z 1, 6, .inl (fun _ => 0))), (q57, .inl (z 4, 6, .inl (fun _ => 0))), (q66, .inl (z 0, 395, .inr (.inl (fun _ => 0)))), (q74, .inl (z 0, 79, .inr (.inl (fun _ => 0)))), (q83, .inl (z 1, 5040, .inl (fun _ => 0))), (q91, .inl (z 1, 20, .inl (fun _ => 0))), (q100, .inl (z 1, 5040, .inl (fun _ => 0))), (q108, .inl (z 1, 6, .inl (fun _ => 0))), (q116, .inl (z 1, 6, .inl (fun _ => 0))), (q124, .inl (z 1, 6, .inl (fun _ => 0))), (q132, .inl (z 1, 6, .inl (fun _ => 0)))]) := hD
  refine wjv (σ := Unit) (pc := 158) (fun _ => [.int (nI n), .ref q0]) (I := fun _ H1 locs1 ls1 => H = H1 ∧ locs = locs1 ∧ ls = ls1) ?_ (fun jn => ?_)
  rotate_left
  · skip
    refine lv_aload_n hx hb dM_init_137 rfl (lv_at hl 0 rfl) ?_
    refine lv_iload_n hx hb dM_init_138 rfl (lv_at hl 1 rfl) ?_
    refine lv_bipush (v := 7) hx hb dM_init_139 (by decide) ?_
    refine lv_iand hx hb dM_init_141 ?_
    refine lv_bipush (v := 7) hx hb dM_init_142 (by decide) ?_
    refine lv_icmp_ne (tgt := 152) hx hb dM_init_144 rfl (fun h144 => ?_) (fun h144 => ?_)
    · skip
      refine lv_iconst (v := 1) hx hb dM_init_152 (by decide) ?_
      refine lv_iload_n hx hb dM_init_153 rfl (lv_at hl 1 rfl) ?_
      refine lv_bipush (v := 7) hx hb dM_init_154 (by decide) ?_
      refine lv_iand hx hb dM_init_156 ?_
      refine lv_iadd hx hb dM_init_157 ?_
      refine wti (x' := nI n) (hx8 h144) ?_
      exact jn () _ _ ls ⟨rfl, rfl, rfl⟩
    refine lv_bipush (v := 7) hx hb dM_init_147 (by decide) ?_
    refine lv_goto (tgt := 158) hx hb dM_init_149 rfl ?_
    refine wti (x' := nI n) (by rw [hx7 h144]; rfl) ?_
    exact jn () _ _ ls ⟨rfl, rfl, rfl⟩
  rintro - H1 locs1 ls1 ⟨rfl, rfl, rfl⟩
  refine va_putF (ci := 5) (ty := .int) (C := RM) (T := TM) (N := 26) hx hb ht inM tyM tyM_ok nmM hown hK hP hD hS 0 rfl rfl 0 (by decide) (ht _ tw_649) (fun _ h9 => h9) rfl hin rfl (by decide +kernel) rfl rfl (Nat.le_of_ble_eq_true rfl) dM_init_158 (fun H locs hP hD hS => ?_)
  have hP : va_P D vC ([(q0, .inr (5, [.int (nI n), .int 0, .int 0, .ref q8, .ref q17, .ref q25, .int 0, .ref q33, .int 0, .ref q41, .ref q49, .ref q57, .ref q66, .ref q74, .ref q83, .int 0, .ref q91, .ref q100, .int 0, .int 0, .int 0, .int 0, .ref q108, .ref q116, .ref q124, .ref q132])), (q8, .inl (z 1, 5040, .inl (fun _ => 0))), (q17, .inl (z 1, 128, .inl (fun _ => 0))), (q25, .inl (z 1, 8, .inl (fun _ => 0))), (q33, .inl (z 1, 24, .inl (fun _ => 0))), (q41, .inl (z 1, 6, .inl (fun _ => 0))), (q49, .inl (z 1, 6, .inl (fun _ => 0))), (q57, .inl (z 4, 6, .inl (fun _ => 0))), (q66, .inl (z 0, 395, .inr (.inl (fun _ => 0)))), (q74, .inl (z 0, 79, .inr (.inl (fun _ => 0)))), (q83, .inl (z 1, 5040, .inl (fun _ => 0))), (q91, .inl (z 1, 20, .inl (fun _ => 0))), (q100, .inl (z 1, 5040, .inl (fun _ => 0))), (q108, .inl (z 1, 6, .inl (fun _ => 0))), (q116, .inl (z 1, 6, .inl (fun _ => 0))), (q124, .inl (z 1, 6, .inl (fun _ => 0))), (q132, .inl (z 1, 6, .inl (fun _ => 0)))]) _ := hP
  have hD : va_D A ([(q0, .inr (5, [.int (nI n), .int 0, .int 0, .ref q8, .ref q17, .ref q25, .int 0, .ref q33, .int 0, .ref q41, .ref q49, .ref q57, .ref q66, .ref q74, .ref q83, .int 0, .ref q91, .ref q100, .int 0, .int 0, .int 0, .int 0, .ref q108, .ref q116, .ref q124, .ref q132])), (q8, .inl (z 1, 5040, .inl (fun _ => 0))), (q17, .inl (z 1, 128, .inl (fun _ => 0))), (q25, .inl (z 1, 8, .inl (fun _ => 0))), (q33, .inl (z 1, 24, .inl (fun _ => 0))), (q41, .inl (z 1, 6, .inl (fun _ => 0))), (q49, .inl (z 1, 6, .inl (fun _ => 0))), (q57, .inl (z 4, 6, .inl (fun _ => 0))), (q66, .inl (z 0, 395, .inr (.inl (fun _ => 0)))), (q74, .inl (z 0, 79, .inr (.inl (fun _ => 0)))), (q83, .inl (z 1, 5040, .inl (fun _ => 0))), (q91, .inl (z 1, 20, .inl (fun _ => 0))), (q100, .inl (z 1, 5040, .inl (fun _ => 0))), (q108, .inl (z 1, 6, .inl (fun _ => 0))), (q116, .inl (z 1, 6, .inl (fun _ => 0))), (q124, .inl (z 1, 6, .inl (fun _ => 0))), (q132, .inl (z 1, 6, .inl (fun _ => 0)))]) := hD
  refine lv_iconst (v := 1) hx hb dM_init_161 (by decide) ?_
  refine lv_istore_n hx hb dM_init_162 rfl hl (by decide) rfl (fun ls hl => ?_)
  replace hl : lv_has ls 3 [(2, .int (nI 1)), (0, .ref q0), (1, .int x)] := hl
  refine wl (σ := Nat × (Nat → Int32)) (I := fun q st H locs ls => q + st.1 = 128 ∧ 1 ≤ st.1 ∧ (∀ j, j < st.1 → st.2 j = mOn j) ∧ (∀ j, st.1 ≤ j → st.2 j = 0) ∧ va_P D vC ([(q0, .inr (5, [.int (nI n), .int 0, .int 0, .ref q8, .ref q17, .ref q25, .int 0, .ref q33, .int 0, .ref q41, .ref q49, .ref q57, .ref q66, .ref q74, .ref q83, .int 0, .ref q91, .ref q100, .int 0, .int 0, .int 0, .int 0, .ref q108, .ref q116, .ref q124, .ref q132])), (q8, .inl (z 1, 5040, .inl (fun _ => 0))), (q17, .inl (z 1, 128, .inl (st.2))), (q25, .inl (z 1, 8, .inl (fun _ => 0))), (q33, .inl (z 1, 24, .inl (fun _ => 0))), (q41, .inl (z 1, 6, .inl (fun _ => 0))), (q49, .inl (z 1, 6, .inl (fun _ => 0))), (q57, .inl (z 4, 6, .inl (fun _ => 0))), (q66, .inl (z 0, 395, .inr (.inl (fun _ => 0)))), (q74, .inl (z 0, 79, .inr (.inl (fun _ => 0)))), (q83, .inl (z 1, 5040, .inl (fun _ => 0))), (q91, .inl (z 1, 20, .inl (fun _ => 0))), (q100, .inl (z 1, 5040, .inl (fun _ => 0))), (q108, .inl (z 1, 6, .inl (fun _ => 0))), (q116, .inl (z 1, 6, .inl (fun _ => 0))), (q124, .inl (z 1, 6, .inl (fun _ => 0))), (q132, .inl (z 1, 6, .inl (fun _ => 0)))]) H ∧ va_D A ([(q0, .inr (5, [.int (nI n), .int 0, .int 0, .ref q8, .ref q17, .ref q25, .int 0, .ref q33, .int 0, .ref q41, .ref q49, .ref q57, .ref q66, .ref q74, .ref q83, .int 0, .ref q91, .ref q100, .int 0, .int 0, .int 0, .int 0, .ref q108, .ref q116, .ref q124, .ref q132])), (q8, .inl (z 1, 5040, .inl (fun _ => 0))), (q17, .inl (z 1, 128, .inl (st.2))), (q25, .inl (z 1, 8, .inl (fun _ => 0))), (q33, .inl (z 1, 24, .inl (fun _ => 0))), (q41, .inl (z 1, 6, .inl (fun _ => 0))), (q49, .inl (z 1, 6, .inl (fun _ => 0))), (q57, .inl (z 4, 6, .inl (fun _ => 0))), (q66, .inl (z 0, 395, .inr (.inl (fun _ => 0)))), (q74, .inl (z 0, 79, .inr (.inl (fun _ => 0)))), (q83, .inl (z 1, 5040, .inl (fun _ => 0))), (q91, .inl (z 1, 20, .inl (fun _ => 0))), (q100, .inl (z 1, 5040, .inl (fun _ => 0))), (q108, .inl (z 1, 6, .inl (fun _ => 0))), (q116, .inl (z 1, 6, .inl (fun _ => 0))), (q124, .inl (z 1, 6, .inl (fun _ => 0))), (q132, .inl (z 1, 6, .inl (fun _ => 0)))]) ∧ va_S A s.heap H locs ∧ lv_has ls 3 [(2, .int (nI st.1)), (0, .ref q0), (1, .int x)]) ?_ 127 (1, fun _ => 0) _ _ ls ⟨rfl, by decide, fun j hj => (by rw [show j = 0 by have : j < 1 := hj; omega]; rfl), fun _ _ => rfl, hP, hD, hS, hl⟩
  clear hP hD hS hl
  rintro q ⟨k, f9⟩ H locs ls ⟨hdk, hk1, hf9, hf0, hP, hD, hS, hl⟩ ih
  replace hdk : q + k = 128 := hdk
  replace hk1 : 1 ≤ k := hk1
  replace hf9 : ∀ j, j < k → f9 j = mOn j := hf9
  replace hf0 : ∀ j, k ≤ j → f9 j = 0 := hf0
  replace hP : va_P D vC ([(q0, .inr (5, [.int (nI n), .int 0, .int 0, .ref q8, .ref q17, .ref q25, .int 0, .ref q33, .int 0, .ref q41, .ref q49, .ref q57, .ref q66, .ref q74, .ref q83, .int 0, .ref q91, .ref q100, .int 0, .int 0, .int 0, .int 0, .ref q108, .ref q116, .ref q124, .ref q132])), (q8, .inl (z 1, 5040, .inl (fun _ => 0))), (q17, .inl (z 1, 128, .inl (f9))), (q25, .inl (z 1, 8, .inl (fun _ => 0))), (q33, .inl (z 1, 24, .inl (fun _ => 0))), (q41, .inl (z 1, 6, .inl (fun _ => 0))), (q49, .inl (z 1, 6, .inl (fun _ => 0))), (q57, .inl (z 4, 6, .inl (fun _ => 0))), (q66, .inl (z 0, 395, .inr (.inl (fun _ => 0)))), (q74, .inl (z 0, 79, .inr (.inl (fun _ => 0)))), (q83, .inl (z 1, 5040, .inl (fun _ => 0))), (q91, .inl (z 1, 20, .inl (fun _ => 0))), (q100, .inl (z 1, 5040, .inl (fun _ => 0))), (q108, .inl (z 1, 6, .inl (fun _ => 0))), (q116, .inl (z 1, 6, .inl (fun _ => 0))), (q124, .inl (z 1, 6, .inl (fun _ => 0))), (q132, .inl (z 1, 6, .inl (fun _ => 0)))]) H := hP
  replace hD : va_D A ([(q0, .inr (5, [.int (nI n), .int 0, .int 0, .ref q8, .ref q17, .ref q25, .int 0, .ref q33, .int 0, .ref q41, .ref q49, .ref q57, .ref q66, .ref q74, .ref q83, .int 0, .ref q91, .ref q100, .int 0, .int 0, .int 0, .int 0, .ref q108, .ref q116, .ref q124, .ref q132])), (q8, .inl (z 1, 5040, .inl (fun _ => 0))), (q17, .inl (z 1, 128, .inl (f9))), (q25, .inl (z 1, 8, .inl (fun _ => 0))), (q33, .inl (z 1, 24, .inl (fun _ => 0))), (q41, .inl (z 1, 6, .inl (fun _ => 0))), (q49, .inl (z 1, 6, .inl (fun _ => 0))), (q57, .inl (z 4, 6, .inl (fun _ => 0))), (q66, .inl (z 0, 395, .inr (.inl (fun _ => 0)))), (q74, .inl (z 0, 79, .inr (.inl (fun _ => 0)))), (q83, .inl (z 1, 5040, .inl (fun _ => 0))), (q91, .inl (z 1, 20, .inl (fun _ => 0))), (q100, .inl (z 1, 5040, .inl (fun _ => 0))), (q108, .inl (z 1, 6, .inl (fun _ => 0))), (q116, .inl (z 1, 6, .inl (fun _ => 0))), (q124, .inl (z 1, 6, .inl (fun _ => 0))), (q132, .inl (z 1, 6, .inl (fun _ => 0)))]) := hD
  replace hl : lv_has ls 3 [(2, .int (nI k)), (0, .ref q0), (1, .int x)] := hl
  refine lv_iload_n hx hb dM_init_163 rfl (lv_at hl 0 rfl) ?_
  refine lv_sipush (v := 128) hx hb dM_init_164 (by decide) ?_
  refine lv_icmp_ge (tgt := 194) hx hb dM_init_167 rfl (fun h => ?_) (fun h => ?_)
  rotate_left
  · have hk : k < 128 := by
      have : ¬ _ := fun q => h ((nI_leI (a := 128) (b := k) (by omega) (by omega)).mpr q)
      omega
    refine lv_aload_n hx hb dM_init_170 rfl (lv_at hl 1 rfl) ?_
    refine va_get (ci := 5) (C := RM) (T := TM) (N := 26) hx hb ht inM hown hK hP 0 rfl rfl 4 (by decide) (ht _ tw_653) (fun _ h9 => h9) rfl dM_init_171 ?_
    refine lv_iload_n hx hb dM_init_174 rfl (lv_at hl 0 rfl) ?_
    refine lv_aload_n hx hb dM_init_175 rfl (lv_at hl 1 rfl) ?_
    refine va_get (ci := 5) (C := RM) (T := TM) (N := 26) hx hb ht inM hown hK hP 0 rfl rfl 4 (by decide) (ht _ tw_653) (fun _ h9 => h9) rfl dM_init_176 ?_
    refine lv_iload_n hx hb dM_init_179 rfl (lv_at hl 0 rfl) ?_
    refine lv_iconst (v := 1) hx hb dM_init_180 (by decide) ?_
    refine lv_ishr hx hb dM_init_181 ?_
    refine wti (x' := nI (k / 2)) (pe_shr (k := 1) (by decide) (by omega)) ?_
    refine va_iald hx hb hK hP 2 1 rfl rfl (vp_in_nI (N := 128) (by omega) (by decide)) dM_init_182 ?_
    refine wti (x' := nI (pg_cb 7 (k / 2))) (by rw [nI_clamp (by omega), hf9 _ (by omega)]; exact if_pos (by omega)) ?_
    refine lv_iload_n hx hb dM_init_183 rfl (lv_at hl 0 rfl) ?_
    refine lv_iconst (v := 1) hx hb dM_init_184 (by decide) ?_
    refine lv_iand hx hb dM_init_185 ?_
    refine wti (x' := nI (k % 2)) (pe_mask32 k 1 (by decide)) ?_
    refine lv_iadd hx hb dM_init_186 ?_
    refine wti (x' := mOn k) (by rw [nI_add, m_ones k hk]; exact (if_pos hk).symm) ?_
    refine va_iast hx hb hK hP hD hS 2 1 rfl rfl (vp_in_nI (N := 128) (by omega) (by decide)) dM_init_187 (fun H locs hP hD hS => ?_)
    rw [nI_clamp (by omega)] at hP hD
    refine lv_iinc (k := 0) (v := (nI (k + 1))) hx hb dM_init_188 hl rfl (by exact nI_1 _) (by decide) rfl (fun ls hl => ?_)
    replace hl : lv_has ls 3 [(2, .int (nI (k + 1))), (0, .ref q0), (1, .int x)] := hl
    refine lv_goto (tgt := 163) hx hb dM_init_191 rfl ?_
    refine ih (q - 1) (k + 1, upd f9 k (mOn k)) _ _ ls (by omega) ⟨by show q - 1 + (k + 1) = 128; omega, by show 1 ≤ k + 1; omega, fun j hj => ?_, fun j hj => ?_, hP, hD, hS, lv_sub hl [0, 1, 2] rfl⟩
    · replace hj : j < k + 1 := hj
      show upd f9 k (mOn k) j = mOn j
      by_cases e : j = k
      · rw [e, pk_us]
      · rw [pk_un e]; exact hf9 j (by omega)
    · replace hj : k + 1 ≤ j := hj
      show upd f9 k (mOn k) j = 0
      rw [pk_un (by omega)]; exact hf0 j (by omega)
  have hk : k = 128 := by have := (nI_leI (a := 128) (by omega) (by omega)).mp h; omega
  have hfe : f9 = mOn := by
    funext j
    by_cases e : j < 128
    · exact hf9 j (by omega)
    · rw [hf0 j (by omega)]; exact (if_neg e).symm
  subst hfe
  clear ih hf9 hf0 h hdk
  refine lv_aload_n hx hb dM_init_194 rfl (lv_at hl 1 rfl) ?_
  refine va_get (ci := 5) (C := RM) (T := TM) (N := 26) hx hb ht inM hown hK hP 0 rfl rfl 5 (by decide) (ht _ tw_654) (fun _ h9 => h9) rfl dM_init_195 ?_
  refine lv_iconst (v := 0) hx hb dM_init_198 (by decide) ?_
  refine lv_iconst (v := 1) hx hb dM_init_199 (by decide) ?_
  refine va_iast hx hb hK hP hD hS 3 1 rfl rfl (vp_in_nI (n := 0) (N := 8) (by decide) (by decide)) dM_init_200 (fun H locs hP hD hS => ?_)
  replace hP : va_P D vC ([(q0, .inr (5, [.int (nI n), .int 0, .int 0, .ref q8, .ref q17, .ref q25, .int 0, .ref q33, .int 0, .ref q41, .ref q49, .ref q57, .ref q66, .ref q74, .ref q83, .int 0, .ref q91, .ref q100, .int 0, .int 0, .int 0, .int 0, .ref q108, .ref q116, .ref q124, .ref q132])), (q8, .inl (z 1, 5040, .inl (fun _ => 0))), (q17, .inl (z 1, 128, .inl (mOn))), (q25, .inl (z 1, 8, .inl (upd (fun _ => 0) 0 1))), (q33, .inl (z 1, 24, .inl (fun _ => 0))), (q41, .inl (z 1, 6, .inl (fun _ => 0))), (q49, .inl (z 1, 6, .inl (fun _ => 0))), (q57, .inl (z 4, 6, .inl (fun _ => 0))), (q66, .inl (z 0, 395, .inr (.inl (fun _ => 0)))), (q74, .inl (z 0, 79, .inr (.inl (fun _ => 0)))), (q83, .inl (z 1, 5040, .inl (fun _ => 0))), (q91, .inl (z 1, 20, .inl (fun _ => 0))), (q100, .inl (z 1, 5040, .inl (fun _ => 0))), (q108, .inl (z 1, 6, .inl (fun _ => 0))), (q116, .inl (z 1, 6, .inl (fun _ => 0))), (q124, .inl (z 1, 6, .inl (fun _ => 0))), (q132, .inl (z 1, 6, .inl (fun _ => 0)))]) H := hP
  replace hD : va_D A ([(q0, .inr (5, [.int (nI n), .int 0, .int 0, .ref q8, .ref q17, .ref q25, .int 0, .ref q33, .int 0, .ref q41, .ref q49, .ref q57, .ref q66, .ref q74, .ref q83, .int 0, .ref q91, .ref q100, .int 0, .int 0, .int 0, .int 0, .ref q108, .ref q116, .ref q124, .ref q132])), (q8, .inl (z 1, 5040, .inl (fun _ => 0))), (q17, .inl (z 1, 128, .inl (mOn))), (q25, .inl (z 1, 8, .inl (upd (fun _ => 0) 0 1))), (q33, .inl (z 1, 24, .inl (fun _ => 0))), (q41, .inl (z 1, 6, .inl (fun _ => 0))), (q49, .inl (z 1, 6, .inl (fun _ => 0))), (q57, .inl (z 4, 6, .inl (fun _ => 0))), (q66, .inl (z 0, 395, .inr (.inl (fun _ => 0)))), (q74, .inl (z 0, 79, .inr (.inl (fun _ => 0)))), (q83, .inl (z 1, 5040, .inl (fun _ => 0))), (q91, .inl (z 1, 20, .inl (fun _ => 0))), (q100, .inl (z 1, 5040, .inl (fun _ => 0))), (q108, .inl (z 1, 6, .inl (fun _ => 0))), (q116, .inl (z 1, 6, .inl (fun _ => 0))), (q124, .inl (z 1, 6, .inl (fun _ => 0))), (q132, .inl (z 1, 6, .inl (fun _ => 0)))]) := hD
  refine lv_iconst (v := 1) hx hb dM_init_201 (by decide) ?_
  refine lv_istore_n hx hb dM_init_202 rfl hl (by decide) rfl (fun ls hl => ?_)
  replace hl : lv_has ls 3 [(2, .int (nI 1)), (0, .ref q0), (1, .int x)] := hl
  refine wl (σ := Nat × (Nat → Int32)) (I := fun q st H locs ls => q + st.1 = 8 ∧ 1 ≤ st.1 ∧ (∀ j, j < st.1 → st.2 j = mFc j) ∧ (∀ j, st.1 ≤ j → st.2 j = 0) ∧ va_P D vC ([(q0, .inr (5, [.int (nI n), .int 0, .int 0, .ref q8, .ref q17, .ref q25, .int 0, .ref q33, .int 0, .ref q41, .ref q49, .ref q57, .ref q66, .ref q74, .ref q83, .int 0, .ref q91, .ref q100, .int 0, .int 0, .int 0, .int 0, .ref q108, .ref q116, .ref q124, .ref q132])), (q8, .inl (z 1, 5040, .inl (fun _ => 0))), (q17, .inl (z 1, 128, .inl (mOn))), (q25, .inl (z 1, 8, .inl (st.2))), (q33, .inl (z 1, 24, .inl (fun _ => 0))), (q41, .inl (z 1, 6, .inl (fun _ => 0))), (q49, .inl (z 1, 6, .inl (fun _ => 0))), (q57, .inl (z 4, 6, .inl (fun _ => 0))), (q66, .inl (z 0, 395, .inr (.inl (fun _ => 0)))), (q74, .inl (z 0, 79, .inr (.inl (fun _ => 0)))), (q83, .inl (z 1, 5040, .inl (fun _ => 0))), (q91, .inl (z 1, 20, .inl (fun _ => 0))), (q100, .inl (z 1, 5040, .inl (fun _ => 0))), (q108, .inl (z 1, 6, .inl (fun _ => 0))), (q116, .inl (z 1, 6, .inl (fun _ => 0))), (q124, .inl (z 1, 6, .inl (fun _ => 0))), (q132, .inl (z 1, 6, .inl (fun _ => 0)))]) H ∧ va_D A ([(q0, .inr (5, [.int (nI n), .int 0, .int 0, .ref q8, .ref q17, .ref q25, .int 0, .ref q33, .int 0, .ref q41, .ref q49, .ref q57, .ref q66, .ref q74, .ref q83, .int 0, .ref q91, .ref q100, .int 0, .int 0, .int 0, .int 0, .ref q108, .ref q116, .ref q124, .ref q132])), (q8, .inl (z 1, 5040, .inl (fun _ => 0))), (q17, .inl (z 1, 128, .inl (mOn))), (q25, .inl (z 1, 8, .inl (st.2))), (q33, .inl (z 1, 24, .inl (fun _ => 0))), (q41, .inl (z 1, 6, .inl (fun _ => 0))), (q49, .inl (z 1, 6, .inl (fun _ => 0))), (q57, .inl (z 4, 6, .inl (fun _ => 0))), (q66, .inl (z 0, 395, .inr (.inl (fun _ => 0)))), (q74, .inl (z 0, 79, .inr (.inl (fun _ => 0)))), (q83, .inl (z 1, 5040, .inl (fun _ => 0))), (q91, .inl (z 1, 20, .inl (fun _ => 0))), (q100, .inl (z 1, 5040, .inl (fun _ => 0))), (q108, .inl (z 1, 6, .inl (fun _ => 0))), (q116, .inl (z 1, 6, .inl (fun _ => 0))), (q124, .inl (z 1, 6, .inl (fun _ => 0))), (q132, .inl (z 1, 6, .inl (fun _ => 0)))]) ∧ va_S A s.heap H locs ∧ lv_has ls 3 [(2, .int (nI st.1)), (0, .ref q0), (1, .int x)]) ?_ 7 (1, upd (fun _ => 0) 0 1) _ _ ls ⟨rfl, by decide, fun j hj => (by rw [show j = 0 by have : j < 1 := hj; omega]; rfl), fun j hj => (by
    have h9 : 1 ≤ j := hj
    show upd (fun _ => (0 : Int32)) 0 1 j = 0
    rw [pk_un (show j ≠ 0 by omega)]), hP, hD, hS, hl⟩
  clear hP hD hS hl hk hk1
  rintro q ⟨k, f9⟩ H locs ls ⟨hdk, hk1, hf9, hf0, hP, hD, hS, hl⟩ ih
  replace hdk : q + k = 8 := hdk
  replace hk1 : 1 ≤ k := hk1
  replace hf9 : ∀ j, j < k → f9 j = mFc j := hf9
  replace hf0 : ∀ j, k ≤ j → f9 j = 0 := hf0
  replace hP : va_P D vC ([(q0, .inr (5, [.int (nI n), .int 0, .int 0, .ref q8, .ref q17, .ref q25, .int 0, .ref q33, .int 0, .ref q41, .ref q49, .ref q57, .ref q66, .ref q74, .ref q83, .int 0, .ref q91, .ref q100, .int 0, .int 0, .int 0, .int 0, .ref q108, .ref q116, .ref q124, .ref q132])), (q8, .inl (z 1, 5040, .inl (fun _ => 0))), (q17, .inl (z 1, 128, .inl (mOn))), (q25, .inl (z 1, 8, .inl (f9))), (q33, .inl (z 1, 24, .inl (fun _ => 0))), (q41, .inl (z 1, 6, .inl (fun _ => 0))), (q49, .inl (z 1, 6, .inl (fun _ => 0))), (q57, .inl (z 4, 6, .inl (fun _ => 0))), (q66, .inl (z 0, 395, .inr (.inl (fun _ => 0)))), (q74, .inl (z 0, 79, .inr (.inl (fun _ => 0)))), (q83, .inl (z 1, 5040, .inl (fun _ => 0))), (q91, .inl (z 1, 20, .inl (fun _ => 0))), (q100, .inl (z 1, 5040, .inl (fun _ => 0))), (q108, .inl (z 1, 6, .inl (fun _ => 0))), (q116, .inl (z 1, 6, .inl (fun _ => 0))), (q124, .inl (z 1, 6, .inl (fun _ => 0))), (q132, .inl (z 1, 6, .inl (fun _ => 0)))]) H := hP
  replace hD : va_D A ([(q0, .inr (5, [.int (nI n), .int 0, .int 0, .ref q8, .ref q17, .ref q25, .int 0, .ref q33, .int 0, .ref q41, .ref q49, .ref q57, .ref q66, .ref q74, .ref q83, .int 0, .ref q91, .ref q100, .int 0, .int 0, .int 0, .int 0, .ref q108, .ref q116, .ref q124, .ref q132])), (q8, .inl (z 1, 5040, .inl (fun _ => 0))), (q17, .inl (z 1, 128, .inl (mOn))), (q25, .inl (z 1, 8, .inl (f9))), (q33, .inl (z 1, 24, .inl (fun _ => 0))), (q41, .inl (z 1, 6, .inl (fun _ => 0))), (q49, .inl (z 1, 6, .inl (fun _ => 0))), (q57, .inl (z 4, 6, .inl (fun _ => 0))), (q66, .inl (z 0, 395, .inr (.inl (fun _ => 0)))), (q74, .inl (z 0, 79, .inr (.inl (fun _ => 0)))), (q83, .inl (z 1, 5040, .inl (fun _ => 0))), (q91, .inl (z 1, 20, .inl (fun _ => 0))), (q100, .inl (z 1, 5040, .inl (fun _ => 0))), (q108, .inl (z 1, 6, .inl (fun _ => 0))), (q116, .inl (z 1, 6, .inl (fun _ => 0))), (q124, .inl (z 1, 6, .inl (fun _ => 0))), (q132, .inl (z 1, 6, .inl (fun _ => 0)))]) := hD
  replace hl : lv_has ls 3 [(2, .int (nI k)), (0, .ref q0), (1, .int x)] := hl
  refine lv_iload_n hx hb dM_init_203 rfl (lv_at hl 0 rfl) ?_
  refine lv_bipush (v := 8) hx hb dM_init_204 (by decide) ?_
  refine lv_icmp_ge (tgt := 231) hx hb dM_init_206 rfl (fun h => ?_) (fun h => ?_)
  rotate_left
  · have hk : k < 8 := by
      have : ¬ _ := fun q => h ((nI_leI (a := 8) (b := k) (by omega) (by omega)).mpr q)
      omega
    refine lv_aload_n hx hb dM_init_209 rfl (lv_at hl 1 rfl) ?_
    refine va_get (ci := 5) (C := RM) (T := TM) (N := 26) hx hb ht inM hown hK hP 0 rfl rfl 5 (by decide) (ht _ tw_654) (fun _ h9 => h9) rfl dM_init_210 ?_
    refine lv_iload_n hx hb dM_init_213 rfl (lv_at hl 0 rfl) ?_
    refine lv_aload_n hx hb dM_init_214 rfl (lv_at hl 1 rfl) ?_
    refine va_get (ci := 5) (C := RM) (T := TM) (N := 26) hx hb ht inM hown hK hP 0 rfl rfl 5 (by decide) (ht _ tw_654) (fun _ h9 => h9) rfl dM_init_215 ?_
    refine lv_iload_n hx hb dM_init_218 rfl (lv_at hl 0 rfl) ?_
    refine lv_iconst (v := 1) hx hb dM_init_219 (by decide) ?_
    refine lv_isub hx hb dM_init_220 ?_
    refine wti (x' := nI (k - 1)) (pk_sub (b := 1) (by omega)) ?_
    refine va_iald hx hb hK hP 3 1 rfl rfl (vp_in_nI (N := 8) (by omega) (by decide)) dM_init_221 ?_
    refine wti (x' := nI (pg_fac (k - 1))) (by rw [nI_clamp (by omega), hf9 _ (by omega)]; exact if_pos (by omega)) ?_
    refine lv_iload_n hx hb dM_init_222 rfl (lv_at hl 0 rfl) ?_
    refine lv_imul hx hb dM_init_223 ?_
    refine wti (x' := mFc k) (by
      rw [pk_mul]
      obtain ⟨k', rfl⟩ : ∃ k', k = k' + 1 := ⟨k - 1, by omega⟩
      exact (if_pos hk).symm) ?_
    refine va_iast hx hb hK hP hD hS 3 1 rfl rfl (vp_in_nI (N := 8) (by omega) (by decide)) dM_init_224 (fun H locs hP hD hS => ?_)
    rw [nI_clamp (by omega)] at hP hD
    refine lv_iinc (k := 0) (v := (nI (k + 1))) hx hb dM_init_225 hl rfl (by exact nI_1 _) (by decide) rfl (fun ls hl => ?_)
    replace hl : lv_has ls 3 [(2, .int (nI (k + 1))), (0, .ref q0), (1, .int x)] := hl
    refine lv_goto (tgt := 203) hx hb dM_init_228 rfl ?_
    refine ih (q - 1) (k + 1, upd f9 k (mFc k)) _ _ ls (by omega) ⟨by show q - 1 + (k + 1) = 8; omega, by show 1 ≤ k + 1; omega, fun j hj => ?_, fun j hj => ?_, hP, hD, hS, lv_sub hl [0, 1, 2] rfl⟩
    · replace hj : j < k + 1 := hj
      show upd f9 k (mFc k) j = mFc j
      by_cases e : j = k
      · rw [e, pk_us]
      · rw [pk_un e]; exact hf9 j (by omega)
    · replace hj : k + 1 ≤ j := hj
      show upd f9 k (mFc k) j = 0
      rw [pk_un (by omega)]; exact hf0 j (by omega)
  have hk : k = 8 := by have := (nI_leI (a := 8) (by omega) (by omega)).mp h; omega
  have hfe : f9 = mFc := by
    funext j
    by_cases e : j < 8
    · exact hf9 j (by omega)
    · rw [hf0 j (by omega)]; exact (if_neg e).symm
  subst hfe
  clear ih hf9 hf0 h hdk
  refine lv_aload_n hx hb dM_init_231 rfl (lv_at hl 1 rfl) ?_
  refine lv_aload_n hx hb dM_init_232 rfl (lv_at hl 1 rfl) ?_
  refine va_get (ci := 5) (C := RM) (T := TM) (N := 26) hx hb ht inM hown hK hP 0 rfl rfl 5 (by decide) (ht _ tw_654) (fun _ h9 => h9) rfl dM_init_233 ?_
  refine lv_aload_n hx hb dM_init_236 rfl (lv_at hl 1 rfl) ?_
  refine va_get (ci := 5) (C := RM) (T := TM) (N := 26) hx hb ht inM hown hK hP 0 rfl rfl 0 (by decide) (ht _ tw_649) (fun _ h9 => h9) rfl dM_init_237 ?_
  refine va_iald hx hb hK hP 3 1 rfl rfl (vp_in_nI (N := 8) (by omega) (by decide)) dM_init_240 ?_
  refine wti (x' := nI (pg_fac n)) (by rw [nI_clamp (by omega)]; exact if_pos (by omega)) ?_
  refine va_putF (ci := 5) (ty := .int) (C := RM) (T := TM) (N := 26) hx hb ht inM tyM tyM_ok nmM hown hK hP hD hS 0 rfl rfl 1 (by decide) (ht _ tw_650) (fun _ h9 => h9) rfl hin rfl (by decide +kernel) rfl rfl (Nat.le_of_ble_eq_true rfl) dM_init_241 (fun H locs hP hD hS => ?_)
  replace hP : va_P D vC ([(q0, .inr (5, [.int (nI n), .int (nI (pg_fac n)), .int 0, .ref q8, .ref q17, .ref q25, .int 0, .ref q33, .int 0, .ref q41, .ref q49, .ref q57, .ref q66, .ref q74, .ref q83, .int 0, .ref q91, .ref q100, .int 0, .int 0, .int 0, .int 0, .ref q108, .ref q116, .ref q124, .ref q132])), (q8, .inl (z 1, 5040, .inl (fun _ => 0))), (q17, .inl (z 1, 128, .inl (mOn))), (q25, .inl (z 1, 8, .inl (mFc))), (q33, .inl (z 1, 24, .inl (fun _ => 0))), (q41, .inl (z 1, 6, .inl (fun _ => 0))), (q49, .inl (z 1, 6, .inl (fun _ => 0))), (q57, .inl (z 4, 6, .inl (fun _ => 0))), (q66, .inl (z 0, 395, .inr (.inl (fun _ => 0)))), (q74, .inl (z 0, 79, .inr (.inl (fun _ => 0)))), (q83, .inl (z 1, 5040, .inl (fun _ => 0))), (q91, .inl (z 1, 20, .inl (fun _ => 0))), (q100, .inl (z 1, 5040, .inl (fun _ => 0))), (q108, .inl (z 1, 6, .inl (fun _ => 0))), (q116, .inl (z 1, 6, .inl (fun _ => 0))), (q124, .inl (z 1, 6, .inl (fun _ => 0))), (q132, .inl (z 1, 6, .inl (fun _ => 0)))]) H := hP
  replace hD : va_D A ([(q0, .inr (5, [.int (nI n), .int (nI (pg_fac n)), .int 0, .ref q8, .ref q17, .ref q25, .int 0, .ref q33, .int 0, .ref q41, .ref q49, .ref q57, .ref q66, .ref q74, .ref q83, .int 0, .ref q91, .ref q100, .int 0, .int 0, .int 0, .int 0, .ref q108, .ref q116, .ref q124, .ref q132])), (q8, .inl (z 1, 5040, .inl (fun _ => 0))), (q17, .inl (z 1, 128, .inl (mOn))), (q25, .inl (z 1, 8, .inl (mFc))), (q33, .inl (z 1, 24, .inl (fun _ => 0))), (q41, .inl (z 1, 6, .inl (fun _ => 0))), (q49, .inl (z 1, 6, .inl (fun _ => 0))), (q57, .inl (z 4, 6, .inl (fun _ => 0))), (q66, .inl (z 0, 395, .inr (.inl (fun _ => 0)))), (q74, .inl (z 0, 79, .inr (.inl (fun _ => 0)))), (q83, .inl (z 1, 5040, .inl (fun _ => 0))), (q91, .inl (z 1, 20, .inl (fun _ => 0))), (q100, .inl (z 1, 5040, .inl (fun _ => 0))), (q108, .inl (z 1, 6, .inl (fun _ => 0))), (q116, .inl (z 1, 6, .inl (fun _ => 0))), (q124, .inl (z 1, 6, .inl (fun _ => 0))), (q132, .inl (z 1, 6, .inl (fun _ => 0)))]) := hD
  refine lv_iconst (v := 0) hx hb dM_init_244 (by decide) ?_
  refine lv_istore_n hx hb dM_init_245 rfl hl (by decide) rfl (fun ls hl => ?_)
  replace hl : lv_has ls 3 [(2, .int (nI 0)), (0, .ref q0), (1, .int x)] := hl
  refine wl (σ := Nat × (Nat → Int32)) (I := fun q st H locs ls => q + st.1 = pg_fac n ∧ (∀ j, j < st.1 → st.2 j = mL n j) ∧ (∀ j, st.1 ≤ j → st.2 j = 0) ∧ va_P D vC ([(q0, .inr (5, [.int (nI n), .int (nI (pg_fac n)), .int 0, .ref q8, .ref q17, .ref q25, .int 0, .ref q33, .int 0, .ref q41, .ref q49, .ref q57, .ref q66, .ref q74, .ref q83, .int 0, .ref q91, .ref q100, .int 0, .int 0, .int 0, .int 0, .ref q108, .ref q116, .ref q124, .ref q132])), (q8, .inl (z 1, 5040, .inl (st.2))), (q17, .inl (z 1, 128, .inl (mOn))), (q25, .inl (z 1, 8, .inl (mFc))), (q33, .inl (z 1, 24, .inl (fun _ => 0))), (q41, .inl (z 1, 6, .inl (fun _ => 0))), (q49, .inl (z 1, 6, .inl (fun _ => 0))), (q57, .inl (z 4, 6, .inl (fun _ => 0))), (q66, .inl (z 0, 395, .inr (.inl (fun _ => 0)))), (q74, .inl (z 0, 79, .inr (.inl (fun _ => 0)))), (q83, .inl (z 1, 5040, .inl (fun _ => 0))), (q91, .inl (z 1, 20, .inl (fun _ => 0))), (q100, .inl (z 1, 5040, .inl (fun _ => 0))), (q108, .inl (z 1, 6, .inl (fun _ => 0))), (q116, .inl (z 1, 6, .inl (fun _ => 0))), (q124, .inl (z 1, 6, .inl (fun _ => 0))), (q132, .inl (z 1, 6, .inl (fun _ => 0)))]) H ∧ va_D A ([(q0, .inr (5, [.int (nI n), .int (nI (pg_fac n)), .int 0, .ref q8, .ref q17, .ref q25, .int 0, .ref q33, .int 0, .ref q41, .ref q49, .ref q57, .ref q66, .ref q74, .ref q83, .int 0, .ref q91, .ref q100, .int 0, .int 0, .int 0, .int 0, .ref q108, .ref q116, .ref q124, .ref q132])), (q8, .inl (z 1, 5040, .inl (st.2))), (q17, .inl (z 1, 128, .inl (mOn))), (q25, .inl (z 1, 8, .inl (mFc))), (q33, .inl (z 1, 24, .inl (fun _ => 0))), (q41, .inl (z 1, 6, .inl (fun _ => 0))), (q49, .inl (z 1, 6, .inl (fun _ => 0))), (q57, .inl (z 4, 6, .inl (fun _ => 0))), (q66, .inl (z 0, 395, .inr (.inl (fun _ => 0)))), (q74, .inl (z 0, 79, .inr (.inl (fun _ => 0)))), (q83, .inl (z 1, 5040, .inl (fun _ => 0))), (q91, .inl (z 1, 20, .inl (fun _ => 0))), (q100, .inl (z 1, 5040, .inl (fun _ => 0))), (q108, .inl (z 1, 6, .inl (fun _ => 0))), (q116, .inl (z 1, 6, .inl (fun _ => 0))), (q124, .inl (z 1, 6, .inl (fun _ => 0))), (q132, .inl (z 1, 6, .inl (fun _ => 0)))]) ∧ va_S A s.heap H locs ∧ lv_has ls 3 [(2, .int (nI st.1)), (0, .ref q0), (1, .int x)]) ?_ (pg_fac n) (0, fun _ => 0) _ _ ls ⟨rfl, fun j hj => absurd hj (Nat.not_lt_zero j), fun _ _ => rfl, hP, hD, hS, hl⟩
  clear hP hD hS hl hk hk1
  rintro q ⟨k, f9⟩ H locs ls ⟨hdk, hf9, hf0, hP, hD, hS, hl⟩ ih
  replace hdk : q + k = pg_fac n := hdk
  replace hf9 : ∀ j, j < k → f9 j = mL n j := hf9
  replace hf0 : ∀ j, k ≤ j → f9 j = 0 := hf0
  replace hP : va_P D vC ([(q0, .inr (5, [.int (nI n), .int (nI (pg_fac n)), .int 0, .ref q8, .ref q17, .ref q25, .int 0, .ref q33, .int 0, .ref q41, .ref q49, .ref q57, .ref q66, .ref q74, .ref q83, .int 0, .ref q91, .ref q100, .int 0, .int 0, .int 0, .int 0, .ref q108, .ref q116, .ref q124, .ref q132])), (q8, .inl (z 1, 5040, .inl (f9))), (q17, .inl (z 1, 128, .inl (mOn))), (q25, .inl (z 1, 8, .inl (mFc))), (q33, .inl (z 1, 24, .inl (fun _ => 0))), (q41, .inl (z 1, 6, .inl (fun _ => 0))), (q49, .inl (z 1, 6, .inl (fun _ => 0))), (q57, .inl (z 4, 6, .inl (fun _ => 0))), (q66, .inl (z 0, 395, .inr (.inl (fun _ => 0)))), (q74, .inl (z 0, 79, .inr (.inl (fun _ => 0)))), (q83, .inl (z 1, 5040, .inl (fun _ => 0))), (q91, .inl (z 1, 20, .inl (fun _ => 0))), (q100, .inl (z 1, 5040, .inl (fun _ => 0))), (q108, .inl (z 1, 6, .inl (fun _ => 0))), (q116, .inl (z 1, 6, .inl (fun _ => 0))), (q124, .inl (z 1, 6, .inl (fun _ => 0))), (q132, .inl (z 1, 6, .inl (fun _ => 0)))]) H := hP
  replace hD : va_D A ([(q0, .inr (5, [.int (nI n), .int (nI (pg_fac n)), .int 0, .ref q8, .ref q17, .ref q25, .int 0, .ref q33, .int 0, .ref q41, .ref q49, .ref q57, .ref q66, .ref q74, .ref q83, .int 0, .ref q91, .ref q100, .int 0, .int 0, .int 0, .int 0, .ref q108, .ref q116, .ref q124, .ref q132])), (q8, .inl (z 1, 5040, .inl (f9))), (q17, .inl (z 1, 128, .inl (mOn))), (q25, .inl (z 1, 8, .inl (mFc))), (q33, .inl (z 1, 24, .inl (fun _ => 0))), (q41, .inl (z 1, 6, .inl (fun _ => 0))), (q49, .inl (z 1, 6, .inl (fun _ => 0))), (q57, .inl (z 4, 6, .inl (fun _ => 0))), (q66, .inl (z 0, 395, .inr (.inl (fun _ => 0)))), (q74, .inl (z 0, 79, .inr (.inl (fun _ => 0)))), (q83, .inl (z 1, 5040, .inl (fun _ => 0))), (q91, .inl (z 1, 20, .inl (fun _ => 0))), (q100, .inl (z 1, 5040, .inl (fun _ => 0))), (q108, .inl (z 1, 6, .inl (fun _ => 0))), (q116, .inl (z 1, 6, .inl (fun _ => 0))), (q124, .inl (z 1, 6, .inl (fun _ => 0))), (q132, .inl (z 1, 6, .inl (fun _ => 0)))]) := hD
  replace hl : lv_has ls 3 [(2, .int (nI k)), (0, .ref q0), (1, .int x)] := hl
  refine lv_iload_n hx hb dM_init_246 rfl (lv_at hl 0 rfl) ?_
  refine lv_aload_n hx hb dM_init_247 rfl (lv_at hl 1 rfl) ?_
  refine va_get (ci := 5) (C := RM) (T := TM) (N := 26) hx hb ht inM hown hK hP 0 rfl rfl 1 (by decide) (ht _ tw_650) (fun _ h9 => h9) rfl dM_init_248 ?_
  refine lv_icmp_ge (tgt := 271) hx hb dM_init_251 rfl (fun h => ?_) (fun h => ?_)
  rotate_left
  · have hk : k < pg_fac n := by
      rw [nI_leI (by omega) (by omega)] at h
      omega
    refine lv_aload_n hx hb dM_init_254 rfl (lv_at hl 1 rfl) ?_
    refine va_get (ci := 5) (C := RM) (T := TM) (N := 26) hx hb ht inM hown hK hP 0 rfl rfl 3 (by decide) (ht _ tw_652) (fun _ h9 => h9) rfl dM_init_255 ?_
    refine lv_iload_n hx hb dM_init_258 rfl (lv_at hl 0 rfl) ?_
    refine lv_aload_n hx hb dM_init_259 rfl (lv_at hl 1 rfl) ?_
    refine lv_iload_n hx hb dM_init_260 rfl (lv_at hl 0 rfl) ?_
    refine qV_i (ci := 5) (q0 := 0) (As := [.int (nI k)]) (rest := [.int (nI k), .ref q8]) ⟨hx, hb, hml, hown, ht⟩ (c_M_unranked l D z q0 q25 n k hn hk (.int (nI (pg_fac n))) (.int 0) (.ref q8) (.ref q17) (.int 0) (.ref q33) (.int 0) (.ref q41) (.ref q49) (.ref q57) (.ref q66) (.ref q74) (.ref q83) (.int 0) (.ref q91) (.ref q100) (.int 0) (.int 0) (.int 0) (.int 0) (.ref q108) (.ref q116) (.ref q124) (.ref q132)) (cB 1 ht gM_unranked rfl tw_64 tw_645 (by decide +kernel) ⟨by decide, by decide⟩) tw_647 tw_29 hK (hP.sub (ws' := [(q0, .inr (5, [.int (nI n), .int (nI (pg_fac n)), .int 0, .ref q8, .ref q17, .ref q25, .int 0, .ref q33, .int 0, .ref q41, .ref q49, .ref q57, .ref q66, .ref q74, .ref q83, .int 0, .ref q91, .ref q100, .int 0, .int 0, .int 0, .int 0, .ref q108, .ref q116, .ref q124, .ref q132])), (q25, .inl (z 1, 8, .inl mFc))]) [0, 3] rfl) rfl rfl rfl hl.1 rfl (Nat.le_of_ble_eq_true rfl) dM_init_261 ⟨by decide, by decide⟩ (fun r261 h261 => ?_)
    obtain ⟨x9, hx9, rfl⟩ := h261
    refine va_iast hx hb hK hP hD hS 1 1 rfl rfl (vp_in_nI (N := 5040) (by omega) (by decide)) dM_init_264 (fun H locs hP hD hS => ?_)
    rw [nI_clamp (by omega)] at hP hD
    refine lv_iinc (k := 0) (v := (nI (k + 1))) hx hb dM_init_265 hl rfl (by exact nI_1 _) (by decide) rfl (fun ls hl => ?_)
    replace hl : lv_has ls 3 [(2, .int (nI (k + 1))), (0, .ref q0), (1, .int x)] := hl
    refine lv_goto (tgt := 246) hx hb dM_init_268 rfl ?_
    refine ih (q - 1) (k + 1, upd f9 k (eI n x9)) _ _ ls (by omega) ⟨by show q - 1 + (k + 1) = pg_fac n; omega, fun j hj => ?_, fun j hj => ?_, hP, hD, hS, lv_sub hl [0, 1, 2] rfl⟩
    · replace hj : j < k + 1 := hj
      show upd f9 k (eI n x9) j = mL n j
      by_cases e : j = k
      · rw [e, pk_us, mL_at hx9]
      · rw [pk_un e]; exact hf9 j (by omega)
    · replace hj : k + 1 ≤ j := hj
      show upd f9 k (eI n x9) j = 0
      rw [pk_un (by omega)]; exact hf0 j (by omega)
  have hk : k = pg_fac n := by have := (nI_leI (by omega) (by omega)).mp h; omega
  have hfe : f9 = mL n := by
    funext j
    by_cases e : j < pg_fac n
    · exact hf9 j (by omega)
    · rw [hf0 j (by omega)]
      unfold mL
      rw [List.getElem?_eq_none (by rw [pg_all_len]; omega)]
  subst hfe
  clear ih hf9 hf0 h hdk
  refine lv_iconst (v := 0) hx hb dM_init_271 (by decide) ?_
  refine lv_istore_n hx hb dM_init_272 rfl hl (by decide) rfl (fun ls hl => ?_)
  replace hl : lv_has ls 3 [(2, .int (nI 0)), (0, .ref q0), (1, .int x)] := hl
  refine wl (σ := Nat × (Nat → Int64)) (I := fun q st H locs ls => q + st.1 = 5 ∧ (∀ j, j < 395 → st.2 j = if j % 79 = 0 ∧ j < 79 * st.1 then 1 else 0) ∧ va_P D vC ([(q0, .inr (5, [.int (nI n), .int (nI (pg_fac n)), .int 0, .ref q8, .ref q17, .ref q25, .int 0, .ref q33, .int 0, .ref q41, .ref q49, .ref q57, .ref q66, .ref q74, .ref q83, .int 0, .ref q91, .ref q100, .int 0, .int 0, .int 0, .int 0, .ref q108, .ref q116, .ref q124, .ref q132])), (q8, .inl (z 1, 5040, .inl (mL n))), (q17, .inl (z 1, 128, .inl (mOn))), (q25, .inl (z 1, 8, .inl (mFc))), (q33, .inl (z 1, 24, .inl (fun _ => 0))), (q41, .inl (z 1, 6, .inl (fun _ => 0))), (q49, .inl (z 1, 6, .inl (fun _ => 0))), (q57, .inl (z 4, 6, .inl (fun _ => 0))), (q66, .inl (z 0, 395, .inr (.inl (st.2)))), (q74, .inl (z 0, 79, .inr (.inl (fun _ => 0)))), (q83, .inl (z 1, 5040, .inl (fun _ => 0))), (q91, .inl (z 1, 20, .inl (fun _ => 0))), (q100, .inl (z 1, 5040, .inl (fun _ => 0))), (q108, .inl (z 1, 6, .inl (fun _ => 0))), (q116, .inl (z 1, 6, .inl (fun _ => 0))), (q124, .inl (z 1, 6, .inl (fun _ => 0))), (q132, .inl (z 1, 6, .inl (fun _ => 0)))]) H ∧ va_D A ([(q0, .inr (5, [.int (nI n), .int (nI (pg_fac n)), .int 0, .ref q8, .ref q17, .ref q25, .int 0, .ref q33, .int 0, .ref q41, .ref q49, .ref q57, .ref q66, .ref q74, .ref q83, .int 0, .ref q91, .ref q100, .int 0, .int 0, .int 0, .int 0, .ref q108, .ref q116, .ref q124, .ref q132])), (q8, .inl (z 1, 5040, .inl (mL n))), (q17, .inl (z 1, 128, .inl (mOn))), (q25, .inl (z 1, 8, .inl (mFc))), (q33, .inl (z 1, 24, .inl (fun _ => 0))), (q41, .inl (z 1, 6, .inl (fun _ => 0))), (q49, .inl (z 1, 6, .inl (fun _ => 0))), (q57, .inl (z 4, 6, .inl (fun _ => 0))), (q66, .inl (z 0, 395, .inr (.inl (st.2)))), (q74, .inl (z 0, 79, .inr (.inl (fun _ => 0)))), (q83, .inl (z 1, 5040, .inl (fun _ => 0))), (q91, .inl (z 1, 20, .inl (fun _ => 0))), (q100, .inl (z 1, 5040, .inl (fun _ => 0))), (q108, .inl (z 1, 6, .inl (fun _ => 0))), (q116, .inl (z 1, 6, .inl (fun _ => 0))), (q124, .inl (z 1, 6, .inl (fun _ => 0))), (q132, .inl (z 1, 6, .inl (fun _ => 0)))]) ∧ va_S A s.heap H locs ∧ lv_has ls 3 [(2, .int (nI st.1)), (0, .ref q0), (1, .int x)]) ?_ 5 (0, fun _ => 0) _ _ ls ⟨rfl, fun j hj => (if_neg (fun e => by have : j < 79 * 0 := e.2; omega)).symm, hP, hD, hS, hl⟩
  clear hP hD hS hl hk
  rintro q ⟨k, f9⟩ H locs ls ⟨hdk, hf9, hP, hD, hS, hl⟩ ih
  replace hdk : q + k = 5 := hdk
  replace hf9 : ∀ j, j < 395 → f9 j = if j % 79 = 0 ∧ j < 79 * k then 1 else 0 := hf9
  replace hP : va_P D vC ([(q0, .inr (5, [.int (nI n), .int (nI (pg_fac n)), .int 0, .ref q8, .ref q17, .ref q25, .int 0, .ref q33, .int 0, .ref q41, .ref q49, .ref q57, .ref q66, .ref q74, .ref q83, .int 0, .ref q91, .ref q100, .int 0, .int 0, .int 0, .int 0, .ref q108, .ref q116, .ref q124, .ref q132])), (q8, .inl (z 1, 5040, .inl (mL n))), (q17, .inl (z 1, 128, .inl (mOn))), (q25, .inl (z 1, 8, .inl (mFc))), (q33, .inl (z 1, 24, .inl (fun _ => 0))), (q41, .inl (z 1, 6, .inl (fun _ => 0))), (q49, .inl (z 1, 6, .inl (fun _ => 0))), (q57, .inl (z 4, 6, .inl (fun _ => 0))), (q66, .inl (z 0, 395, .inr (.inl (f9)))), (q74, .inl (z 0, 79, .inr (.inl (fun _ => 0)))), (q83, .inl (z 1, 5040, .inl (fun _ => 0))), (q91, .inl (z 1, 20, .inl (fun _ => 0))), (q100, .inl (z 1, 5040, .inl (fun _ => 0))), (q108, .inl (z 1, 6, .inl (fun _ => 0))), (q116, .inl (z 1, 6, .inl (fun _ => 0))), (q124, .inl (z 1, 6, .inl (fun _ => 0))), (q132, .inl (z 1, 6, .inl (fun _ => 0)))]) H := hP
  replace hD : va_D A ([(q0, .inr (5, [.int (nI n), .int (nI (pg_fac n)), .int 0, .ref q8, .ref q17, .ref q25, .int 0, .ref q33, .int 0, .ref q41, .ref q49, .ref q57, .ref q66, .ref q74, .ref q83, .int 0, .ref q91, .ref q100, .int 0, .int 0, .int 0, .int 0, .ref q108, .ref q116, .ref q124, .ref q132])), (q8, .inl (z 1, 5040, .inl (mL n))), (q17, .inl (z 1, 128, .inl (mOn))), (q25, .inl (z 1, 8, .inl (mFc))), (q33, .inl (z 1, 24, .inl (fun _ => 0))), (q41, .inl (z 1, 6, .inl (fun _ => 0))), (q49, .inl (z 1, 6, .inl (fun _ => 0))), (q57, .inl (z 4, 6, .inl (fun _ => 0))), (q66, .inl (z 0, 395, .inr (.inl (f9)))), (q74, .inl (z 0, 79, .inr (.inl (fun _ => 0)))), (q83, .inl (z 1, 5040, .inl (fun _ => 0))), (q91, .inl (z 1, 20, .inl (fun _ => 0))), (q100, .inl (z 1, 5040, .inl (fun _ => 0))), (q108, .inl (z 1, 6, .inl (fun _ => 0))), (q116, .inl (z 1, 6, .inl (fun _ => 0))), (q124, .inl (z 1, 6, .inl (fun _ => 0))), (q132, .inl (z 1, 6, .inl (fun _ => 0)))]) := hD
  replace hl : lv_has ls 3 [(2, .int (nI k)), (0, .ref q0), (1, .int x)] := hl
  refine lv_iload_n hx hb dM_init_273 rfl (lv_at hl 0 rfl) ?_
  refine lv_iconst (v := 5) hx hb dM_init_274 (by decide) ?_
  refine lv_icmp_ge (tgt := 294) hx hb dM_init_275 rfl (fun h => ?_) (fun h => ?_)
  rotate_left
  · have hk : k < 5 := by
      have : ¬ _ := fun q => h ((nI_leI (a := 5) (b := k) (by omega) (by omega)).mpr q)
      omega
    refine lv_aload_n hx hb dM_init_278 rfl (lv_at hl 1 rfl) ?_
    refine va_get (ci := 5) (C := RM) (T := TM) (N := 26) hx hb ht inM hown hK hP 0 rfl rfl 12 (by decide) (ht _ tw_661) (fun _ h9 => h9) rfl dM_init_279 ?_
    refine lv_bipush (v := 79) hx hb dM_init_282 (by decide) ?_
    refine lv_iload_n hx hb dM_init_284 rfl (lv_at hl 0 rfl) ?_
    refine lv_imul hx hb dM_init_285 ?_
    refine wti (x' := nI (79 * k)) (pk_mul 79 k) ?_
    refine lv_lconst (v := 1) hx hb dM_init_286 (by decide) ?_
    refine va_last hx hb hK hP hD hS 8 0 rfl rfl (vp_in_nI (N := 395) (by omega) (by decide)) dM_init_287 (fun H locs hP hD hS => ?_)
    rw [nI_clamp (by omega)] at hP hD
    refine lv_iinc (k := 0) (v := (nI (k + 1))) hx hb dM_init_288 hl rfl (by exact nI_1 _) (by decide) rfl (fun ls hl => ?_)
    replace hl : lv_has ls 3 [(2, .int (nI (k + 1))), (0, .ref q0), (1, .int x)] := hl
    refine lv_goto (tgt := 273) hx hb dM_init_291 rfl ?_
    refine ih (q - 1) (k + 1, vp_updL f9 (79 * k) 1) _ _ ls (by omega) ⟨by show q - 1 + (k + 1) = 5; omega, fun j hj => ?_, hP, hD, hS, lv_sub hl [0, 1, 2] rfl⟩
    show vp_updL f9 (79 * k) 1 j = if j % 79 = 0 ∧ j < 79 * (k + 1) then 1 else 0
    by_cases e : j = 79 * k
    · rw [e, pk_uLs, if_pos (by omega)]
    · rw [pk_uLn e, hf9 j hj]
      by_cases e2 : j % 79 = 0 ∧ j < 79 * k
      · rw [if_pos e2, if_pos (by omega)]
      · rw [if_neg e2, if_neg (by omega)]
  have hk : k = 5 := by have := (nI_leI (a := 5) (by omega) (by omega)).mp h; omega
  have hsl : mSl f9 (fun _ r => decide (r = 0)) := by
    intro i hi r hr9
    show (f9 (79 * i + r / 64)).toBitVec.getLsbD (r % 64) = decide (r = 0)
    rw [hf9 _ (by omega)]
    by_cases e : r / 64 = 0
    · rw [if_pos (by omega)]
      show (1#64).getLsbD (r % 64) = _
      rw [BitVec.getLsbD_one]
      by_cases e2 : r = 0
      · rw [e2]; decide
      · rw [decide_eq_false e2, decide_eq_false (by omega : ¬ r % 64 = 0), Bool.and_false]
    · rw [if_neg (by omega), decide_eq_false (by omega : ¬ r = 0)]
      show (0#64).getLsbD (r % 64) = false
      simp
  have hset : pg_set n (fun r => decide (r = 0)) = fun x => x = pg_id := by
    funext y
    refine propext ⟨fun ⟨r, h1, h2⟩ => ?_, fun h1 => ⟨0, by rw [h1]; exact pg_all_0 n, rfl⟩⟩
    rw [of_decide_eq_true h2, pg_all_0] at h1
    exact (Option.some.inj h1).symm
  refine W.vret hx hb hr (fun t9 ht hW => ⟨⟨((fun i => if i = 0 then q0 else if i = 1 then q8 else if i = 2 then q17 else if i = 3 then q25 else if i = 4 then q33 else if i = 5 then q41 else if i = 6 then q49 else if i = 7 then q57 else if i = 8 then q66 else if i = 9 then q74 else if i = 10 then q83 else if i = 11 then q91 else if i = 12 then q100 else if i = 13 then q108 else if i = 14 then q116 else if i = 15 then q124 else q132), (0, 0, (fun _ => 0), 0, (fun _ => 0), (fun _ => 0), (fun _ => 0), f9, (fun _ => 0), (fun _ => 0), 0, (fun _ => 0), (fun _ => 0), 0, 0, 0, false, (fun _ => 0), (fun _ => 0), (fun _ => 0), (fun _ => 0))), rfl, ⟨rfl, rfl, rfl, h1n, ⟨by decide, by decide, hn, fun j hj => absurd hj (Nat.not_lt_zero j), fun j hj => absurd hj (Nat.not_lt_zero j)⟩, fun j hj => absurd hj (Nat.not_lt_zero j), ⟨fun _ r => decide (r = 0), hsl, fun i hi => hset⟩, pg_Gen_0.symm⟩, by rw [ht]; exact hP, hD⟩, hS.F ht⟩) hS.2.2 dM_init_294
