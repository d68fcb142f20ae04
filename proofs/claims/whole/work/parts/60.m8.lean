/-! The reference: closure, derived, and what only asks. -/
set_option maxHeartbeats 4000000 in
set_option maxRecDepth 100000 in
theorem c_M_closure (l : Launch) (D : va_G) (z : Nat → ClassId) (d : Nat → Nat) (n : Nat) {cd : Int32} {ty : Nat} {ft : Nat → Int32} {gc : Nat} {fg fo fh : Nat → Int32} {fs ff : Nat → Int64} {fq : Nat → Int32} {mk : Nat} {fm fi : Nat → Int32} {de ps : Nat} {re : Int32} {go : Bool} {kd pr fa fr : Nat → Int32} (sz : Nat) (tx : Nat → Nat) (g : Nat → pg_F) (tg : Nat → Option pg_F) (Gs : Nat → pg_F → Prop) (hR : mR n tx ty g gc tg Gs ft fg fo fh fs) (x w : Int32) : Met l yM_closure wM_closure (rmF 6) (va_Pc [.ref (d 0), .int x, .int w] (fun U => U.heap.size = sz ∧ va_P D vC (mW z d n cd ty ft gc fg fo fh fs ff fq mk fm fi de ps re go kd pr fa fr) U.heap ∧ va_K D vC (tyL z) U ∧ va_D (fun _ => True) (mW z d n cd ty ft gc fg fo fh fs ff fq mk fm fi de ps re go kd pr fa fr))) (va_Qi (fun r (v : mSt) => (v.1 = 0 ∧ ∃ (y : pg_F) (i j : Nat), pr_text tx ty n gc g = some y ∧ x = nI i ∧ i < 5 ∧ w = nI j ∧ j < 5 ∧ j ≠ 0 ∧ gOrd n (pg_Gen (fun z => ∃ x, Gs i x ∧ z = pg_conj n y x)) r ∧ mRp n (tx, ty, g, gc, tg, va_up Gs j (pg_Gen (fun z => ∃ x, Gs i x ∧ z = pg_conj n y x))) v) ∨ (((v.1 = 1 ∧ ¬ (iN x 5 ∧ (iN w 5 ∧ w ≠ 0))) ∨ (v.1 = 2 ∧ (iN x 5 ∧ (iN w 5 ∧ w ≠ 0)) ∧ pr_text tx ty n gc g = none)) ∧ mRp n (tx, ty, g, gc, tg, Gs) v)) (fun v t => va_P D vC (mWu z d n v) t.heap ∧ va_D (va_A (mW z d n cd ty ft gc fg fo fh fs ff fq mk fm fi de ps re go kd pr fa fr) sz) (mWu z d n v)) (va_A (mW z d n cd ty ft gc fg fo fh fs ff fq mk fm fi de ps re go kd pr fa fr) sz)) 0 0 (va_A (mW z d n cd ty ft gc fg fo fh fs ff fq mk fm fi de ps re go kd pr fa fr) sz) := by
  have hR0 := hR
  obtain ⟨h1n, hok, htg, ⟨Bs, hsl, hBs⟩, hg0⟩ := hR
  have hn := hok.2.2.1
  have hgc := hok.2.1
  have hlen := hok.1
  have hfac := pg_fac_le n hn
  refine Met.ofW (cc := prog_9_method_46_code) (maxL := 4) (ret := (some .int)) (by decide) rfl ?_
  intro p e s m args below meth c s₁ B hml hv
  have hx := B.exec
  have hb := B.bytes
  have hr := B.returns
  have ht : ∀ w ∈ TB, w.before args s = true := fun w h => atoms_spec (ws := wM_closure) B.pre w (List.mem_cons_of_mem _ h)
  have hown : s.vm.findClass "PermutationDeskModel" = some m.cls := findClass_of_methodNamed B.named
  have hlocks := B.notSynchronized
  obtain ⟨rfl, hsz, hP, hK, hD0⟩ := hv
  subst hsz
  have hD := hD0.self (sz := s.heap.size)
  generalize hAe : va_A (mW z d n cd ty ft gc fg fo fh fs ff fq mk fm fi de ps re go kd pr fa fr) s.heap.size = A at hD ⊢
  have hA : ∀ q : Nat, s.heap.size ≤ q → A q := fun q h => by rw [← hAe]; exact Or.inr h
  have hS : va_S A s.heap s.heap [] := va_S.rf
  have hl := lv_entry ([.ref (d 0), .int x, .int w]) (n := 4) (Nat.le_of_ble_eq_true rfl)
  rw [lg_entry_eq]
  generalize (lg_sl ([.ref (d 0), .int x, .int w]) ++ List.replicate (4 - (lg_sl ([.ref (d 0), .int x, .int w])).length) Slot.unset).toArray = ls at hl ⊢
  have hl : lv_has ls 4 [(0, .ref (d 0)), (1, .int x), (2, .int w)] := hl
  refine lv_aload_n hx hb dM_closure_0 rfl (lv_at hl 0 rfl) ?_
  refine lv_iconst (v := 0) hx hb dM_closure_1 (by decide) ?_
  refine va_put (ci := 5) (ty := .int) (C := RM) (T := TM) (N := 26) hx hb ht inM tyM tyM_ok nmM hown hK hP hD hS 0 rfl rfl 2 (by decide) (ht _ tw_651) (fun _ h9 => h9) rfl (by decide +kernel) rfl rfl (Nat.le_of_ble_eq_true rfl) dM_closure_2 (fun H locs hP hD hS => ?_)
  have hP : va_P D vC (mW z d n 0 ty ft gc fg fo fh fs ff fq mk fm fi de ps re go kd pr fa fr) H := hP
  have hD : va_D A (mW z d n 0 ty ft gc fg fo fh fs ff fq mk fm fi de ps re go kd pr fa fr) := hD
  refine lv_iload_n hx hb dM_closure_5 rfl (lv_at hl 1 rfl) ?_
  refine qS_i (As := [.int x]) (rest := []) ⟨hx, hb, hml, hown, ht⟩ (c_M_isSlot l x) (cB 1 ht gM_isSlot rfl tw_64 tw_883 (by decide +kernel) ⟨by decide, by decide⟩) tw_884 rfl hl.1 rfl (Nat.le_of_ble_eq_true rfl) dM_closure_6 ⟨by decide, by decide⟩ (fun r6 h6 => ?_)
  obtain ⟨b1, rfl, hb1⟩ := h6
  refine wj (σ := Unit) (pc := 19) (I := fun _ H1 locs1 ls1 => H = H1 ∧ locs = locs1 ∧ ls = ls1 ∧ ¬ (iN x 5 ∧ (iN w 5 ∧ w ≠ 0))) ?_ (fun jn => ?_)
  · rintro - H1 locs1 ls1 ⟨rfl, rfl, rfl, hni⟩
    refine lv_aload_n hx hb dM_closure_19 rfl (lv_at hl 0 rfl) ?_
    refine lv_iconst (v := 1) hx hb dM_closure_20 (by decide) ?_
    refine qM_i (ci := 5) (q0 := 0) (As := [.int 1]) (rest := []) ⟨hx, hb, hml, hown, ht⟩ (c_M_fail l D z d n _ 1) (cB 1 ht gM_fail rfl tw_64 tw_796 (by decide +kernel) ⟨by decide, by decide⟩) tw_798 tw_42 hK hP hD hS hA rfl rfl rfl hl.1 rfl (Nat.le_of_ble_eq_true rfl) dM_closure_21 ⟨by decide, by decide⟩ (fun r21 u21 H locs h21 hP hD hS => ?_)
    exact W.iret hx hb hr (fun t9 ht hW => ⟨⟨_, (1, ty, ft, gc, fg, fo, fh, fs, ff, fq, mk, fm, fi, de, ps, re, go, kd, pr, fa, fr), rfl, Or.inr ⟨Or.inl ⟨rfl, hni⟩, rfl, rfl, hR0⟩, by rw [ht]; exact hP, hD⟩, hS.F ht⟩) hS.2.2 dM_closure_24
  refine lv_if_eq (tgt := 19) hx hb dM_closure_9 rfl (fun h9 => ?_) (fun h9 => ?_)
  · exact jn () _ _ ls ⟨rfl, rfl, rfl, fun q => by have := hb1.mpr q.1; rw [bI_z h9] at this; cases this⟩
  have hx5 : iN x 5 := hb1.mp (bI_t h9)
  refine lv_iload_n hx hb dM_closure_12 rfl (lv_at hl 2 rfl) ?_
  refine qS_i (As := [.int w]) (rest := []) ⟨hx, hb, hml, hown, ht⟩ (c_M_isTo l w) (cB 1 ht gM_isTo rfl tw_64 tw_872 (by decide +kernel) ⟨by decide, by decide⟩) tw_873 rfl hl.1 rfl (Nat.le_of_ble_eq_true rfl) dM_closure_13 ⟨by decide, by decide⟩ (fun r13 h13 => ?_)
  obtain ⟨b2, rfl, hb2⟩ := h13
  refine lv_if_ne (tgt := 25) hx hb dM_closure_16 rfl (fun h10 => ?_) (fun h10 => ?_)
  rotate_left
  · exact jn () _ _ ls ⟨rfl, rfl, rfl, fun q => by have := hb2.mpr q.2; rw [bI_z h10] at this; cases this⟩
  have hw5 := hb2.mp (bI_t h10)
  clear jn
  have hOK : (iN x 5 ∧ (iN w 5 ∧ w ≠ 0)) := ⟨hx5, hw5⟩
  obtain ⟨i, rfl, hi⟩ := hx5
  obtain ⟨⟨j, rfl, hj⟩, hw0⟩ := hw5
  have hj0 : j ≠ 0 := fun q => hw0 (by rw [q]; rfl)
  refine lv_aload_n hx hb dM_closure_25 rfl (lv_at hl 0 rfl) ?_
  refine qM_i (ci := 5) (q0 := 0) (As := []) (rest := []) ⟨hx, hb, hml, hown, ht⟩ (c_M_read l D z d n _ tx g hok) (cB 0 ht gM_read rfl tw_64 tw_745 (by decide +kernel) ⟨by decide, by decide⟩) tw_747 tw_30 hK hP hD hS hA rfl rfl rfl hl.1 rfl (Nat.le_of_ble_eq_true rfl) dM_closure_26 ⟨by decide, by decide⟩ (fun r26 u26 H locs h26 hP hD hS => ?_)
  obtain ⟨⟨de26, ps26, go26, kd26, pr26, fa26, fr26⟩, re26⟩ := u26
  replace hP : va_P D vC (mW z d n 0 ty ft gc fg fo fh fs ff fq mk fm fi de26 ps26 re26 go26 kd26 pr26 fa26 fr26) H := hP
  replace hD : va_D A (mW z d n 0 ty ft gc fg fo fh fs ff fq mk fm fi de26 ps26 re26 go26 kd26 pr26 fa26 fr26) := hD
  replace h26 : (r26 = 1 ∧ ∃ y, pr_text tx ty n gc g = some y ∧ re26 = eI n y) ∨ (r26 = 0 ∧ pr_text tx ty n gc g = none) := h26
  rcases h26 with ⟨rfl, y, hy, rfl⟩ | ⟨rfl, hno⟩
  rotate_left
  · refine lv_if_ne (tgt := 38) hx hb dM_closure_29 rfl (fun h9 => absurd rfl h9) (fun h9 => ?_)
    refine lv_aload_n hx hb dM_closure_32 rfl (lv_at hl 0 rfl) ?_
    refine lv_iconst (v := 2) hx hb dM_closure_33 (by decide) ?_
    refine qM_i (ci := 5) (q0 := 0) (As := [.int 2]) (rest := []) ⟨hx, hb, hml, hown, ht⟩ (c_M_fail l D z d n _ 2) (cB 1 ht gM_fail rfl tw_64 tw_796 (by decide +kernel) ⟨by decide, by decide⟩) tw_798 tw_42 hK hP hD hS hA rfl rfl rfl hl.1 rfl (Nat.le_of_ble_eq_true rfl) dM_closure_34 ⟨by decide, by decide⟩ (fun r34 u34 H locs h34 hP hD hS => ?_)
    exact W.iret hx hb hr (fun t9 ht hW => ⟨⟨_, (2, ty, ft, gc, fg, fo, fh, fs, ff, fq, mk, fm, fi, de26, ps26, re26, go26, kd26, pr26, fa26, fr26), rfl, Or.inr ⟨Or.inr ⟨rfl, hOK, hno⟩, rfl, rfl, hR0⟩, by rw [ht]; exact hP, hD⟩, hS.F ht⟩) hS.2.2 dM_closure_37
  have hyP := pr_text_P (fun i hi => (hok.2.2.2.2 i hi).1) hy
  refine lv_if_ne (tgt := 38) hx hb dM_closure_29 rfl (fun h9 => ?_) (fun h9 => absurd h9 (by decide))
  have hGP := mSet_P (hBs i hi)
  refine lv_aload_n hx hb dM_closure_38 rfl (lv_at hl 0 rfl) ?_
  refine qM_v (ci := 5) (q0 := 0) (As := []) (rest := []) ⟨hx, hb, hml, hown, ht⟩ (c_M_begin l D z d n _ hn) (cB 0 ht gM_begin rfl tw_64 tw_808 (by decide +kernel) ⟨by decide, by decide⟩) tw_810 tw_44 hK hP hD hS hA rfl rfl rfl hl.1 rfl (Nat.le_of_ble_eq_true rfl) dM_closure_39 ⟨by decide, by decide⟩ (fun u39 H locs h39 hP hD hS => ?_)
  replace hP : va_P D vC (mW z d n 0 ty ft gc fg fo fh fs u39.1 u39.2.1 u39.2.2.1 u39.2.2.2 fi de26 ps26 (eI n y) go26 kd26 pr26 fa26 fr26) H := hP
  replace hD : va_D A (mW z d n 0 ty ft gc fg fo fh fs u39.1 u39.2.1 u39.2.2.1 u39.2.2.2 fi de26 ps26 (eI n y) go26 kd26 pr26 fa26 fr26) := hD
  refine lv_iconst (v := 0) hx hb dM_closure_42 (by decide) ?_
  refine lv_istore_n hx hb dM_closure_43 rfl hl (by decide) rfl (fun ls hl => ?_)
  replace hl : lv_has ls 4 [(3, .int (nI 0)), (0, .ref (d 0)), (1, .int (nI i)), (2, .int (nI j))] := hl
  refine wl (σ := Nat × (Nat → Int64) × (Nat → Int32) × Nat × (Nat → Int32)) (I := fun q st H locs ls => q + st.1 = pg_fac n ∧ mF n st.2.2.2.1 st.2.1 st.2.2.2.2 (pg_Gen (mSg n (Gs i) (fun x => pg_conj n y x) st.1)) ∧ va_P D vC (mW z d n 0 ty ft gc fg fo fh fs st.2.1 st.2.2.1 st.2.2.2.1 st.2.2.2.2 fi de26 ps26 (eI n y) go26 kd26 pr26 fa26 fr26) H ∧ va_D A (mW z d n 0 ty ft gc fg fo fh fs st.2.1 st.2.2.1 st.2.2.2.1 st.2.2.2.2 fi de26 ps26 (eI n y) go26 kd26 pr26 fa26 fr26) ∧ va_S A s.heap H locs ∧ lv_has ls 4 [(3, .int (nI st.1)), (0, .ref (d 0)), (1, .int (nI i)), (2, .int (nI j))]) ?_ (pg_fac n) (0, u39) _ _ ls ⟨rfl, (by
    show mF n u39.2.2.1 u39.1 u39.2.2.2 (pg_Gen (mSg n (Gs i) (fun x => pg_conj n y x) 0))
    rw [mSg_0]; exact h39), hP, hD, hS, hl⟩
  clear hP hD hS hl
  rintro q ⟨k, f9, q9, m9, a9⟩ H locs ls ⟨hdk, hF, hP, hD, hS, hl⟩ ih
  replace hdk : q + k = pg_fac n := hdk
  replace hF : mF n m9 f9 a9 (pg_Gen (mSg n (Gs i) (fun x => pg_conj n y x) k)) := hF
  replace hP : va_P D vC (mW z d n 0 ty ft gc fg fo fh fs f9 q9 m9 a9 fi de26 ps26 (eI n y) go26 kd26 pr26 fa26 fr26) H := hP
  replace hD : va_D A (mW z d n 0 ty ft gc fg fo fh fs f9 q9 m9 a9 fi de26 ps26 (eI n y) go26 kd26 pr26 fa26 fr26) := hD
  replace hl : lv_has ls 4 [(3, .int (nI k)), (0, .ref (d 0)), (1, .int (nI i)), (2, .int (nI j))] := hl
  refine lv_iload_n hx hb dM_closure_44 rfl (lv_at hl 0 rfl) ?_
  refine lv_aload_n hx hb dM_closure_45 rfl (lv_at hl 1 rfl) ?_
  refine va_get (ci := 5) (C := RM) (T := TM) (N := 26) hx hb ht inM hown hK hP 0 rfl rfl 1 (by decide) (ht _ tw_650) (fun _ h9 => h9) rfl dM_closure_46 ?_
  refine lv_icmp_ge (tgt := 85) hx hb dM_closure_49 rfl (fun h49 => ?_) (fun h49 => ?_)
  · have hk : k = pg_fac n := by have := (nI_leI (by omega) (by omega)).mp h49; omega
    rw [hk, mSg_all hGP] at hF
    obtain ⟨B, hmB, hset⟩ := hF.row
    refine lv_aload_n hx hb dM_closure_85 rfl (lv_at hl 1 rfl) ?_
    refine lv_iload_n hx hb dM_closure_86 rfl (lv_at hl 3 rfl) ?_
    refine qM_i (ci := 5) (q0 := 0) (As := [.int (nI j)]) (rest := []) ⟨hx, hb, hml, hown, ht⟩ (c_M_store l D z d n _ hn j B hj hmB) (cB 1 ht gM_store rfl tw_64 tw_836 (by decide +kernel) ⟨by decide, by decide⟩) tw_838 tw_51 hK hP hD hS hA rfl rfl rfl hl.1 rfl (Nat.le_of_ble_eq_true rfl) dM_closure_87 ⟨by decide, by decide⟩ (fun r87 u87 H locs h87 hP hD hS => ?_)
    replace hP : va_P D vC (mW z d n 0 ty ft gc fg fo fh u87 f9 q9 m9 a9 fi de26 ps26 (eI n y) go26 kd26 pr26 fa26 fr26) H := hP
    replace hD : va_D A (mW z d n 0 ty ft gc fg fo fh u87 f9 q9 m9 a9 fi de26 ps26 (eI n y) go26 kd26 pr26 fa26 fr26) := hD
    obtain ⟨rfl, hst⟩ := h87
    exact W.iret hx hb hr (fun t9 ht hW => ⟨⟨_, (0, ty, ft, gc, fg, fo, fh, u87, f9, q9, m9, a9, fi, de26, ps26, eI n y, go26, kd26, pr26, fa26, fr26), rfl, Or.inl ⟨rfl, y, i, j, hy, rfl, hi, rfl, hj, hj0, mOrd hset, rfl, rfl, hR0.put hj0 hset hst⟩, by rw [ht]; exact hP, hD⟩, hS.F ht⟩) hS.2.2 dM_closure_90
  have hk : k < pg_fac n := by
    rw [nI_leI (by omega) (by omega)] at h49
    omega
  obtain ⟨x9, hx9⟩ := pg_all_in hk
  have hx9P := (pg_all_P hx9).1
  have hGk : Bs i k = true ↔ Gs i x9 := by rw [← hBs i hi]; exact (pg_set_at hx9).symm
  refine lv_aload_n hx hb dM_closure_52 rfl (lv_at hl 1 rfl) ?_
  refine lv_iload_n hx hb dM_closure_53 rfl (lv_at hl 2 rfl) ?_
  refine lv_iload_n hx hb dM_closure_54 rfl (lv_at hl 0 rfl) ?_
  refine qV_i (ci := 5) (q0 := 0) (As := [.int (nI i), .int (nI k)]) (rest := []) ⟨hx, hb, hml, hown, ht⟩ (c_M_isIn l D z d n i k (Bs i) hi (by omega) (hsl i hi)) (cB 2 ht gM_isIn rfl tw_64 tw_844 (by decide +kernel) ⟨by decide, by decide⟩) tw_846 tw_53 hK (hP) rfl rfl rfl hl.1 rfl (Nat.le_of_ble_eq_true rfl) dM_closure_55 ⟨by decide, by decide⟩ (fun r55 h55 => ?_)
  subst h55
  refine lv_if_eq (tgt := 79) hx hb dM_closure_58 rfl (fun h58 => ?_) (fun h58 => ?_)
  · have hG9 : ¬ Gs i x9 := fun q => by have := hGk.mpr q; rw [bI_z h58] at this; cases this
    refine lv_iinc (k := 0) (v := (nI (k + 1))) hx hb dM_closure_79 hl rfl (by exact nI_1 _) (by decide) rfl (fun ls hl => ?_)
    replace hl : lv_has ls 4 [(3, .int (nI (k + 1))), (0, .ref (d 0)), (1, .int (nI i)), (2, .int (nI j))] := hl
    refine lv_goto (tgt := 44) hx hb dM_closure_82 rfl ?_
    exact ih (q - 1) (k + 1, f9, q9, m9, a9) _ _ ls (by omega) ⟨by show q - 1 + (k + 1) = pg_fac n; omega, by show mF n m9 f9 a9 (pg_Gen (mSg n (Gs i) (fun x => pg_conj n y x) (k + 1))); rw [mSg_out hx9 hG9]; exact hF, hP, hD, hS, lv_sub hl [0, 1, 2, 3] rfl⟩
  have hG9 := hGk.mp (bI_t h58)
  refine lv_aload_n hx hb dM_closure_61 rfl (lv_at hl 1 rfl) ?_
  refine lv_aload_n hx hb dM_closure_62 rfl (lv_at hl 1 rfl) ?_
  refine lv_aload_n hx hb dM_closure_63 rfl (lv_at hl 1 rfl) ?_
  refine va_get (ci := 5) (C := RM) (T := TM) (N := 26) hx hb ht inM hown hK hP 0 rfl rfl 3 (by decide) (ht _ tw_652) (fun _ h9 => h9) rfl dM_closure_64 ?_
  refine lv_iload_n hx hb dM_closure_67 rfl (lv_at hl 0 rfl) ?_
  refine va_iald hx hb hK hP 1 1 rfl rfl (vp_in_nI (N := 5040) (by omega) (by decide)) dM_closure_68 ?_
  refine wti (x' := eI n x9) (by rw [nI_clamp (by omega)]; exact mL_at hx9) ?_
  refine lv_aload_n hx hb dM_closure_69 rfl (lv_at hl 1 rfl) ?_
  refine va_get (ci := 5) (C := RM) (T := TM) (N := 26) hx hb ht inM hown hK hP 0 rfl rfl 20 (by decide) (ht _ tw_669) (fun _ h9 => h9) rfl dM_closure_70 ?_
  refine qV_i (ci := 5) (q0 := 0) (As := [.int (eI n x9), .int (eI n y)]) (rest := [.ref (d 0)]) ⟨hx, hb, hml, hown, ht⟩ (c_M_conjugate l D z d n x9 y hn hx9P hyP) (cB 2 ht gM_conjugate rfl tw_64 tw_898 (by decide +kernel) ⟨by decide, by decide⟩) tw_900 tw_57 hK (hP) rfl rfl rfl hl.1 rfl (Nat.le_of_ble_eq_true rfl) dM_closure_73 ⟨by decide, by decide⟩ (fun r73 h73 => ?_)
  subst h73
  refine qM_v (ci := 5) (q0 := 0) (As := [.int (eI n (pg_conj n y x9))]) (rest := []) ⟨hx, hb, hml, hown, ht⟩ (c_M_grow l D z d n _ hn (pg_conj n y x9) (pg_P_conj hyP hx9P) _ hF) (cB 1 ht gM_grow rfl tw_64 tw_832 (by decide +kernel) ⟨by decide, by decide⟩) tw_834 tw_50 hK hP hD hS hA rfl rfl rfl hl.1 rfl (Nat.le_of_ble_eq_true rfl) dM_closure_76 ⟨by decide, by decide⟩ (fun u76 H locs h76 hP hD hS => ?_)
  replace hP : va_P D vC (mW z d n 0 ty ft gc fg fo fh fs u76.1 u76.2.1 u76.2.2.1 u76.2.2.2 fi de26 ps26 (eI n y) go26 kd26 pr26 fa26 fr26) H := hP
  replace hD : va_D A (mW z d n 0 ty ft gc fg fo fh fs u76.1 u76.2.1 u76.2.2.1 u76.2.2.2 fi de26 ps26 (eI n y) go26 kd26 pr26 fa26 fr26) := hD
  refine lv_iinc (k := 0) (v := (nI (k + 1))) hx hb dM_closure_79 hl rfl (by exact nI_1 _) (by decide) rfl (fun ls hl => ?_)
  replace hl : lv_has ls 4 [(3, .int (nI (k + 1))), (0, .ref (d 0)), (1, .int (nI i)), (2, .int (nI j))] := hl
  refine lv_goto (tgt := 44) hx hb dM_closure_82 rfl ?_
  exact ih (q - 1) (k + 1, u76) _ _ ls (by omega) ⟨by show q - 1 + (k + 1) = pg_fac n; omega, by show mF n u76.2.2.1 u76.1 u76.2.2.2 (pg_Gen (mSg n (Gs i) (fun x => pg_conj n y x) (k + 1))); rw [mSg_in hx9 hG9]; exact h76, hP, hD, hS, lv_sub hl [0, 1, 2, 3] rfl⟩
/-- commutators of the members below k of a group with the makers, and of one more member with the makers below a -/
def mDr (n : Nat) (G : pg_F → Prop) (K : Nat → pg_F) (c k a : Nat) (w : pg_F) : Prop := ∃ r x b, (pg_all n)[r]? = some x ∧ G x ∧ b < c ∧ (r < k ∨ (r = k ∧ b < a)) ∧ w = pg_comm n x (K b)
theorem mDr_in {n k a c : Nat} {G : pg_F → Prop} {K : Nat → pg_F} {x9 : pg_F} (h9 : (pg_all n)[k]? = some x9) (hG : G x9) (ha : a < c) : pg_Gen (mDr n G K c k (a + 1)) = pg_and (pg_Gen (mDr n G K c k a)) (pg_comm n x9 (K a)) := by
  refine (pg_and_S (fun w => ⟨?_, ?_⟩)).symm
  · rintro ⟨r, x, b, h1, h2, h3, h4, rfl⟩
    by_cases e : r = k ∧ b = a
    · obtain ⟨rfl, rfl⟩ := e
      rw [h9] at h1
      cases h1
      exact Or.inr rfl
    · exact Or.inl ⟨r, x, b, h1, h2, h3, by omega, rfl⟩
  · rintro (⟨r, x, b, h1, h2, h3, h4, h5⟩ | rfl)
    · exact ⟨r, x, b, h1, h2, h3, by omega, h5⟩
    · exact ⟨k, x9, a, h9, hG, ha, by omega, rfl⟩
theorem mDr_next {n k c : Nat} {G : pg_F → Prop} {K : Nat → pg_F} : pg_Gen (mDr n G K c (k + 1) 0) = pg_Gen (mDr n G K c k c) := by
  refine pg_Gen_cg (fun w => ⟨?_, ?_⟩)
  · rintro ⟨r, x, b, h1, h2, h3, h4, h5⟩
    exact ⟨r, x, b, h1, h2, h3, by omega, h5⟩
  · rintro ⟨r, x, b, h1, h2, h3, h4, h5⟩
    exact ⟨r, x, b, h1, h2, h3, by omega, h5⟩
theorem mDr_out {n k a c : Nat} {G : pg_F → Prop} {K : Nat → pg_F} {x9 : pg_F} (h9 : (pg_all n)[k]? = some x9) (hG : ¬ G x9) : pg_Gen (mDr n G K c (k + 1) 0) = pg_Gen (mDr n G K c k a) := by
  refine pg_Gen_cg (fun w => ⟨?_, ?_⟩)
  · rintro ⟨r, x, b, h1, h2, h3, h4, h5⟩
    have : r ≠ k := fun e => hG (by rw [e, h9] at h1; cases h1; exact h2)
    exact ⟨r, x, b, h1, h2, h3, by omega, h5⟩
  · rintro ⟨r, x, b, h1, h2, h3, h4, h5⟩
    exact ⟨r, x, b, h1, h2, h3, by omega, h5⟩
theorem mDr_0 {n c : Nat} {G : pg_F → Prop} {K : Nat → pg_F} : pg_Gen (mDr n G K c 0 0) = fun x => x = pg_id := pg_Gen_none (fun w ⟨r, _, b, _, _, _, h, _⟩ => by omega)
theorem mDr_all {n c : Nat} {G : pg_F → Prop} {K : Nat → pg_F} (hG : pg_G n G) (hK : pg_Gen (pg_mks c K) = G) (hKP : ∀ a, a < c → pg_P n (K a)) : pg_Gen (mDr n G K c (pg_fac n) 0) = aDer n G := by
  refine pg_Gen.eq ?_ ?_
  · rintro s ⟨r, x, b, h1, h2, h3, h4, rfl⟩
    exact pg_Gen.of ⟨x, K b, h2, by rw [← hK]; exact pg_Gen.of ⟨b, h3, rfl⟩, rfl⟩
  · rintro s ⟨a, b, ha, hb, rfl⟩
    have h := pg_derived_ref (n := n) (S := pg_mks c K) (fun s hs => by obtain ⟨i, hi, rfl⟩ := hs; exact hKP i hi) a b (by rw [hK]; exact ha) (by rw [hK]; exact hb)
    refine pg_Gen.mono ?_ h
    rintro w ⟨a', s', h1, ⟨i, hi, rfl⟩, rfl⟩
    rw [hK] at h1
    obtain ⟨r, hr, e⟩ := pg_all_at (hG.1 a' h1)
    exact pg_Gen.of ⟨r, a', i, e, h1, hi, by omega, rfl⟩
set_option maxHeartbeats 4000000 in
set_option maxRecDepth 100000 in
theorem c_M_derived (l : Launch) (D : va_G) (z : Nat → ClassId) (d : Nat → Nat) (n : Nat) {cd : Int32} {ty : Nat} {ft : Nat → Int32} {gc : Nat} {fg fo fh : Nat → Int32} {fs ff : Nat → Int64} {fq : Nat → Int32} {mk : Nat} {fm fi : Nat → Int32} {de ps : Nat} {re : Int32} {go : Bool} {kd pr fa fr : Nat → Int32} (sz : Nat) (tx : Nat → Nat) (g : Nat → pg_F) (tg : Nat → Option pg_F) (Gs : Nat → pg_F → Prop) (hR : mR n tx ty g gc tg Gs ft fg fo fh fs) (hGG : ∀ i, i < 5 → pg_G n (Gs i)) (x w : Int32) : Met l yM_derived wM_derived (rmF 6) (va_Pc [.ref (d 0), .int x, .int w] (fun U => U.heap.size = sz ∧ va_P D vC (mW z d n cd ty ft gc fg fo fh fs ff fq mk fm fi de ps re go kd pr fa fr) U.heap ∧ va_K D vC (tyL z) U ∧ va_D (fun _ => True) (mW z d n cd ty ft gc fg fo fh fs ff fq mk fm fi de ps re go kd pr fa fr))) (va_Qi (fun r (v : mSt) => (v.1 = 0 ∧ ∃ (i j : Nat), x = nI i ∧ i < 5 ∧ w = nI j ∧ j < 5 ∧ j ≠ 0 ∧ gOrd n (aDer n (Gs i)) r ∧ mRp n (tx, ty, g, gc, tg, va_up Gs j (aDer n (Gs i))) v) ∨ ((v.1 = 1 ∧ ¬ (iN x 5 ∧ (iN w 5 ∧ w ≠ 0))) ∧ mRp n (tx, ty, g, gc, tg, Gs) v)) (fun v t => va_P D vC (mWu z d n v) t.heap ∧ va_D (va_A (mW z d n cd ty ft gc fg fo fh fs ff fq mk fm fi de ps re go kd pr fa fr) sz) (mWu z d n v)) (va_A (mW z d n cd ty ft gc fg fo fh fs ff fq mk fm fi de ps re go kd pr fa fr) sz)) 0 0 (va_A (mW z d n cd ty ft gc fg fo fh fs ff fq mk fm fi de ps re go kd pr fa fr) sz) := by
  have hR0 := hR
  obtain ⟨h1n, hok, htg, ⟨Bs, hsl, hBs⟩, hg0⟩ := hR
  have hn := hok.2.2.1
  have hgc := hok.2.1
  have hlen := hok.1
  have hfac := pg_fac_le n hn
  refine Met.ofW (cc := prog_9_method_47_code) (maxL := 6) (ret := (some .int)) (by decide) rfl ?_
  intro p e s m args below meth c s₁ B hml hv
  have hx := B.exec
  have hb := B.bytes
  have hr := B.returns
  have ht : ∀ w ∈ TB, w.before args s = true := fun w h => atoms_spec (ws := wM_derived) B.pre w (List.mem_cons_of_mem _ h)
  have hown : s.vm.findClass "PermutationDeskModel" = some m.cls := findClass_of_methodNamed B.named
  have hlocks := B.notSynchronized
  obtain ⟨rfl, hsz, hP, hK, hD0⟩ := hv
  subst hsz
  have hD := hD0.self (sz := s.heap.size)
  generalize hAe : va_A (mW z d n cd ty ft gc fg fo fh fs ff fq mk fm fi de ps re go kd pr fa fr) s.heap.size = A at hD ⊢
  have hA : ∀ q : Nat, s.heap.size ≤ q → A q := fun q h => by rw [← hAe]; exact Or.inr h
  have hS : va_S A s.heap s.heap [] := va_S.rf
  have hl := lv_entry ([.ref (d 0), .int x, .int w]) (n := 6) (Nat.le_of_ble_eq_true rfl)
  rw [lg_entry_eq]
  generalize (lg_sl ([.ref (d 0), .int x, .int w]) ++ List.replicate (6 - (lg_sl ([.ref (d 0), .int x, .int w])).length) Slot.unset).toArray = ls at hl ⊢
  have hl : lv_has ls 6 [(0, .ref (d 0)), (1, .int x), (2, .int w)] := hl
  refine lv_aload_n hx hb dM_derived_0 rfl (lv_at hl 0 rfl) ?_
  refine lv_iconst (v := 0) hx hb dM_derived_1 (by decide) ?_
  refine va_put (ci := 5) (ty := .int) (C := RM) (T := TM) (N := 26) hx hb ht inM tyM tyM_ok nmM hown hK hP hD hS 0 rfl rfl 2 (by decide) (ht _ tw_651) (fun _ h9 => h9) rfl (by decide +kernel) rfl rfl (Nat.le_of_ble_eq_true rfl) dM_derived_2 (fun H locs hP hD hS => ?_)
  have hP : va_P D vC (mW z d n 0 ty ft gc fg fo fh fs ff fq mk fm fi de ps re go kd pr fa fr) H := hP
  have hD : va_D A (mW z d n 0 ty ft gc fg fo fh fs ff fq mk fm fi de ps re go kd pr fa fr) := hD
  refine lv_iload_n hx hb dM_derived_5 rfl (lv_at hl 1 rfl) ?_
  refine qS_i (As := [.int x]) (rest := []) ⟨hx, hb, hml, hown, ht⟩ (c_M_isSlot l x) (cB 1 ht gM_isSlot rfl tw_64 tw_883 (by decide +kernel) ⟨by decide, by decide⟩) tw_884 rfl hl.1 rfl (Nat.le_of_ble_eq_true rfl) dM_derived_6 ⟨by decide, by decide⟩ (fun r6 h6 => ?_)
  obtain ⟨b1, rfl, hb1⟩ := h6
  refine wj (σ := Unit) (pc := 19) (I := fun _ H1 locs1 ls1 => H = H1 ∧ locs = locs1 ∧ ls = ls1 ∧ ¬ (iN x 5 ∧ (iN w 5 ∧ w ≠ 0))) ?_ (fun jn => ?_)
  · rintro - H1 locs1 ls1 ⟨rfl, rfl, rfl, hni⟩
    refine lv_aload_n hx hb dM_derived_19 rfl (lv_at hl 0 rfl) ?_
    refine lv_iconst (v := 1) hx hb dM_derived_20 (by decide) ?_
    refine qM_i (ci := 5) (q0 := 0) (As := [.int 1]) (rest := []) ⟨hx, hb, hml, hown, ht⟩ (c_M_fail l D z d n _ 1) (cB 1 ht gM_fail rfl tw_64 tw_796 (by decide +kernel) ⟨by decide, by decide⟩) tw_798 tw_42 hK hP hD hS hA rfl rfl rfl hl.1 rfl (Nat.le_of_ble_eq_true rfl) dM_derived_21 ⟨by decide, by decide⟩ (fun r21 u21 H locs h21 hP hD hS => ?_)
    exact W.iret hx hb hr (fun t9 ht hW => ⟨⟨_, (1, ty, ft, gc, fg, fo, fh, fs, ff, fq, mk, fm, fi, de, ps, re, go, kd, pr, fa, fr), rfl, Or.inr ⟨⟨rfl, hni⟩, rfl, rfl, hR0⟩, by rw [ht]; exact hP, hD⟩, hS.F ht⟩) hS.2.2 dM_derived_24
  refine lv_if_eq (tgt := 19) hx hb dM_derived_9 rfl (fun h9 => ?_) (fun h9 => ?_)
  · exact jn () _ _ ls ⟨rfl, rfl, rfl, fun q => by have := hb1.mpr q.1; rw [bI_z h9] at this; cases this⟩
  have hx5 : iN x 5 := hb1.mp (bI_t h9)
  refine lv_iload_n hx hb dM_derived_12 rfl (lv_at hl 2 rfl) ?_
  refine qS_i (As := [.int w]) (rest := []) ⟨hx, hb, hml, hown, ht⟩ (c_M_isTo l w) (cB 1 ht gM_isTo rfl tw_64 tw_872 (by decide +kernel) ⟨by decide, by decide⟩) tw_873 rfl hl.1 rfl (Nat.le_of_ble_eq_true rfl) dM_derived_13 ⟨by decide, by decide⟩ (fun r13 h13 => ?_)
  obtain ⟨b2, rfl, hb2⟩ := h13
  refine lv_if_ne (tgt := 25) hx hb dM_derived_16 rfl (fun h10 => ?_) (fun h10 => ?_)
  rotate_left
  · exact jn () _ _ ls ⟨rfl, rfl, rfl, fun q => by have := hb2.mpr q.2; rw [bI_z h10] at this; cases this⟩
  have hw5 := hb2.mp (bI_t h10)
  clear jn
  have hOK : (iN x 5 ∧ (iN w 5 ∧ w ≠ 0)) := ⟨hx5, hw5⟩
  obtain ⟨i, rfl, hi⟩ := hx5
  obtain ⟨⟨j, rfl, hj⟩, hw0⟩ := hw5
  have hj0 : j ≠ 0 := fun q => hw0 (by rw [q]; rfl)
  have hGP := mSet_P (hBs i hi)
  refine lv_aload_n hx hb dM_derived_25 rfl (lv_at hl 0 rfl) ?_
  refine qM_v (ci := 5) (q0 := 0) (As := []) (rest := []) ⟨hx, hb, hml, hown, ht⟩ (c_M_begin l D z d n _ hn) (cB 0 ht gM_begin rfl tw_64 tw_808 (by decide +kernel) ⟨by decide, by decide⟩) tw_810 tw_44 hK hP hD hS hA rfl rfl rfl hl.1 rfl (Nat.le_of_ble_eq_true rfl) dM_derived_26 ⟨by decide, by decide⟩ (fun u26 H locs h26 hP hD hS => ?_)
  replace hP : va_P D vC (mW z d n 0 ty ft gc fg fo fh fs u26.1 u26.2.1 u26.2.2.1 u26.2.2.2 fi de ps re go kd pr fa fr) H := hP
  replace hD : va_D A (mW z d n 0 ty ft gc fg fo fh fs u26.1 u26.2.1 u26.2.2.1 u26.2.2.2 fi de ps re go kd pr fa fr) := hD
  refine lv_iconst (v := 0) hx hb dM_derived_29 (by decide) ?_
  refine lv_istore_n hx hb dM_derived_30 rfl hl (by decide) rfl (fun ls hl => ?_)
  replace hl : lv_has ls 6 [(3, .int (nI 0)), (0, .ref (d 0)), (1, .int (nI i)), (2, .int (nI j))] := hl
  refine wl (σ := Nat × (Nat → Int64) × (Nat → Int32) × Nat × (Nat → Int32)) (I := fun q st H locs ls => q + st.1 = pg_fac n ∧ mF n st.2.2.2.1 st.2.1 st.2.2.2.2 (pg_Gen (mSg n (Gs i) (fun x => x) st.1)) ∧ va_P D vC (mW z d n 0 ty ft gc fg fo fh fs st.2.1 st.2.2.1 st.2.2.2.1 st.2.2.2.2 fi de ps re go kd pr fa fr) H ∧ va_D A (mW z d n 0 ty ft gc fg fo fh fs st.2.1 st.2.2.1 st.2.2.2.1 st.2.2.2.2 fi de ps re go kd pr fa fr) ∧ va_S A s.heap H locs ∧ lv_has ls 6 [(3, .int (nI st.1)), (0, .ref (d 0)), (1, .int (nI i)), (2, .int (nI j))]) ?_ (pg_fac n) (0, u26) _ _ ls ⟨rfl, (by
    show mF n u26.2.2.1 u26.1 u26.2.2.2 (pg_Gen (mSg n (Gs i) (fun x => x) 0))
    rw [mSg_0]; exact h26), hP, hD, hS, hl⟩
  clear hP hD hS hl
  rintro q ⟨k, f9, q9, m9, a9⟩ H locs ls ⟨hdk, hF, hP, hD, hS, hl⟩ ih
  replace hdk : q + k = pg_fac n := hdk
  replace hF : mF n m9 f9 a9 (pg_Gen (mSg n (Gs i) (fun x => x) k)) := hF
  replace hP : va_P D vC (mW z d n 0 ty ft gc fg fo fh fs f9 q9 m9 a9 fi de ps re go kd pr fa fr) H := hP
  replace hD : va_D A (mW z d n 0 ty ft gc fg fo fh fs f9 q9 m9 a9 fi de ps re go kd pr fa fr) := hD
  replace hl : lv_has ls 6 [(3, .int (nI k)), (0, .ref (d 0)), (1, .int (nI i)), (2, .int (nI j))] := hl
  refine lv_iload_n hx hb dM_derived_31 rfl (lv_at hl 0 rfl) ?_
  refine lv_aload_n hx hb dM_derived_32 rfl (lv_at hl 1 rfl) ?_
  refine va_get (ci := 5) (C := RM) (T := TM) (N := 26) hx hb ht inM hown hK hP 0 rfl rfl 1 (by decide) (ht _ tw_650) (fun _ h9 => h9) rfl dM_derived_33 ?_
  refine lv_icmp_ge (tgt := 64) hx hb dM_derived_36 rfl (fun h36 => ?_) (fun h36 => ?_)
  rotate_left
  · have hk : k < pg_fac n := by
      rw [nI_leI (by omega) (by omega)] at h36
      omega
    obtain ⟨x9, hx9⟩ := pg_all_in hk
    have hx9P := (pg_all_P hx9).1
    have hGk : Bs i k = true ↔ Gs i x9 := by rw [← hBs i hi]; exact (pg_set_at hx9).symm
    refine lv_aload_n hx hb dM_derived_39 rfl (lv_at hl 1 rfl) ?_
    refine lv_iload_n hx hb dM_derived_40 rfl (lv_at hl 2 rfl) ?_
    refine lv_iload_n hx hb dM_derived_41 rfl (lv_at hl 0 rfl) ?_
    refine qV_i (ci := 5) (q0 := 0) (As := [.int (nI i), .int (nI k)]) (rest := []) ⟨hx, hb, hml, hown, ht⟩ (c_M_isIn l D z d n i k (Bs i) hi (by omega) (hsl i hi)) (cB 2 ht gM_isIn rfl tw_64 tw_844 (by decide +kernel) ⟨by decide, by decide⟩) tw_846 tw_53 hK (hP) rfl rfl rfl hl.1 rfl (Nat.le_of_ble_eq_true rfl) dM_derived_42 ⟨by decide, by decide⟩ (fun r42 h42 => ?_)
    subst h42
    refine lv_if_eq (tgt := 58) hx hb dM_derived_45 rfl (fun h45 => ?_) (fun h45 => ?_)
    · have hG9 : ¬ Gs i x9 := fun q => by have := hGk.mpr q; rw [bI_z h45] at this; cases this
      refine lv_iinc (k := 0) (v := (nI (k + 1))) hx hb dM_derived_58 hl rfl (by exact nI_1 _) (by decide) rfl (fun ls hl => ?_)
      replace hl : lv_has ls 6 [(3, .int (nI (k + 1))), (0, .ref (d 0)), (1, .int (nI i)), (2, .int (nI j))] := hl
      refine lv_goto (tgt := 31) hx hb dM_derived_61 rfl ?_
      exact ih (q - 1) (k + 1, f9, q9, m9, a9) _ _ ls (by omega) ⟨by show q - 1 + (k + 1) = pg_fac n; omega, by show mF n m9 f9 a9 (pg_Gen (mSg n (Gs i) (fun x => x) (k + 1))); rw [mSg_out hx9 hG9]; exact hF, hP, hD, hS, lv_sub hl [0, 1, 2, 3] rfl⟩
    have hG9 := hGk.mp (bI_t h45)
    refine lv_aload_n hx hb dM_derived_48 rfl (lv_at hl 1 rfl) ?_
    refine lv_aload_n hx hb dM_derived_49 rfl (lv_at hl 1 rfl) ?_
    refine va_get (ci := 5) (C := RM) (T := TM) (N := 26) hx hb ht inM hown hK hP 0 rfl rfl 3 (by decide) (ht _ tw_652) (fun _ h9 => h9) rfl dM_derived_50 ?_
    refine lv_iload_n hx hb dM_derived_53 rfl (lv_at hl 0 rfl) ?_
    refine va_iald hx hb hK hP 1 1 rfl rfl (vp_in_nI (N := 5040) (by omega) (by decide)) dM_derived_54 ?_
    refine wti (x' := eI n x9) (by rw [nI_clamp (by omega)]; exact mL_at hx9) ?_
    refine qM_v (ci := 5) (q0 := 0) (As := [.int (eI n x9)]) (rest := []) ⟨hx, hb, hml, hown, ht⟩ (c_M_grow l D z d n _ hn x9 hx9P _ hF) (cB 1 ht gM_grow rfl tw_64 tw_832 (by decide +kernel) ⟨by decide, by decide⟩) tw_834 tw_50 hK hP hD hS hA rfl rfl rfl hl.1 rfl (Nat.le_of_ble_eq_true rfl) dM_derived_55 ⟨by decide, by decide⟩ (fun u55 H locs h55 hP hD hS => ?_)
    replace hP : va_P D vC (mW z d n 0 ty ft gc fg fo fh fs u55.1 u55.2.1 u55.2.2.1 u55.2.2.2 fi de ps re go kd pr fa fr) H := hP
    replace hD : va_D A (mW z d n 0 ty ft gc fg fo fh fs u55.1 u55.2.1 u55.2.2.1 u55.2.2.2 fi de ps re go kd pr fa fr) := hD
    refine lv_iinc (k := 0) (v := (nI (k + 1))) hx hb dM_derived_58 hl rfl (by exact nI_1 _) (by decide) rfl (fun ls hl => ?_)
    replace hl : lv_has ls 6 [(3, .int (nI (k + 1))), (0, .ref (d 0)), (1, .int (nI i)), (2, .int (nI j))] := hl
    refine lv_goto (tgt := 31) hx hb dM_derived_61 rfl ?_
    exact ih (q - 1) (k + 1, u55) _ _ ls (by omega) ⟨by show q - 1 + (k + 1) = pg_fac n; omega, by show mF n u55.2.2.1 u55.1 u55.2.2.2 (pg_Gen (mSg n (Gs i) (fun x => x) (k + 1))); rw [mSg_in hx9 hG9]; exact h55, hP, hD, hS, lv_sub hl [0, 1, 2, 3] rfl⟩
  have hk : k = pg_fac n := by have := (nI_leI (by omega) (by omega)).mp h36; omega
  rw [hk, mSg_all hGP] at hF
  have hGG9 := hGG i hi
  have hself : pg_Gen (fun w => ∃ x, Gs i x ∧ w = x) = Gs i := by
    funext x
    refine propext ⟨fun h => pg_Gen.least hGG9 (fun s ⟨y, h1, h2⟩ => by rw [h2]; exact h1) h, fun h => pg_Gen.of ⟨x, h, rfl⟩⟩
  replace hF : mF n m9 f9 a9 (pg_Gen (fun w => ∃ x, Gs i x ∧ w = x)) := hF
  rw [hself] at hF
  obtain ⟨K, B0, hfil, hmB0, hKa⟩ := hF
  have hm13 := pg_fil_c hfil hn
  clear ih
  refine lv_aload_n hx hb dM_derived_64 rfl (lv_at hl 1 rfl) ?_
  refine va_get (ci := 5) (C := RM) (T := TM) (N := 26) hx hb ht inM hown hK hP 0 rfl rfl 15 (by decide) (ht _ tw_664) (fun _ h9 => h9) rfl dM_derived_65 ?_
  refine lv_istore_n hx hb dM_derived_68 rfl hl (by decide) rfl (fun ls hl => ?_)
  replace hl : lv_has ls 6 [(3, .int (nI m9)), (0, .ref (d 0)), (1, .int (nI i)), (2, .int (nI j))] := hl
  refine lv_iconst (v := 0) hx hb dM_derived_69 (by decide) ?_
  refine lv_istore hx hb dM_derived_70 hl (by decide) rfl (fun ls hl => ?_)
  replace hl : lv_has ls 6 [(4, .int (nI 0)), (3, .int (nI m9)), (0, .ref (d 0)), (1, .int (nI i)), (2, .int (nI j))] := hl
  refine wl (σ := Nat × (Nat → Int32)) (I := fun q st H locs ls => q + st.1 = m9 ∧ (∀ a, a < st.1 → st.2 a = eI n (K a)) ∧ va_P D vC (mW z d n 0 ty ft gc fg fo fh fs f9 q9 m9 a9 st.2 de ps re go kd pr fa fr) H ∧ va_D A (mW z d n 0 ty ft gc fg fo fh fs f9 q9 m9 a9 st.2 de ps re go kd pr fa fr) ∧ va_S A s.heap H locs ∧ lv_has ls 6 [(4, .int (nI st.1)), (3, .int (nI m9)), (0, .ref (d 0)), (1, .int (nI i)), (2, .int (nI j))]) ?_ m9 (0, fi) _ _ ls ⟨rfl, fun a ha => absurd ha (Nat.not_lt_zero a), hP, hD, hS, lv_sub hl [0, 1, 2, 3, 4] rfl⟩
  clear hP hD hS hl
  rintro q2 ⟨k2, i9⟩ H locs ls ⟨hdk2, hi9, hP, hD, hS, hl⟩ ih
  replace hdk2 : q2 + k2 = m9 := hdk2
  replace hi9 : ∀ a, a < k2 → i9 a = eI n (K a) := hi9
  replace hP : va_P D vC (mW z d n 0 ty ft gc fg fo fh fs f9 q9 m9 a9 i9 de ps re go kd pr fa fr) H := hP
  replace hD : va_D A (mW z d n 0 ty ft gc fg fo fh fs f9 q9 m9 a9 i9 de ps re go kd pr fa fr) := hD
  replace hl : lv_has ls 6 [(4, .int (nI k2)), (3, .int (nI m9)), (0, .ref (d 0)), (1, .int (nI i)), (2, .int (nI j))] := hl
  refine lv_iload hx hb dM_derived_72 (lv_at hl 0 rfl) ?_
  refine lv_iload_n hx hb dM_derived_74 rfl (lv_at hl 1 rfl) ?_
  refine lv_icmp_ge (tgt := 98) hx hb dM_derived_75 rfl (fun h75 => ?_) (fun h75 => ?_)
  rotate_left
  · have hk2 : k2 < m9 := by
      rw [nI_leI (by omega) (by omega)] at h75
      omega
    refine lv_aload_n hx hb dM_derived_78 rfl (lv_at hl 2 rfl) ?_
    refine va_get (ci := 5) (C := RM) (T := TM) (N := 26) hx hb ht inM hown hK hP 0 rfl rfl 17 (by decide) (ht _ tw_666) (fun _ h9 => h9) rfl dM_derived_79 ?_
    refine lv_iload hx hb dM_derived_82 (lv_at hl 0 rfl) ?_
    refine lv_aload_n hx hb dM_derived_84 rfl (lv_at hl 2 rfl) ?_
    refine va_get (ci := 5) (C := RM) (T := TM) (N := 26) hx hb ht inM hown hK hP 0 rfl rfl 16 (by decide) (ht _ tw_665) (fun _ h9 => h9) rfl dM_derived_85 ?_
    refine lv_iload hx hb dM_derived_88 (lv_at hl 0 rfl) ?_
    refine va_iald hx hb hK hP 11 1 rfl rfl (vp_in_nI (N := 20) (by omega) (by decide)) dM_derived_90 ?_
    refine wti (x' := a9 k2) (by rw [nI_clamp (by omega)]) ?_
    refine va_iast hx hb hK hP hD hS 12 1 rfl rfl (vp_in_nI (N := 5040) (by omega) (by decide)) dM_derived_91 (fun H locs hP hD hS => ?_)
    rw [nI_clamp (by omega)] at hP hD
    refine lv_iinc (k := 0) (v := (nI (k2 + 1))) hx hb dM_derived_92 hl rfl (by exact nI_1 _) (by decide) rfl (fun ls hl => ?_)
    replace hl : lv_has ls 6 [(4, .int (nI (k2 + 1))), (3, .int (nI m9)), (0, .ref (d 0)), (1, .int (nI i)), (2, .int (nI j))] := hl
    refine lv_goto (tgt := 72) hx hb dM_derived_95 rfl ?_
    refine ih (q2 - 1) (k2 + 1, upd i9 k2 (a9 k2)) _ _ ls (by omega) ⟨by show q2 - 1 + (k2 + 1) = m9; omega, fun a ha => ?_, hP, hD, hS, lv_sub hl [0, 1, 2, 3, 4] rfl⟩
    replace ha : a < k2 + 1 := ha
    show upd i9 k2 (a9 k2) a = eI n (K a)
    by_cases e : a = k2
    · rw [e, pk_us]; exact hKa k2 hk2
    · rw [pk_un e]; exact hi9 a (by omega)
  have hk2 : k2 = m9 := by have := (nI_leI (by omega) (by omega)).mp h75; omega
  rw [hk2] at hi9
  clear ih
  obtain ⟨c9, hc9⟩ : ∃ c9, c9 = m9 := ⟨_, rfl⟩
  rw [← hc9] at hl hi9 hfil hm13
  refine lv_aload_n hx hb dM_derived_98 rfl (lv_at hl 2 rfl) ?_
  refine qM_v (ci := 5) (q0 := 0) (As := []) (rest := []) ⟨hx, hb, hml, hown, ht⟩ (c_M_begin l D z d n _ hn) (cB 0 ht gM_begin rfl tw_64 tw_808 (by decide +kernel) ⟨by decide, by decide⟩) tw_810 tw_44 hK hP hD hS hA rfl rfl rfl hl.1 rfl (Nat.le_of_ble_eq_true rfl) dM_derived_99 ⟨by decide, by decide⟩ (fun u99 H locs h99 hP hD hS => ?_)
  replace hP : va_P D vC (mW z d n 0 ty ft gc fg fo fh fs u99.1 u99.2.1 u99.2.2.1 u99.2.2.2 i9 de ps re go kd pr fa fr) H := hP
  replace hD : va_D A (mW z d n 0 ty ft gc fg fo fh fs u99.1 u99.2.1 u99.2.2.1 u99.2.2.2 i9 de ps re go kd pr fa fr) := hD
  refine lv_iconst (v := 0) hx hb dM_derived_102 (by decide) ?_
  refine lv_istore hx hb dM_derived_103 hl (by decide) rfl (fun ls hl => ?_)
  replace hl : lv_has ls 6 [(4, .int (nI 0)), (3, .int (nI c9)), (0, .ref (d 0)), (1, .int (nI i)), (2, .int (nI j))] := hl
  refine wl (σ := Nat × (Nat → Int64) × (Nat → Int32) × Nat × (Nat → Int32)) (I := fun q st H locs ls => q + st.1 = pg_fac n ∧ mF n st.2.2.2.1 st.2.1 st.2.2.2.2 (pg_Gen (mDr n (Gs i) K c9 st.1 0)) ∧ va_P D vC (mW z d n 0 ty ft gc fg fo fh fs st.2.1 st.2.2.1 st.2.2.2.1 st.2.2.2.2 i9 de ps re go kd pr fa fr) H ∧ va_D A (mW z d n 0 ty ft gc fg fo fh fs st.2.1 st.2.2.1 st.2.2.2.1 st.2.2.2.2 i9 de ps re go kd pr fa fr) ∧ va_S A s.heap H locs ∧ lv_has ls 6 [(4, .int (nI st.1)), (3, .int (nI c9)), (0, .ref (d 0)), (1, .int (nI i)), (2, .int (nI j))]) ?_ (pg_fac n) (0, u99) _ _ ls ⟨rfl, (by
    show mF n u99.2.2.1 u99.1 u99.2.2.2 (pg_Gen (mDr n (Gs i) K c9 0 0))
    rw [mDr_0]; exact h99), hP, hD, hS, hl⟩
  clear hP hD hS hl
  rintro q ⟨k, f9, q9, m9, a9⟩ H locs ls ⟨hdk, hF, hP, hD, hS, hl⟩ ih
  replace hdk : q + k = pg_fac n := hdk
  replace hF : mF n m9 f9 a9 (pg_Gen (mDr n (Gs i) K c9 k 0)) := hF
  replace hP : va_P D vC (mW z d n 0 ty ft gc fg fo fh fs f9 q9 m9 a9 i9 de ps re go kd pr fa fr) H := hP
  replace hD : va_D A (mW z d n 0 ty ft gc fg fo fh fs f9 q9 m9 a9 i9 de ps re go kd pr fa fr) := hD
  replace hl : lv_has ls 6 [(4, .int (nI k)), (3, .int (nI c9)), (0, .ref (d 0)), (1, .int (nI i)), (2, .int (nI j))] := hl
  refine lv_iload hx hb dM_derived_105 (lv_at hl 0 rfl) ?_
  refine lv_aload_n hx hb dM_derived_107 rfl (lv_at hl 2 rfl) ?_
  refine va_get (ci := 5) (C := RM) (T := TM) (N := 26) hx hb ht inM hown hK hP 0 rfl rfl 1 (by decide) (ht _ tw_650) (fun _ h9 => h9) rfl dM_derived_108 ?_
  refine lv_icmp_ge (tgt := 167) hx hb dM_derived_111 rfl (fun h111 => ?_) (fun h111 => ?_)
  · have hk : k = pg_fac n := by have := (nI_leI (by omega) (by omega)).mp h111; omega
    rw [hk, mDr_all hGG9 hfil.2.2.1 hfil.2.2.2.1] at hF
    obtain ⟨B, hmB, hset⟩ := hF.row
    refine lv_aload_n hx hb dM_derived_167 rfl (lv_at hl 2 rfl) ?_
    refine lv_iload_n hx hb dM_derived_168 rfl (lv_at hl 4 rfl) ?_
    refine qM_i (ci := 5) (q0 := 0) (As := [.int (nI j)]) (rest := []) ⟨hx, hb, hml, hown, ht⟩ (c_M_store l D z d n _ hn j B hj hmB) (cB 1 ht gM_store rfl tw_64 tw_836 (by decide +kernel) ⟨by decide, by decide⟩) tw_838 tw_51 hK hP hD hS hA rfl rfl rfl hl.1 rfl (Nat.le_of_ble_eq_true rfl) dM_derived_169 ⟨by decide, by decide⟩ (fun r169 u169 H locs h169 hP hD hS => ?_)
    replace hP : va_P D vC (mW z d n 0 ty ft gc fg fo fh u169 f9 q9 m9 a9 i9 de ps re go kd pr fa fr) H := hP
    replace hD : va_D A (mW z d n 0 ty ft gc fg fo fh u169 f9 q9 m9 a9 i9 de ps re go kd pr fa fr) := hD
    obtain ⟨rfl, hst⟩ := h169
    exact W.iret hx hb hr (fun t9 ht hW => ⟨⟨_, (0, ty, ft, gc, fg, fo, fh, u169, f9, q9, m9, a9, i9, de, ps, re, go, kd, pr, fa, fr), rfl, Or.inl ⟨rfl, i, j, rfl, hi, rfl, hj, hj0, mOrd hset, rfl, rfl, hR0.put hj0 hset hst⟩, by rw [ht]; exact hP, hD⟩, hS.F ht⟩) hS.2.2 dM_derived_172
  have hk : k < pg_fac n := by
    rw [nI_leI (by omega) (by omega)] at h111
    omega
  obtain ⟨x9, hx9⟩ := pg_all_in hk
  have hx9P := (pg_all_P hx9).1
  have hGk : Bs i k = true ↔ Gs i x9 := by rw [← hBs i hi]; exact (pg_set_at hx9).symm
  refine lv_iconst (v := 0) hx hb dM_derived_114 (by decide) ?_
  refine lv_istore hx hb dM_derived_115 hl (by decide) rfl (fun ls hl => ?_)
  replace hl : lv_has ls 6 [(5, .int (nI 0)), (4, .int (nI k)), (3, .int (nI c9)), (0, .ref (d 0)), (1, .int (nI i)), (2, .int (nI j))] := hl
  refine wl (σ := Nat × (Nat → Int64) × (Nat → Int32) × Nat × (Nat → Int32)) (pc := 117) (I := fun q st H locs ls => q + st.1 = c9 ∧ mF n st.2.2.2.1 st.2.1 st.2.2.2.2 (pg_Gen (mDr n (Gs i) K c9 k st.1)) ∧ va_P D vC (mW z d n 0 ty ft gc fg fo fh fs st.2.1 st.2.2.1 st.2.2.2.1 st.2.2.2.2 i9 de ps re go kd pr fa fr) H ∧ va_D A (mW z d n 0 ty ft gc fg fo fh fs st.2.1 st.2.2.1 st.2.2.2.1 st.2.2.2.2 i9 de ps re go kd pr fa fr) ∧ va_S A s.heap H locs ∧ lv_has ls 6 [(5, .int (nI st.1)), (4, .int (nI k)), (3, .int (nI c9)), (0, .ref (d 0)), (1, .int (nI i)), (2, .int (nI j))]) ?_ c9 (0, f9, q9, m9, a9) _ _ ls ⟨rfl, hF, hP, hD, hS, hl⟩
  clear hP hD hS hl hF
  rintro q2 ⟨a, f9, q9, m9, a9⟩ H locs ls ⟨hda, hF, hP, hD, hS, hl⟩ ih2
  replace hda : q2 + a = c9 := hda
  replace hF : mF n m9 f9 a9 (pg_Gen (mDr n (Gs i) K c9 k a)) := hF
  replace hP : va_P D vC (mW z d n 0 ty ft gc fg fo fh fs f9 q9 m9 a9 i9 de ps re go kd pr fa fr) H := hP
  replace hD : va_D A (mW z d n 0 ty ft gc fg fo fh fs f9 q9 m9 a9 i9 de ps re go kd pr fa fr) := hD
  replace hl : lv_has ls 6 [(5, .int (nI a)), (4, .int (nI k)), (3, .int (nI c9)), (0, .ref (d 0)), (1, .int (nI i)), (2, .int (nI j))] := hl
  refine wj (σ := Unit) (pc := 161) (I := fun _ H1 locs1 ls1 => H = H1 ∧ locs = locs1 ∧ ls = ls1 ∧ pg_Gen (mDr n (Gs i) K c9 (k + 1) 0) = pg_Gen (mDr n (Gs i) K c9 k a)) ?_ (fun jn => ?_)
  · rintro - H1 locs1 ls1 ⟨rfl, rfl, rfl, he⟩
    refine lv_iinc (k := 1) (v := (nI (k + 1))) hx hb dM_derived_161 hl rfl (by exact nI_1 _) (by decide) rfl (fun ls hl => ?_)
    replace hl : lv_has ls 6 [(4, .int (nI (k + 1))), (5, .int (nI a)), (3, .int (nI c9)), (0, .ref (d 0)), (1, .int (nI i)), (2, .int (nI j))] := hl
    refine lv_goto (tgt := 105) hx hb dM_derived_164 rfl ?_
    exact ih (q - 1) (k + 1, f9, q9, m9, a9) _ _ ls (by omega) ⟨by show q - 1 + (k + 1) = pg_fac n; omega, by show mF n m9 f9 a9 (pg_Gen (mDr n (Gs i) K c9 (k + 1) 0)); rw [he]; exact hF, hP, hD, hS, lv_sub hl [0, 2, 3, 4, 5] rfl⟩
  refine lv_iload hx hb dM_derived_117 (lv_at hl 0 rfl) ?_
  refine lv_iload_n hx hb dM_derived_119 rfl (lv_at hl 2 rfl) ?_
  refine lv_icmp_ge (tgt := 161) hx hb dM_derived_120 rfl (fun h120 => ?_) (fun h120 => ?_)
  · have ha : a = c9 := by have := (nI_leI (by omega) (by omega)).mp h120; omega
    exact jn () _ _ ls ⟨rfl, rfl, rfl, by rw [ha]; exact mDr_next⟩
  have ha : a < c9 := by
    rw [nI_leI (by omega) (by omega)] at h120
    omega
  refine lv_aload_n hx hb dM_derived_123 rfl (lv_at hl 3 rfl) ?_
  refine lv_iload_n hx hb dM_derived_124 rfl (lv_at hl 4 rfl) ?_
  refine lv_iload hx hb dM_derived_125 (lv_at hl 1 rfl) ?_
  refine qV_i (ci := 5) (q0 := 0) (As := [.int (nI i), .int (nI k)]) (rest := []) ⟨hx, hb, hml, hown, ht⟩ (c_M_isIn l D z d n i k (Bs i) hi (by omega) (hsl i hi)) (cB 2 ht gM_isIn rfl tw_64 tw_844 (by decide +kernel) ⟨by decide, by decide⟩) tw_846 tw_53 hK (hP) rfl rfl rfl hl.1 rfl (Nat.le_of_ble_eq_true rfl) dM_derived_127 ⟨by decide, by decide⟩ (fun r127 h127 => ?_)
  subst h127
  refine lv_if_eq (tgt := 161) hx hb dM_derived_130 rfl (fun h130 => ?_) (fun h130 => ?_)
  · have hG9 : ¬ Gs i x9 := fun q => by have := hGk.mpr q; rw [bI_z h130] at this; cases this
    exact jn () _ _ ls ⟨rfl, rfl, rfl, mDr_out hx9 hG9⟩
  have hG9 := hGk.mp (bI_t h130)
  have hKP := hfil.2.2.2.1 a ha
  refine lv_aload_n hx hb dM_derived_133 rfl (lv_at hl 3 rfl) ?_
  refine lv_aload_n hx hb dM_derived_134 rfl (lv_at hl 3 rfl) ?_
  refine lv_aload_n hx hb dM_derived_135 rfl (lv_at hl 3 rfl) ?_
  refine va_get (ci := 5) (C := RM) (T := TM) (N := 26) hx hb ht inM hown hK hP 0 rfl rfl 3 (by decide) (ht _ tw_652) (fun _ h9 => h9) rfl dM_derived_136 ?_
  refine lv_iload hx hb dM_derived_139 (lv_at hl 1 rfl) ?_
  refine va_iald hx hb hK hP 1 1 rfl rfl (vp_in_nI (N := 5040) (by omega) (by decide)) dM_derived_141 ?_
  refine wti (x' := eI n x9) (by rw [nI_clamp (by omega)]; exact mL_at hx9) ?_
  refine lv_aload_n hx hb dM_derived_142 rfl (lv_at hl 3 rfl) ?_
  refine va_get (ci := 5) (C := RM) (T := TM) (N := 26) hx hb ht inM hown hK hP 0 rfl rfl 17 (by decide) (ht _ tw_666) (fun _ h9 => h9) rfl dM_derived_143 ?_
  refine lv_iload hx hb dM_derived_146 (lv_at hl 0 rfl) ?_
  refine va_iald hx hb hK hP 12 1 rfl rfl (vp_in_nI (N := 5040) (by omega) (by decide)) dM_derived_148 ?_
  refine wti (x' := eI n (K a)) (by rw [nI_clamp (by omega)]; exact hi9 a ha) ?_
  refine qV_i (ci := 5) (q0 := 0) (As := [.int (eI n x9), .int (eI n (K a))]) (rest := [.ref (d 0)]) ⟨hx, hb, hml, hown, ht⟩ (c_M_commutator l D z d n x9 (K a) hn hx9P hKP) (cB 2 ht gM_commutator rfl tw_64 tw_792 (by decide +kernel) ⟨by decide, by decide⟩) tw_794 tw_41 hK (hP) rfl rfl rfl hl.1 rfl (Nat.le_of_ble_eq_true rfl) dM_derived_149 ⟨by decide, by decide⟩ (fun r149 h149 => ?_)
  subst h149
  refine qM_v (ci := 5) (q0 := 0) (As := [.int (eI n (pg_comm n x9 (K a)))]) (rest := []) ⟨hx, hb, hml, hown, ht⟩ (c_M_grow l D z d n _ hn (pg_comm n x9 (K a)) (pg_P_comm hx9P hKP) _ hF) (cB 1 ht gM_grow rfl tw_64 tw_832 (by decide +kernel) ⟨by decide, by decide⟩) tw_834 tw_50 hK hP hD hS hA rfl rfl rfl hl.1 rfl (Nat.le_of_ble_eq_true rfl) dM_derived_152 ⟨by decide, by decide⟩ (fun u152 H locs h152 hP hD hS => ?_)
  replace hP : va_P D vC (mW z d n 0 ty ft gc fg fo fh fs u152.1 u152.2.1 u152.2.2.1 u152.2.2.2 i9 de ps re go kd pr fa fr) H := hP
  replace hD : va_D A (mW z d n 0 ty ft gc fg fo fh fs u152.1 u152.2.1 u152.2.2.1 u152.2.2.2 i9 de ps re go kd pr fa fr) := hD
  refine lv_iinc (k := 0) (v := (nI (a + 1))) hx hb dM_derived_155 hl rfl (by exact nI_1 _) (by decide) rfl (fun ls hl => ?_)
  replace hl : lv_has ls 6 [(5, .int (nI (a + 1))), (4, .int (nI k)), (3, .int (nI c9)), (0, .ref (d 0)), (1, .int (nI i)), (2, .int (nI j))] := hl
  refine lv_goto (tgt := 117) hx hb dM_derived_158 rfl ?_
  exact ih2 (q2 - 1) (a + 1, u152) _ _ ls (by omega) ⟨by show q2 - 1 + (a + 1) = c9; omega, by show mF n u152.2.2.1 u152.1 u152.2.2.2 (pg_Gen (mDr n (Gs i) K c9 k (a + 1))); rw [mDr_in hx9 hG9 ha]; exact h152, hP, hD, hS, lv_sub hl [0, 1, 2, 3, 4, 5] rfl⟩
set_option maxHeartbeats 4000000 in
set_option maxRecDepth 100000 in
theorem c_M_order (l : Launch) (D : va_G) (z : Nat → ClassId) (d : Nat → Nat) (n : Nat) {cd : Int32} {ty : Nat} {ft : Nat → Int32} {gc : Nat} {fg fo fh : Nat → Int32} {fs ff : Nat → Int64} {fq : Nat → Int32} {mk : Nat} {fm fi : Nat → Int32} {de ps : Nat} {re : Int32} {go : Bool} {kd pr fa fr : Nat → Int32} (sz : Nat) (tx : Nat → Nat) (g : Nat → pg_F) (tg : Nat → Option pg_F) (Gs : Nat → pg_F → Prop) (hR : mR n tx ty g gc tg Gs ft fg fo fh fs) (x : Int32) : Met l yM_order wM_order (rmF 2) (va_Pc [.ref (d 0), .int x] (fun U => U.heap.size = sz ∧ va_P D vC (mW z d n cd ty ft gc fg fo fh fs ff fq mk fm fi de ps re go kd pr fa fr) U.heap ∧ va_K D vC (tyL z) U ∧ va_D (fun _ => True) (mW z d n cd ty ft gc fg fo fh fs ff fq mk fm fi de ps re go kd pr fa fr))) (va_Qi (fun r (v : mSt) => ((v.1 = 0 ∧ ∃ i : Nat, x = nI i ∧ i < 5 ∧ gOrd n (Gs i) r) ∨ (v.1 = 1 ∧ ¬ iN x 5)) ∧ mRp n (tx, ty, g, gc, tg, Gs) v) (fun v t => va_P D vC (mWu z d n v) t.heap ∧ va_D (va_A (mW z d n cd ty ft gc fg fo fh fs ff fq mk fm fi de ps re go kd pr fa fr) sz) (mWu z d n v)) (va_A (mW z d n cd ty ft gc fg fo fh fs ff fq mk fm fi de ps re go kd pr fa fr) sz)) 0 0 (va_A (mW z d n cd ty ft gc fg fo fh fs ff fq mk fm fi de ps re go kd pr fa fr) sz) := by
  have hR0 := hR
  obtain ⟨h1n, hok, htg, ⟨Bs, hsl, hBs⟩, hg0⟩ := hR
  have hn := hok.2.2.1
  have hgc := hok.2.1
  have hlen := hok.1
  have hfac := pg_fac_le n hn
  refine Met.ofW (cc := prog_9_method_48_code) (maxL := 2) (ret := (some .int)) (by decide) rfl ?_
  intro p e s m args below meth c s₁ B hml hv
  have hx := B.exec
  have hb := B.bytes
  have hr := B.returns
  have ht : ∀ w ∈ TB, w.before args s = true := fun w h => atoms_spec (ws := wM_order) B.pre w (List.mem_cons_of_mem _ h)
  have hown : s.vm.findClass "PermutationDeskModel" = some m.cls := findClass_of_methodNamed B.named
  have hlocks := B.notSynchronized
  obtain ⟨rfl, hsz, hP, hK, hD0⟩ := hv
  subst hsz
  have hD := hD0.self (sz := s.heap.size)
  generalize hAe : va_A (mW z d n cd ty ft gc fg fo fh fs ff fq mk fm fi de ps re go kd pr fa fr) s.heap.size = A at hD ⊢
  have hA : ∀ q : Nat, s.heap.size ≤ q → A q := fun q h => by rw [← hAe]; exact Or.inr h
  have hS : va_S A s.heap s.heap [] := va_S.rf
  have hl := lv_entry ([.ref (d 0), .int x]) (n := 2) (Nat.le_of_ble_eq_true rfl)
  rw [lg_entry_eq]
  generalize (lg_sl ([.ref (d 0), .int x]) ++ List.replicate (2 - (lg_sl ([.ref (d 0), .int x])).length) Slot.unset).toArray = ls at hl ⊢
  have hl : lv_has ls 2 [(0, .ref (d 0)), (1, .int x)] := hl
  refine lv_aload_n hx hb dM_order_0 rfl (lv_at hl 0 rfl) ?_
  refine lv_iconst (v := 0) hx hb dM_order_1 (by decide) ?_
  refine va_put (ci := 5) (ty := .int) (C := RM) (T := TM) (N := 26) hx hb ht inM tyM tyM_ok nmM hown hK hP hD hS 0 rfl rfl 2 (by decide) (ht _ tw_651) (fun _ h9 => h9) rfl (by decide +kernel) rfl rfl (Nat.le_of_ble_eq_true rfl) dM_order_2 (fun H locs hP hD hS => ?_)
  have hP : va_P D vC (mW z d n 0 ty ft gc fg fo fh fs ff fq mk fm fi de ps re go kd pr fa fr) H := hP
  have hD : va_D A (mW z d n 0 ty ft gc fg fo fh fs ff fq mk fm fi de ps re go kd pr fa fr) := hD
  refine lv_iload_n hx hb dM_order_5 rfl (lv_at hl 1 rfl) ?_
  refine qS_i (As := [.int x]) (rest := []) ⟨hx, hb, hml, hown, ht⟩ (c_M_isSlot l x) (cB 1 ht gM_isSlot rfl tw_64 tw_883 (by decide +kernel) ⟨by decide, by decide⟩) tw_884 rfl hl.1 rfl (Nat.le_of_ble_eq_true rfl) dM_order_6 ⟨by decide, by decide⟩ (fun r6 h6 => ?_)
  obtain ⟨b1, rfl, hb1⟩ := h6
  refine lv_if_eq (tgt := 20) hx hb dM_order_9 rfl (fun h9 => ?_) (fun h9 => ?_)
  · have hni : ¬ iN x 5 := fun q => by have := hb1.mpr q; rw [bI_z h9] at this; cases this
    refine lv_aload_n hx hb dM_order_20 rfl (lv_at hl 0 rfl) ?_
    refine lv_iconst (v := 1) hx hb dM_order_21 (by decide) ?_
    refine qM_i (ci := 5) (q0 := 0) (As := [.int 1]) (rest := []) ⟨hx, hb, hml, hown, ht⟩ (c_M_fail l D z d n _ 1) (cB 1 ht gM_fail rfl tw_64 tw_796 (by decide +kernel) ⟨by decide, by decide⟩) tw_798 tw_42 hK hP hD hS hA rfl rfl rfl hl.1 rfl (Nat.le_of_ble_eq_true rfl) dM_order_22 ⟨by decide, by decide⟩ (fun r22 u22 H locs h22 hP hD hS => ?_)
    exact W.iret hx hb hr (fun t9 ht hW => ⟨⟨_, (1, ty, ft, gc, fg, fo, fh, fs, ff, fq, mk, fm, fi, de, ps, re, go, kd, pr, fa, fr), rfl, ⟨Or.inr ⟨rfl, hni⟩, rfl, rfl, hR0⟩, by rw [ht]; exact hP, hD⟩, hS.F ht⟩) hS.2.2 dM_order_25
  obtain ⟨i, rfl, hi⟩ := hb1.mp (bI_t h9)
  refine lv_aload_n hx hb dM_order_12 rfl (lv_at hl 0 rfl) ?_
  refine lv_iload_n hx hb dM_order_13 rfl (lv_at hl 1 rfl) ?_
  refine qV_i (ci := 5) (q0 := 0) (As := [.int (nI i)]) (rest := []) ⟨hx, hb, hml, hown, ht⟩ (c_M_orderOf l D z d n hn i (Bs i) hi (hsl i hi)) (cB 1 ht gM_orderOf rfl tw_64 tw_840 (by decide +kernel) ⟨by decide, by decide⟩) tw_842 tw_52 hK (hP) rfl rfl rfl hl.1 rfl (Nat.le_of_ble_eq_true rfl) dM_order_14 ⟨by decide, by decide⟩ (fun r14 h14 => ?_)
  subst h14
  refine lv_goto (tgt := 25) hx hb dM_order_17 rfl ?_
  exact W.iret hx hb hr (fun t9 ht hW => ⟨⟨_, (0, ty, ft, gc, fg, fo, fh, fs, ff, fq, mk, fm, fi, de, ps, re, go, kd, pr, fa, fr), rfl, ⟨Or.inl ⟨rfl, i, rfl, hi, mOrd (hBs i hi)⟩, rfl, rfl, hR0⟩, by rw [ht]; exact hP, hD⟩, hS.F ht⟩) hS.2.2 dM_order_25
set_option maxHeartbeats 4000000 in
set_option maxRecDepth 100000 in
theorem c_M_rank (l : Launch) (D : va_G) (z : Nat → ClassId) (d : Nat → Nat) (n : Nat) {cd : Int32} {ty : Nat} {ft : Nat → Int32} {gc : Nat} {fg fo fh : Nat → Int32} {fs ff : Nat → Int64} {fq : Nat → Int32} {mk : Nat} {fm fi : Nat → Int32} {de ps : Nat} {re : Int32} {go : Bool} {kd pr fa fr : Nat → Int32} (sz : Nat) (tx : Nat → Nat) (g : Nat → pg_F) (tg : Nat → Option pg_F) (Gs : Nat → pg_F → Prop) (hR : mR n tx ty g gc tg Gs ft fg fo fh fs) (x : Int32) : Met l yM_rank wM_rank (rmF 6) (va_Pc [.ref (d 0), .int x] (fun U => U.heap.size = sz ∧ va_P D vC (mW z d n cd ty ft gc fg fo fh fs ff fq mk fm fi de ps re go kd pr fa fr) U.heap ∧ va_K D vC (tyL z) U ∧ va_D (fun _ => True) (mW z d n cd ty ft gc fg fo fh fs ff fq mk fm fi de ps re go kd pr fa fr))) (va_Qi (fun r (v : mSt) => ((v.1 = 0 ∧ ∃ (i : Nat) (y : pg_F), x = nI i ∧ i < 5 ∧ pr_text tx ty n gc g = some y ∧ ((∃ (L : List pg_F) (j : Nat), pg_row n (Gs i) L ∧ L[j]? = some y ∧ r = nI j) ∨ (¬ Gs i y ∧ r = -1))) ∨ (v.1 = 1 ∧ ¬ iN x 5) ∨ (v.1 = 2 ∧ iN x 5 ∧ pr_text tx ty n gc g = none)) ∧ mRp n (tx, ty, g, gc, tg, Gs) v) (fun v t => va_P D vC (mWu z d n v) t.heap ∧ va_D (va_A (mW z d n cd ty ft gc fg fo fh fs ff fq mk fm fi de ps re go kd pr fa fr) sz) (mWu z d n v)) (va_A (mW z d n cd ty ft gc fg fo fh fs ff fq mk fm fi de ps re go kd pr fa fr) sz)) 0 0 (va_A (mW z d n cd ty ft gc fg fo fh fs ff fq mk fm fi de ps re go kd pr fa fr) sz) := by
  have hR0 := hR
  obtain ⟨h1n, hok, htg, ⟨Bs, hsl, hBs⟩, hg0⟩ := hR
  have hn := hok.2.2.1
  have hgc := hok.2.1
  have hlen := hok.1
  have hfac := pg_fac_le n hn
  refine Met.ofW (cc := prog_9_method_49_code) (maxL := 5) (ret := (some .int)) (by decide) rfl ?_
  intro p e s m args below meth c s₁ B hml hv
  have hx := B.exec
  have hb := B.bytes
  have hr := B.returns
  have ht : ∀ w ∈ TB, w.before args s = true := fun w h => atoms_spec (ws := wM_rank) B.pre w (List.mem_cons_of_mem _ h)
  have hown : s.vm.findClass "PermutationDeskModel" = some m.cls := findClass_of_methodNamed B.named
  have hlocks := B.notSynchronized
  obtain ⟨rfl, hsz, hP, hK, hD0⟩ := hv
  subst hsz
  have hD := hD0.self (sz := s.heap.size)
  generalize hAe : va_A (mW z d n cd ty ft gc fg fo fh fs ff fq mk fm fi de ps re go kd pr fa fr) s.heap.size = A at hD ⊢
  have hA : ∀ q : Nat, s.heap.size ≤ q → A q := fun q h => by rw [← hAe]; exact Or.inr h
  have hS : va_S A s.heap s.heap [] := va_S.rf
  have hl := lv_entry ([.ref (d 0), .int x]) (n := 5) (Nat.le_of_ble_eq_true rfl)
  rw [lg_entry_eq]
  generalize (lg_sl ([.ref (d 0), .int x]) ++ List.replicate (5 - (lg_sl ([.ref (d 0), .int x])).length) Slot.unset).toArray = ls at hl ⊢
  have hl : lv_has ls 5 [(0, .ref (d 0)), (1, .int x)] := hl
  refine lv_aload_n hx hb dM_rank_0 rfl (lv_at hl 0 rfl) ?_
  refine lv_iconst (v := 0) hx hb dM_rank_1 (by decide) ?_
  refine va_put (ci := 5) (ty := .int) (C := RM) (T := TM) (N := 26) hx hb ht inM tyM tyM_ok nmM hown hK hP hD hS 0 rfl rfl 2 (by decide) (ht _ tw_651) (fun _ h9 => h9) rfl (by decide +kernel) rfl rfl (Nat.le_of_ble_eq_true rfl) dM_rank_2 (fun H locs hP hD hS => ?_)
  have hP : va_P D vC (mW z d n 0 ty ft gc fg fo fh fs ff fq mk fm fi de ps re go kd pr fa fr) H := hP
  have hD : va_D A (mW z d n 0 ty ft gc fg fo fh fs ff fq mk fm fi de ps re go kd pr fa fr) := hD
  refine lv_iload_n hx hb dM_rank_5 rfl (lv_at hl 1 rfl) ?_
  refine qS_i (As := [.int x]) (rest := []) ⟨hx, hb, hml, hown, ht⟩ (c_M_isSlot l x) (cB 1 ht gM_isSlot rfl tw_64 tw_883 (by decide +kernel) ⟨by decide, by decide⟩) tw_884 rfl hl.1 rfl (Nat.le_of_ble_eq_true rfl) dM_rank_6 ⟨by decide, by decide⟩ (fun r6 h6 => ?_)
  obtain ⟨b1, rfl, hb1⟩ := h6
  refine lv_if_ne (tgt := 18) hx hb dM_rank_9 rfl (fun h9 => ?_) (fun h9 => ?_)
  rotate_left
  · have hni : ¬ iN x 5 := fun q => by have := hb1.mpr q; rw [bI_z h9] at this; cases this
    refine lv_aload_n hx hb dM_rank_12 rfl (lv_at hl 0 rfl) ?_
    refine lv_iconst (v := 1) hx hb dM_rank_13 (by decide) ?_
    refine qM_i (ci := 5) (q0 := 0) (As := [.int 1]) (rest := []) ⟨hx, hb, hml, hown, ht⟩ (c_M_fail l D z d n _ 1) (cB 1 ht gM_fail rfl tw_64 tw_796 (by decide +kernel) ⟨by decide, by decide⟩) tw_798 tw_42 hK hP hD hS hA rfl rfl rfl hl.1 rfl (Nat.le_of_ble_eq_true rfl) dM_rank_14 ⟨by decide, by decide⟩ (fun r14 u14 H locs h14 hP hD hS => ?_)
    exact W.iret hx hb hr (fun t9 ht hW => ⟨⟨_, (1, ty, ft, gc, fg, fo, fh, fs, ff, fq, mk, fm, fi, de, ps, re, go, kd, pr, fa, fr), rfl, ⟨Or.inr (Or.inl ⟨rfl, hni⟩), rfl, rfl, hR0⟩, by rw [ht]; exact hP, hD⟩, hS.F ht⟩) hS.2.2 dM_rank_17
  have hx5 := hb1.mp (bI_t h9)
  refine lv_aload_n hx hb dM_rank_18 rfl (lv_at hl 0 rfl) ?_
  refine qM_i (ci := 5) (q0 := 0) (As := []) (rest := []) ⟨hx, hb, hml, hown, ht⟩ (c_M_read l D z d n _ tx g hok) (cB 0 ht gM_read rfl tw_64 tw_745 (by decide +kernel) ⟨by decide, by decide⟩) tw_747 tw_30 hK hP hD hS hA rfl rfl rfl hl.1 rfl (Nat.le_of_ble_eq_true rfl) dM_rank_19 ⟨by decide, by decide⟩ (fun r19 u19 H locs h19 hP hD hS => ?_)
  obtain ⟨⟨de19, ps19, go19, kd19, pr19, fa19, fr19⟩, re19⟩ := u19
  replace hP : va_P D vC (mW z d n 0 ty ft gc fg fo fh fs ff fq mk fm fi de19 ps19 re19 go19 kd19 pr19 fa19 fr19) H := hP
  replace hD : va_D A (mW z d n 0 ty ft gc fg fo fh fs ff fq mk fm fi de19 ps19 re19 go19 kd19 pr19 fa19 fr19) := hD
  replace h19 : (r19 = 1 ∧ ∃ y, pr_text tx ty n gc g = some y ∧ re19 = eI n y) ∨ (r19 = 0 ∧ pr_text tx ty n gc g = none) := h19
  rcases h19 with ⟨rfl, y, hy, rfl⟩ | ⟨rfl, hno⟩
  rotate_left
  · refine lv_if_ne (tgt := 31) hx hb dM_rank_22 rfl (fun h9 => absurd rfl h9) (fun h9 => ?_)
    refine lv_aload_n hx hb dM_rank_25 rfl (lv_at hl 0 rfl) ?_
    refine lv_iconst (v := 2) hx hb dM_rank_26 (by decide) ?_
    refine qM_i (ci := 5) (q0 := 0) (As := [.int 2]) (rest := []) ⟨hx, hb, hml, hown, ht⟩ (c_M_fail l D z d n _ 2) (cB 1 ht gM_fail rfl tw_64 tw_796 (by decide +kernel) ⟨by decide, by decide⟩) tw_798 tw_42 hK hP hD hS hA rfl rfl rfl hl.1 rfl (Nat.le_of_ble_eq_true rfl) dM_rank_27 ⟨by decide, by decide⟩ (fun r27 u27 H locs h27 hP hD hS => ?_)
    exact W.iret hx hb hr (fun t9 ht hW => ⟨⟨_, (2, ty, ft, gc, fg, fo, fh, fs, ff, fq, mk, fm, fi, de19, ps19, re19, go19, kd19, pr19, fa19, fr19), rfl, ⟨Or.inr (Or.inr ⟨rfl, hx5, hno⟩), rfl, rfl, hR0⟩, by rw [ht]; exact hP, hD⟩, hS.F ht⟩) hS.2.2 dM_rank_30
  have hyP := pr_text_P (fun i hi => (hok.2.2.2.2 i hi).1) hy
  refine lv_if_ne (tgt := 31) hx hb dM_rank_22 rfl (fun h9 => ?_) (fun h9 => absurd h9 (by decide))
  obtain ⟨i, rfl, hi⟩ := hx5
  refine lv_aload_n hx hb dM_rank_31 rfl (lv_at hl 0 rfl) ?_
  refine lv_aload_n hx hb dM_rank_32 rfl (lv_at hl 0 rfl) ?_
  refine va_get (ci := 5) (C := RM) (T := TM) (N := 26) hx hb ht inM hown hK hP 0 rfl rfl 20 (by decide) (ht _ tw_669) (fun _ h9 => h9) rfl dM_rank_33 ?_
  refine qV_i (ci := 5) (q0 := 0) (As := [.int (eI n y)]) (rest := []) ⟨hx, hb, hml, hown, ht⟩ (c_M_rankOf l D z d n y hn hyP) (cB 1 ht gM_rankOf rfl tw_64 tw_824 (by decide +kernel) ⟨by decide, by decide⟩) tw_826 tw_48 hK (hP) rfl rfl rfl hl.1 rfl (Nat.le_of_ble_eq_true rfl) dM_rank_36 ⟨by decide, by decide⟩ (fun r36 h36 => ?_)
  obtain ⟨r0, rfl, hr0⟩ := h36
  have hr0l := (pg_all_P hr0).2
  have hG0 : Bs i r0 = true ↔ Gs i y := by rw [← hBs i hi]; exact (pg_set_at hr0).symm
  refine lv_istore_n hx hb dM_rank_39 rfl hl (by decide) rfl (fun ls hl => ?_)
  replace hl : lv_has ls 5 [(2, .int (nI r0)), (0, .ref (d 0)), (1, .int (nI i))] := hl
  refine lv_aload_n hx hb dM_rank_40 rfl (lv_at hl 1 rfl) ?_
  refine lv_iload_n hx hb dM_rank_41 rfl (lv_at hl 2 rfl) ?_
  refine lv_iload_n hx hb dM_rank_42 rfl (lv_at hl 0 rfl) ?_
  refine qV_i (ci := 5) (q0 := 0) (As := [.int (nI i), .int (nI r0)]) (rest := []) ⟨hx, hb, hml, hown, ht⟩ (c_M_isIn l D z d n i r0 (Bs i) hi (by omega) (hsl i hi)) (cB 2 ht gM_isIn rfl tw_64 tw_844 (by decide +kernel) ⟨by decide, by decide⟩) tw_846 tw_53 hK (hP) rfl rfl rfl hl.1 rfl (Nat.le_of_ble_eq_true rfl) dM_rank_43 ⟨by decide, by decide⟩ (fun r43 h43 => ?_)
  subst h43
  refine lv_if_ne (tgt := 51) hx hb dM_rank_46 rfl (fun h46 => ?_) (fun h46 => ?_)
  rotate_left
  · have hG9 : ¬ Gs i y := fun q => by have := hG0.mpr q; rw [bI_z h46] at this; cases this
    refine lv_iconst (v := (-1)) hx hb dM_rank_49 (by decide) ?_
    exact W.iret hx hb hr (fun t9 ht hW => ⟨⟨_, (0, ty, ft, gc, fg, fo, fh, fs, ff, fq, mk, fm, fi, de19, ps19, eI n y, go19, kd19, pr19, fa19, fr19), rfl, ⟨Or.inl ⟨rfl, i, y, rfl, hi, hy, Or.inr ⟨hG9, rfl⟩⟩, rfl, rfl, hR0⟩, by rw [ht]; exact hP, hD⟩, hS.F ht⟩) hS.2.2 dM_rank_50
  have hB9 := bI_t h46
  refine lv_iconst (v := 0) hx hb dM_rank_51 (by decide) ?_
  refine lv_istore_n hx hb dM_rank_52 rfl hl (by decide) rfl (fun ls hl => ?_)
  replace hl : lv_has ls 5 [(3, .int (nI 0)), (2, .int (nI r0)), (0, .ref (d 0)), (1, .int (nI i))] := hl
  refine lv_iconst (v := 0) hx hb dM_rank_53 (by decide) ?_
  refine lv_istore hx hb dM_rank_54 hl (by decide) rfl (fun ls hl => ?_)
  replace hl : lv_has ls 5 [(4, .int (nI 0)), (3, .int (nI 0)), (2, .int (nI r0)), (0, .ref (d 0)), (1, .int (nI i))] := hl
  refine wl0 (σ := Nat) (I := fun q k ls => q + k = r0 ∧ lv_has ls 5 [(4, .int (nI k)), (3, .int (nI ((List.range k).countP (Bs i)))), (2, .int (nI r0)), (0, .ref (d 0)), (1, .int (nI i))]) ?_ r0 0 ls ⟨rfl, hl⟩
  clear hl
  rintro q k ls ⟨hdk, hl⟩ ih
  refine lv_iload hx hb dM_rank_56 (lv_at hl 0 rfl) ?_
  refine lv_iload_n hx hb dM_rank_58 rfl (lv_at hl 2 rfl) ?_
  refine lv_icmp_ge (tgt := 86) hx hb dM_rank_59 rfl (fun h59 => ?_) (fun h59 => ?_)
  · have hk : k = r0 := by have := (nI_leI (by omega) (by omega)).mp h59; omega
    rw [hk] at hl
    refine lv_iload_n hx hb dM_rank_86 rfl (lv_at hl 1 rfl) ?_
    exact W.iret hx hb hr (fun t9 ht hW => ⟨⟨_, (0, ty, ft, gc, fg, fo, fh, fs, ff, fq, mk, fm, fi, de19, ps19, eI n y, go19, kd19, pr19, fa19, fr19), rfl, ⟨Or.inl ⟨rfl, i, y, rfl, hi, hy, Or.inl ⟨pg_mem n (Bs i), _, by rw [← hBs i hi]; exact pg_mem_row n (Bs i), pg_mem_at hr0 hB9, rfl⟩⟩, rfl, rfl, hR0⟩, by rw [ht]; exact hP, hD⟩, hS.F ht⟩) hS.2.2 dM_rank_87
  have hk : k < r0 := by
    rw [nI_leI (by omega) (by omega)] at h59
    omega
  refine lv_iload_n hx hb dM_rank_62 rfl (lv_at hl 1 rfl) ?_
  refine lv_aload_n hx hb dM_rank_63 rfl (lv_at hl 3 rfl) ?_
  refine lv_iload_n hx hb dM_rank_64 rfl (lv_at hl 4 rfl) ?_
  refine lv_iload hx hb dM_rank_65 (lv_at hl 0 rfl) ?_
  refine qV_i (ci := 5) (q0 := 0) (As := [.int (nI i), .int (nI k)]) (rest := [.int (nI ((List.range k).countP (Bs i)))]) ⟨hx, hb, hml, hown, ht⟩ (c_M_isIn l D z d n i k (Bs i) hi (by omega) (hsl i hi)) (cB 2 ht gM_isIn rfl tw_64 tw_844 (by decide +kernel) ⟨by decide, by decide⟩) tw_846 tw_53 hK (hP) rfl rfl rfl hl.1 rfl (Nat.le_of_ble_eq_true rfl) dM_rank_67 ⟨by decide, by decide⟩ (fun r67 h67 => ?_)
  subst h67
  refine lv_if_eq (tgt := 77) hx hb dM_rank_70 rfl (fun h70 => ?_) (fun h70 => ?_)
  · skip
    refine lv_iconst (v := 0) hx hb dM_rank_77 (by decide) ?_
    refine lv_iadd hx hb dM_rank_78 ?_
    refine wti (x' := nI ((List.range (k + 1)).countP (Bs i))) (by rw [pg_count_succ, bI_z h70]; exact nI_add _ 0) ?_
    refine lv_istore_n hx hb dM_rank_79 rfl hl (by decide) rfl (fun ls hl => ?_)
    replace hl : lv_has ls 5 [(3, .int (nI ((List.range (k + 1)).countP (Bs i)))), (4, .int (nI k)), (2, .int (nI r0)), (0, .ref (d 0)), (1, .int (nI i))] := hl
    refine lv_iinc (k := 1) (v := (nI (k + 1))) hx hb dM_rank_80 hl rfl (by exact nI_1 _) (by decide) rfl (fun ls hl => ?_)
    replace hl : lv_has ls 5 [(4, .int (nI (k + 1))), (3, .int (nI ((List.range (k + 1)).countP (Bs i)))), (2, .int (nI r0)), (0, .ref (d 0)), (1, .int (nI i))] := hl
    refine lv_goto (tgt := 56) hx hb dM_rank_83 rfl ?_
    exact ih (q - 1) (k + 1) ls (by omega) ⟨by omega, lv_sub hl [0, 1, 2, 3, 4] rfl⟩
  refine lv_iconst (v := 1) hx hb dM_rank_73 (by decide) ?_
  refine lv_goto (tgt := 78) hx hb dM_rank_74 rfl ?_
  refine lv_iadd hx hb dM_rank_78 ?_
  refine wti (x' := nI ((List.range (k + 1)).countP (Bs i))) (by rw [pg_count_succ, bI_t h70]; exact nI_add _ 1) ?_
  refine lv_istore_n hx hb dM_rank_79 rfl hl (by decide) rfl (fun ls hl => ?_)
  replace hl : lv_has ls 5 [(3, .int (nI ((List.range (k + 1)).countP (Bs i)))), (4, .int (nI k)), (2, .int (nI r0)), (0, .ref (d 0)), (1, .int (nI i))] := hl
  refine lv_iinc (k := 1) (v := (nI (k + 1))) hx hb dM_rank_80 hl rfl (by exact nI_1 _) (by decide) rfl (fun ls hl => ?_)
  replace hl : lv_has ls 5 [(4, .int (nI (k + 1))), (3, .int (nI ((List.range (k + 1)).countP (Bs i)))), (2, .int (nI r0)), (0, .ref (d 0)), (1, .int (nI i))] := hl
  refine lv_goto (tgt := 56) hx hb dM_rank_83 rfl ?_
  exact ih (q - 1) (k + 1) ls (by omega) ⟨by omega, lv_sub hl [0, 1, 2, 3, 4] rfl⟩
set_option maxHeartbeats 4000000 in
set_option maxRecDepth 100000 in
theorem c_M_orbit (l : Launch) (D : va_G) (z : Nat → ClassId) (d : Nat → Nat) (n : Nat) {cd : Int32} {ty : Nat} {ft : Nat → Int32} {gc : Nat} {fg fo fh : Nat → Int32} {fs ff : Nat → Int64} {fq : Nat → Int32} {mk : Nat} {fm fi : Nat → Int32} {de ps : Nat} {re : Int32} {go : Bool} {kd pr fa fr : Nat → Int32} (sz : Nat) (tx : Nat → Nat) (g : Nat → pg_F) (tg : Nat → Option pg_F) (Gs : Nat → pg_F → Prop) (hR : mR n tx ty g gc tg Gs ft fg fo fh fs) (x y : Int32) : Met l yM_orbit wM_orbit (rmF 2) (va_Pc [.ref (d 0), .int x, .int y] (fun U => U.heap.size = sz ∧ va_P D vC (mW z d n cd ty ft gc fg fo fh fs ff fq mk fm fi de ps re go kd pr fa fr) U.heap ∧ va_K D vC (tyL z) U ∧ va_D (fun _ => True) (mW z d n cd ty ft gc fg fo fh fs ff fq mk fm fi de ps re go kd pr fa fr))) (va_Qi (fun r (v : mSt) => ((v.1 = 0 ∧ ∃ i k t : Nat, x = nI i ∧ i < 5 ∧ y = nI k ∧ k < n ∧ r = nI t ∧ ∀ q, t.testBit q = true ↔ ∃ w, Gs i w ∧ w k = q) ∨ (v.1 = 1 ∧ ¬ (iN x 5 ∧ iN y n))) ∧ mRp n (tx, ty, g, gc, tg, Gs) v) (fun v t => va_P D vC (mWu z d n v) t.heap ∧ va_D (va_A (mW z d n cd ty ft gc fg fo fh fs ff fq mk fm fi de ps re go kd pr fa fr) sz) (mWu z d n v)) (va_A (mW z d n cd ty ft gc fg fo fh fs ff fq mk fm fi de ps re go kd pr fa fr) sz)) 0 0 (va_A (mW z d n cd ty ft gc fg fo fh fs ff fq mk fm fi de ps re go kd pr fa fr) sz) := by
  have hR0 := hR
  obtain ⟨h1n, hok, htg, ⟨Bs, hsl, hBs⟩, hg0⟩ := hR
  have hn := hok.2.2.1
  have hgc := hok.2.1
  have hlen := hok.1
  have hfac := pg_fac_le n hn
  refine Met.ofW (cc := prog_9_method_51_code) (maxL := 5) (ret := (some .int)) (by decide) rfl ?_
  intro p e s m args below meth c s₁ B hml hv
  have hx := B.exec
  have hb := B.bytes
  have hr := B.returns
  have ht : ∀ w ∈ TB, w.before args s = true := fun w h => atoms_spec (ws := wM_orbit) B.pre w (List.mem_cons_of_mem _ h)
  have hown : s.vm.findClass "PermutationDeskModel" = some m.cls := findClass_of_methodNamed B.named
  have hlocks := B.notSynchronized
  obtain ⟨rfl, hsz, hP, hK, hD0⟩ := hv
  subst hsz
  have hD := hD0.self (sz := s.heap.size)
  generalize hAe : va_A (mW z d n cd ty ft gc fg fo fh fs ff fq mk fm fi de ps re go kd pr fa fr) s.heap.size = A at hD ⊢
  have hA : ∀ q : Nat, s.heap.size ≤ q → A q := fun q h => by rw [← hAe]; exact Or.inr h
  have hS : va_S A s.heap s.heap [] := va_S.rf
  have hl := lv_entry ([.ref (d 0), .int x, .int y]) (n := 5) (Nat.le_of_ble_eq_true rfl)
  rw [lg_entry_eq]
  generalize (lg_sl ([.ref (d 0), .int x, .int y]) ++ List.replicate (5 - (lg_sl ([.ref (d 0), .int x, .int y])).length) Slot.unset).toArray = ls at hl ⊢
  have hl : lv_has ls 5 [(0, .ref (d 0)), (1, .int x), (2, .int y)] := hl
  refine lv_aload_n hx hb dM_orbit_0 rfl (lv_at hl 0 rfl) ?_
  refine lv_iconst (v := 0) hx hb dM_orbit_1 (by decide) ?_
  refine va_put (ci := 5) (ty := .int) (C := RM) (T := TM) (N := 26) hx hb ht inM tyM tyM_ok nmM hown hK hP hD hS 0 rfl rfl 2 (by decide) (ht _ tw_651) (fun _ h9 => h9) rfl (by decide +kernel) rfl rfl (Nat.le_of_ble_eq_true rfl) dM_orbit_2 (fun H locs hP hD hS => ?_)
  have hP : va_P D vC (mW z d n 0 ty ft gc fg fo fh fs ff fq mk fm fi de ps re go kd pr fa fr) H := hP
  have hD : va_D A (mW z d n 0 ty ft gc fg fo fh fs ff fq mk fm fi de ps re go kd pr fa fr) := hD
  refine wj (σ := Unit) (pc := 24) (I := fun _ H1 locs1 ls1 => H = H1 ∧ locs = locs1 ∧ lv_has ls1 5 [(0, .ref (d 0)), (1, .int x), (2, .int y)] ∧ ¬ (iN x 5 ∧ iN y n)) ?_ (fun jn => ?_)
  · rintro - H1 locs1 ls1 ⟨rfl, rfl, hl, hni⟩
    refine lv_aload_n hx hb dM_orbit_24 rfl (lv_at hl 0 rfl) ?_
    refine lv_iconst (v := 1) hx hb dM_orbit_25 (by decide) ?_
    refine qM_i (ci := 5) (q0 := 0) (As := [.int 1]) (rest := []) ⟨hx, hb, hml, hown, ht⟩ (c_M_fail l D z d n _ 1) (cB 1 ht gM_fail rfl tw_64 tw_796 (by decide +kernel) ⟨by decide, by decide⟩) tw_798 tw_42 hK hP hD hS hA rfl rfl rfl hl.1 rfl (Nat.le_of_ble_eq_true rfl) dM_orbit_26 ⟨by decide, by decide⟩ (fun r26 u26 H locs h26 hP hD hS => ?_)
    exact W.iret hx hb hr (fun t9 ht hW => ⟨⟨_, (1, ty, ft, gc, fg, fo, fh, fs, ff, fq, mk, fm, fi, de, ps, re, go, kd, pr, fa, fr), rfl, ⟨Or.inr ⟨rfl, hni⟩, rfl, rfl, hR0⟩, by rw [ht]; exact hP, hD⟩, hS.F ht⟩) hS.2.2 dM_orbit_29
  refine lv_iload_n hx hb dM_orbit_5 rfl (lv_at hl 1 rfl) ?_
  refine qS_i (As := [.int x]) (rest := []) ⟨hx, hb, hml, hown, ht⟩ (c_M_isSlot l x) (cB 1 ht gM_isSlot rfl tw_64 tw_883 (by decide +kernel) ⟨by decide, by decide⟩) tw_884 rfl hl.1 rfl (Nat.le_of_ble_eq_true rfl) dM_orbit_6 ⟨by decide, by decide⟩ (fun r6 h6 => ?_)
  obtain ⟨b1, rfl, hb1⟩ := h6
  refine lv_if_eq (tgt := 24) hx hb dM_orbit_9 rfl (fun h9 => ?_) (fun h9 => ?_)
  · exact jn () _ _ ls ⟨rfl, rfl, hl, fun q => by have := hb1.mpr q.1; rw [bI_z h9] at this; cases this⟩
  have hx5 := hb1.mp (bI_t h9)
  refine lv_iload_n hx hb dM_orbit_12 rfl (lv_at hl 2 rfl) ?_
  refine lv_if_lt (tgt := 24) hx hb dM_orbit_13 rfl (fun h13 => ?_) (fun h13 => ?_)
  · exact jn () _ _ ls ⟨rfl, rfl, hl, fun q => ((iN_of (by omega)).mp q.2).1 h13⟩
  refine lv_iload_n hx hb dM_orbit_16 rfl (lv_at hl 2 rfl) ?_
  refine lv_aload_n hx hb dM_orbit_17 rfl (lv_at hl 0 rfl) ?_
  refine va_get (ci := 5) (C := RM) (T := TM) (N := 26) hx hb ht inM hown hK hP 0 rfl rfl 0 (by decide) (ht _ tw_649) (fun _ h9 => h9) rfl dM_orbit_18 ?_
  refine lv_icmp_lt (tgt := 30) hx hb dM_orbit_21 rfl (fun h21 => ?_) (fun h21 => ?_)
  rotate_left
  · exact jn () _ _ ls ⟨rfl, rfl, hl, fun q => h21 (Int32.not_le.mp ((iN_of (by omega)).mp q.2).2)⟩
  clear jn
  obtain ⟨p9, rfl, hp9⟩ : iN y n := (iN_of (by omega)).mpr ⟨h13, fun q => Int32.not_le.mpr h21 q⟩
  obtain ⟨i, rfl, hi⟩ := hx5
  have hGP := mSet_P (hBs i hi)
  refine lv_iconst (v := 0) hx hb dM_orbit_30 (by decide) ?_
  refine lv_istore_n hx hb dM_orbit_31 rfl hl (by decide) rfl (fun ls hl => ?_)
  replace hl : lv_has ls 5 [(3, .int (nI 0)), (0, .ref (d 0)), (1, .int (nI i)), (2, .int (nI p9))] := hl
  refine lv_iconst (v := 0) hx hb dM_orbit_32 (by decide) ?_
  refine lv_istore hx hb dM_orbit_33 hl (by decide) rfl (fun ls hl => ?_)
  replace hl : lv_has ls 5 [(4, .int (nI 0)), (3, .int (nI 0)), (0, .ref (d 0)), (1, .int (nI i)), (2, .int (nI p9))] := hl
  refine wl0 (σ := Nat × Nat) (I := fun q st ls => q + st.1 = pg_fac n ∧ st.2 < 2 ^ 31 ∧ (∀ v, st.2.testBit v = true ↔ ∃ r x9, r < st.1 ∧ (pg_all n)[r]? = some x9 ∧ Gs i x9 ∧ x9 p9 = v) ∧ lv_has ls 5 [(4, .int (nI st.1)), (3, .int (nI st.2)), (0, .ref (d 0)), (1, .int (nI i)), (2, .int (nI p9))]) ?_ (pg_fac n) (0, 0) ls ⟨rfl, by decide, fun v => ⟨fun e9 => (by rw [Nat.zero_testBit] at e9; cases e9), fun ⟨r, _, h9, _⟩ => absurd h9 (Nat.not_lt_zero r)⟩, hl⟩
  clear hl
  rintro q ⟨k, t9⟩ ls ⟨hdk, ht31, htb, hl⟩ ih
  replace hdk : q + k = pg_fac n := hdk
  replace ht31 : t9 < 2 ^ 31 := ht31
  replace htb : ∀ v, t9.testBit v = true ↔ ∃ r x9, r < k ∧ (pg_all n)[r]? = some x9 ∧ Gs i x9 ∧ x9 p9 = v := htb
  replace hl : lv_has ls 5 [(4, .int (nI k)), (3, .int (nI t9)), (0, .ref (d 0)), (1, .int (nI i)), (2, .int (nI p9))] := hl
  refine lv_iload hx hb dM_orbit_35 (lv_at hl 0 rfl) ?_
  refine lv_aload_n hx hb dM_orbit_37 rfl (lv_at hl 2 rfl) ?_
  refine va_get (ci := 5) (C := RM) (T := TM) (N := 26) hx hb ht inM hown hK hP 0 rfl rfl 1 (by decide) (ht _ tw_650) (fun _ h9 => h9) rfl dM_orbit_38 ?_
  refine lv_icmp_ge (tgt := 77) hx hb dM_orbit_41 rfl (fun h41 => ?_) (fun h41 => ?_)
  · have hk : k = pg_fac n := by have := (nI_leI (by omega) (by omega)).mp h41; omega
    refine lv_iload_n hx hb dM_orbit_77 rfl (lv_at hl 1 rfl) ?_
    refine W.iret hx hb hr (fun t8 ht hW => ⟨⟨_, (0, ty, ft, gc, fg, fo, fh, fs, ff, fq, mk, fm, fi, de, ps, re, go, kd, pr, fa, fr), rfl, ⟨Or.inl ⟨rfl, i, p9, t9, rfl, hi, rfl, hp9, rfl, fun v => ?_⟩, rfl, rfl, hR0⟩, by rw [ht]; exact hP, hD⟩, hS.F ht⟩) hS.2.2 dM_orbit_78
    rw [htb v]
    refine ⟨fun ⟨r, x9, _, _, h8, h9⟩ => ⟨x9, h8, h9⟩, fun ⟨x9, h8, h9⟩ => ?_⟩
    obtain ⟨r, hr9, e9⟩ := pg_all_at (hGP x9 h8)
    exact ⟨r, x9, by omega, e9, h8, h9⟩
  have hk : k < pg_fac n := by
    rw [nI_leI (by omega) (by omega)] at h41
    omega
  obtain ⟨x9, hx9⟩ := pg_all_in hk
  have hx9P := (pg_all_P hx9).1
  have hGk : Bs i k = true ↔ Gs i x9 := by rw [← hBs i hi]; exact (pg_set_at hx9).symm
  have hxp := hx9P.1 p9 hp9
  refine lv_aload_n hx hb dM_orbit_44 rfl (lv_at hl 2 rfl) ?_
  refine lv_iload_n hx hb dM_orbit_45 rfl (lv_at hl 3 rfl) ?_
  refine lv_iload hx hb dM_orbit_46 (lv_at hl 0 rfl) ?_
  refine qV_i (ci := 5) (q0 := 0) (As := [.int (nI i), .int (nI k)]) (rest := []) ⟨hx, hb, hml, hown, ht⟩ (c_M_isIn l D z d n i k (Bs i) hi (by omega) (hsl i hi)) (cB 2 ht gM_isIn rfl tw_64 tw_844 (by decide +kernel) ⟨by decide, by decide⟩) tw_846 tw_53 hK (hP) rfl rfl rfl hl.1 rfl (Nat.le_of_ble_eq_true rfl) dM_orbit_48 ⟨by decide, by decide⟩ (fun r48 h48 => ?_)
  subst h48
  refine lv_if_eq (tgt := 71) hx hb dM_orbit_51 rfl (fun h51 => ?_) (fun h51 => ?_)
  · have hG9 : ¬ Gs i x9 := fun q => by have := hGk.mpr q; rw [bI_z h51] at this; cases this
    refine lv_iinc (k := 0) (v := (nI (k + 1))) hx hb dM_orbit_71 hl rfl (by exact nI_1 _) (by decide) rfl (fun ls hl => ?_)
    replace hl : lv_has ls 5 [(4, .int (nI (k + 1))), (3, .int (nI t9)), (0, .ref (d 0)), (1, .int (nI i)), (2, .int (nI p9))] := hl
    refine lv_goto (tgt := 35) hx hb dM_orbit_74 rfl ?_
    refine ih (q - 1) (k + 1, t9) ls (by omega) ⟨by show q - 1 + (k + 1) = pg_fac n; omega, ht31, fun v => ?_, lv_sub hl [0, 1, 2, 3, 4] rfl⟩
    show t9.testBit v = true ↔ ∃ r x9, r < k + 1 ∧ (pg_all n)[r]? = some x9 ∧ Gs i x9 ∧ x9 p9 = v
    rw [htb v]
    refine ⟨fun ⟨r, y9, h6, h7, h8, h9⟩ => ⟨r, y9, by omega, h7, h8, h9⟩, fun ⟨r, y9, h6, h7, h8, h9⟩ => ⟨r, y9, ?_, h7, h8, h9⟩⟩
    have : r ≠ k := fun e => hG9 (by rw [e, hx9] at h7; cases h7; exact h8)
    omega
  have hG9 := hGk.mp (bI_t h51)
  refine lv_iload_n hx hb dM_orbit_54 rfl (lv_at hl 1 rfl) ?_
  refine lv_iconst (v := 1) hx hb dM_orbit_55 (by decide) ?_
  refine lv_aload_n hx hb dM_orbit_56 rfl (lv_at hl 2 rfl) ?_
  refine lv_aload_n hx hb dM_orbit_57 rfl (lv_at hl 2 rfl) ?_
  refine va_get (ci := 5) (C := RM) (T := TM) (N := 26) hx hb ht inM hown hK hP 0 rfl rfl 3 (by decide) (ht _ tw_652) (fun _ h9 => h9) rfl dM_orbit_58 ?_
  refine lv_iload hx hb dM_orbit_61 (lv_at hl 0 rfl) ?_
  refine va_iald hx hb hK hP 1 1 rfl rfl (vp_in_nI (N := 5040) (by omega) (by decide)) dM_orbit_63 ?_
  refine wti (x' := eI n x9) (by rw [nI_clamp (by omega)]; exact mL_at hx9) ?_
  refine lv_iload_n hx hb dM_orbit_64 rfl (lv_at hl 4 rfl) ?_
  refine qV_i (ci := 5) (q0 := 0) (As := [.int (eI n x9), .int (nI p9)]) (rest := [.int 1, .int (nI t9)]) ⟨hx, hb, hml, hown, ht⟩ (c_M_apply l D z d n p9 x9 hn (hx9P.d3 (by omega)) hp9) (cB 2 ht gM_apply rfl tw_64 tw_765 (by decide +kernel) ⟨by decide, by decide⟩) tw_767 tw_35 hK (hP) rfl rfl rfl hl.1 rfl (Nat.le_of_ble_eq_true rfl) dM_orbit_65 ⟨by decide, by decide⟩ (fun r65 h65 => ?_)
  subst h65
  refine lv_ishl hx hb dM_orbit_68 ?_
  refine lv_ior hx hb dM_orbit_69 ?_
  refine wti (x' := nI (t9 ||| 2 ^ x9 p9)) (mk_or (by omega)) ?_
  refine lv_istore_n hx hb dM_orbit_70 rfl hl (by decide) rfl (fun ls hl => ?_)
  replace hl : lv_has ls 5 [(3, .int (nI (t9 ||| 2 ^ x9 p9))), (4, .int (nI k)), (0, .ref (d 0)), (1, .int (nI i)), (2, .int (nI p9))] := hl
  refine lv_iinc (k := 1) (v := (nI (k + 1))) hx hb dM_orbit_71 hl rfl (by exact nI_1 _) (by decide) rfl (fun ls hl => ?_)
  replace hl : lv_has ls 5 [(4, .int (nI (k + 1))), (3, .int (nI (t9 ||| 2 ^ x9 p9))), (0, .ref (d 0)), (1, .int (nI i)), (2, .int (nI p9))] := hl
  refine lv_goto (tgt := 35) hx hb dM_orbit_74 rfl ?_
  refine ih (q - 1) (k + 1, t9 ||| 2 ^ x9 p9) ls (by omega) ⟨by show q - 1 + (k + 1) = pg_fac n; omega, Nat.or_lt_two_pow ht31 (Nat.pow_lt_pow_right (by decide) (by omega)), fun v => ?_, lv_sub hl [0, 1, 2, 3, 4] rfl⟩
  show (t9 ||| 2 ^ x9 p9).testBit v = true ↔ ∃ r x9, r < k + 1 ∧ (pg_all n)[r]? = some x9 ∧ Gs i x9 ∧ x9 p9 = v
  rw [Nat.testBit_or, Nat.testBit_two_pow, Bool.or_eq_true, htb v]
  constructor
  · rintro (⟨r, y9, h6, h7, h8, h9⟩ | h9)
    · exact ⟨r, y9, by omega, h7, h8, h9⟩
    · exact ⟨k, x9, by omega, hx9, hG9, of_decide_eq_true h9⟩
  · rintro ⟨r, y9, h6, h7, h8, h9⟩
    by_cases e : r = k
    · rw [e, hx9] at h7
      cases h7
      exact Or.inr (decide_eq_true h9)
    · exact Or.inl ⟨r, y9, by omega, h7, h8, h9⟩
theorem i_nn {y : Int32} (h : ¬ y < 0) : ∃ j : Nat, y = nI j ∧ j < 2 ^ 31 := by
  have h1 : 0 ≤ y.toInt := by
    rw [Int32.lt_iff_toInt_lt] at h
    have : (0 : Int32).toInt = 0 := rfl
    omega
  have h2 := Int32.toInt_lt y
  refine ⟨y.toInt.toNat, Int32.toInt_inj.mp ?_, by omega⟩
  rw [nI_toInt (by omega)]
  omega
set_option maxHeartbeats 4000000 in
set_option maxRecDepth 100000 in
theorem c_M_element (l : Launch) (D : va_G) (z : Nat → ClassId) (d : Nat → Nat) (n : Nat) {cd : Int32} {ty : Nat} {ft : Nat → Int32} {gc : Nat} {fg fo fh : Nat → Int32} {fs ff : Nat → Int64} {fq : Nat → Int32} {mk : Nat} {fm fi : Nat → Int32} {de ps : Nat} {re : Int32} {go : Bool} {kd pr fa fr : Nat → Int32} (sz : Nat) (tx : Nat → Nat) (g : Nat → pg_F) (tg : Nat → Option pg_F) (Gs : Nat → pg_F → Prop) (hR : mR n tx ty g gc tg Gs ft fg fo fh fs) (x y w : Int32) : Met l yM_element wM_element (rmF 2) (va_Pc [.ref (d 0), .int x, .int y, .int w] (fun U => U.heap.size = sz ∧ va_P D vC (mW z d n cd ty ft gc fg fo fh fs ff fq mk fm fi de ps re go kd pr fa fr) U.heap ∧ va_K D vC (tyL z) U ∧ va_D (fun _ => True) (mW z d n cd ty ft gc fg fo fh fs ff fq mk fm fi de ps re go kd pr fa fr))) (va_Qi (fun r (v : mSt) => ((v.1 = 0 ∧ ∃ (i j k : Nat) (L : List pg_F) (q : pg_F), x = nI i ∧ i < 5 ∧ w = nI k ∧ k < n ∧ pg_row n (Gs i) L ∧ y = nI j ∧ L[j]? = some q ∧ r = nI (q k)) ∨ (v.1 = 1 ∧ ¬ ∃ (i : Nat) (L : List pg_F), x = nI i ∧ i < 5 ∧ iN w n ∧ pg_row n (Gs i) L ∧ iN y L.length)) ∧ mRp n (tx, ty, g, gc, tg, Gs) v) (fun v t => va_P D vC (mWu z d n v) t.heap ∧ va_D (va_A (mW z d n cd ty ft gc fg fo fh fs ff fq mk fm fi de ps re go kd pr fa fr) sz) (mWu z d n v)) (va_A (mW z d n cd ty ft gc fg fo fh fs ff fq mk fm fi de ps re go kd pr fa fr) sz)) 0 0 (va_A (mW z d n cd ty ft gc fg fo fh fs ff fq mk fm fi de ps re go kd pr fa fr) sz) := by
  have hR0 := hR
  obtain ⟨h1n, hok, htg, ⟨Bs, hsl, hBs⟩, hg0⟩ := hR
  have hn := hok.2.2.1
  have hgc := hok.2.1
  have hlen := hok.1
  have hfac := pg_fac_le n hn
  refine Met.ofW (cc := prog_9_method_50_code) (maxL := 6) (ret := (some .int)) (by decide) rfl ?_
  intro p e s m args below meth c s₁ B hml hv
  have hx := B.exec
  have hb := B.bytes
  have hr := B.returns
  have ht : ∀ w ∈ TB, w.before args s = true := fun w h => atoms_spec (ws := wM_element) B.pre w (List.mem_cons_of_mem _ h)
  have hown : s.vm.findClass "PermutationDeskModel" = some m.cls := findClass_of_methodNamed B.named
  have hlocks := B.notSynchronized
  obtain ⟨rfl, hsz, hP, hK, hD0⟩ := hv
  subst hsz
  have hD := hD0.self (sz := s.heap.size)
  generalize hAe : va_A (mW z d n cd ty ft gc fg fo fh fs ff fq mk fm fi de ps re go kd pr fa fr) s.heap.size = A at hD ⊢
  have hA : ∀ q : Nat, s.heap.size ≤ q → A q := fun q h => by rw [← hAe]; exact Or.inr h
  have hS : va_S A s.heap s.heap [] := va_S.rf
  have hl := lv_entry ([.ref (d 0), .int x, .int y, .int w]) (n := 6) (Nat.le_of_ble_eq_true rfl)
  rw [lg_entry_eq]
  generalize (lg_sl ([.ref (d 0), .int x, .int y, .int w]) ++ List.replicate (6 - (lg_sl ([.ref (d 0), .int x, .int y, .int w])).length) Slot.unset).toArray = ls at hl ⊢
  have hl : lv_has ls 6 [(0, .ref (d 0)), (1, .int x), (2, .int y), (3, .int w)] := hl
  refine lv_aload_n hx hb dM_element_0 rfl (lv_at hl 0 rfl) ?_
  refine lv_iconst (v := 0) hx hb dM_element_1 (by decide) ?_
  refine va_put (ci := 5) (ty := .int) (C := RM) (T := TM) (N := 26) hx hb ht inM tyM tyM_ok nmM hown hK hP hD hS 0 rfl rfl 2 (by decide) (ht _ tw_651) (fun _ h9 => h9) rfl (by decide +kernel) rfl rfl (Nat.le_of_ble_eq_true rfl) dM_element_2 (fun H locs hP hD hS => ?_)
  have hP : va_P D vC (mW z d n 0 ty ft gc fg fo fh fs ff fq mk fm fi de ps re go kd pr fa fr) H := hP
  have hD : va_D A (mW z d n 0 ty ft gc fg fo fh fs ff fq mk fm fi de ps re go kd pr fa fr) := hD
  have hLl : ∀ (G : pg_F → Prop) (B : Nat → Bool) (L : List pg_F), pg_set n B = G → pg_row n G L → L.length = (List.range (pg_fac n)).countP B ∧ L.length ≤ pg_fac n := by
    intro G B L h1 h2
    rw [← h1] at h2
    rw [h2.eq (pg_mem_row n B), pg_mem_len]
    have := List.countP_le_length (p := B) (l := List.range (pg_fac n))
    rw [List.length_range] at this
    exact ⟨rfl, this⟩
  refine wj (σ := Unit) (pc := 28) (I := fun _ H1 locs1 ls1 => H = H1 ∧ locs = locs1 ∧ lv_has ls1 6 [(0, .ref (d 0)), (1, .int x), (2, .int y), (3, .int w)] ∧ ¬ (iN x 5 ∧ iN w n ∧ ¬ y < 0)) ?_ (fun jn => ?_)
  · rintro - H1 locs1 ls1 ⟨rfl, rfl, hl, hni⟩
    have hne : ¬ ∃ (i : Nat) (L : List pg_F), x = nI i ∧ i < 5 ∧ iN w n ∧ pg_row n (Gs i) L ∧ iN y L.length := by
      rintro ⟨i, L, h1, h2, h3, h4, k9, h5, h6⟩
      have := (hLl _ _ L (hBs i h2) h4).2
      exact hni ⟨⟨i, h1, h2⟩, h3, by rw [h5]; exact nI_pos (by omega)⟩
    refine lv_aload_n hx hb dM_element_28 rfl (lv_at hl 0 rfl) ?_
    refine lv_iconst (v := 1) hx hb dM_element_29 (by decide) ?_
    refine qM_i (ci := 5) (q0 := 0) (As := [.int 1]) (rest := []) ⟨hx, hb, hml, hown, ht⟩ (c_M_fail l D z d n _ 1) (cB 1 ht gM_fail rfl tw_64 tw_796 (by decide +kernel) ⟨by decide, by decide⟩) tw_798 tw_42 hK hP hD hS hA rfl rfl rfl hl.1 rfl (Nat.le_of_ble_eq_true rfl) dM_element_30 ⟨by decide, by decide⟩ (fun r30 u30 H locs h30 hP hD hS => ?_)
    exact W.iret hx hb hr (fun t9 ht hW => ⟨⟨_, (1, ty, ft, gc, fg, fo, fh, fs, ff, fq, mk, fm, fi, de, ps, re, go, kd, pr, fa, fr), rfl, ⟨Or.inr ⟨rfl, hne⟩, rfl, rfl, hR0⟩, by rw [ht]; exact hP, hD⟩, hS.F ht⟩) hS.2.2 dM_element_33
  refine lv_iload_n hx hb dM_element_5 rfl (lv_at hl 1 rfl) ?_
  refine qS_i (As := [.int x]) (rest := []) ⟨hx, hb, hml, hown, ht⟩ (c_M_isSlot l x) (cB 1 ht gM_isSlot rfl tw_64 tw_883 (by decide +kernel) ⟨by decide, by decide⟩) tw_884 rfl hl.1 rfl (Nat.le_of_ble_eq_true rfl) dM_element_6 ⟨by decide, by decide⟩ (fun r6 h6 => ?_)
  obtain ⟨b1, rfl, hb1⟩ := h6
  refine lv_if_eq (tgt := 28) hx hb dM_element_9 rfl (fun h9 => ?_) (fun h9 => ?_)
  · exact jn () _ _ ls ⟨rfl, rfl, hl, fun q => by have := hb1.mpr q.1; rw [bI_z h9] at this; cases this⟩
  have hx5 := hb1.mp (bI_t h9)
  refine lv_iload_n hx hb dM_element_12 rfl (lv_at hl 2 rfl) ?_
  refine lv_if_lt (tgt := 28) hx hb dM_element_13 rfl (fun h13 => ?_) (fun h13 => ?_)
  · exact jn () _ _ ls ⟨rfl, rfl, hl, fun q => q.2.2 h13⟩
  refine lv_iload_n hx hb dM_element_16 rfl (lv_at hl 3 rfl) ?_
  refine lv_if_lt (tgt := 28) hx hb dM_element_17 rfl (fun h17 => ?_) (fun h17 => ?_)
  · exact jn () _ _ ls ⟨rfl, rfl, hl, fun q => ((iN_of (by omega)).mp q.2.1).1 h17⟩
  refine lv_iload_n hx hb dM_element_20 rfl (lv_at hl 3 rfl) ?_
  refine lv_aload_n hx hb dM_element_21 rfl (lv_at hl 0 rfl) ?_
  refine va_get (ci := 5) (C := RM) (T := TM) (N := 26) hx hb ht inM hown hK hP 0 rfl rfl 0 (by decide) (ht _ tw_649) (fun _ h9 => h9) rfl dM_element_22 ?_
  refine lv_icmp_lt (tgt := 34) hx hb dM_element_25 rfl (fun h25 => ?_) (fun h25 => ?_)
  rotate_left
  · exact jn () _ _ ls ⟨rfl, rfl, hl, fun q => h25 (Int32.not_le.mp ((iN_of (by omega)).mp q.2.1).2)⟩
  clear jn
  obtain ⟨p9, rfl, hp9⟩ : iN w n := (iN_of (by omega)).mpr ⟨h17, fun q => Int32.not_le.mpr h25 q⟩
  obtain ⟨i, rfl, hi⟩ := hx5
  obtain ⟨j, rfl, hj⟩ := i_nn h13
  refine lv_iload_n hx hb dM_element_34 rfl (lv_at hl 2 rfl) ?_
  refine lv_istore hx hb dM_element_35 hl (by decide) rfl (fun ls hl => ?_)
  replace hl : lv_has ls 6 [(4, .int (nI (j - (List.range 0).countP (Bs i)))), (0, .ref (d 0)), (1, .int (nI i)), (2, .int (nI j)), (3, .int (nI p9))] := hl
  refine lv_iconst (v := 0) hx hb dM_element_37 (by decide) ?_
  refine lv_istore hx hb dM_element_38 hl (by decide) rfl (fun ls hl => ?_)
  replace hl : lv_has ls 6 [(5, .int (nI 0)), (4, .int (nI (j - (List.range 0).countP (Bs i)))), (0, .ref (d 0)), (1, .int (nI i)), (2, .int (nI j)), (3, .int (nI p9))] := hl
  refine wl0 (σ := Nat) (I := fun q k ls => q + k = pg_fac n ∧ (List.range k).countP (Bs i) ≤ j ∧ lv_has ls 6 [(5, .int (nI k)), (4, .int (nI (j - (List.range k).countP (Bs i)))), (0, .ref (d 0)), (1, .int (nI i)), (2, .int (nI j)), (3, .int (nI p9))]) ?_ (pg_fac n) 0 ls ⟨rfl, Nat.zero_le _, hl⟩
  clear hl
  rintro q k ls ⟨hdk, hcj, hl⟩ ih
  refine lv_iload hx hb dM_element_40 (lv_at hl 0 rfl) ?_
  refine lv_aload_n hx hb dM_element_42 rfl (lv_at hl 2 rfl) ?_
  refine va_get (ci := 5) (C := RM) (T := TM) (N := 26) hx hb ht inM hown hK hP 0 rfl rfl 1 (by decide) (ht _ tw_650) (fun _ h9 => h9) rfl dM_element_43 ?_
  refine lv_icmp_ge (tgt := 89) hx hb dM_element_46 rfl (fun h46 => ?_) (fun h46 => ?_)
  · have hk : k = pg_fac n := by have := (nI_leI (by omega) (by omega)).mp h46; omega
    have hne : ¬ ∃ (i' : Nat) (L : List pg_F), nI i = nI i' ∧ i' < 5 ∧ iN (nI p9) n ∧ pg_row n (Gs i') L ∧ iN (nI j) L.length := by
      rintro ⟨i', L, h1, h2, h3, h4, k9, h5, h6⟩
      have e1 := (nI_eq (by omega) (by omega)).mp h1
      subst e1
      obtain ⟨b1, b2⟩ := hLl _ _ L (hBs i h2) h4
      have e2 := (nI_eq hj (by omega)).mp h5
      rw [hk] at hcj
      omega
    refine lv_aload_n hx hb dM_element_89 rfl (lv_at hl 2 rfl) ?_
    refine lv_iconst (v := 1) hx hb dM_element_90 (by decide) ?_
    refine qM_i (ci := 5) (q0 := 0) (As := [.int 1]) (rest := []) ⟨hx, hb, hml, hown, ht⟩ (c_M_fail l D z d n _ 1) (cB 1 ht gM_fail rfl tw_64 tw_796 (by decide +kernel) ⟨by decide, by decide⟩) tw_798 tw_42 hK hP hD hS hA rfl rfl rfl hl.1 rfl (Nat.le_of_ble_eq_true rfl) dM_element_91 ⟨by decide, by decide⟩ (fun r91 u91 H locs h91 hP hD hS => ?_)
    exact W.iret hx hb hr (fun t9 ht hW => ⟨⟨_, (1, ty, ft, gc, fg, fo, fh, fs, ff, fq, mk, fm, fi, de, ps, re, go, kd, pr, fa, fr), rfl, ⟨Or.inr ⟨rfl, hne⟩, rfl, rfl, hR0⟩, by rw [ht]; exact hP, hD⟩, hS.F ht⟩) hS.2.2 dM_element_94
  have hk : k < pg_fac n := by
    rw [nI_leI (by omega) (by omega)] at h46
    omega
  obtain ⟨x9, hx9⟩ := pg_all_in hk
  have hx9P := (pg_all_P hx9).1
  refine lv_aload_n hx hb dM_element_49 rfl (lv_at hl 2 rfl) ?_
  refine lv_iload_n hx hb dM_element_50 rfl (lv_at hl 3 rfl) ?_
  refine lv_iload hx hb dM_element_51 (lv_at hl 0 rfl) ?_
  refine qV_i (ci := 5) (q0 := 0) (As := [.int (nI i), .int (nI k)]) (rest := []) ⟨hx, hb, hml, hown, ht⟩ (c_M_isIn l D z d n i k (Bs i) hi (by omega) (hsl i hi)) (cB 2 ht gM_isIn rfl tw_64 tw_844 (by decide +kernel) ⟨by decide, by decide⟩) tw_846 tw_53 hK (hP) rfl rfl rfl hl.1 rfl (Nat.le_of_ble_eq_true rfl) dM_element_53 ⟨by decide, by decide⟩ (fun r53 h53 => ?_)
  subst h53
  refine lv_if_ne (tgt := 62) hx hb dM_element_56 rfl (fun h56 => ?_) (fun h56 => ?_)
  rotate_left
  · have e8 : (List.range (k + 1)).countP (Bs i) = (List.range k).countP (Bs i) := by rw [pg_count_succ, bI_z h56]; rfl
    refine lv_goto (tgt := 83) hx hb dM_element_59 rfl ?_
    refine lv_iinc (k := 0) (v := (nI (k + 1))) hx hb dM_element_83 hl rfl (by exact nI_1 _) (by decide) rfl (fun ls hl => ?_)
    replace hl : lv_has ls 6 [(5, .int (nI (k + 1))), (4, .int (nI (j - (List.range k).countP (Bs i)))), (0, .ref (d 0)), (1, .int (nI i)), (2, .int (nI j)), (3, .int (nI p9))] := hl
    refine lv_goto (tgt := 40) hx hb dM_element_86 rfl ?_
    exact ih (q - 1) (k + 1) ls (by omega) ⟨by omega, by rw [e8]; exact hcj, by rw [e8]; exact lv_sub hl [0, 1, 2, 3, 4, 5] rfl⟩
  have hB9 := bI_t h56
  have e8 : (List.range (k + 1)).countP (Bs i) = (List.range k).countP (Bs i) + 1 := by rw [pg_count_succ, hB9]; rfl
  refine lv_iload hx hb dM_element_62 (lv_at hl 1 rfl) ?_
  refine lv_if_ne (tgt := 80) hx hb dM_element_64 rfl (fun h64 => ?_) (fun h64 => ?_)
  · have h8 : j - (List.range k).countP (Bs i) ≠ 0 := fun e => h64 (by rw [e]; rfl)
    have e7 : nI (j - (List.range k).countP (Bs i)) + (-1) = nI (j - (List.range (k + 1)).countP (Bs i)) := by
      rw [e8, ← Int32.sub_eq_add_neg, show j - ((List.range k).countP (Bs i) + 1) = j - (List.range k).countP (Bs i) - 1 by omega]
      exact pk_sub (b := 1) (by omega)
    refine lv_iinc (k := 1) (v := (nI (j - (List.range (k + 1)).countP (Bs i)))) hx hb dM_element_80 hl rfl (by exact e7) (by decide) rfl (fun ls hl => ?_)
    replace hl : lv_has ls 6 [(4, .int (nI (j - (List.range (k + 1)).countP (Bs i)))), (5, .int (nI k)), (0, .ref (d 0)), (1, .int (nI i)), (2, .int (nI j)), (3, .int (nI p9))] := hl
    refine lv_iinc (k := 1) (v := (nI (k + 1))) hx hb dM_element_83 hl rfl (by exact nI_1 _) (by decide) rfl (fun ls hl => ?_)
    replace hl : lv_has ls 6 [(5, .int (nI (k + 1))), (4, .int (nI (j - (List.range (k + 1)).countP (Bs i)))), (0, .ref (d 0)), (1, .int (nI i)), (2, .int (nI j)), (3, .int (nI p9))] := hl
    refine lv_goto (tgt := 40) hx hb dM_element_86 rfl ?_
    exact ih (q - 1) (k + 1) ls (by omega) ⟨by omega, by omega, lv_sub hl [0, 1, 2, 3, 4, 5] rfl⟩
  have h8 : j = (List.range k).countP (Bs i) := by
    have := (nI_eq (a := j - (List.range k).countP (Bs i)) (b := 0) (by omega) (by omega)).mp h64
    omega
  refine lv_aload_n hx hb dM_element_67 rfl (lv_at hl 2 rfl) ?_
  refine lv_aload_n hx hb dM_element_68 rfl (lv_at hl 2 rfl) ?_
  refine va_get (ci := 5) (C := RM) (T := TM) (N := 26) hx hb ht inM hown hK hP 0 rfl rfl 3 (by decide) (ht _ tw_652) (fun _ h9 => h9) rfl dM_element_69 ?_
  refine lv_iload hx hb dM_element_72 (lv_at hl 0 rfl) ?_
  refine va_iald hx hb hK hP 1 1 rfl rfl (vp_in_nI (N := 5040) (by omega) (by decide)) dM_element_74 ?_
  refine wti (x' := eI n x9) (by rw [nI_clamp (by omega)]; exact mL_at hx9) ?_
  refine lv_iload_n hx hb dM_element_75 rfl (lv_at hl 5 rfl) ?_
  refine qV_i (ci := 5) (q0 := 0) (As := [.int (eI n x9), .int (nI p9)]) (rest := []) ⟨hx, hb, hml, hown, ht⟩ (c_M_apply l D z d n p9 x9 hn (hx9P.d3 (by omega)) hp9) (cB 2 ht gM_apply rfl tw_64 tw_765 (by decide +kernel) ⟨by decide, by decide⟩) tw_767 tw_35 hK (hP) rfl rfl rfl hl.1 rfl (Nat.le_of_ble_eq_true rfl) dM_element_76 ⟨by decide, by decide⟩ (fun r76 h76 => ?_)
  subst h76
  exact W.iret hx hb hr (fun t8 ht hW => ⟨⟨_, (0, ty, ft, gc, fg, fo, fh, fs, ff, fq, mk, fm, fi, de, ps, re, go, kd, pr, fa, fr), rfl, ⟨Or.inl ⟨rfl, i, j, p9, pg_mem n (Bs i), x9, rfl, hi, rfl, hp9, by rw [← hBs i hi]; exact pg_mem_row n (Bs i), rfl, by rw [h8]; exact pg_mem_at hx9 hB9, rfl⟩, rfl, rfl, hR0⟩, by rw [ht]; exact hP, hD⟩, hS.F ht⟩) hS.2.2 dM_element_79
