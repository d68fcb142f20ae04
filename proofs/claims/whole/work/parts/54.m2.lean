/-! The reference: groups by search. -/
theorem pg_bfs.many {n c : Nat} {K : Nat → pg_F} {many k m : Nat} {B : Nat → Bool} {Q : Nat → pg_F} (h : pg_bfs n c K many k m B Q) : many ≤ pg_fac n := by
  rw [h.2.2.1]
  have := List.countP_le_length (p := B) (l := List.range (pg_fac n))
  rw [List.length_range] at this
  exact this
theorem pg_bfs.P {n c : Nat} {K : Nat → pg_F} {many k m : Nat} {B : Nat → Bool} {Q : Nat → pg_F} (h : pg_bfs n c K many k m B Q) {j : Nat} (hj : j < many) : pg_P n (Q j) := by
  obtain ⟨r, hr, -⟩ := (h.2.2.2.2.1 j hj).2
  exact (pg_all_P hr).1
set_option maxHeartbeats 4000000 in
set_option maxRecDepth 100000 in
theorem c_M_fill (l : Launch) (D : va_G) (z : Nat → ClassId) (d : Nat → Nat) (n : Nat) {cd : Int32} {ty : Nat} {ft : Nat → Int32} {gc : Nat} {fg fo fh : Nat → Int32} {fs ff : Nat → Int64} {fq : Nat → Int32} {mk : Nat} {fm fi : Nat → Int32} {de ps : Nat} {re : Int32} {go : Bool} {kd pr fa fr : Nat → Int32} (sz : Nat) (hn : n ≤ 7) (K : Nat → pg_F) (hmk : mk ≤ 20) (hK9 : ∀ a, a < mk → pg_P n (K a) ∧ fm a = eI n (K a)) : Met l yM_fill wM_fill (rmF 2) (va_Pc [.ref (d 0)] (fun U => U.heap.size = sz ∧ va_P D vC (mW z d n cd ty ft gc fg fo fh fs ff fq mk fm fi de ps re go kd pr fa fr) U.heap ∧ va_K D vC (tyL z) U ∧ va_D (fun _ => True) (mW z d n cd ty ft gc fg fo fh fs ff fq mk fm fi de ps re go kd pr fa fr))) (va_Qv (fun u : (Nat → Int64) × (Nat → Int32) => ∃ B, mB u.1 B ∧ pg_set n B = pg_Gen (pg_mks mk K) ∧ ∀ r, pg_fac n ≤ r → B r = false) (fun u t => va_P D vC (mW z d n cd ty ft gc fg fo fh fs u.1 u.2 mk fm fi de ps re go kd pr fa fr) t.heap ∧ va_D (va_A (mW z d n cd ty ft gc fg fo fh fs ff fq mk fm fi de ps re go kd pr fa fr) sz) (mW z d n cd ty ft gc fg fo fh fs u.1 u.2 mk fm fi de ps re go kd pr fa fr)) (va_A (mW z d n cd ty ft gc fg fo fh fs ff fq mk fm fi de ps re go kd pr fa fr) sz)) 0 0 (va_A (mW z d n cd ty ft gc fg fo fh fs ff fq mk fm fi de ps re go kd pr fa fr) sz) := by
  have hfac := pg_fac_le n hn
  refine Met.ofW (cc := prog_9_method_26_code) (maxL := 6) (ret := none) (by decide) rfl ?_
  intro p e s m args below meth c s₁ B hml hv
  have hx := B.exec
  have hb := B.bytes
  have hr := B.returns
  have ht : ∀ w ∈ TB, w.before args s = true := fun w h => atoms_spec (ws := wM_fill) B.pre w (List.mem_cons_of_mem _ h)
  have hown : s.vm.findClass "PermutationDeskModel" = some m.cls := findClass_of_methodNamed B.named
  have hlocks := B.notSynchronized
  obtain ⟨rfl, hsz, hP, hK, hD0⟩ := hv
  subst hsz
  have hD := hD0.self (sz := s.heap.size)
  generalize hAe : va_A (mW z d n cd ty ft gc fg fo fh fs ff fq mk fm fi de ps re go kd pr fa fr) s.heap.size = A at hD ⊢
  have hA : ∀ q : Nat, s.heap.size ≤ q → A q := fun q h => by rw [← hAe]; exact Or.inr h
  have hS : va_S A s.heap s.heap [] := va_S.rf
  have hl := lv_entry ([.ref (d 0)]) (n := 6) (Nat.le_of_ble_eq_true rfl)
  rw [lg_entry_eq]
  generalize (lg_sl ([.ref (d 0)]) ++ List.replicate (6 - (lg_sl ([.ref (d 0)])).length) Slot.unset).toArray = ls at hl ⊢
  have hl : lv_has ls 6 [(0, .ref (d 0))] := hl
  refine lv_aload_n hx hb dM_fill_0 rfl (lv_at hl 0 rfl) ?_
  refine qM_v (ci := 5) (q0 := 0) (As := []) (rest := []) ⟨hx, hb, hml, hown, ht⟩ (c_M_clearFilled l D z d n _) (cB 0 ht gM_clearFilled rfl tw_64 tw_816 (by decide +kernel) ⟨by decide, by decide⟩) tw_818 tw_46 hK hP hD hS hA rfl rfl rfl hl.1 rfl (Nat.le_of_ble_eq_true rfl) dM_fill_1 ⟨by decide, by decide⟩ (fun u1 H locs h1 hP hD hS => ?_)
  replace hP : va_P D vC (mW z d n cd ty ft gc fg fo fh fs u1 fq mk fm fi de ps re go kd pr fa fr) H := hP
  replace hD : va_D A (mW z d n cd ty ft gc fg fo fh fs u1 fq mk fm fi de ps re go kd pr fa fr) := hD
  refine lv_aload_n hx hb dM_fill_4 rfl (lv_at hl 0 rfl) ?_
  refine lv_iconst (v := 0) hx hb dM_fill_5 (by decide) ?_
  refine qM_v (ci := 5) (q0 := 0) (As := [.int (nI 0)]) (rest := []) ⟨hx, hb, hml, hown, ht⟩ (c_M_put l D z d n _ 0 (fun _ => false) (by decide) h1) (cB 1 ht gM_put rfl tw_64 tw_820 (by decide +kernel) ⟨by decide, by decide⟩) tw_822 tw_47 hK hP hD hS hA rfl rfl rfl hl.1 rfl (Nat.le_of_ble_eq_true rfl) dM_fill_6 ⟨by decide, by decide⟩ (fun u6 H locs h6 hP hD hS => ?_)
  replace hP : va_P D vC (mW z d n cd ty ft gc fg fo fh fs u6 fq mk fm fi de ps re go kd pr fa fr) H := hP
  replace hD : va_D A (mW z d n cd ty ft gc fg fo fh fs u6 fq mk fm fi de ps re go kd pr fa fr) := hD
  refine lv_aload_n hx hb dM_fill_9 rfl (lv_at hl 0 rfl) ?_
  refine va_get (ci := 5) (C := RM) (T := TM) (N := 26) hx hb ht inM hown hK hP 0 rfl rfl 14 (by decide) (ht _ tw_663) (fun _ h9 => h9) rfl dM_fill_10 ?_
  refine lv_iconst (v := 0) hx hb dM_fill_13 (by decide) ?_
  refine lv_aload_n hx hb dM_fill_14 rfl (lv_at hl 0 rfl) ?_
  refine va_get (ci := 5) (C := RM) (T := TM) (N := 26) hx hb ht inM hown hK hP 0 rfl rfl 3 (by decide) (ht _ tw_652) (fun _ h9 => h9) rfl dM_fill_15 ?_
  refine lv_iconst (v := 0) hx hb dM_fill_18 (by decide) ?_
  refine va_iald hx hb hK hP 1 1 rfl rfl (vp_in_nI (n := 0) (N := 5040) (by decide) (by decide)) dM_fill_19 ?_
  refine wti (x' := eI n pg_id) (mL_0 n) ?_
  refine va_iast hx hb hK hP hD hS 10 1 rfl rfl (vp_in_nI (n := 0) (N := 5040) (by decide) (by decide)) dM_fill_20 (fun H locs hP hD hS => ?_)
  have hP : va_P D vC (mW z d n cd ty ft gc fg fo fh fs u6 (upd fq 0 (eI n pg_id)) mk fm fi de ps re go kd pr fa fr) H := hP
  have hD : va_D A (mW z d n cd ty ft gc fg fo fh fs u6 (upd fq 0 (eI n pg_id)) mk fm fi de ps re go kd pr fa fr) := hD
  refine lv_iconst (v := 1) hx hb dM_fill_21 (by decide) ?_
  refine lv_istore_n hx hb dM_fill_22 rfl hl (by decide) rfl (fun ls hl => ?_)
  replace hl : lv_has ls 6 [(1, .int (nI 1)), (0, .ref (d 0))] := hl
  refine lv_iconst (v := 0) hx hb dM_fill_23 (by decide) ?_
  refine lv_istore_n hx hb dM_fill_24 rfl hl (by decide) rfl (fun ls hl => ?_)
  replace hl : lv_has ls 6 [(2, .int (nI 0)), (1, .int (nI 1)), (0, .ref (d 0))] := hl
  refine wl (σ := Nat × Nat × (Nat → Bool) × (Nat → pg_F) × (Nat → Int64) × (Nat → Int32)) (I := fun q st H locs ls => q + st.2.1 = pg_fac n ∧ st.2.1 ≤ st.1 ∧ pg_bfs n mk K st.1 st.2.1 0 st.2.2.1 st.2.2.2.1 ∧ mB st.2.2.2.2.1 st.2.2.1 ∧ (∀ j, j < st.1 → st.2.2.2.2.2 j = eI n (st.2.2.2.1 j)) ∧ va_P D vC (mW z d n cd ty ft gc fg fo fh fs st.2.2.2.2.1 st.2.2.2.2.2 mk fm fi de ps re go kd pr fa fr) H ∧ va_D A (mW z d n cd ty ft gc fg fo fh fs st.2.2.2.2.1 st.2.2.2.2.2 mk fm fi de ps re go kd pr fa fr) ∧ va_S A s.heap H locs ∧ lv_has ls 6 [(2, .int (nI st.2.1)), (1, .int (nI st.1)), (0, .ref (d 0))]) ?_ (pg_fac n) (1, 0, fun q => decide (q = 0), fun _ => pg_id, u6, upd fq 0 (eI n pg_id)) _ _ ls ⟨rfl, Nat.zero_le _, pg_bfs_0 rfl, (by
    have e9 : va_up (fun _ : Nat => false) 0 true = fun q => decide (q = 0) := by
      funext q
      by_cases e : q = 0
      · rw [e, va_up_self]; rfl
      · rw [va_up_ne _ _ e, decide_eq_false e]
    rw [e9] at h6
    exact h6), (fun j hj => by
    replace hj : j < 1 := hj
    show upd fq 0 (eI n pg_id) j = eI n pg_id
    rw [show j = 0 by omega]; exact pk_us), hP, hD, hS, hl⟩
  clear hP hD hS hl
  rintro q ⟨many, k, B, Q, f9, q9⟩ H locs ls ⟨hdk, hkm, hbfs, hmB, hq9, hP, hD, hS, hl⟩ ih
  replace hdk : q + k = pg_fac n := hdk
  replace hkm : k ≤ many := hkm
  replace hbfs : pg_bfs n mk K many k 0 B Q := hbfs
  replace hmB : mB f9 B := hmB
  replace hq9 : ∀ j, j < many → q9 j = eI n (Q j) := hq9
  replace hP : va_P D vC (mW z d n cd ty ft gc fg fo fh fs f9 q9 mk fm fi de ps re go kd pr fa fr) H := hP
  replace hD : va_D A (mW z d n cd ty ft gc fg fo fh fs f9 q9 mk fm fi de ps re go kd pr fa fr) := hD
  replace hl : lv_has ls 6 [(2, .int (nI k)), (1, .int (nI many)), (0, .ref (d 0))] := hl
  have hm9 := hbfs.many
  refine lv_iload_n hx hb dM_fill_25 rfl (lv_at hl 0 rfl) ?_
  refine lv_iload_n hx hb dM_fill_26 rfl (lv_at hl 1 rfl) ?_
  refine lv_icmp_ge (tgt := 107) hx hb dM_fill_27 rfl (fun h => ?_) (fun h => ?_)
  · have hk : k = many := by have := (nI_leI (by omega) (by omega)).mp h; omega
    subst hk
    exact W.vret hx hb hr (fun t ht hW => ⟨⟨(f9, q9), rfl, ⟨B, hmB, pg_bfs_done hbfs, hbfs.2.2.2.1⟩, by rw [ht]; exact hP, hD⟩, hS.F ht⟩) hS.2.2 dM_fill_107
  have hk : k < many := by
    rw [nI_leI (by omega) (by omega)] at h
    omega
  refine lv_iconst (v := 0) hx hb dM_fill_30 (by decide) ?_
  refine lv_istore_n hx hb dM_fill_31 rfl hl (by decide) rfl (fun ls hl => ?_)
  replace hl : lv_has ls 6 [(3, .int (nI 0)), (2, .int (nI k)), (1, .int (nI many)), (0, .ref (d 0))] := hl
  refine wl (σ := Nat × Nat × (Nat → Bool) × (Nat → pg_F) × (Nat → Int64) × (Nat → Int32)) (pc := 32) (I := fun q2 st H locs ls => q2 + st.2.1 = mk ∧ k < st.1 ∧ pg_bfs n mk K st.1 k st.2.1 st.2.2.1 st.2.2.2.1 ∧ mB st.2.2.2.2.1 st.2.2.1 ∧ (∀ j, j < st.1 → st.2.2.2.2.2 j = eI n (st.2.2.2.1 j)) ∧ va_P D vC (mW z d n cd ty ft gc fg fo fh fs st.2.2.2.2.1 st.2.2.2.2.2 mk fm fi de ps re go kd pr fa fr) H ∧ va_D A (mW z d n cd ty ft gc fg fo fh fs st.2.2.2.2.1 st.2.2.2.2.2 mk fm fi de ps re go kd pr fa fr) ∧ va_S A s.heap H locs ∧ lv_has ls 6 [(3, .int (nI st.2.1)), (2, .int (nI k)), (1, .int (nI st.1)), (0, .ref (d 0))]) ?_ mk (many, 0, B, Q, f9, q9) _ _ ls ⟨rfl, hk, hbfs, hmB, hq9, hP, hD, hS, hl⟩
  clear hP hD hS hl hbfs hmB hq9 hkm hk hm9 h
  rintro q2 ⟨many, i, B, Q, f9, q9⟩ H locs ls ⟨hdi, hk, hbfs, hmB, hq9, hP, hD, hS, hl⟩ ih2
  replace hdi : q2 + i = mk := hdi
  replace hk : k < many := hk
  replace hbfs : pg_bfs n mk K many k i B Q := hbfs
  replace hmB : mB f9 B := hmB
  replace hq9 : ∀ j, j < many → q9 j = eI n (Q j) := hq9
  replace hP : va_P D vC (mW z d n cd ty ft gc fg fo fh fs f9 q9 mk fm fi de ps re go kd pr fa fr) H := hP
  replace hD : va_D A (mW z d n cd ty ft gc fg fo fh fs f9 q9 mk fm fi de ps re go kd pr fa fr) := hD
  replace hl : lv_has ls 6 [(3, .int (nI i)), (2, .int (nI k)), (1, .int (nI many)), (0, .ref (d 0))] := hl
  have hm9 := hbfs.many
  refine lv_iload_n hx hb dM_fill_32 rfl (lv_at hl 0 rfl) ?_
  refine lv_aload_n hx hb dM_fill_33 rfl (lv_at hl 3 rfl) ?_
  refine va_get (ci := 5) (C := RM) (T := TM) (N := 26) hx hb ht inM hown hK hP 0 rfl rfl 15 (by decide) (ht _ tw_664) (fun _ h9 => h9) rfl dM_fill_34 ?_
  refine lv_icmp_ge (tgt := 101) hx hb dM_fill_37 rfl (fun h => ?_) (fun h => ?_)
  · have hk9 : i = mk := by have := (nI_leI (by omega) (by omega)).mp h; omega
    subst hk9
    refine lv_iinc (k := 1) (v := (nI (k + 1))) hx hb dM_fill_101 hl rfl (by exact nI_1 _) (by decide) rfl (fun ls hl => ?_)
    replace hl : lv_has ls 6 [(2, .int (nI (k + 1))), (3, .int (nI i)), (1, .int (nI many)), (0, .ref (d 0))] := hl
    refine lv_goto (tgt := 25) hx hb dM_fill_104 rfl ?_
    exact ih (q - 1) (many, k + 1, B, Q, f9, q9) _ _ ls (by omega) ⟨by show q - 1 + (k + 1) = pg_fac n; omega, hk, pg_bfs_next hbfs, hmB, hq9, hP, hD, hS, lv_sub hl [0, 2, 3] rfl⟩
  have hi9 : i < mk := by
    rw [nI_leI (by omega) (by omega)] at h
    omega
  have hQP := hbfs.P hk
  obtain ⟨hKP, hfm⟩ := hK9 i hi9
  refine lv_aload_n hx hb dM_fill_40 rfl (lv_at hl 3 rfl) ?_
  refine lv_aload_n hx hb dM_fill_41 rfl (lv_at hl 3 rfl) ?_
  refine va_get (ci := 5) (C := RM) (T := TM) (N := 26) hx hb ht inM hown hK hP 0 rfl rfl 14 (by decide) (ht _ tw_663) (fun _ h9 => h9) rfl dM_fill_42 ?_
  refine lv_iload_n hx hb dM_fill_45 rfl (lv_at hl 1 rfl) ?_
  refine va_iald hx hb hK hP 10 1 rfl rfl (vp_in_nI (N := 5040) (by omega) (by decide)) dM_fill_46 ?_
  refine wti (x' := eI n (Q k)) (by rw [nI_clamp (by omega)]; exact hq9 k hk) ?_
  refine lv_aload_n hx hb dM_fill_47 rfl (lv_at hl 3 rfl) ?_
  refine va_get (ci := 5) (C := RM) (T := TM) (N := 26) hx hb ht inM hown hK hP 0 rfl rfl 16 (by decide) (ht _ tw_665) (fun _ h9 => h9) rfl dM_fill_48 ?_
  refine lv_iload_n hx hb dM_fill_51 rfl (lv_at hl 0 rfl) ?_
  refine va_iald hx hb hK hP 11 1 rfl rfl (vp_in_nI (N := 20) (by omega) (by decide)) dM_fill_52 ?_
  refine wti (x' := eI n (K i)) (by rw [nI_clamp (by omega)]; exact hfm) ?_
  refine qV_i (ci := 5) (q0 := 0) (As := [.int (eI n (Q k)), .int (eI n (K i))]) (rest := []) ⟨hx, hb, hml, hown, ht⟩ (c_M_times l D z d n (Q k) (K i) hn hQP hKP) (cB 2 ht gM_times rfl tw_64 tw_761 (by decide +kernel) ⟨by decide, by decide⟩) tw_763 tw_34 hK (hP) rfl rfl rfl hl.1 rfl (Nat.le_of_ble_eq_true rfl) dM_fill_53 ⟨by decide, by decide⟩ (fun r53 h53 => ?_)
  subst h53
  refine lv_istore hx hb dM_fill_56 hl (by decide) rfl (fun ls hl => ?_)
  replace hl : lv_has ls 6 [(4, .int (eI n (pg_mul (Q k) (K i)))), (3, .int (nI i)), (2, .int (nI k)), (1, .int (nI many)), (0, .ref (d 0))] := hl
  refine lv_aload_n hx hb dM_fill_58 rfl (lv_at hl 4 rfl) ?_
  refine lv_iload hx hb dM_fill_59 (lv_at hl 0 rfl) ?_
  refine qV_i (ci := 5) (q0 := 0) (As := [.int (eI n (pg_mul (Q k) (K i)))]) (rest := []) ⟨hx, hb, hml, hown, ht⟩ (c_M_rankOf l D z d n (pg_mul (Q k) (K i)) hn (pg_P_mul hQP hKP)) (cB 1 ht gM_rankOf rfl tw_64 tw_824 (by decide +kernel) ⟨by decide, by decide⟩) tw_826 tw_48 hK (hP) rfl rfl rfl hl.1 rfl (Nat.le_of_ble_eq_true rfl) dM_fill_61 ⟨by decide, by decide⟩ (fun r61 h61 => ?_)
  obtain ⟨r, rfl, hr9⟩ := h61
  have hrl := (pg_all_P hr9).2
  refine lv_istore hx hb dM_fill_64 hl (by decide) rfl (fun ls hl => ?_)
  replace hl : lv_has ls 6 [(5, .int (nI r)), (4, .int (eI n (pg_mul (Q k) (K i)))), (3, .int (nI i)), (2, .int (nI k)), (1, .int (nI many)), (0, .ref (d 0))] := hl
  refine lv_aload_n hx hb dM_fill_66 rfl (lv_at hl 5 rfl) ?_
  refine lv_iload hx hb dM_fill_67 (lv_at hl 0 rfl) ?_
  refine qV_i (ci := 5) (q0 := 0) (As := [.int (nI r)]) (rest := []) ⟨hx, hb, hml, hown, ht⟩ (c_M_isFilled l D z d n r B (by omega) hmB) (cB 1 ht gM_isFilled rfl tw_64 tw_828 (by decide +kernel) ⟨by decide, by decide⟩) tw_830 tw_49 hK (hP) rfl rfl rfl hl.1 rfl (Nat.le_of_ble_eq_true rfl) dM_fill_69 ⟨by decide, by decide⟩ (fun r69 h69 => ?_)
  subst h69
  refine lv_if_eq (tgt := 78) hx hb dM_fill_72 rfl (fun h72 => ?_) (fun h72 => ?_)
  · have hB9 : B r = false := by
      cases h8 : B r with
      | false => rfl
      | true => rw [h8] at h72; exact absurd h72 (by decide)
    obtain ⟨hnew, hlt⟩ := pg_bfs_new (Q' := va_up Q many (pg_mul (Q k) (K i))) hbfs hk hi9 hr9 hB9 (fun j hj => va_up_ne _ _ (by omega)) (va_up_self _ _ _)
    refine lv_aload_n hx hb dM_fill_78 rfl (lv_at hl 5 rfl) ?_
    refine lv_iload hx hb dM_fill_79 (lv_at hl 0 rfl) ?_
    refine qM_v (ci := 5) (q0 := 0) (As := [.int (nI r)]) (rest := []) ⟨hx, hb, hml, hown, ht⟩ (c_M_put l D z d n _ r B (by omega) hmB) (cB 1 ht gM_put rfl tw_64 tw_820 (by decide +kernel) ⟨by decide, by decide⟩) tw_822 tw_47 hK hP hD hS hA rfl rfl rfl hl.1 rfl (Nat.le_of_ble_eq_true rfl) dM_fill_81 ⟨by decide, by decide⟩ (fun u81 H locs h81 hP hD hS => ?_)
    replace hP : va_P D vC (mW z d n cd ty ft gc fg fo fh fs u81 q9 mk fm fi de ps re go kd pr fa fr) H := hP
    replace hD : va_D A (mW z d n cd ty ft gc fg fo fh fs u81 q9 mk fm fi de ps re go kd pr fa fr) := hD
    refine lv_aload_n hx hb dM_fill_84 rfl (lv_at hl 5 rfl) ?_
    refine va_get (ci := 5) (C := RM) (T := TM) (N := 26) hx hb ht inM hown hK hP 0 rfl rfl 14 (by decide) (ht _ tw_663) (fun _ h9 => h9) rfl dM_fill_85 ?_
    refine lv_iload_n hx hb dM_fill_88 rfl (lv_at hl 4 rfl) ?_
    refine lv_iload hx hb dM_fill_89 (lv_at hl 1 rfl) ?_
    refine va_iast hx hb hK hP hD hS 10 1 rfl rfl (vp_in_nI (N := 5040) (by omega) (by decide)) dM_fill_91 (fun H locs hP hD hS => ?_)
    rw [nI_clamp (by omega)] at hP hD
    refine lv_iinc (k := 4) (v := (nI (many + 1))) hx hb dM_fill_92 hl rfl (by exact nI_1 _) (by decide) rfl (fun ls hl => ?_)
    replace hl : lv_has ls 6 [(1, .int (nI (many + 1))), (5, .int (nI r)), (4, .int (eI n (pg_mul (Q k) (K i)))), (3, .int (nI i)), (2, .int (nI k)), (0, .ref (d 0))] := hl
    refine lv_iinc (k := 3) (v := (nI (i + 1))) hx hb dM_fill_95 hl rfl (by exact nI_1 _) (by decide) rfl (fun ls hl => ?_)
    replace hl : lv_has ls 6 [(3, .int (nI (i + 1))), (1, .int (nI (many + 1))), (5, .int (nI r)), (4, .int (eI n (pg_mul (Q k) (K i)))), (2, .int (nI k)), (0, .ref (d 0))] := hl
    refine lv_goto (tgt := 32) hx hb dM_fill_98 rfl ?_
    refine ih2 (q2 - 1) (many + 1, i + 1, va_up B r true, va_up Q many (pg_mul (Q k) (K i)), u81, upd q9 many (eI n (pg_mul (Q k) (K i)))) _ _ ls (by omega) ⟨by show q2 - 1 + (i + 1) = mk; omega, by show k < many + 1; omega, hnew, h81, ?_, hP, hD, hS, lv_sub hl [0, 4, 1, 5] rfl⟩
    intro j hj
    replace hj : j < many + 1 := hj
    show upd q9 many (eI n (pg_mul (Q k) (K i))) j = eI n (va_up Q many (pg_mul (Q k) (K i)) j)
    by_cases e : j = many
    · rw [e, pk_us, va_up_self]
    · rw [pk_un e, va_up_ne _ _ e]; exact hq9 j (by omega)
  have hB9 : B r = true := by
    cases h8 : B r with
    | true => rfl
    | false => rw [h8] at h72; exact absurd rfl h72
  refine lv_goto (tgt := 95) hx hb dM_fill_75 rfl ?_
  refine lv_iinc (k := 2) (v := (nI (i + 1))) hx hb dM_fill_95 hl rfl (by exact nI_1 _) (by decide) rfl (fun ls hl => ?_)
  replace hl : lv_has ls 6 [(3, .int (nI (i + 1))), (5, .int (nI r)), (4, .int (eI n (pg_mul (Q k) (K i)))), (2, .int (nI k)), (1, .int (nI many)), (0, .ref (d 0))] := hl
  refine lv_goto (tgt := 32) hx hb dM_fill_98 rfl ?_
  exact ih2 (q2 - 1) (many, i + 1, B, Q, f9, q9) _ _ ls (by omega) ⟨by show q2 - 1 + (i + 1) = mk; omega, hk, pg_bfs_old hbfs hr9 hB9, hmB, hq9, hP, hD, hS, lv_sub hl [0, 3, 4, 5] rfl⟩
/-- the set that is filled is a group, made by the makers -/
def mF (n mk : Nat) (ff : Nat → Int64) (fm : Nat → Int32) (G : pg_F → Prop) : Prop := ∃ K B, pg_fil n mk K B G ∧ mB ff B ∧ ∀ a, a < mk → fm a = eI n (K a)
set_option maxHeartbeats 2000000 in
set_option maxRecDepth 100000 in
theorem c_M_begin (l : Launch) (D : va_G) (z : Nat → ClassId) (d : Nat → Nat) (n : Nat) {cd : Int32} {ty : Nat} {ft : Nat → Int32} {gc : Nat} {fg fo fh : Nat → Int32} {fs ff : Nat → Int64} {fq : Nat → Int32} {mk : Nat} {fm fi : Nat → Int32} {de ps : Nat} {re : Int32} {go : Bool} {kd pr fa fr : Nat → Int32} (sz : Nat) (hn : n ≤ 7) : Met l yM_begin wM_begin (rmF 3) (va_Pc [.ref (d 0)] (fun U => U.heap.size = sz ∧ va_P D vC (mW z d n cd ty ft gc fg fo fh fs ff fq mk fm fi de ps re go kd pr fa fr) U.heap ∧ va_K D vC (tyL z) U ∧ va_D (fun _ => True) (mW z d n cd ty ft gc fg fo fh fs ff fq mk fm fi de ps re go kd pr fa fr))) (va_Qv (fun u : (Nat → Int64) × (Nat → Int32) × Nat × (Nat → Int32) => mF n u.2.2.1 u.1 u.2.2.2 (fun x => x = pg_id)) (fun u t => va_P D vC (mW z d n cd ty ft gc fg fo fh fs u.1 u.2.1 u.2.2.1 u.2.2.2 fi de ps re go kd pr fa fr) t.heap ∧ va_D (va_A (mW z d n cd ty ft gc fg fo fh fs ff fq mk fm fi de ps re go kd pr fa fr) sz) (mW z d n cd ty ft gc fg fo fh fs u.1 u.2.1 u.2.2.1 u.2.2.2 fi de ps re go kd pr fa fr)) (va_A (mW z d n cd ty ft gc fg fo fh fs ff fq mk fm fi de ps re go kd pr fa fr) sz)) 0 0 (va_A (mW z d n cd ty ft gc fg fo fh fs ff fq mk fm fi de ps re go kd pr fa fr) sz) := by
  refine Met.ofW (cc := prog_9_method_27_code) (maxL := 1) (ret := none) (by decide) rfl ?_
  intro p e s m args below meth c s₁ B hml hv
  have hx := B.exec
  have hb := B.bytes
  have hr := B.returns
  have ht : ∀ w ∈ TB, w.before args s = true := fun w h => atoms_spec (ws := wM_begin) B.pre w (List.mem_cons_of_mem _ h)
  have hown : s.vm.findClass "PermutationDeskModel" = some m.cls := findClass_of_methodNamed B.named
  have hlocks := B.notSynchronized
  obtain ⟨rfl, hsz, hP, hK, hD0⟩ := hv
  subst hsz
  have hD := hD0.self (sz := s.heap.size)
  generalize hAe : va_A (mW z d n cd ty ft gc fg fo fh fs ff fq mk fm fi de ps re go kd pr fa fr) s.heap.size = A at hD ⊢
  have hA : ∀ q : Nat, s.heap.size ≤ q → A q := fun q h => by rw [← hAe]; exact Or.inr h
  have hS : va_S A s.heap s.heap [] := va_S.rf
  have hl := lv_entry ([.ref (d 0)]) (n := 1) (Nat.le_of_ble_eq_true rfl)
  rw [lg_entry_eq]
  generalize (lg_sl ([.ref (d 0)]) ++ List.replicate (1 - (lg_sl ([.ref (d 0)])).length) Slot.unset).toArray = ls at hl ⊢
  have hl : lv_has ls 1 [(0, .ref (d 0))] := hl
  refine lv_aload_n hx hb dM_begin_0 rfl (lv_at hl 0 rfl) ?_
  refine lv_iconst (v := 0) hx hb dM_begin_1 (by decide) ?_
  refine va_put (ci := 5) (ty := .int) (C := RM) (T := TM) (N := 26) hx hb ht inM tyM tyM_ok nmM hown hK hP hD hS 0 rfl rfl 15 (by decide) (ht _ tw_664) (fun _ h9 => h9) rfl (by decide +kernel) rfl rfl (Nat.le_of_ble_eq_true rfl) dM_begin_2 (fun H locs hP hD hS => ?_)
  have hP : va_P D vC (mW z d n cd ty ft gc fg fo fh fs ff fq 0 fm fi de ps re go kd pr fa fr) H := hP
  have hD : va_D A (mW z d n cd ty ft gc fg fo fh fs ff fq 0 fm fi de ps re go kd pr fa fr) := hD
  refine lv_aload_n hx hb dM_begin_5 rfl (lv_at hl 0 rfl) ?_
  refine qM_v (ci := 5) (q0 := 0) (As := []) (rest := []) ⟨hx, hb, hml, hown, ht⟩ (c_M_fill l D z d n _ hn (fun _ => pg_id) (by decide) (fun a ha => absurd ha (Nat.not_lt_zero a))) (cB 0 ht gM_fill rfl tw_64 tw_812 (by decide +kernel) ⟨by decide, by decide⟩) tw_814 tw_45 hK hP hD hS hA rfl rfl rfl hl.1 rfl (Nat.le_of_ble_eq_true rfl) dM_begin_6 ⟨by decide, by decide⟩ (fun u6 H locs h6 hP hD hS => ?_)
  replace hP : va_P D vC (mW z d n cd ty ft gc fg fo fh fs u6.1 u6.2 0 fm fi de ps re go kd pr fa fr) H := hP
  replace hD : va_D A (mW z d n cd ty ft gc fg fo fh fs u6.1 u6.2 0 fm fi de ps re go kd pr fa fr) := hD
  obtain ⟨B, h1, h2, h3⟩ := h6
  exact W.vret hx hb hr (fun t ht hW => ⟨⟨(u6.1, u6.2, 0, fm), rfl, ⟨fun _ => pg_id, B, pg_fil_0 h2 h3, h1, fun a ha => absurd ha (Nat.not_lt_zero a)⟩, by rw [ht]; exact hP, hD⟩, hS.F ht⟩) hS.2.2 dM_begin_9
set_option maxHeartbeats 2000000 in
set_option maxRecDepth 100000 in
theorem c_M_grow (l : Launch) (D : va_G) (z : Nat → ClassId) (d : Nat → Nat) (n : Nat) {cd : Int32} {ty : Nat} {ft : Nat → Int32} {gc : Nat} {fg fo fh : Nat → Int32} {fs ff : Nat → Int64} {fq : Nat → Int32} {mk : Nat} {fm fi : Nat → Int32} {de ps : Nat} {re : Int32} {go : Bool} {kd pr fa fr : Nat → Int32} (sz : Nat) (hn : n ≤ 7) (x : pg_F) (hxP : pg_P n x) (G : pg_F → Prop) (hG : mF n mk ff fm G) : Met l yM_grow wM_grow (rmF 3) (va_Pc [.ref (d 0), .int (eI n x)] (fun U => U.heap.size = sz ∧ va_P D vC (mW z d n cd ty ft gc fg fo fh fs ff fq mk fm fi de ps re go kd pr fa fr) U.heap ∧ va_K D vC (tyL z) U ∧ va_D (fun _ => True) (mW z d n cd ty ft gc fg fo fh fs ff fq mk fm fi de ps re go kd pr fa fr))) (va_Qv (fun u : (Nat → Int64) × (Nat → Int32) × Nat × (Nat → Int32) => mF n u.2.2.1 u.1 u.2.2.2 (pg_and G x)) (fun u t => va_P D vC (mW z d n cd ty ft gc fg fo fh fs u.1 u.2.1 u.2.2.1 u.2.2.2 fi de ps re go kd pr fa fr) t.heap ∧ va_D (va_A (mW z d n cd ty ft gc fg fo fh fs ff fq mk fm fi de ps re go kd pr fa fr) sz) (mW z d n cd ty ft gc fg fo fh fs u.1 u.2.1 u.2.2.1 u.2.2.2 fi de ps re go kd pr fa fr)) (va_A (mW z d n cd ty ft gc fg fo fh fs ff fq mk fm fi de ps re go kd pr fa fr) sz)) 0 0 (va_A (mW z d n cd ty ft gc fg fo fh fs ff fq mk fm fi de ps re go kd pr fa fr) sz) := by
  have hfac := pg_fac_le n hn
  obtain ⟨K, Bq, hf, hmB, hfm⟩ := hG
  have hc13 := pg_fil_c hf hn
  refine Met.ofW (cc := prog_9_method_28_code) (maxL := 3) (ret := none) (by decide) rfl ?_
  intro p e s m args below meth c s₁ B hml hv
  have hx := B.exec
  have hb := B.bytes
  have hr := B.returns
  have ht : ∀ w ∈ TB, w.before args s = true := fun w h => atoms_spec (ws := wM_grow) B.pre w (List.mem_cons_of_mem _ h)
  have hown : s.vm.findClass "PermutationDeskModel" = some m.cls := findClass_of_methodNamed B.named
  have hlocks := B.notSynchronized
  obtain ⟨rfl, hsz, hP, hK, hD0⟩ := hv
  subst hsz
  have hD := hD0.self (sz := s.heap.size)
  generalize hAe : va_A (mW z d n cd ty ft gc fg fo fh fs ff fq mk fm fi de ps re go kd pr fa fr) s.heap.size = A at hD ⊢
  have hA : ∀ q : Nat, s.heap.size ≤ q → A q := fun q h => by rw [← hAe]; exact Or.inr h
  have hS : va_S A s.heap s.heap [] := va_S.rf
  have hl := lv_entry ([.ref (d 0), .int (eI n x)]) (n := 3) (Nat.le_of_ble_eq_true rfl)
  rw [lg_entry_eq]
  generalize (lg_sl ([.ref (d 0), .int (eI n x)]) ++ List.replicate (3 - (lg_sl ([.ref (d 0), .int (eI n x)])).length) Slot.unset).toArray = ls at hl ⊢
  have hl : lv_has ls 3 [(0, .ref (d 0)), (1, .int (eI n x))] := hl
  refine lv_aload_n hx hb dM_grow_0 rfl (lv_at hl 0 rfl) ?_
  refine lv_iload_n hx hb dM_grow_1 rfl (lv_at hl 1 rfl) ?_
  refine qV_i (ci := 5) (q0 := 0) (As := [.int (eI n x)]) (rest := []) ⟨hx, hb, hml, hown, ht⟩ (c_M_rankOf l D z d n x hn hxP) (cB 1 ht gM_rankOf rfl tw_64 tw_824 (by decide +kernel) ⟨by decide, by decide⟩) tw_826 tw_48 hK (hP) rfl rfl rfl hl.1 rfl (Nat.le_of_ble_eq_true rfl) dM_grow_2 ⟨by decide, by decide⟩ (fun r2 h2 => ?_)
  obtain ⟨r, rfl, hr9⟩ := h2
  have hrl := (pg_all_P hr9).2
  have hGB : Bq r = true ↔ G x := by
    rw [← hf.2.1]
    exact (pg_set_at hr9).symm
  refine lv_istore_n hx hb dM_grow_5 rfl hl (by decide) rfl (fun ls hl => ?_)
  replace hl : lv_has ls 3 [(2, .int (nI r)), (0, .ref (d 0)), (1, .int (eI n x))] := hl
  refine lv_aload_n hx hb dM_grow_6 rfl (lv_at hl 1 rfl) ?_
  refine lv_iload_n hx hb dM_grow_7 rfl (lv_at hl 0 rfl) ?_
  refine qV_i (ci := 5) (q0 := 0) (As := [.int (nI r)]) (rest := []) ⟨hx, hb, hml, hown, ht⟩ (c_M_isFilled l D z d n r Bq (by omega) hmB) (cB 1 ht gM_isFilled rfl tw_64 tw_828 (by decide +kernel) ⟨by decide, by decide⟩) tw_830 tw_49 hK (hP) rfl rfl rfl hl.1 rfl (Nat.le_of_ble_eq_true rfl) dM_grow_8 ⟨by decide, by decide⟩ (fun r8 h8 => ?_)
  subst h8
  refine lv_if_eq (tgt := 15) hx hb dM_grow_11 rfl (fun h11 => ?_) (fun h11 => ?_)
  · have hnG : ¬ G x := fun q => by
      rw [hGB.mpr q] at h11
      exact absurd h11 (by decide)
    refine lv_aload_n hx hb dM_grow_15 rfl (lv_at hl 1 rfl) ?_
    refine va_get (ci := 5) (C := RM) (T := TM) (N := 26) hx hb ht inM hown hK hP 0 rfl rfl 16 (by decide) (ht _ tw_665) (fun _ h9 => h9) rfl dM_grow_16 ?_
    refine lv_aload_n hx hb dM_grow_19 rfl (lv_at hl 1 rfl) ?_
    refine va_get (ci := 5) (C := RM) (T := TM) (N := 26) hx hb ht inM hown hK hP 0 rfl rfl 15 (by decide) (ht _ tw_664) (fun _ h9 => h9) rfl dM_grow_20 ?_
    refine lv_iload_n hx hb dM_grow_23 rfl (lv_at hl 2 rfl) ?_
    refine va_iast hx hb hK hP hD hS 11 1 rfl rfl (vp_in_nI (N := 20) (by omega) (by decide)) dM_grow_24 (fun H locs hP hD hS => ?_)
    rw [nI_clamp (by omega)] at hP hD
    replace hP : va_P D vC (mW z d n cd ty ft gc fg fo fh fs ff fq mk (upd fm mk (eI n x)) fi de ps re go kd pr fa fr) H := hP
    replace hD : va_D A (mW z d n cd ty ft gc fg fo fh fs ff fq mk (upd fm mk (eI n x)) fi de ps re go kd pr fa fr) := hD
    refine lv_aload_n hx hb dM_grow_25 rfl (lv_at hl 1 rfl) ?_
    refine lv_dup hx hb dM_grow_26 rfl ?_
    refine va_get (ci := 5) (C := RM) (T := TM) (N := 26) hx hb ht inM hown hK hP 0 rfl rfl 15 (by decide) (ht _ tw_664) (fun _ h9 => h9) rfl dM_grow_27 ?_
    refine lv_iconst (v := 1) hx hb dM_grow_30 (by decide) ?_
    refine lv_iadd hx hb dM_grow_31 ?_
    refine wti (x' := nI (mk + 1)) (nI_1 mk) ?_
    refine va_put (ci := 5) (ty := .int) (C := RM) (T := TM) (N := 26) hx hb ht inM tyM tyM_ok nmM hown hK hP hD hS 0 rfl rfl 15 (by decide) (ht _ tw_664) (fun _ h9 => h9) rfl (by decide +kernel) rfl rfl (Nat.le_of_ble_eq_true rfl) dM_grow_32 (fun H locs hP hD hS => ?_)
    have hP : va_P D vC (mW z d n cd ty ft gc fg fo fh fs ff fq (mk + 1) (upd fm mk (eI n x)) fi de ps re go kd pr fa fr) H := hP
    have hD : va_D A (mW z d n cd ty ft gc fg fo fh fs ff fq (mk + 1) (upd fm mk (eI n x)) fi de ps re go kd pr fa fr) := hD
    refine lv_aload_n hx hb dM_grow_35 rfl (lv_at hl 1 rfl) ?_
    have hK9 : ∀ a, a < mk + 1 → pg_P n (va_up K mk x a) ∧ upd fm mk (eI n x) a = eI n (va_up K mk x a) := by
      intro a ha
      by_cases e : a = mk
      · rw [e, va_up_self, pk_us]; exact ⟨hxP, rfl⟩
      · rw [va_up_ne _ _ e, pk_un e]; exact ⟨hf.2.2.2.1 a (by omega), hfm a (by omega)⟩
    refine qM_v (ci := 5) (q0 := 0) (As := []) (rest := []) ⟨hx, hb, hml, hown, ht⟩ (c_M_fill l D z d n _ hn (va_up K mk x) (by omega) hK9) (cB 0 ht gM_fill rfl tw_64 tw_812 (by decide +kernel) ⟨by decide, by decide⟩) tw_814 tw_45 hK hP hD hS hA rfl rfl rfl hl.1 rfl (Nat.le_of_ble_eq_true rfl) dM_grow_36 ⟨by decide, by decide⟩ (fun u36 H locs h36 hP hD hS => ?_)
    replace hP : va_P D vC (mW z d n cd ty ft gc fg fo fh fs u36.1 u36.2 (mk + 1) (upd fm mk (eI n x)) fi de ps re go kd pr fa fr) H := hP
    replace hD : va_D A (mW z d n cd ty ft gc fg fo fh fs u36.1 u36.2 (mk + 1) (upd fm mk (eI n x)) fi de ps re go kd pr fa fr) := hD
    obtain ⟨Bq', h1, h2, h3⟩ := h36
    exact W.vret hx hb hr (fun t ht hW => ⟨⟨(u36.1, u36.2, mk + 1, upd fm mk (eI n x)), rfl, ⟨va_up K mk x, Bq', pg_fil_new hf hxP hnG (fun a ha => va_up_ne _ _ (by omega)) (va_up_self _ _ _) h2 h3, h1, fun a ha => (hK9 a ha).2⟩, by rw [ht]; exact hP, hD⟩, hS.F ht⟩) hS.2.2 dM_grow_39
  have hyG : G x := hGB.mp (by
    cases h8 : Bq r with
    | true => rfl
    | false => rw [h8] at h11; exact absurd rfl h11)
  exact W.vret hx hb hr (fun t ht hW => ⟨⟨(ff, fq, mk, fm), rfl, ⟨K, Bq, by rw [pg_and_old hf.1 hyG]; exact hf, hmB, hfm⟩, by rw [ht]; exact hP, hD⟩, hS.F ht⟩) hS.2.2 dM_grow_14
set_option maxHeartbeats 2000000 in
set_option maxRecDepth 100000 in
theorem c_M_orderOf (l : Launch) (D : va_G) (z : Nat → ClassId) (d : Nat → Nat) (n : Nat) {cd : Int32} {ty : Nat} {ft : Nat → Int32} {gc : Nat} {fg fo fh : Nat → Int32} {fs ff : Nat → Int64} {fq : Nat → Int32} {mk : Nat} {fm fi : Nat → Int32} {de ps : Nat} {re : Int32} {go : Bool} {kd pr fa fr : Nat → Int32} (hn : n ≤ 7) (i : Nat) (Bq : Nat → Bool) (hi : i < 5) (hB : mB (fun k => fs (79 * i + k)) Bq) : Met l yM_orderOf wM_orderOf (rmF 1) (va_Pc [.ref (d 0), .int (nI i)] (fun U => va_P D vC (mW z d n cd ty ft gc fg fo fh fs ff fq mk fm fi de ps re go kd pr fa fr) U.heap ∧ va_K D vC (tyL z) U)) (vp_Si (fun q => q = nI ((List.range (pg_fac n)).countP Bq))) 0 0 (fun _ => False) := by
  have hfac := pg_fac_le n hn
  refine Met.ofW (cc := prog_9_method_30_code) (maxL := 4) (ret := (some .int)) (by decide) rfl ?_
  intro p e s m args below meth c s₁ B hml hv
  have hx := B.exec
  have hb := B.bytes
  have hr := B.returns
  have ht : ∀ w ∈ TB, w.before args s = true := fun w h => atoms_spec (ws := wM_orderOf) B.pre w (List.mem_cons_of_mem _ h)
  have hown : s.vm.findClass "PermutationDeskModel" = some m.cls := findClass_of_methodNamed B.named
  have hlocks := B.notSynchronized
  obtain ⟨rfl, hP, hK⟩ := hv
  have hl := lv_entry ([.ref (d 0), .int (nI i)]) (n := 4) (Nat.le_of_ble_eq_true rfl)
  rw [lg_entry_eq]
  generalize (lg_sl ([.ref (d 0), .int (nI i)]) ++ List.replicate (4 - (lg_sl ([.ref (d 0), .int (nI i)])).length) Slot.unset).toArray = ls at hl ⊢
  have hl : lv_has ls 4 [(0, .ref (d 0)), (1, .int (nI i))] := hl
  refine lv_iconst (v := 0) hx hb dM_orderOf_0 (by decide) ?_
  refine lv_istore_n hx hb dM_orderOf_1 rfl hl (by decide) rfl (fun ls hl => ?_)
  replace hl : lv_has ls 4 [(2, .int (nI 0)), (0, .ref (d 0)), (1, .int (nI i))] := hl
  refine lv_iconst (v := 0) hx hb dM_orderOf_2 (by decide) ?_
  refine lv_istore_n hx hb dM_orderOf_3 rfl hl (by decide) rfl (fun ls hl => ?_)
  replace hl : lv_has ls 4 [(3, .int (nI 0)), (2, .int (nI 0)), (0, .ref (d 0)), (1, .int (nI i))] := hl
  refine wl0 (σ := Nat) (I := fun q k ls => q + k = pg_fac n ∧ lv_has ls 4 [(3, .int (nI k)), (2, .int (nI ((List.range k).countP Bq))), (0, .ref (d 0)), (1, .int (nI i))]) ?_ (pg_fac n) 0 ls ⟨rfl, hl⟩
  rintro q k ls ⟨hdk, hl⟩ ih
  refine lv_iload_n hx hb dM_orderOf_4 rfl (lv_at hl 0 rfl) ?_
  refine lv_aload_n hx hb dM_orderOf_5 rfl (lv_at hl 2 rfl) ?_
  refine va_get (ci := 5) (C := RM) (T := TM) (N := 26) hx hb ht inM hown hK hP 0 rfl rfl 1 (by decide) (ht _ tw_650) (fun _ h9 => h9) rfl dM_orderOf_6 ?_
  refine lv_icmp_ge (tgt := 35) hx hb dM_orderOf_9 rfl (fun h => ?_) (fun h => ?_)
  · have hk : k = pg_fac n := by have := (nI_leI (by omega) (by omega)).mp h; omega
    rw [hk] at hl
    refine lv_iload_n hx hb dM_orderOf_35 rfl (lv_at hl 1 rfl) ?_
    exact W.iret hx hb hr (fun t h _ => ⟨_, rfl, rfl, h⟩) (fun q h => by cases h) dM_orderOf_36
  have hk : k < pg_fac n := by
    rw [nI_leI (by omega) (by omega)] at h
    omega
  refine lv_iload_n hx hb dM_orderOf_12 rfl (lv_at hl 1 rfl) ?_
  refine lv_aload_n hx hb dM_orderOf_13 rfl (lv_at hl 2 rfl) ?_
  refine lv_iload_n hx hb dM_orderOf_14 rfl (lv_at hl 3 rfl) ?_
  refine lv_iload_n hx hb dM_orderOf_15 rfl (lv_at hl 0 rfl) ?_
  refine qV_i (ci := 5) (q0 := 0) (As := [.int (nI i), .int (nI k)]) (rest := [.int (nI ((List.range k).countP Bq))]) ⟨hx, hb, hml, hown, ht⟩ (c_M_isIn l D z d n i k Bq hi (by omega) hB) (cB 2 ht gM_isIn rfl tw_64 tw_844 (by decide +kernel) ⟨by decide, by decide⟩) tw_846 tw_53 hK (hP) rfl rfl rfl hl.1 rfl (Nat.le_of_ble_eq_true rfl) dM_orderOf_16 ⟨by decide, by decide⟩ (fun r16 h16 => ?_)
  subst h16
  refine lv_if_eq (tgt := 26) hx hb dM_orderOf_19 rfl (fun h19 => ?_) (fun h19 => ?_)
  · have hB9 : Bq k = false := by
      cases h8 : Bq k with
      | false => rfl
      | true => rw [h8] at h19; exact absurd h19 (by decide)
    refine lv_iconst (v := 0) hx hb dM_orderOf_26 (by decide) ?_
    refine lv_iadd hx hb dM_orderOf_27 ?_
    refine wti (x' := nI ((List.range (k + 1)).countP Bq)) (by rw [pg_count_succ, hB9]; exact nI_add _ 0) ?_
    refine lv_istore_n hx hb dM_orderOf_28 rfl hl (by decide) rfl (fun ls hl => ?_)
    replace hl : lv_has ls 4 [(2, .int (nI ((List.range (k + 1)).countP Bq))), (3, .int (nI k)), (0, .ref (d 0)), (1, .int (nI i))] := hl
    refine lv_iinc (k := 1) (v := (nI (k + 1))) hx hb dM_orderOf_29 hl rfl (by exact nI_1 _) (by decide) rfl (fun ls hl => ?_)
    replace hl : lv_has ls 4 [(3, .int (nI (k + 1))), (2, .int (nI ((List.range (k + 1)).countP Bq))), (0, .ref (d 0)), (1, .int (nI i))] := hl
    refine lv_goto (tgt := 4) hx hb dM_orderOf_32 rfl ?_
    exact ih (q - 1) (k + 1) ls (by omega) ⟨by omega, lv_sub hl [0, 1, 2, 3] rfl⟩
  have hB9 : Bq k = true := by
    cases h8 : Bq k with
    | true => rfl
    | false => rw [h8] at h19; exact absurd rfl h19
  refine lv_iconst (v := 1) hx hb dM_orderOf_22 (by decide) ?_
  refine lv_goto (tgt := 27) hx hb dM_orderOf_23 rfl ?_
  refine lv_iadd hx hb dM_orderOf_27 ?_
  refine wti (x' := nI ((List.range (k + 1)).countP Bq)) (by rw [pg_count_succ, hB9]; exact nI_add _ 1) ?_
  refine lv_istore_n hx hb dM_orderOf_28 rfl hl (by decide) rfl (fun ls hl => ?_)
  replace hl : lv_has ls 4 [(2, .int (nI ((List.range (k + 1)).countP Bq))), (3, .int (nI k)), (0, .ref (d 0)), (1, .int (nI i))] := hl
  refine lv_iinc (k := 1) (v := (nI (k + 1))) hx hb dM_orderOf_29 hl rfl (by exact nI_1 _) (by decide) rfl (fun ls hl => ?_)
  replace hl : lv_has ls 4 [(3, .int (nI (k + 1))), (2, .int (nI ((List.range (k + 1)).countP Bq))), (0, .ref (d 0)), (1, .int (nI i))] := hl
  refine lv_goto (tgt := 4) hx hb dM_orderOf_32 rfl ?_
  exact ih (q - 1) (k + 1) ls (by omega) ⟨by omega, lv_sub hl [0, 1, 2, 3] rfl⟩
/-- the five slots -/
def mSl (fs : Nat → Int64) (Bs : Nat → Nat → Bool) : Prop := ∀ i, i < 5 → mB (fun k => fs (79 * i + k)) (Bs i)
theorem mSl.put {fs f9 ff : Nat → Int64} {Bs : Nat → Nat → Bool} {B : Nat → Bool} {i : Nat} (h : mSl fs Bs) (hB : mB ff B) (h1 : ∀ k, k < 79 → f9 (79 * i + k) = ff k) (h2 : ∀ j, ¬ (79 * i ≤ j ∧ j < 79 * i + 79) → f9 j = fs j) : mSl f9 (va_up Bs i B) := by
  intro j hj r hr
  by_cases e : j = i
  · subst e
    rw [va_up_self]
    show (f9 (79 * j + r / 64)).toBitVec.getLsbD (r % 64) = B r
    rw [h1 (r / 64) (by omega)]
    exact hB r hr
  · rw [va_up_ne _ _ e]
    show (f9 (79 * j + r / 64)).toBitVec.getLsbD (r % 64) = Bs j r
    rw [h2 _ (by omega)]
    exact h j hj r hr
set_option maxHeartbeats 2000000 in
set_option maxRecDepth 100000 in
theorem c_M_store (l : Launch) (D : va_G) (z : Nat → ClassId) (d : Nat → Nat) (n : Nat) {cd : Int32} {ty : Nat} {ft : Nat → Int32} {gc : Nat} {fg fo fh : Nat → Int32} {fs ff : Nat → Int64} {fq : Nat → Int32} {mk : Nat} {fm fi : Nat → Int32} {de ps : Nat} {re : Int32} {go : Bool} {kd pr fa fr : Nat → Int32} (sz : Nat) (hn : n ≤ 7) (i : Nat) (Bq : Nat → Bool) (hi : i < 5) (hB : mB ff Bq) : Met l yM_store wM_store (rmF 2) (va_Pc [.ref (d 0), .int (nI i)] (fun U => U.heap.size = sz ∧ va_P D vC (mW z d n cd ty ft gc fg fo fh fs ff fq mk fm fi de ps re go kd pr fa fr) U.heap ∧ va_K D vC (tyL z) U ∧ va_D (fun _ => True) (mW z d n cd ty ft gc fg fo fh fs ff fq mk fm fi de ps re go kd pr fa fr))) (va_Qi (fun r (u : Nat → Int64) => r = nI ((List.range (pg_fac n)).countP Bq) ∧ ∀ Bs, mSl fs Bs → mSl u (va_up Bs i Bq)) (fun u t => va_P D vC (mW z d n cd ty ft gc fg fo fh u ff fq mk fm fi de ps re go kd pr fa fr) t.heap ∧ va_D (va_A (mW z d n cd ty ft gc fg fo fh fs ff fq mk fm fi de ps re go kd pr fa fr) sz) (mW z d n cd ty ft gc fg fo fh u ff fq mk fm fi de ps re go kd pr fa fr)) (va_A (mW z d n cd ty ft gc fg fo fh fs ff fq mk fm fi de ps re go kd pr fa fr) sz)) 0 0 (va_A (mW z d n cd ty ft gc fg fo fh fs ff fq mk fm fi de ps re go kd pr fa fr) sz) := by
  refine Met.ofW (cc := prog_9_method_29_code) (maxL := 3) (ret := (some .int)) (by decide) rfl ?_
  intro p e s m args below meth c s₁ B hml hv
  have hx := B.exec
  have hb := B.bytes
  have hr := B.returns
  have ht : ∀ w ∈ TB, w.before args s = true := fun w h => atoms_spec (ws := wM_store) B.pre w (List.mem_cons_of_mem _ h)
  have hown : s.vm.findClass "PermutationDeskModel" = some m.cls := findClass_of_methodNamed B.named
  have hlocks := B.notSynchronized
  obtain ⟨rfl, hsz, hP, hK, hD0⟩ := hv
  subst hsz
  have hD := hD0.self (sz := s.heap.size)
  generalize hAe : va_A (mW z d n cd ty ft gc fg fo fh fs ff fq mk fm fi de ps re go kd pr fa fr) s.heap.size = A at hD ⊢
  have hA : ∀ q : Nat, s.heap.size ≤ q → A q := fun q h => by rw [← hAe]; exact Or.inr h
  have hS : va_S A s.heap s.heap [] := va_S.rf
  have hl := lv_entry ([.ref (d 0), .int (nI i)]) (n := 3) (Nat.le_of_ble_eq_true rfl)
  rw [lg_entry_eq]
  generalize (lg_sl ([.ref (d 0), .int (nI i)]) ++ List.replicate (3 - (lg_sl ([.ref (d 0), .int (nI i)])).length) Slot.unset).toArray = ls at hl ⊢
  have hl : lv_has ls 3 [(0, .ref (d 0)), (1, .int (nI i))] := hl
  refine lv_iconst (v := 0) hx hb dM_store_0 (by decide) ?_
  refine lv_istore_n hx hb dM_store_1 rfl hl (by decide) rfl (fun ls hl => ?_)
  replace hl : lv_has ls 3 [(2, .int (nI 0)), (0, .ref (d 0)), (1, .int (nI i))] := hl
  refine wl (σ := Nat × (Nat → Int64)) (I := fun q st H locs ls => q + st.1 = 79 ∧ (∀ j, j < st.1 → st.2 (79 * i + j) = ff j) ∧ (∀ j, ¬ (79 * i ≤ j ∧ j < 79 * i + 79) → st.2 j = fs j) ∧ va_P D vC (mW z d n cd ty ft gc fg fo fh st.2 ff fq mk fm fi de ps re go kd pr fa fr) H ∧ va_D A (mW z d n cd ty ft gc fg fo fh st.2 ff fq mk fm fi de ps re go kd pr fa fr) ∧ va_S A s.heap H locs ∧ lv_has ls 3 [(2, .int (nI st.1)), (0, .ref (d 0)), (1, .int (nI i))]) ?_ 79 (0, fs) _ _ ls ⟨rfl, fun j hj => absurd hj (Nat.not_lt_zero j), fun _ _ => rfl, hP, hD, hS, hl⟩
  clear hP hD hS hl
  rintro q ⟨k, f9⟩ H locs ls ⟨hdk, hz, ho, hP, hD, hS, hl⟩ ih
  replace hdk : q + k = 79 := hdk
  replace hz : ∀ j, j < k → f9 (79 * i + j) = ff j := hz
  replace ho : ∀ j, ¬ (79 * i ≤ j ∧ j < 79 * i + 79) → f9 j = fs j := ho
  replace hP : va_P D vC (mW z d n cd ty ft gc fg fo fh f9 ff fq mk fm fi de ps re go kd pr fa fr) H := hP
  replace hD : va_D A (mW z d n cd ty ft gc fg fo fh f9 ff fq mk fm fi de ps re go kd pr fa fr) := hD
  replace hl : lv_has ls 3 [(2, .int (nI k)), (0, .ref (d 0)), (1, .int (nI i))] := hl
  refine lv_iload_n hx hb dM_store_2 rfl (lv_at hl 0 rfl) ?_
  refine lv_bipush (v := 79) hx hb dM_store_3 (by decide) ?_
  refine lv_icmp_ge (tgt := 31) hx hb dM_store_5 rfl (fun h => ?_) (fun h => ?_)
  · have hk : k = 79 := by have := (nI_leI (a := 79) (by omega) (by omega)).mp h; omega
    subst hk
    have hput : ∀ Bs, mSl fs Bs → mSl f9 (va_up Bs i Bq) := fun Bs hs => hs.put hB hz ho
    have hB2 : mB (fun k => f9 (79 * i + k)) Bq := fun r hr => by
      show (f9 (79 * i + r / 64)).toBitVec.getLsbD (r % 64) = Bq r
      rw [hz (r / 64) (by omega)]
      exact hB r hr
    refine lv_aload_n hx hb dM_store_31 rfl (lv_at hl 1 rfl) ?_
    refine lv_iload_n hx hb dM_store_32 rfl (lv_at hl 2 rfl) ?_
    refine qV_i (ci := 5) (q0 := 0) (As := [.int (nI i)]) (rest := []) ⟨hx, hb, hml, hown, ht⟩ (c_M_orderOf l D z d n hn i Bq hi hB2) (cB 1 ht gM_orderOf rfl tw_64 tw_840 (by decide +kernel) ⟨by decide, by decide⟩) tw_842 tw_52 hK (hP) rfl rfl rfl hl.1 rfl (Nat.le_of_ble_eq_true rfl) dM_store_33 ⟨by decide, by decide⟩ (fun r33 h33 => ?_)
    exact W.iret hx hb hr (fun t ht hW => ⟨⟨_, f9, rfl, ⟨h33, hput⟩, by rw [ht]; exact hP, hD⟩, hS.F ht⟩) hS.2.2 dM_store_36
  have hk : k < 79 := by
    have : ¬ _ := fun q => h ((nI_leI (a := 79) (b := k) (by omega) (by omega)).mpr q)
    omega
  refine lv_aload_n hx hb dM_store_8 rfl (lv_at hl 1 rfl) ?_
  refine va_get (ci := 5) (C := RM) (T := TM) (N := 26) hx hb ht inM hown hK hP 0 rfl rfl 12 (by decide) (ht _ tw_661) (fun _ h9 => h9) rfl dM_store_9 ?_
  refine lv_bipush (v := 79) hx hb dM_store_12 (by decide) ?_
  refine lv_iload_n hx hb dM_store_14 rfl (lv_at hl 2 rfl) ?_
  refine lv_imul hx hb dM_store_15 ?_
  refine lv_iload_n hx hb dM_store_16 rfl (lv_at hl 0 rfl) ?_
  refine lv_iadd hx hb dM_store_17 ?_
  refine wti (x' := nI (79 * i + k)) (by rw [show (79 : Int32) * nI i = nI (79 * i) from pk_mul 79 i, nI_add]) ?_
  refine lv_aload_n hx hb dM_store_18 rfl (lv_at hl 1 rfl) ?_
  refine va_get (ci := 5) (C := RM) (T := TM) (N := 26) hx hb ht inM hown hK hP 0 rfl rfl 13 (by decide) (ht _ tw_662) (fun _ h9 => h9) rfl dM_store_19 ?_
  refine lv_iload_n hx hb dM_store_22 rfl (lv_at hl 0 rfl) ?_
  refine va_lald hx hb hK hP 9 0 rfl rfl (vp_in_nI (N := 79) (by omega) (by decide)) dM_store_23 ?_
  refine va_last hx hb hK hP hD hS 8 0 rfl rfl (vp_in_nI (N := 395) (by omega) (by decide)) dM_store_24 (fun H locs hP hD hS => ?_)
  rw [nI_clamp (by omega), nI_clamp (by omega)] at hP hD
  refine lv_iinc (k := 0) (v := (nI (k + 1))) hx hb dM_store_25 hl rfl (by exact nI_1 _) (by decide) rfl (fun ls hl => ?_)
  replace hl : lv_has ls 3 [(2, .int (nI (k + 1))), (0, .ref (d 0)), (1, .int (nI i))] := hl
  refine lv_goto (tgt := 2) hx hb dM_store_28 rfl ?_
  refine ih (q - 1) (k + 1, vp_updL f9 (79 * i + k) (ff k)) _ _ ls (by omega) ⟨by show q - 1 + (k + 1) = 79; omega, ?_, ?_, hP, hD, hS, lv_sub hl [0, 1, 2] rfl⟩
  · intro j hj
    replace hj : j < k + 1 := hj
    show vp_updL f9 (79 * i + k) (ff k) (79 * i + j) = ff j
    by_cases e : j = k
    · rw [e]; exact pk_uLs
    · rw [pk_uLn (by omega)]; exact hz j (by omega)
  · intro j hj
    show vp_updL f9 (79 * i + k) (ff k) j = fs j
    rw [pk_uLn (by omega)]; exact ho j hj
theorem mF.row {n mk : Nat} {ff : Nat → Int64} {fm : Nat → Int32} {G : pg_F → Prop} (h : mF n mk ff fm G) : ∃ B, mB ff B ∧ pg_set n B = G := by
  obtain ⟨K, B, hf, hmB, -⟩ := h
  exact ⟨B, hmB, hf.2.1⟩
theorem mOrd {n : Nat} {B : Nat → Bool} {G : pg_F → Prop} (h : pg_set n B = G) : gOrd n G (nI ((List.range (pg_fac n)).countP B)) := ⟨pg_mem n B, by rw [← h]; exact pg_mem_row n B, by rw [pg_mem_len]⟩
set_option maxHeartbeats 2000000 in
set_option maxRecDepth 100000 in
theorem c_M_fillZero (l : Launch) (D : va_G) (z : Nat → ClassId) (d : Nat → Nat) (n : Nat) {cd : Int32} {ty : Nat} {ft : Nat → Int32} {gc : Nat} {fg fo fh : Nat → Int32} {fs ff : Nat → Int64} {fq : Nat → Int32} {mk : Nat} {fm fi : Nat → Int32} {de ps : Nat} {re : Int32} {go : Bool} {kd pr fa fr : Nat → Int32} (sz : Nat) (hn : n ≤ 7) (hgc : gc ≤ 6) (g : Nat → pg_F) (hg : ∀ i, i < gc → pg_P n (g i) ∧ fg i = eI n (g i)) : Met l yM_fillZero wM_fillZero (rmF 4) (va_Pc [.ref (d 0)] (fun U => U.heap.size = sz ∧ va_P D vC (mW z d n cd ty ft gc fg fo fh fs ff fq mk fm fi de ps re go kd pr fa fr) U.heap ∧ va_K D vC (tyL z) U ∧ va_D (fun _ => True) (mW z d n cd ty ft gc fg fo fh fs ff fq mk fm fi de ps re go kd pr fa fr))) (va_Qv (fun u : (Nat → Int64) × (Nat → Int64) × (Nat → Int32) × Nat × (Nat → Int32) => ∃ B, pg_set n B = pg_Gen (pg_GS gc g) ∧ ∀ Bs, mSl fs Bs → mSl u.1 (va_up Bs 0 B)) (fun u t => va_P D vC (mW z d n cd ty ft gc fg fo fh u.1 u.2.1 u.2.2.1 u.2.2.2.1 u.2.2.2.2 fi de ps re go kd pr fa fr) t.heap ∧ va_D (va_A (mW z d n cd ty ft gc fg fo fh fs ff fq mk fm fi de ps re go kd pr fa fr) sz) (mW z d n cd ty ft gc fg fo fh u.1 u.2.1 u.2.2.1 u.2.2.2.1 u.2.2.2.2 fi de ps re go kd pr fa fr)) (va_A (mW z d n cd ty ft gc fg fo fh fs ff fq mk fm fi de ps re go kd pr fa fr) sz)) 0 0 (va_A (mW z d n cd ty ft gc fg fo fh fs ff fq mk fm fi de ps re go kd pr fa fr) sz) := by
  refine Met.ofW (cc := prog_9_method_31_code) (maxL := 2) (ret := none) (by decide) rfl ?_
  intro p e s m args below meth c s₁ B hml hv
  have hx := B.exec
  have hb := B.bytes
  have hr := B.returns
  have ht : ∀ w ∈ TB, w.before args s = true := fun w h => atoms_spec (ws := wM_fillZero) B.pre w (List.mem_cons_of_mem _ h)
  have hown : s.vm.findClass "PermutationDeskModel" = some m.cls := findClass_of_methodNamed B.named
  have hlocks := B.notSynchronized
  obtain ⟨rfl, hsz, hP, hK, hD0⟩ := hv
  subst hsz
  have hD := hD0.self (sz := s.heap.size)
  generalize hAe : va_A (mW z d n cd ty ft gc fg fo fh fs ff fq mk fm fi de ps re go kd pr fa fr) s.heap.size = A at hD ⊢
  have hA : ∀ q : Nat, s.heap.size ≤ q → A q := fun q h => by rw [← hAe]; exact Or.inr h
  have hS : va_S A s.heap s.heap [] := va_S.rf
  have hl := lv_entry ([.ref (d 0)]) (n := 2) (Nat.le_of_ble_eq_true rfl)
  rw [lg_entry_eq]
  generalize (lg_sl ([.ref (d 0)]) ++ List.replicate (2 - (lg_sl ([.ref (d 0)])).length) Slot.unset).toArray = ls at hl ⊢
  have hl : lv_has ls 2 [(0, .ref (d 0))] := hl
  refine lv_aload_n hx hb dM_fillZero_0 rfl (lv_at hl 0 rfl) ?_
  refine qM_v (ci := 5) (q0 := 0) (As := []) (rest := []) ⟨hx, hb, hml, hown, ht⟩ (c_M_begin l D z d n _ hn) (cB 0 ht gM_begin rfl tw_64 tw_808 (by decide +kernel) ⟨by decide, by decide⟩) tw_810 tw_44 hK hP hD hS hA rfl rfl rfl hl.1 rfl (Nat.le_of_ble_eq_true rfl) dM_fillZero_1 ⟨by decide, by decide⟩ (fun u1 H locs h1 hP hD hS => ?_)
  replace hP : va_P D vC (mW z d n cd ty ft gc fg fo fh fs u1.1 u1.2.1 u1.2.2.1 u1.2.2.2 fi de ps re go kd pr fa fr) H := hP
  replace hD : va_D A (mW z d n cd ty ft gc fg fo fh fs u1.1 u1.2.1 u1.2.2.1 u1.2.2.2 fi de ps re go kd pr fa fr) := hD
  refine lv_iconst (v := 0) hx hb dM_fillZero_4 (by decide) ?_
  refine lv_istore_n hx hb dM_fillZero_5 rfl hl (by decide) rfl (fun ls hl => ?_)
  replace hl : lv_has ls 2 [(1, .int (nI 0)), (0, .ref (d 0))] := hl
  refine wl (σ := Nat × (Nat → Int64) × (Nat → Int32) × Nat × (Nat → Int32)) (I := fun q st H locs ls => q + st.1 = gc ∧ mF n st.2.2.2.1 st.2.1 st.2.2.2.2 (pg_Gen (pg_GS st.1 g)) ∧ va_P D vC (mW z d n cd ty ft gc fg fo fh fs st.2.1 st.2.2.1 st.2.2.2.1 st.2.2.2.2 fi de ps re go kd pr fa fr) H ∧ va_D A (mW z d n cd ty ft gc fg fo fh fs st.2.1 st.2.2.1 st.2.2.2.1 st.2.2.2.2 fi de ps re go kd pr fa fr) ∧ va_S A s.heap H locs ∧ lv_has ls 2 [(1, .int (nI st.1)), (0, .ref (d 0))]) ?_ gc (0, u1) _ _ ls ⟨rfl, (by
    show mF n u1.2.2.1 u1.1 u1.2.2.2 (pg_Gen (pg_GS 0 g))
    rw [pg_Gen_0]; exact h1), hP, hD, hS, hl⟩
  clear hP hD hS hl
  rintro q ⟨k, f9, q9, m9, a9⟩ H locs ls ⟨hdk, hF, hP, hD, hS, hl⟩ ih
  replace hdk : q + k = gc := hdk
  replace hF : mF n m9 f9 a9 (pg_Gen (pg_GS k g)) := hF
  replace hP : va_P D vC (mW z d n cd ty ft gc fg fo fh fs f9 q9 m9 a9 fi de ps re go kd pr fa fr) H := hP
  replace hD : va_D A (mW z d n cd ty ft gc fg fo fh fs f9 q9 m9 a9 fi de ps re go kd pr fa fr) := hD
  replace hl : lv_has ls 2 [(1, .int (nI k)), (0, .ref (d 0))] := hl
  refine lv_iload_n hx hb dM_fillZero_6 rfl (lv_at hl 0 rfl) ?_
  refine lv_aload_n hx hb dM_fillZero_7 rfl (lv_at hl 1 rfl) ?_
  refine va_get (ci := 5) (C := RM) (T := TM) (N := 26) hx hb ht inM hown hK hP 0 rfl rfl 8 (by decide) (ht _ tw_657) (fun _ h9 => h9) rfl dM_fillZero_8 ?_
  refine lv_icmp_ge (tgt := 30) hx hb dM_fillZero_11 rfl (fun h => ?_) (fun h => ?_)
  · have hk : k = gc := by have := (nI_leI (by omega) (by omega)).mp h; omega
    subst hk
    obtain ⟨B, hmB, hset⟩ := hF.row
    refine lv_aload_n hx hb dM_fillZero_30 rfl (lv_at hl 1 rfl) ?_
    refine lv_iconst (v := 0) hx hb dM_fillZero_31 (by decide) ?_
    refine qM_i (ci := 5) (q0 := 0) (As := [.int (nI 0)]) (rest := []) ⟨hx, hb, hml, hown, ht⟩ (c_M_store l D z d n _ hn 0 B (by decide) hmB) (cB 1 ht gM_store rfl tw_64 tw_836 (by decide +kernel) ⟨by decide, by decide⟩) tw_838 tw_51 hK hP hD hS hA rfl rfl rfl hl.1 rfl (Nat.le_of_ble_eq_true rfl) dM_fillZero_32 ⟨by decide, by decide⟩ (fun r32 u32 H locs h32 hP hD hS => ?_)
    replace hP : va_P D vC (mW z d n cd ty ft k fg fo fh u32 f9 q9 m9 a9 fi de ps re go kd pr fa fr) H := hP
    replace hD : va_D A (mW z d n cd ty ft k fg fo fh u32 f9 q9 m9 a9 fi de ps re go kd pr fa fr) := hD
    refine lv_pop hx hb dM_fillZero_35 rfl ?_
    exact W.vret hx hb hr (fun t ht hW => ⟨⟨(u32, f9, q9, m9, a9), rfl, ⟨B, hset, h32.2⟩, by rw [ht]; exact hP, hD⟩, hS.F ht⟩) hS.2.2 dM_fillZero_36
  have hk : k < gc := by
    rw [nI_leI (by omega) (by omega)] at h
    omega
  refine lv_aload_n hx hb dM_fillZero_14 rfl (lv_at hl 1 rfl) ?_
  refine lv_aload_n hx hb dM_fillZero_15 rfl (lv_at hl 1 rfl) ?_
  refine va_get (ci := 5) (C := RM) (T := TM) (N := 26) hx hb ht inM hown hK hP 0 rfl rfl 9 (by decide) (ht _ tw_658) (fun _ h9 => h9) rfl dM_fillZero_16 ?_
  refine lv_iload_n hx hb dM_fillZero_19 rfl (lv_at hl 0 rfl) ?_
  refine va_iald hx hb hK hP 5 1 rfl rfl (vp_in_nI (N := 6) (by omega) (by decide)) dM_fillZero_20 ?_
  refine wti (x' := eI n (g k)) (by rw [nI_clamp (by omega)]; exact (hg k hk).2) ?_
  refine qM_v (ci := 5) (q0 := 0) (As := [.int (eI n (g k))]) (rest := []) ⟨hx, hb, hml, hown, ht⟩ (c_M_grow l D z d n _ hn (g k) (hg k hk).1 _ hF) (cB 1 ht gM_grow rfl tw_64 tw_832 (by decide +kernel) ⟨by decide, by decide⟩) tw_834 tw_50 hK hP hD hS hA rfl rfl rfl hl.1 rfl (Nat.le_of_ble_eq_true rfl) dM_fillZero_21 ⟨by decide, by decide⟩ (fun u21 H locs h21 hP hD hS => ?_)
  replace hP : va_P D vC (mW z d n cd ty ft gc fg fo fh fs u21.1 u21.2.1 u21.2.2.1 u21.2.2.2 fi de ps re go kd pr fa fr) H := hP
  replace hD : va_D A (mW z d n cd ty ft gc fg fo fh fs u21.1 u21.2.1 u21.2.2.1 u21.2.2.2 fi de ps re go kd pr fa fr) := hD
  refine lv_iinc (k := 0) (v := (nI (k + 1))) hx hb dM_fillZero_24 hl rfl (by exact nI_1 _) (by decide) rfl (fun ls hl => ?_)
  replace hl : lv_has ls 2 [(1, .int (nI (k + 1))), (0, .ref (d 0))] := hl
  refine lv_goto (tgt := 6) hx hb dM_fillZero_27 rfl ?_
  exact ih (q - 1) (k + 1, u21) _ _ ls (by omega) ⟨by show q - 1 + (k + 1) = gc; omega, (by
    have e9 : pg_Gen (pg_GS (k + 1) g) = pg_and (pg_Gen (pg_GS k g)) (g k) := pg_and_gen (c := k) (K := g) (K' := g) rfl (fun _ _ => rfl) rfl
    show mF n u21.2.2.1 u21.1 u21.2.2.2 (pg_Gen (pg_GS (k + 1) g))
    rw [e9]; exact h21), hP, hD, hS, lv_sub hl [0, 1] rfl⟩
