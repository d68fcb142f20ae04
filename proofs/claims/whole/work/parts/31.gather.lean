/-! Group: gather. -/
set_option maxHeartbeats 2000000 in
set_option maxRecDepth 100000 in
/-- gather: the elements of another group that meet the condition -/
theorem c_G_gatherK (l : Launch) (D : va_G) (z : Nat → ClassId) (g h : Nat → Nat) (sz n nc : Nat) (fS fM : Nat → Int64) (fL : Nat → Int32) (TF : pg_T) (ncB : Nat) (MB : Nat → pg_F) (lvB : Nat → Nat) (fSB fMB : Nat → Int64) (fLB : Nat → Int32) (hn : n ≤ 14) (q0 m9 : Nat) (wh : Bool) (hm : m9 < 2 ^ 31) (G : pg_F → Prop) (hGB : gGp n (TF, ncB, MB, lvB, fSB, fMB, fLB) G) (hmb : ∀ q, m9.testBit q = true → q < n) : Met l yG_gather wG_gather (rmF 18) (va_Pc [.ref (g 0), .ref (h 0), .ref q0] (fun U => (U.heap.size = sz ∧ va_P D vC (gW z g n nc fS fM fL ++ (gW z h n ncB fSB fMB fLB ++ kW q0 m9 wh)) U.heap ∧ va_K D vC (tyL z) U ∧ va_D (fun _ => True) (gW z g n nc fS fM fL ++ (gW z h n ncB fSB fMB fLB ++ kW q0 m9 wh))) ∧ va_Fw "PermutationDesk$KeepsSet" yI_allows yK_allows U)) (va_Qv (fun u => gGp n u (fun w9 => G w9 ∧ kAll m9 wh w9 n = true)) (fun u t => va_P D vC (gWu z g n u ++ (gW z h n ncB fSB fMB fLB ++ kW q0 m9 wh)) t.heap ∧ va_D (va_A (gW z g n nc fS fM fL ++ (gW z h n ncB fSB fMB fLB ++ kW q0 m9 wh)) sz) (gWu z g n u ++ (gW z h n ncB fSB fMB fLB ++ kW q0 m9 wh))) (va_A (gW z g n nc fS fM fL ++ (gW z h n ncB fSB fMB fLB ++ kW q0 m9 wh)) sz)) 0 0 (va_A (gW z g n nc fS fM fL ++ (gW z h n ncB fSB fMB fLB ++ kW q0 m9 wh)) sz) := by
  have hTF : pg_ok n TF := hGB.1.1
  have hSF : gS n TF fSB := hGB.1.2.2.1
  have hIF : pg_In TF n 0 = G := hGB.2.2
  refine Met.ofW (cc := prog_5_method_13_code) (maxL := 9) (ret := none) (by decide) rfl ?_
  intro p e s m args below meth c s₁ B hml hv
  have hx := B.exec
  have hb := B.bytes
  have hr := B.returns
  have ht : ∀ w ∈ TB, w.before args s = true := fun w h => atoms_spec (ws := wG_gather) B.pre w (List.mem_cons_of_mem _ h)
  have hown : s.vm.findClass "PermutationDesk$Group" = some m.cls := findClass_of_methodNamed B.named
  have hlocks := B.notSynchronized
  obtain ⟨rfl, ⟨hsz, hP, hK, hD0⟩, hF⟩ := hv
  subst hsz
  have hD := hD0.self (sz := s.heap.size)
  generalize hAe : va_A (gW z g n nc fS fM fL ++ (gW z h n ncB fSB fMB fLB ++ kW q0 m9 wh)) s.heap.size = A at hD ⊢
  have hA : ∀ q : Nat, s.heap.size ≤ q → A q := fun q h => by rw [← hAe]; exact Or.inr h
  have hS : va_S A s.heap s.heap [] := va_S.rf
  have hl := lv_entry ([.ref (g 0), .ref (h 0), .ref q0]) (n := 9) (Nat.le_of_ble_eq_true rfl)
  rw [lg_entry_eq]
  generalize (lg_sl ([.ref (g 0), .ref (h 0), .ref q0]) ++ List.replicate (9 - (lg_sl ([.ref (g 0), .ref (h 0), .ref q0])).length) Slot.unset).toArray = ls at hl ⊢
  have hl : lv_has ls 9 [(0, .ref (g 0)), (1, .ref (h 0)), (2, .ref q0)] := hl
  refine lv_aload_n hx hb dG_gather_0 rfl (lv_at hl 0 rfl) ?_
  refine qW_v (ci := 0) (q0 := 0) (wr := gW z h n ncB fSB fMB fLB ++ kW q0 m9 wh) (As := []) (rest := []) ⟨hx, hb, hml, hown, ht⟩ (c_G_clear l D z g s.heap.size n nc fS fM fL hn) (cB 0 ht gG_clear rfl tw_61 tw_95 (by decide +kernel) ⟨by decide, by decide⟩) tw_96 tw_97 hK hP hD hS hA [0, 1, 2, 3] [4, 5, 6, 7, 8] rfl rfl rfl rfl (by decide) rfl rfl rfl rfl hl.1 rfl (Nat.le_of_ble_eq_true rfl) dG_gather_1 ⟨by decide, by decide⟩ (fun u1 H locs h1 hP hD hS => ?_)
  obtain ⟨hR1, hT1, hc1⟩ := h1
  have hP := hP.sub (ws' := gWu z g n u1 ++ (gW z h n ncB fSB fMB fLB ++ kW q0 m9 wh)) [5, 6, 7, 8, 0, 1, 2, 3, 4] rfl
  have hD := hD.sub (ws' := gWu z g n u1 ++ (gW z h n ncB fSB fMB fLB ++ kW q0 m9 wh)) [5, 6, 7, 8, 0, 1, 2, 3, 4] (by decide) rfl
  refine lv_iconst (v := 0) hx hb dG_gather_4 (by decide) ?_
  refine lv_istore_n hx hb dG_gather_5 rfl hl (by decide) rfl (fun ls hl => ?_)
  replace hl : lv_has ls 9 [(3, .int (nI 0)), (0, .ref (g 0)), (1, .ref (h 0)), (2, .ref q0)] := hl
  refine wl (σ := Nat × gSt) (I := fun d st H locs ls => d + st.1 = n ∧ gRep n st.2 ∧ gPart n (fun a b o => match TF a b with | none => o = none | some st => pg_fnd TF (n - (a + 1)) (a + 1) st (fun w9 => kAll m9 wh w9 n = true) o) st.1 0 st.2.1 ∧ va_P D vC (gWu z g n st.2 ++ (gW z h n ncB fSB fMB fLB ++ kW q0 m9 wh)) H ∧ va_D A (gWu z g n st.2 ++ (gW z h n ncB fSB fMB fLB ++ kW q0 m9 wh)) ∧ va_S A s.heap H locs ∧ lv_has ls 9 [(3, .int (nI st.1)), (0, .ref (g 0)), (1, .ref (h 0)), (2, .ref q0)]) ?_ n (0, u1) _ _ ls ⟨rfl, hR1.1, by show gPart n _ 0 0 u1.1; rw [hT1]; exact gPart_0 n _, hP, hD, hS, hl⟩
  clear hP hD hS hl hR1 hT1 hc1
  rintro d ⟨k, u⟩ H locs ls ⟨hdk, hRu, hpt, hP, hD, hS, hl⟩ ih
  obtain ⟨T1, nc1, M1, lv1, fS1, fM1, fL1⟩ := u
  have hdk : d + k = n := hdk
  have hpt : gPart n (fun a b o => match TF a b with | none => o = none | some st => pg_fnd TF (n - (a + 1)) (a + 1) st (fun w9 => kAll m9 wh w9 n = true) o) k 0 T1 := hpt
  have hP : va_P D vC (gW z g n nc1 fS1 fM1 fL1 ++ (gW z h n ncB fSB fMB fLB ++ kW q0 m9 wh)) H := hP
  have hD : va_D A (gW z g n nc1 fS1 fM1 fL1 ++ (gW z h n ncB fSB fMB fLB ++ kW q0 m9 wh)) := hD
  have hl : lv_has ls 9 [(3, .int (nI k)), (0, .ref (g 0)), (1, .ref (h 0)), (2, .ref q0)] := hl
  refine lv_iload_n hx hb dG_gather_6 rfl (lv_at hl 0 rfl) ?_
  refine lv_aload_n hx hb dG_gather_7 rfl (lv_at hl 1 rfl) ?_
  refine va_get (ci := 0) (C := RG) (T := TG) (N := 6) hx hb ht inG hown hK hP 0 rfl rfl 0 (by decide) (ht _ tw_103) (fun _ h9 => h9) rfl dG_gather_8 ?_
  refine lv_icmp_ge (tgt := 94) hx hb dG_gather_11 rfl (fun h2 => ?_) (fun h2 => ?_)
  · have hk : n = k := by have := (nI_leI (by omega) (by omega)).mp h2; omega
    subst hk
    have hga := pg_gather (C := fun w9 => kAll m9 wh w9 n = true) hTF hGB.2.1 hIF (kAll_G hGB.2.1 hmb) hpt.1 hpt.2.1 (fun a b h5 h6 => hpt.2.2.1 a b h5 h6 (Or.inl (by omega)))
    exact W.vret hx hb hr (fun t ht hW => ⟨⟨(T1, nc1, M1, lv1, fS1, fM1, fL1), rfl, ⟨hRu, kAll_G hGB.2.1 hmb, hga.2⟩, by rw [ht]; exact hP, hD⟩, hS.F ht⟩) hS.2.2 dG_gather_94
  have hk : k < n := by
    rw [nI_leI (by omega) (by omega)] at h2
    omega
  refine lv_iload_n hx hb dG_gather_14 rfl (lv_at hl 0 rfl) ?_
  refine lv_iconst (v := 1) hx hb dG_gather_15 (by decide) ?_
  refine lv_iadd hx hb dG_gather_16 ?_
  refine wti (x' := nI (k + 1)) (nI_1 k) ?_
  refine lv_istore hx hb dG_gather_17 hl (by decide) rfl (fun ls hl => ?_)
  replace hl : lv_has ls 9 [(4, .int (nI (k + 1))), (3, .int (nI k)), (0, .ref (g 0)), (1, .ref (h 0)), (2, .ref q0)] := hl
  refine wl (σ := Nat × gSt) (pc := 19) (I := fun d2 st H locs ls => d2 + st.1 = n ∧ k < st.1 ∧ gRep n st.2 ∧ gPart n (fun a b o => match TF a b with | none => o = none | some st => pg_fnd TF (n - (a + 1)) (a + 1) st (fun w9 => kAll m9 wh w9 n = true) o) k st.1 st.2.1 ∧ va_P D vC (gWu z g n st.2 ++ (gW z h n ncB fSB fMB fLB ++ kW q0 m9 wh)) H ∧ va_D A (gWu z g n st.2 ++ (gW z h n ncB fSB fMB fLB ++ kW q0 m9 wh)) ∧ va_S A s.heap H locs ∧ lv_has ls 9 [(4, .int (nI st.1)), (3, .int (nI k)), (0, .ref (g 0)), (1, .ref (h 0)), (2, .ref q0)]) ?_ (n - (k + 1)) (k + 1, (T1, nc1, M1, lv1, fS1, fM1, fL1)) _ _ ls ⟨by show n - (k + 1) + (k + 1) = n; omega, by show k < k + 1; omega, hRu, gPart_i hpt, hP, hD, hS, hl⟩
  clear hP hD hS hl hRu hpt
  rintro d2 ⟨i, u⟩ H locs ls ⟨hdi, hki, hRu, hpt, hP, hD, hS, hl⟩ ih2
  obtain ⟨T1, nc1, M1, lv1, fS1, fM1, fL1⟩ := u
  have hdi : d2 + i = n := hdi
  have hki : k < i := hki
  have hpt : gPart n (fun a b o => match TF a b with | none => o = none | some st => pg_fnd TF (n - (a + 1)) (a + 1) st (fun w9 => kAll m9 wh w9 n = true) o) k i T1 := hpt
  have hP : va_P D vC (gW z g n nc1 fS1 fM1 fL1 ++ (gW z h n ncB fSB fMB fLB ++ kW q0 m9 wh)) H := hP
  have hD : va_D A (gW z g n nc1 fS1 fM1 fL1 ++ (gW z h n ncB fSB fMB fLB ++ kW q0 m9 wh)) := hD
  have hl : lv_has ls 9 [(4, .int (nI i)), (3, .int (nI k)), (0, .ref (g 0)), (1, .ref (h 0)), (2, .ref q0)] := hl
  refine lv_iload hx hb dG_gather_19 (lv_at hl 0 rfl) ?_
  refine lv_aload_n hx hb dG_gather_21 rfl (lv_at hl 2 rfl) ?_
  refine va_get (ci := 0) (C := RG) (T := TG) (N := 6) hx hb ht inG hown hK hP 0 rfl rfl 0 (by decide) (ht _ tw_103) (fun _ h9 => h9) rfl dG_gather_22 ?_
  refine lv_icmp_ge (tgt := 88) hx hb dG_gather_25 rfl (fun h3 => ?_) (fun h3 => ?_)
  · have hin : i = n := by have := (nI_leI (by omega) (by omega)).mp h3; omega
    subst hin
    refine lv_iinc (k := 1) (v := (nI (k + 1))) hx hb dG_gather_88 hl rfl (by exact nI_1 _) (by decide) rfl (fun ls hl => ?_)
    replace hl : lv_has ls 9 [(3, .int (nI (k + 1))), (4, .int (nI i)), (0, .ref (g 0)), (1, .ref (h 0)), (2, .ref q0)] := hl
    refine lv_goto (tgt := 6) hx hb dG_gather_91 rfl ?_
    exact ih (d - 1) (k + 1, (T1, nc1, M1, lv1, fS1, fM1, fL1)) _ _ ls (by omega) ⟨by show d - 1 + (k + 1) = i; omega, hRu, gPart_k hpt, hP, hD, hS, lv_sub hl [0, 2, 3, 4] rfl⟩
  have hin : i < n := by
    rw [nI_leI (by omega) (by omega)] at h3
    omega
  refine lv_aload_n hx hb dG_gather_28 rfl (lv_at hl 3 rfl) ?_
  refine lv_iload_n hx hb dG_gather_29 rfl (lv_at hl 1 rfl) ?_
  refine lv_iload hx hb dG_gather_30 (lv_at hl 0 rfl) ?_
  refine qV_l (ci := 0) (q0 := 0) (As := [.int (nI k), .int (nI i)]) (rest := []) ⟨hx, hb, hml, hown, ht⟩ (c_G_step l D z h n ncB fSB fMB fLB TF hn hTF hSF k i hk hin) (cB 2 ht gG_step rfl tw_61 tw_402 (by decide +kernel) ⟨by decide, by decide⟩) tw_404 tw_14 hK (hP.sub (ws' := gW z h n ncB fSB fMB fLB) [4, 5, 6, 7] rfl) rfl rfl rfl hl.1 rfl (Nat.le_of_ble_eq_true rfl) dG_gather_32 ⟨by decide, by decide⟩ (fun r32 h32 => ?_)
  subst h32
  refine lv_lstore hx hb dG_gather_35 hl (by decide) rfl (fun ls hl => ?_)
  replace hl : lv_has ls 9 [(5, .long (oL n (TF k i))), (4, .int (nI i)), (3, .int (nI k)), (0, .ref (g 0)), (1, .ref (h 0)), (2, .ref q0)] := hl
  refine lv_lload hx hb dG_gather_37 (lv_at hl 0 rfl) ?_
  refine W.ldc2 hx hb hown (ht _ tw_99) rfl dG_gather_39 ?_
  refine W.lcmp hx hb dG_gather_42 ?_
  refine lv_if_ne (tgt := 52) hx hb dG_gather_43 rfl (fun h4 => ?_) (fun h4 => ?_)
  · have h5 : TF k i ≠ none := fun e => h4 ((lg_cmp_eq _ _).mpr ((oL_none hTF hn).mpr e))
    obtain ⟨st, hst⟩ : ∃ st, TF k i = some st := by
      cases e : TF k i with
      | none => exact absurd e h5
      | some st => exact ⟨st, rfl⟩
    obtain ⟨-, -, -, hsP, hsf, hse⟩ := hTF.2 _ _ _ hst
    rw [hst] at hl
    have hl : lv_has ls 9 [(5, .long (eL n st)), (4, .int (nI i)), (3, .int (nI k)), (0, .ref (g 0)), (1, .ref (h 0)), (2, .ref q0)] := hl
    refine lv_aload_n hx hb dG_gather_52 rfl (lv_at hl 4 rfl) ?_
    refine lv_iload_n hx hb dG_gather_53 rfl (lv_at hl 2 rfl) ?_
    refine lv_iconst (v := 1) hx hb dG_gather_54 (by decide) ?_
    refine lv_iadd hx hb dG_gather_55 ?_
    refine wti (x' := nI (k + 1)) (nI_1 k) ?_
    refine lv_lload hx hb dG_gather_56 (lv_at hl 0 rfl) ?_
    refine lv_aload_n hx hb dG_gather_58 rfl (lv_at hl 5 rfl) ?_
    refine qVX_l (ci := 0) (q0 := 0) (As := [.int (nI (k + 1)), .long (eL n st), .ref q0]) (rest := []) ⟨hx, hb, hml, hown, ht⟩ (c_G_searchK l D z h n ncB fSB fMB fLB TF hn hTF hSF q0 m9 wh hm (n - (k + 1)) (k + 1) st (by omega) hsP) (cB 3 ht gG_search rfl tw_61 tw_516 (by decide +kernel) ⟨by show (3 + (n - (k + 1))) + 1 ≤ 18; omega, by show 8 + (10 + 11) + 40 * (3 + (n - (k + 1))) ≤ 40 * 18; omega⟩) tw_518 tw_24 hK (hP.sub (ws' := gW z h n ncB fSB fMB fLB ++ kW q0 m9 wh) [4, 5, 6, 7, 8] rfl) (fun U hU => va_Fw.moved (by decide) hU hF) rfl rfl rfl hl.1 rfl (Nat.le_of_ble_eq_true rfl) dG_gather_59 ⟨by decide, by decide⟩ (fun r59 h59 => ?_)
    obtain ⟨o, rfl, hfo, hoP⟩ := h59
    have hsp : ∀ o9, o9 = o → (fun a b o => match TF a b with | none => o = none | some st => pg_fnd TF (n - (a + 1)) (a + 1) st (fun w9 => kAll m9 wh w9 n = true) o) k i o9 := by
      rintro o9 rfl
      show match TF k i with | none => o9 = none | some st => pg_fnd TF (n - (k + 1)) (k + 1) st (fun w9 => kAll m9 wh w9 n = true) o9
      rw [hst]
      exact hfo
    refine lv_lstore hx hb dG_gather_62 hl (by decide) rfl (fun ls hl => ?_)
    replace hl : lv_has ls 9 [(7, .long (oL n o)), (5, .long (eL n st)), (4, .int (nI i)), (3, .int (nI k)), (0, .ref (g 0)), (1, .ref (h 0)), (2, .ref q0)] := hl
    refine lv_lload hx hb dG_gather_64 (lv_at hl 0 rfl) ?_
    refine W.ldc2 hx hb hown (ht _ tw_99) rfl dG_gather_66 ?_
    refine W.lcmp hx hb dG_gather_69 ?_
    refine lv_if_eq (tgt := 82) hx hb dG_gather_70 rfl (fun h70 => ?_) (fun h70 => ?_)
    · have ho : o = none := by
        cases o with
        | none => rfl
        | some y9 => exact absurd ((lg_cmp_eq _ _).mp h70) (eL_ne hn ((hoP y9 rfl).d4 (by omega)))
      subst ho
      refine lv_iinc (k := 2) (v := (nI (i + 1))) hx hb dG_gather_82 hl rfl (by exact nI_1 _) (by decide) rfl (fun ls hl => ?_)
      replace hl : lv_has ls 9 [(4, .int (nI (i + 1))), (7, .long (oL n none)), (5, .long (eL n st)), (3, .int (nI k)), (0, .ref (g 0)), (1, .ref (h 0)), (2, .ref q0)] := hl
      refine lv_goto (tgt := 19) hx hb dG_gather_85 rfl ?_
      exact ih2 (d2 - 1) (i + 1, (T1, nc1, M1, lv1, fS1, fM1, fL1)) _ _ ls (by omega) ⟨by show d2 - 1 + (i + 1) = n; omega, by show k < i + 1; omega, hRu, gPart_none hpt hki hin (hsp none rfl), hP, hD, hS, lv_sub hl [0, 3, 4, 5, 6] rfl⟩
    obtain ⟨y9, rfl⟩ : ∃ y9, o = some y9 := by
      cases o with
      | none => exact absurd ((lg_cmp_eq _ _).mpr rfl) h70
      | some y9 => exact ⟨y9, rfl⟩
    have hl : lv_has ls 9 [(7, .long (eL n y9)), (5, .long (eL n st)), (4, .int (nI i)), (3, .int (nI k)), (0, .ref (g 0)), (1, .ref (h 0)), (2, .ref q0)] := hl
    have hfr := gPart_free hpt hki hin
    have hroom := pg_mk_free (show pg_mk n T1 nc1 M1 lv1 from hRu.2.1) (by omega) hki hin hfr
    have hy : (∀ j, j < k → y9 j = j) ∧ y9 k = i := by
      obtain ⟨w9, hw, e9, -⟩ := hfo
      obtain ⟨-, f2⟩ := pg_In.fix hTF _ _ w9 hw
      rw [e9]
      refine ⟨fun j hj => ?_, ?_⟩
      · show st (w9 j) = j
        rw [f2 j (by omega), hsf j hj]
      · show st (w9 k) = i
        rw [f2 k (by omega), hse]
    refine lv_aload_n hx hb dG_gather_73 rfl (lv_at hl 4 rfl) ?_
    refine lv_iload_n hx hb dG_gather_74 rfl (lv_at hl 3 rfl) ?_
    refine lv_iload hx hb dG_gather_75 (lv_at hl 2 rfl) ?_
    refine lv_lload hx hb dG_gather_77 (lv_at hl 0 rfl) ?_
    refine qW_v (ci := 0) (q0 := 0) (wr := gW z h n ncB fSB fMB fLB ++ kW q0 m9 wh) (As := [.int (nI k), .int (nI i), .long (eL n y9)]) (rest := []) ⟨hx, hb, hml, hown, ht⟩ (c_G_putStep l D z g H.size n nc1 fS1 fM1 fL1 hn k i (eL n y9) hki hin hroom) (cB 3 ht gG_putStep rfl tw_61 tw_406 (by decide +kernel) ⟨by decide, by decide⟩) tw_408 tw_15 hK hP hD hS hA [0, 1, 2, 3] [4, 5, 6, 7, 8] rfl rfl rfl rfl (by decide) rfl rfl rfl rfl hl.1 rfl (Nat.le_of_ble_eq_true rfl) dG_gather_79 ⟨by decide, by decide⟩ (fun u79 H locs h79 hP hD hS => ?_)
    have hP := hP.sub (ws' := gWu z g n (gPut n (T1, nc1, M1, lv1, fS1, fM1, fL1) k i y9) ++ (gW z h n ncB fSB fMB fLB ++ kW q0 m9 wh)) [5, 6, 7, 8, 0, 1, 2, 3, 4] rfl
    have hD := hD.sub (ws' := gWu z g n (gPut n (T1, nc1, M1, lv1, fS1, fM1, fL1) k i y9) ++ (gW z h n ncB fSB fMB fLB ++ kW q0 m9 wh)) [5, 6, 7, 8, 0, 1, 2, 3, 4] (by decide) rfl
    refine lv_iinc (k := 2) (v := (nI (i + 1))) hx hb dG_gather_82 hl rfl (by exact nI_1 _) (by decide) rfl (fun ls hl => ?_)
    replace hl : lv_has ls 9 [(4, .int (nI (i + 1))), (7, .long (eL n y9)), (5, .long (eL n st)), (3, .int (nI k)), (0, .ref (g 0)), (1, .ref (h 0)), (2, .ref q0)] := hl
    refine lv_goto (tgt := 19) hx hb dG_gather_85 rfl ?_
    exact ih2 (d2 - 1) (i + 1, gPut n (T1, nc1, M1, lv1, fS1, fM1, fL1) k i y9) _ _ ls (by omega) ⟨by show d2 - 1 + (i + 1) = n; omega, by show k < i + 1; omega, gPut_rep hRu hki hin hfr (hoP y9 rfl) hy.1 hy.2, gPart_some hpt hki hin (hsp (some y9) rfl), hP, hD, hS, lv_sub hl [0, 3, 4, 5, 6] rfl⟩
  · have h5 := (oL_none hTF hn).mp ((lg_cmp_eq _ _).mp h4)
    refine W.ldc2 hx hb hown (ht _ tw_99) rfl dG_gather_46 ?_
    refine lv_goto (tgt := 62) hx hb dG_gather_49 rfl ?_
    refine lv_lstore hx hb dG_gather_62 hl (by decide) rfl (fun ls hl => ?_)
    replace hl : lv_has ls 9 [(7, .long (-1)), (5, .long (oL n (TF k i))), (4, .int (nI i)), (3, .int (nI k)), (0, .ref (g 0)), (1, .ref (h 0)), (2, .ref q0)] := hl
    refine lv_lload hx hb dG_gather_64 (lv_at hl 0 rfl) ?_
    refine W.ldc2 hx hb hown (ht _ tw_99) rfl dG_gather_66 ?_
    refine W.lcmp hx hb dG_gather_69 ?_
    refine lv_if_eq (tgt := 82) hx hb dG_gather_70 rfl (fun h70 => ?_) (fun h70 => ?_)
    · have hsp : (fun a b o => match TF a b with | none => o = none | some st => pg_fnd TF (n - (a + 1)) (a + 1) st (fun w9 => kAll m9 wh w9 n = true) o) k i none := by
        show match TF k i with | none => none = none | some st => pg_fnd TF (n - (k + 1)) (k + 1) st (fun w9 => kAll m9 wh w9 n = true) none
        rw [h5]
      refine lv_iinc (k := 2) (v := (nI (i + 1))) hx hb dG_gather_82 hl rfl (by exact nI_1 _) (by decide) rfl (fun ls hl => ?_)
      replace hl : lv_has ls 9 [(4, .int (nI (i + 1))), (7, .long (-1)), (5, .long (oL n (TF k i))), (3, .int (nI k)), (0, .ref (g 0)), (1, .ref (h 0)), (2, .ref q0)] := hl
      refine lv_goto (tgt := 19) hx hb dG_gather_85 rfl ?_
      exact ih2 (d2 - 1) (i + 1, (T1, nc1, M1, lv1, fS1, fM1, fL1)) _ _ ls (by omega) ⟨by show d2 - 1 + (i + 1) = n; omega, by show k < i + 1; omega, hRu, gPart_none hpt hki hin hsp, hP, hD, hS, lv_sub hl [0, 3, 4, 5, 6] rfl⟩
    exact absurd ((lg_cmp_eq _ _).mpr rfl) h70
set_option maxHeartbeats 2000000 in
set_option maxRecDepth 100000 in
/-- gather: the elements of another group that meet the condition -/
theorem c_G_gatherC (l : Launch) (D : va_G) (z : Nat → ClassId) (g h : Nat → Nat) (sz n nc : Nat) (fS fM : Nat → Int64) (fL : Nat → Int32) (TF : pg_T) (ncB : Nat) (MB : Nat → pg_F) (lvB : Nat → Nat) (fSB fMB : Nat → Int64) (fLB : Nat → Int32) (hn : n ≤ 14) (q0 : Nat) (y : pg_F) (hyP : pg_P n y) (G : pg_F → Prop) (hGB : gGp n (TF, ncB, MB, lvB, fSB, fMB, fLB) G)  : Met l yG_gather wG_gather (rmF 18) (va_Pc [.ref (g 0), .ref (h 0), .ref q0] (fun U => (U.heap.size = sz ∧ va_P D vC (gW z g n nc fS fM fL ++ (gW z h n ncB fSB fMB fLB ++ cmW q0 n y)) U.heap ∧ va_K D vC (tyL z) U ∧ va_D (fun _ => True) (gW z g n nc fS fM fL ++ (gW z h n ncB fSB fMB fLB ++ cmW q0 n y))) ∧ va_Fw "PermutationDesk$CommutesWith" yI_allows yC_allows U)) (va_Qv (fun u => gGp n u (fun w9 => G w9 ∧ pg_mul w9 y = pg_mul y w9)) (fun u t => va_P D vC (gWu z g n u ++ (gW z h n ncB fSB fMB fLB ++ cmW q0 n y)) t.heap ∧ va_D (va_A (gW z g n nc fS fM fL ++ (gW z h n ncB fSB fMB fLB ++ cmW q0 n y)) sz) (gWu z g n u ++ (gW z h n ncB fSB fMB fLB ++ cmW q0 n y))) (va_A (gW z g n nc fS fM fL ++ (gW z h n ncB fSB fMB fLB ++ cmW q0 n y)) sz)) 0 0 (va_A (gW z g n nc fS fM fL ++ (gW z h n ncB fSB fMB fLB ++ cmW q0 n y)) sz) := by
  have hTF : pg_ok n TF := hGB.1.1
  have hSF : gS n TF fSB := hGB.1.2.2.1
  have hIF : pg_In TF n 0 = G := hGB.2.2
  refine Met.ofW (cc := prog_5_method_13_code) (maxL := 9) (ret := none) (by decide) rfl ?_
  intro p e s m args below meth c s₁ B hml hv
  have hx := B.exec
  have hb := B.bytes
  have hr := B.returns
  have ht : ∀ w ∈ TB, w.before args s = true := fun w h => atoms_spec (ws := wG_gather) B.pre w (List.mem_cons_of_mem _ h)
  have hown : s.vm.findClass "PermutationDesk$Group" = some m.cls := findClass_of_methodNamed B.named
  have hlocks := B.notSynchronized
  obtain ⟨rfl, ⟨hsz, hP, hK, hD0⟩, hF⟩ := hv
  subst hsz
  have hD := hD0.self (sz := s.heap.size)
  generalize hAe : va_A (gW z g n nc fS fM fL ++ (gW z h n ncB fSB fMB fLB ++ cmW q0 n y)) s.heap.size = A at hD ⊢
  have hA : ∀ q : Nat, s.heap.size ≤ q → A q := fun q h => by rw [← hAe]; exact Or.inr h
  have hS : va_S A s.heap s.heap [] := va_S.rf
  have hl := lv_entry ([.ref (g 0), .ref (h 0), .ref q0]) (n := 9) (Nat.le_of_ble_eq_true rfl)
  rw [lg_entry_eq]
  generalize (lg_sl ([.ref (g 0), .ref (h 0), .ref q0]) ++ List.replicate (9 - (lg_sl ([.ref (g 0), .ref (h 0), .ref q0])).length) Slot.unset).toArray = ls at hl ⊢
  have hl : lv_has ls 9 [(0, .ref (g 0)), (1, .ref (h 0)), (2, .ref q0)] := hl
  refine lv_aload_n hx hb dG_gather_0 rfl (lv_at hl 0 rfl) ?_
  refine qW_v (ci := 0) (q0 := 0) (wr := gW z h n ncB fSB fMB fLB ++ cmW q0 n y) (As := []) (rest := []) ⟨hx, hb, hml, hown, ht⟩ (c_G_clear l D z g s.heap.size n nc fS fM fL hn) (cB 0 ht gG_clear rfl tw_61 tw_95 (by decide +kernel) ⟨by decide, by decide⟩) tw_96 tw_97 hK hP hD hS hA [0, 1, 2, 3] [4, 5, 6, 7, 8] rfl rfl rfl rfl (by decide) rfl rfl rfl rfl hl.1 rfl (Nat.le_of_ble_eq_true rfl) dG_gather_1 ⟨by decide, by decide⟩ (fun u1 H locs h1 hP hD hS => ?_)
  obtain ⟨hR1, hT1, hc1⟩ := h1
  have hP := hP.sub (ws' := gWu z g n u1 ++ (gW z h n ncB fSB fMB fLB ++ cmW q0 n y)) [5, 6, 7, 8, 0, 1, 2, 3, 4] rfl
  have hD := hD.sub (ws' := gWu z g n u1 ++ (gW z h n ncB fSB fMB fLB ++ cmW q0 n y)) [5, 6, 7, 8, 0, 1, 2, 3, 4] (by decide) rfl
  refine lv_iconst (v := 0) hx hb dG_gather_4 (by decide) ?_
  refine lv_istore_n hx hb dG_gather_5 rfl hl (by decide) rfl (fun ls hl => ?_)
  replace hl : lv_has ls 9 [(3, .int (nI 0)), (0, .ref (g 0)), (1, .ref (h 0)), (2, .ref q0)] := hl
  refine wl (σ := Nat × gSt) (I := fun d st H locs ls => d + st.1 = n ∧ gRep n st.2 ∧ gPart n (fun a b o => match TF a b with | none => o = none | some st => pg_fnd TF (n - (a + 1)) (a + 1) st (fun w9 => pg_mul w9 y = pg_mul y w9) o) st.1 0 st.2.1 ∧ va_P D vC (gWu z g n st.2 ++ (gW z h n ncB fSB fMB fLB ++ cmW q0 n y)) H ∧ va_D A (gWu z g n st.2 ++ (gW z h n ncB fSB fMB fLB ++ cmW q0 n y)) ∧ va_S A s.heap H locs ∧ lv_has ls 9 [(3, .int (nI st.1)), (0, .ref (g 0)), (1, .ref (h 0)), (2, .ref q0)]) ?_ n (0, u1) _ _ ls ⟨rfl, hR1.1, by show gPart n _ 0 0 u1.1; rw [hT1]; exact gPart_0 n _, hP, hD, hS, hl⟩
  clear hP hD hS hl hR1 hT1 hc1
  rintro d ⟨k, u⟩ H locs ls ⟨hdk, hRu, hpt, hP, hD, hS, hl⟩ ih
  obtain ⟨T1, nc1, M1, lv1, fS1, fM1, fL1⟩ := u
  have hdk : d + k = n := hdk
  have hpt : gPart n (fun a b o => match TF a b with | none => o = none | some st => pg_fnd TF (n - (a + 1)) (a + 1) st (fun w9 => pg_mul w9 y = pg_mul y w9) o) k 0 T1 := hpt
  have hP : va_P D vC (gW z g n nc1 fS1 fM1 fL1 ++ (gW z h n ncB fSB fMB fLB ++ cmW q0 n y)) H := hP
  have hD : va_D A (gW z g n nc1 fS1 fM1 fL1 ++ (gW z h n ncB fSB fMB fLB ++ cmW q0 n y)) := hD
  have hl : lv_has ls 9 [(3, .int (nI k)), (0, .ref (g 0)), (1, .ref (h 0)), (2, .ref q0)] := hl
  refine lv_iload_n hx hb dG_gather_6 rfl (lv_at hl 0 rfl) ?_
  refine lv_aload_n hx hb dG_gather_7 rfl (lv_at hl 1 rfl) ?_
  refine va_get (ci := 0) (C := RG) (T := TG) (N := 6) hx hb ht inG hown hK hP 0 rfl rfl 0 (by decide) (ht _ tw_103) (fun _ h9 => h9) rfl dG_gather_8 ?_
  refine lv_icmp_ge (tgt := 94) hx hb dG_gather_11 rfl (fun h2 => ?_) (fun h2 => ?_)
  · have hk : n = k := by have := (nI_leI (by omega) (by omega)).mp h2; omega
    subst hk
    have hga := pg_gather (C := fun w9 => pg_mul w9 y = pg_mul y w9) hTF hGB.2.1 hIF (cAll_G hGB.2.1) hpt.1 hpt.2.1 (fun a b h5 h6 => hpt.2.2.1 a b h5 h6 (Or.inl (by omega)))
    exact W.vret hx hb hr (fun t ht hW => ⟨⟨(T1, nc1, M1, lv1, fS1, fM1, fL1), rfl, ⟨hRu, cAll_G hGB.2.1, hga.2⟩, by rw [ht]; exact hP, hD⟩, hS.F ht⟩) hS.2.2 dG_gather_94
  have hk : k < n := by
    rw [nI_leI (by omega) (by omega)] at h2
    omega
  refine lv_iload_n hx hb dG_gather_14 rfl (lv_at hl 0 rfl) ?_
  refine lv_iconst (v := 1) hx hb dG_gather_15 (by decide) ?_
  refine lv_iadd hx hb dG_gather_16 ?_
  refine wti (x' := nI (k + 1)) (nI_1 k) ?_
  refine lv_istore hx hb dG_gather_17 hl (by decide) rfl (fun ls hl => ?_)
  replace hl : lv_has ls 9 [(4, .int (nI (k + 1))), (3, .int (nI k)), (0, .ref (g 0)), (1, .ref (h 0)), (2, .ref q0)] := hl
  refine wl (σ := Nat × gSt) (pc := 19) (I := fun d2 st H locs ls => d2 + st.1 = n ∧ k < st.1 ∧ gRep n st.2 ∧ gPart n (fun a b o => match TF a b with | none => o = none | some st => pg_fnd TF (n - (a + 1)) (a + 1) st (fun w9 => pg_mul w9 y = pg_mul y w9) o) k st.1 st.2.1 ∧ va_P D vC (gWu z g n st.2 ++ (gW z h n ncB fSB fMB fLB ++ cmW q0 n y)) H ∧ va_D A (gWu z g n st.2 ++ (gW z h n ncB fSB fMB fLB ++ cmW q0 n y)) ∧ va_S A s.heap H locs ∧ lv_has ls 9 [(4, .int (nI st.1)), (3, .int (nI k)), (0, .ref (g 0)), (1, .ref (h 0)), (2, .ref q0)]) ?_ (n - (k + 1)) (k + 1, (T1, nc1, M1, lv1, fS1, fM1, fL1)) _ _ ls ⟨by show n - (k + 1) + (k + 1) = n; omega, by show k < k + 1; omega, hRu, gPart_i hpt, hP, hD, hS, hl⟩
  clear hP hD hS hl hRu hpt
  rintro d2 ⟨i, u⟩ H locs ls ⟨hdi, hki, hRu, hpt, hP, hD, hS, hl⟩ ih2
  obtain ⟨T1, nc1, M1, lv1, fS1, fM1, fL1⟩ := u
  have hdi : d2 + i = n := hdi
  have hki : k < i := hki
  have hpt : gPart n (fun a b o => match TF a b with | none => o = none | some st => pg_fnd TF (n - (a + 1)) (a + 1) st (fun w9 => pg_mul w9 y = pg_mul y w9) o) k i T1 := hpt
  have hP : va_P D vC (gW z g n nc1 fS1 fM1 fL1 ++ (gW z h n ncB fSB fMB fLB ++ cmW q0 n y)) H := hP
  have hD : va_D A (gW z g n nc1 fS1 fM1 fL1 ++ (gW z h n ncB fSB fMB fLB ++ cmW q0 n y)) := hD
  have hl : lv_has ls 9 [(4, .int (nI i)), (3, .int (nI k)), (0, .ref (g 0)), (1, .ref (h 0)), (2, .ref q0)] := hl
  refine lv_iload hx hb dG_gather_19 (lv_at hl 0 rfl) ?_
  refine lv_aload_n hx hb dG_gather_21 rfl (lv_at hl 2 rfl) ?_
  refine va_get (ci := 0) (C := RG) (T := TG) (N := 6) hx hb ht inG hown hK hP 0 rfl rfl 0 (by decide) (ht _ tw_103) (fun _ h9 => h9) rfl dG_gather_22 ?_
  refine lv_icmp_ge (tgt := 88) hx hb dG_gather_25 rfl (fun h3 => ?_) (fun h3 => ?_)
  · have hin : i = n := by have := (nI_leI (by omega) (by omega)).mp h3; omega
    subst hin
    refine lv_iinc (k := 1) (v := (nI (k + 1))) hx hb dG_gather_88 hl rfl (by exact nI_1 _) (by decide) rfl (fun ls hl => ?_)
    replace hl : lv_has ls 9 [(3, .int (nI (k + 1))), (4, .int (nI i)), (0, .ref (g 0)), (1, .ref (h 0)), (2, .ref q0)] := hl
    refine lv_goto (tgt := 6) hx hb dG_gather_91 rfl ?_
    exact ih (d - 1) (k + 1, (T1, nc1, M1, lv1, fS1, fM1, fL1)) _ _ ls (by omega) ⟨by show d - 1 + (k + 1) = i; omega, hRu, gPart_k hpt, hP, hD, hS, lv_sub hl [0, 2, 3, 4] rfl⟩
  have hin : i < n := by
    rw [nI_leI (by omega) (by omega)] at h3
    omega
  refine lv_aload_n hx hb dG_gather_28 rfl (lv_at hl 3 rfl) ?_
  refine lv_iload_n hx hb dG_gather_29 rfl (lv_at hl 1 rfl) ?_
  refine lv_iload hx hb dG_gather_30 (lv_at hl 0 rfl) ?_
  refine qV_l (ci := 0) (q0 := 0) (As := [.int (nI k), .int (nI i)]) (rest := []) ⟨hx, hb, hml, hown, ht⟩ (c_G_step l D z h n ncB fSB fMB fLB TF hn hTF hSF k i hk hin) (cB 2 ht gG_step rfl tw_61 tw_402 (by decide +kernel) ⟨by decide, by decide⟩) tw_404 tw_14 hK (hP.sub (ws' := gW z h n ncB fSB fMB fLB) [4, 5, 6, 7] rfl) rfl rfl rfl hl.1 rfl (Nat.le_of_ble_eq_true rfl) dG_gather_32 ⟨by decide, by decide⟩ (fun r32 h32 => ?_)
  subst h32
  refine lv_lstore hx hb dG_gather_35 hl (by decide) rfl (fun ls hl => ?_)
  replace hl : lv_has ls 9 [(5, .long (oL n (TF k i))), (4, .int (nI i)), (3, .int (nI k)), (0, .ref (g 0)), (1, .ref (h 0)), (2, .ref q0)] := hl
  refine lv_lload hx hb dG_gather_37 (lv_at hl 0 rfl) ?_
  refine W.ldc2 hx hb hown (ht _ tw_99) rfl dG_gather_39 ?_
  refine W.lcmp hx hb dG_gather_42 ?_
  refine lv_if_ne (tgt := 52) hx hb dG_gather_43 rfl (fun h4 => ?_) (fun h4 => ?_)
  · have h5 : TF k i ≠ none := fun e => h4 ((lg_cmp_eq _ _).mpr ((oL_none hTF hn).mpr e))
    obtain ⟨st, hst⟩ : ∃ st, TF k i = some st := by
      cases e : TF k i with
      | none => exact absurd e h5
      | some st => exact ⟨st, rfl⟩
    obtain ⟨-, -, -, hsP, hsf, hse⟩ := hTF.2 _ _ _ hst
    rw [hst] at hl
    have hl : lv_has ls 9 [(5, .long (eL n st)), (4, .int (nI i)), (3, .int (nI k)), (0, .ref (g 0)), (1, .ref (h 0)), (2, .ref q0)] := hl
    refine lv_aload_n hx hb dG_gather_52 rfl (lv_at hl 4 rfl) ?_
    refine lv_iload_n hx hb dG_gather_53 rfl (lv_at hl 2 rfl) ?_
    refine lv_iconst (v := 1) hx hb dG_gather_54 (by decide) ?_
    refine lv_iadd hx hb dG_gather_55 ?_
    refine wti (x' := nI (k + 1)) (nI_1 k) ?_
    refine lv_lload hx hb dG_gather_56 (lv_at hl 0 rfl) ?_
    refine lv_aload_n hx hb dG_gather_58 rfl (lv_at hl 5 rfl) ?_
    refine qVX_l (ci := 0) (q0 := 0) (As := [.int (nI (k + 1)), .long (eL n st), .ref q0]) (rest := []) ⟨hx, hb, hml, hown, ht⟩ (c_G_searchC l D z h n ncB fSB fMB fLB TF hn hTF hSF q0 y hyP (n - (k + 1)) (k + 1) st (by omega) hsP) (cB 3 ht gG_search rfl tw_61 tw_516 (by decide +kernel) ⟨by show (3 + (n - (k + 1))) + 1 ≤ 18; omega, by show 8 + (10 + 11) + 40 * (3 + (n - (k + 1))) ≤ 40 * 18; omega⟩) tw_518 tw_24 hK (hP.sub (ws' := gW z h n ncB fSB fMB fLB ++ cmW q0 n y) [4, 5, 6, 7, 8] rfl) (fun U hU => va_Fw.moved (by decide) hU hF) rfl rfl rfl hl.1 rfl (Nat.le_of_ble_eq_true rfl) dG_gather_59 ⟨by decide, by decide⟩ (fun r59 h59 => ?_)
    obtain ⟨o, rfl, hfo, hoP⟩ := h59
    have hsp : ∀ o9, o9 = o → (fun a b o => match TF a b with | none => o = none | some st => pg_fnd TF (n - (a + 1)) (a + 1) st (fun w9 => pg_mul w9 y = pg_mul y w9) o) k i o9 := by
      rintro o9 rfl
      show match TF k i with | none => o9 = none | some st => pg_fnd TF (n - (k + 1)) (k + 1) st (fun w9 => pg_mul w9 y = pg_mul y w9) o9
      rw [hst]
      exact hfo
    refine lv_lstore hx hb dG_gather_62 hl (by decide) rfl (fun ls hl => ?_)
    replace hl : lv_has ls 9 [(7, .long (oL n o)), (5, .long (eL n st)), (4, .int (nI i)), (3, .int (nI k)), (0, .ref (g 0)), (1, .ref (h 0)), (2, .ref q0)] := hl
    refine lv_lload hx hb dG_gather_64 (lv_at hl 0 rfl) ?_
    refine W.ldc2 hx hb hown (ht _ tw_99) rfl dG_gather_66 ?_
    refine W.lcmp hx hb dG_gather_69 ?_
    refine lv_if_eq (tgt := 82) hx hb dG_gather_70 rfl (fun h70 => ?_) (fun h70 => ?_)
    · have ho : o = none := by
        cases o with
        | none => rfl
        | some y9 => exact absurd ((lg_cmp_eq _ _).mp h70) (eL_ne hn ((hoP y9 rfl).d4 (by omega)))
      subst ho
      refine lv_iinc (k := 2) (v := (nI (i + 1))) hx hb dG_gather_82 hl rfl (by exact nI_1 _) (by decide) rfl (fun ls hl => ?_)
      replace hl : lv_has ls 9 [(4, .int (nI (i + 1))), (7, .long (oL n none)), (5, .long (eL n st)), (3, .int (nI k)), (0, .ref (g 0)), (1, .ref (h 0)), (2, .ref q0)] := hl
      refine lv_goto (tgt := 19) hx hb dG_gather_85 rfl ?_
      exact ih2 (d2 - 1) (i + 1, (T1, nc1, M1, lv1, fS1, fM1, fL1)) _ _ ls (by omega) ⟨by show d2 - 1 + (i + 1) = n; omega, by show k < i + 1; omega, hRu, gPart_none hpt hki hin (hsp none rfl), hP, hD, hS, lv_sub hl [0, 3, 4, 5, 6] rfl⟩
    obtain ⟨y9, rfl⟩ : ∃ y9, o = some y9 := by
      cases o with
      | none => exact absurd ((lg_cmp_eq _ _).mpr rfl) h70
      | some y9 => exact ⟨y9, rfl⟩
    have hl : lv_has ls 9 [(7, .long (eL n y9)), (5, .long (eL n st)), (4, .int (nI i)), (3, .int (nI k)), (0, .ref (g 0)), (1, .ref (h 0)), (2, .ref q0)] := hl
    have hfr := gPart_free hpt hki hin
    have hroom := pg_mk_free (show pg_mk n T1 nc1 M1 lv1 from hRu.2.1) (by omega) hki hin hfr
    have hy : (∀ j, j < k → y9 j = j) ∧ y9 k = i := by
      obtain ⟨w9, hw, e9, -⟩ := hfo
      obtain ⟨-, f2⟩ := pg_In.fix hTF _ _ w9 hw
      rw [e9]
      refine ⟨fun j hj => ?_, ?_⟩
      · show st (w9 j) = j
        rw [f2 j (by omega), hsf j hj]
      · show st (w9 k) = i
        rw [f2 k (by omega), hse]
    refine lv_aload_n hx hb dG_gather_73 rfl (lv_at hl 4 rfl) ?_
    refine lv_iload_n hx hb dG_gather_74 rfl (lv_at hl 3 rfl) ?_
    refine lv_iload hx hb dG_gather_75 (lv_at hl 2 rfl) ?_
    refine lv_lload hx hb dG_gather_77 (lv_at hl 0 rfl) ?_
    refine qW_v (ci := 0) (q0 := 0) (wr := gW z h n ncB fSB fMB fLB ++ cmW q0 n y) (As := [.int (nI k), .int (nI i), .long (eL n y9)]) (rest := []) ⟨hx, hb, hml, hown, ht⟩ (c_G_putStep l D z g H.size n nc1 fS1 fM1 fL1 hn k i (eL n y9) hki hin hroom) (cB 3 ht gG_putStep rfl tw_61 tw_406 (by decide +kernel) ⟨by decide, by decide⟩) tw_408 tw_15 hK hP hD hS hA [0, 1, 2, 3] [4, 5, 6, 7, 8] rfl rfl rfl rfl (by decide) rfl rfl rfl rfl hl.1 rfl (Nat.le_of_ble_eq_true rfl) dG_gather_79 ⟨by decide, by decide⟩ (fun u79 H locs h79 hP hD hS => ?_)
    have hP := hP.sub (ws' := gWu z g n (gPut n (T1, nc1, M1, lv1, fS1, fM1, fL1) k i y9) ++ (gW z h n ncB fSB fMB fLB ++ cmW q0 n y)) [5, 6, 7, 8, 0, 1, 2, 3, 4] rfl
    have hD := hD.sub (ws' := gWu z g n (gPut n (T1, nc1, M1, lv1, fS1, fM1, fL1) k i y9) ++ (gW z h n ncB fSB fMB fLB ++ cmW q0 n y)) [5, 6, 7, 8, 0, 1, 2, 3, 4] (by decide) rfl
    refine lv_iinc (k := 2) (v := (nI (i + 1))) hx hb dG_gather_82 hl rfl (by exact nI_1 _) (by decide) rfl (fun ls hl => ?_)
    replace hl : lv_has ls 9 [(4, .int (nI (i + 1))), (7, .long (eL n y9)), (5, .long (eL n st)), (3, .int (nI k)), (0, .ref (g 0)), (1, .ref (h 0)), (2, .ref q0)] := hl
    refine lv_goto (tgt := 19) hx hb dG_gather_85 rfl ?_
    exact ih2 (d2 - 1) (i + 1, gPut n (T1, nc1, M1, lv1, fS1, fM1, fL1) k i y9) _ _ ls (by omega) ⟨by show d2 - 1 + (i + 1) = n; omega, by show k < i + 1; omega, gPut_rep hRu hki hin hfr (hoP y9 rfl) hy.1 hy.2, gPart_some hpt hki hin (hsp (some y9) rfl), hP, hD, hS, lv_sub hl [0, 3, 4, 5, 6] rfl⟩
  · have h5 := (oL_none hTF hn).mp ((lg_cmp_eq _ _).mp h4)
    refine W.ldc2 hx hb hown (ht _ tw_99) rfl dG_gather_46 ?_
    refine lv_goto (tgt := 62) hx hb dG_gather_49 rfl ?_
    refine lv_lstore hx hb dG_gather_62 hl (by decide) rfl (fun ls hl => ?_)
    replace hl : lv_has ls 9 [(7, .long (-1)), (5, .long (oL n (TF k i))), (4, .int (nI i)), (3, .int (nI k)), (0, .ref (g 0)), (1, .ref (h 0)), (2, .ref q0)] := hl
    refine lv_lload hx hb dG_gather_64 (lv_at hl 0 rfl) ?_
    refine W.ldc2 hx hb hown (ht _ tw_99) rfl dG_gather_66 ?_
    refine W.lcmp hx hb dG_gather_69 ?_
    refine lv_if_eq (tgt := 82) hx hb dG_gather_70 rfl (fun h70 => ?_) (fun h70 => ?_)
    · have hsp : (fun a b o => match TF a b with | none => o = none | some st => pg_fnd TF (n - (a + 1)) (a + 1) st (fun w9 => pg_mul w9 y = pg_mul y w9) o) k i none := by
        show match TF k i with | none => none = none | some st => pg_fnd TF (n - (k + 1)) (k + 1) st (fun w9 => pg_mul w9 y = pg_mul y w9) none
        rw [h5]
      refine lv_iinc (k := 2) (v := (nI (i + 1))) hx hb dG_gather_82 hl rfl (by exact nI_1 _) (by decide) rfl (fun ls hl => ?_)
      replace hl : lv_has ls 9 [(4, .int (nI (i + 1))), (7, .long (-1)), (5, .long (oL n (TF k i))), (3, .int (nI k)), (0, .ref (g 0)), (1, .ref (h 0)), (2, .ref q0)] := hl
      refine lv_goto (tgt := 19) hx hb dG_gather_85 rfl ?_
      exact ih2 (d2 - 1) (i + 1, (T1, nc1, M1, lv1, fS1, fM1, fL1)) _ _ ls (by omega) ⟨by show d2 - 1 + (i + 1) = n; omega, by show k < i + 1; omega, hRu, gPart_none hpt hki hin hsp, hP, hD, hS, lv_sub hl [0, 3, 4, 5, 6] rfl⟩
    exact absurd ((lg_cmp_eq _ _).mpr rfl) h70
