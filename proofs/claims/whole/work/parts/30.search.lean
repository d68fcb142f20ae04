/-! Group: search, through the interface; gather. -/
abbrev yI_allows : MethodName := ⟨"PermutationDesk$Condition", "allows", "(JI)Z"⟩
section QF
variable {p : Program} {l : Launch} {e : Env} {R : Room} {s : State} {m : MethodId} {args : Array Value} {below : List Frame} {meth : Method} {c : Code} {H : Heap} {locs : List Loc} {cells slots : Nat} {Q : State → Prop}
variable {cc bytes : ByteArray} {nL maxL index n mc ms count : Nat} {own C : String} {x y : MethodName} {ret : Option FieldType} {rm : Room} {ws ws' : List Cond}
variable {pc : Nat} {ls : Array Slot} {rest st0 As : List Value} {b q0 ci : Nat} {fs : List Value} {D : va_G} {ty : List (ClassId × FieldType)} {cw : va_W} {r : vw_C}
theorem cF (n : Nat) (ht : ∀ w ∈ TB, w.before args s = true) (hG : GoodIn TB ws) (hw : ws = Cond.code y bytes maxL ret :: ws') (h1 : Cond.methodLink own index x ∈ TB) (h2 : Cond.selects C x y ∈ TB) (h3 : Cond.instanceMethod y ∈ TB) (h4 : Cond.initialized y.cls ∈ TB) (hF : va_Fw C x y s)
    (hd : x.cls ≠ "java/lang/invoke/MethodHandle" ∧ x.cls ≠ "java/lang/invoke/VarHandle" ∧ (parseMethodDescriptor x.desc).map (fun d => d.parameters.length) = some n) (hR : rm.frames + 1 ≤ R.frames ∧ 8 + (maxL + 11) + rm.locals ≤ R.locals) : va_CI R s args own C index x y bytes maxL ret ws rm rm.cells rm.slots n :=
  va_cwF n ht (tb_c h1 (tb_c h2 (tb_c h3 (tb_c h4 hG)))) hw rfl rfl hF hd hR
/-- through an interface, a method that only reads -/
theorem qF_i {post : Int32 → Prop} (S : CallFix p m c cc nL s args TB own) (hF : va_Fw r.1 x y s) (hM : Met l y ws rm (va_Pc (.ref b :: As) (fun U => va_P D vC cw U.heap ∧ va_K D vC ty U)) (vp_Si post) 0 0 (fun _ => False)) (cI : va_CI R s args own r.1 index x y bytes maxL ret ws rm 0 0 n)
    (hK : va_K D vC ty s) (hP : va_P D vC cw H) (hc : vC[ci]? = some r) (he : cw[q0]? = some (b, .inr (ci, fs)))
    (hn : As.length = n) (hsize : ls.size = nL) (hstack : st0 = As.reverse ++ .ref b :: rest) (hW : (rest.map fun v => v.category).sum ≤ 8) (hdg : decode cc pc = .ok (.invokeinterface index count, 5)) (hf : cells ≤ R.cells ∧ slots ≤ R.slots)
    (kk : ∀ v : Int32, post v → W p l e R s m args below meth c H locs cells slots Q (F0 m (pc + 5) ls (.int v :: rest))) : W p l e R s m args below meth c H locs cells slots Q (F0 m pc ls st0) :=
  va_csFi (va_runF (C := r.1) (cC := D.1 ci) (As := As) (rest := rest) (hK.1 ci r hc).2 S hM cI ⟨fb_world, va_recv hK hP hc he, fun U hU hW => ⟨rfl, by rw [hU]; exact hP, va_K.moved hW.alike hK⟩⟩ rfl hn hsize hstack (lv_room hW) hdg hf) kk
/-- a method that only reads and wants one thing more of the tables -/
theorem qVX_l {post : Int64 → Prop} {xc : String} {x1 y1 : MethodName} (S : CallFix p m c cc nL s args TB own) (hM : Met l y ws rm (va_Pc (.ref b :: As) (fun U => va_P D vC cw U.heap ∧ va_K D vC ty U ∧ va_Fw xc x1 y1 U)) (vp_Sl post) 0 0 (fun _ => False)) (cB : CallB R s args own index y bytes maxL ret ws rm 0 0 n) (hin : Cond.instanceMethod y ∈ TB) (hsel : Cond.selects r.1 y y ∈ TB)
    (hK : va_K D vC ty s) (hP : va_P D vC cw H) (hX : ∀ U : State, s.vm.Alike U.vm → va_Fw xc x1 y1 U) (hc : vC[ci]? = some r) (he : cw[q0]? = some (b, .inr (ci, fs)))
    (hn : As.length = n) (hsize : ls.size = nL) (hstack : st0 = As.reverse ++ .ref b :: rest) (hW : (rest.map fun v => v.category).sum ≤ 8) (hdg : decode cc pc = .ok (.invokevirtual index, 3)) (hf : cells ≤ R.cells ∧ slots ≤ R.slots)
    (kk : ∀ v : Int64, post v → W p l e R s m args below meth c H locs cells slots Q (F0 m (pc + 3) ls (.long v :: rest))) : W p l e R s m args below meth c H locs cells slots Q (F0 m pc ls st0) :=
  vp_callSl (W.runV (C := r.1) (As := As) (rest := rest) S hM ⟨cB, S.2.2.2.2 _ hin, S.2.2.2.2 _ hsel⟩ ⟨fun a U g mk q => by
    obtain ⟨q0, qP, qK, qX⟩ := q
    exact ⟨q0, qP, va_K.moved (u := U) (U := U.calling g mk a) (Vm.Alike.refl U.vm) qK, ⟨qX.1, qX.2⟩⟩, va_recv hK hP hc he, fun U hU hW => ⟨rfl, by rw [hU]; exact hP, va_K.moved hW.alike hK, hX U hW.alike⟩⟩ rfl hn hsize hstack (lv_room hW) hdg hf) kk
end QF

set_option maxHeartbeats 2000000 in
set_option maxRecDepth 100000 in
/-- search: an element that has x's images of the points below k and meets the condition, or none -/
theorem c_G_searchK (l : Launch) (D : va_G) (z : Nat → ClassId) (h : Nat → Nat) (n ncB : Nat) (fSB fMB : Nat → Int64) (fLB : Nat → Int32) (T : pg_T) (hn : n ≤ 14) (hT : pg_ok n T) (hG : gS n T fSB) (q0 m9 : Nat) (wh : Bool) (hm : m9 < 2 ^ 31) : ∀ (d k : Nat) (x : pg_F), k + d = n → pg_P n x → Met l yG_search wG_search (rmF (3 + d)) (va_Pc [.ref (h 0), .int (nI k), .long (eL n x), .ref q0] (fun U => va_P D vC (gW z h n ncB fSB fMB fLB ++ kW q0 m9 wh) U.heap ∧ va_K D vC (tyL z) U ∧ va_Fw "PermutationDesk$KeepsSet" yI_allows yK_allows U)) (vp_Sl (fun r => ∃ o : Option pg_F, r = oL n o ∧ pg_fnd T d k x (fun w9 => kAll m9 wh w9 n = true) o ∧ ∀ y9, o = some y9 → pg_P n y9)) 0 0 (fun _ => False) := by
  intro d
  induction d with
  | zero =>
    intro k x hkd hxP
    have hkn : k = n := by omega
    subst hkn
    refine Met.ofW (cc := prog_5_method_14_code) (maxL := 10) (ret := (some .long)) (by decide) rfl ?_
    intro p e s m args below meth c s₁ B hml hv
    have hx := B.exec
    have hb := B.bytes
    have hr := B.returns
    have ht : ∀ w ∈ TB, w.before args s = true := fun w h => atoms_spec (ws := wG_search) B.pre w (List.mem_cons_of_mem _ h)
    have hown : s.vm.findClass "PermutationDesk$Group" = some m.cls := findClass_of_methodNamed B.named
    have hlocks := B.notSynchronized
    obtain ⟨rfl, hP, hK, hF⟩ := hv
    have hl := lv_entry ([.ref (h 0), .int (nI k), .long (eL k x), .ref q0]) (n := 10) (Nat.le_of_ble_eq_true rfl)
    rw [lg_entry_eq]
    generalize (lg_sl ([.ref (h 0), .int (nI k), .long (eL k x), .ref q0]) ++ List.replicate (10 - (lg_sl ([.ref (h 0), .int (nI k), .long (eL k x), .ref q0])).length) Slot.unset).toArray = ls at hl ⊢
    have hl : lv_has ls 10 [(0, .ref (h 0)), (1, .int (nI k)), (2, .long (eL k x)), (4, .ref q0)] := hl
    refine lv_aload hx hb dG_search_0 (lv_at hl 3 rfl) ?_
    refine lv_lload_n hx hb dG_search_2 rfl (lv_at hl 2 rfl) ?_
    refine lv_iload_n hx hb dG_search_3 rfl (lv_at hl 1 rfl) ?_
    refine qF_i (ci := 3) (q0 := 0) (As := [.long (eL k x), .int (nI k)]) (rest := []) ⟨hx, hb, hml, hown, ht⟩ hF (c_K_allows l D z q0 m9 k k wh x hm hn (by omega) hxP) (cF 2 ht gK_allows rfl tw_521 tw_532 tw_534 tw_72 hF (by decide +kernel) ⟨by decide, by decide⟩) hK (hP.sub (ws' := kW q0 m9 wh) [4] rfl) rfl rfl rfl hl.1 rfl (Nat.le_of_ble_eq_true rfl) dG_search_4 ⟨by decide, by decide⟩ (fun r4 h4 => ?_)
    subst h4
    refine lv_if_ne (tgt := 16) hx hb dG_search_9 rfl (fun h9 => ?_) (fun h9 => ?_)
    · have h10 : kAll m9 wh x k = true := by
        cases e9 : kAll m9 wh x k with
        | true => rfl
        | false => exact absurd (bI_0.mpr e9) h9
      refine lv_iload_n hx hb dG_search_16 rfl (lv_at hl 1 rfl) ?_
      refine lv_aload_n hx hb dG_search_17 rfl (lv_at hl 0 rfl) ?_
      refine va_get (ci := 0) (C := RG) (T := TG) (N := 6) hx hb ht inG hown hK hP 0 rfl rfl 0 (by decide) (ht _ tw_103) (fun _ h9 => h9) rfl dG_search_18 ?_
      refine lv_icmp_lt (tgt := 26) hx hb dG_search_21 rfl (fun h21 => ?_) (fun h21 => ?_)
      · exact absurd h21 (nI_nlt (Nat.le_refl _) (by omega))
      refine lv_lload_n hx hb dG_search_24 rfl (lv_at hl 2 rfl) ?_
      exact W.lret hx hb hr (fun t h _ => ⟨_, rfl, ⟨some x, rfl, pg_fnd_end hxP (kAll_cnd) h10, fun y9 e9 => by cases e9; exact hxP⟩, h⟩) (fun q h => by cases h) dG_search_25
    have h10 := bI_0.mp h9
    refine W.ldc2 hx hb hown (ht _ tw_99) rfl dG_search_12 ?_
    exact W.lret hx hb hr (fun t h _ => ⟨_, rfl, ⟨none, rfl, pg_fnd_no hT hkd hxP (kAll_cnd) h10, fun y9 e9 => by cases e9⟩, h⟩) (fun q h => by cases h) dG_search_15
  | succ d IH =>
    intro k x hkd hxP
    have hkn : k < n := by omega
    refine Met.ofW (cc := prog_5_method_14_code) (maxL := 10) (ret := (some .long)) (by decide) rfl ?_
    intro p e s m args below meth c s₁ B hml hv
    have hx := B.exec
    have hb := B.bytes
    have hr := B.returns
    have ht : ∀ w ∈ TB, w.before args s = true := fun w h => atoms_spec (ws := wG_search) B.pre w (List.mem_cons_of_mem _ h)
    have hown : s.vm.findClass "PermutationDesk$Group" = some m.cls := findClass_of_methodNamed B.named
    have hlocks := B.notSynchronized
    obtain ⟨rfl, hP, hK, hF⟩ := hv
    have hl := lv_entry ([.ref (h 0), .int (nI k), .long (eL n x), .ref q0]) (n := 10) (Nat.le_of_ble_eq_true rfl)
    rw [lg_entry_eq]
    generalize (lg_sl ([.ref (h 0), .int (nI k), .long (eL n x), .ref q0]) ++ List.replicate (10 - (lg_sl ([.ref (h 0), .int (nI k), .long (eL n x), .ref q0])).length) Slot.unset).toArray = ls at hl ⊢
    have hl : lv_has ls 10 [(0, .ref (h 0)), (1, .int (nI k)), (2, .long (eL n x)), (4, .ref q0)] := hl
    refine lv_aload hx hb dG_search_0 (lv_at hl 3 rfl) ?_
    refine lv_lload_n hx hb dG_search_2 rfl (lv_at hl 2 rfl) ?_
    refine lv_iload_n hx hb dG_search_3 rfl (lv_at hl 1 rfl) ?_
    refine qF_i (ci := 3) (q0 := 0) (As := [.long (eL n x), .int (nI k)]) (rest := []) ⟨hx, hb, hml, hown, ht⟩ hF (c_K_allows l D z q0 m9 n k wh x hm hn (by omega) hxP) (cF 2 ht gK_allows rfl tw_521 tw_532 tw_534 tw_72 hF (by decide +kernel) ⟨by show 2 + 1 ≤ 3 + (d + 1); omega, by show 8 + (5 + 11) + 40 * 2 ≤ 40 * (3 + (d + 1)); omega⟩) hK (hP.sub (ws' := kW q0 m9 wh) [4] rfl) rfl rfl rfl hl.1 rfl (Nat.le_of_ble_eq_true rfl) dG_search_4 ⟨Nat.le_refl _, Nat.le_refl _⟩ (fun r4 h4 => ?_)
    subst h4
    refine lv_if_ne (tgt := 16) hx hb dG_search_9 rfl (fun h9 => ?_) (fun h9 => ?_)
    · skip
      refine lv_iload_n hx hb dG_search_16 rfl (lv_at hl 1 rfl) ?_
      refine lv_aload_n hx hb dG_search_17 rfl (lv_at hl 0 rfl) ?_
      refine va_get (ci := 0) (C := RG) (T := TG) (N := 6) hx hb ht inG hown hK hP 0 rfl rfl 0 (by decide) (ht _ tw_103) (fun _ h9 => h9) rfl dG_search_18 ?_
      refine lv_icmp_lt (tgt := 26) hx hb dG_search_21 rfl (fun h21 => ?_) (fun h21 => ?_)
      · skip
        refine lv_iload_n hx hb dG_search_26 rfl (lv_at hl 1 rfl) ?_
        refine lv_istore hx hb dG_search_27 hl (by decide) rfl (fun ls hl => ?_)
        replace hl : lv_has ls 10 [(5, .int (nI k)), (0, .ref (h 0)), (1, .int (nI k)), (2, .long (eL n x)), (4, .ref q0)] := hl
        refine wl0 (σ := Nat) (pc := 29) (I := fun d2 i ls => d2 + i = n ∧ k ≤ i ∧ (∀ j s9, k ≤ j → j < i → T k j = some s9 → pg_fnd T d (k + 1) (pg_mul s9 x) (fun w9 => kAll m9 wh w9 n = true) none) ∧ lv_has ls 10 [(5, .int (nI i)), (0, .ref (h 0)), (1, .int (nI k)), (2, .long (eL n x)), (4, .ref q0)]) ?_ (n - k) k ls ⟨by omega, Nat.le_refl _, fun j s9 h1 h2 => by omega, hl⟩
        clear hl
        rintro d2 i ls ⟨hdi, hki, hno, hl⟩ ih
        refine lv_iload hx hb dG_search_29 (lv_at hl 0 rfl) ?_
        refine lv_aload_n hx hb dG_search_31 rfl (lv_at hl 1 rfl) ?_
        refine va_get (ci := 0) (C := RG) (T := TG) (N := 6) hx hb ht inG hown hK hP 0 rfl rfl 0 (by decide) (ht _ tw_103) (fun _ h9 => h9) rfl dG_search_32 ?_
        refine lv_icmp_ge (tgt := 101) hx hb dG_search_35 rfl (fun h35 => ?_) (fun h35 => ?_)
        · have hin : i = n := by have := (nI_leI (by omega) (by omega)).mp h35; omega
          subst hin
          refine W.ldc2 hx hb hown (ht _ tw_99) rfl dG_search_101 ?_
          exact W.lret hx hb hr (fun t h _ => ⟨_, rfl, ⟨none, rfl, pg_fnd_none hT (fun j s9 h1 h2 h3 => hno j s9 h1 h2 h3), fun y9 e9 => by cases e9⟩, h⟩) (fun q h => by cases h) dG_search_104
        have hin : i < n := by
          rw [nI_leI (by omega) (by omega)] at h35
          omega
        refine lv_aload_n hx hb dG_search_38 rfl (lv_at hl 1 rfl) ?_
        refine lv_iload_n hx hb dG_search_39 rfl (lv_at hl 2 rfl) ?_
        refine lv_iload hx hb dG_search_40 (lv_at hl 0 rfl) ?_
        refine qV_l (ci := 0) (q0 := 0) (As := [.int (nI k), .int (nI i)]) (rest := []) ⟨hx, hb, hml, hown, ht⟩ (c_G_step l D z h n ncB fSB fMB fLB T hn hT hG k i hkn hin) (cB 2 ht gG_step rfl tw_61 tw_402 (by decide +kernel) ⟨by show 0 + 1 ≤ 3 + (d + 1); omega, by show 8 + (3 + 11) + 40 * 0 ≤ 40 * (3 + (d + 1)); omega⟩) tw_404 tw_14 hK (hP.sub (ws' := gW z h n ncB fSB fMB fLB) [0, 1, 2, 3] rfl) rfl rfl rfl hl.1 rfl (Nat.le_of_ble_eq_true rfl) dG_search_42 ⟨Nat.le_refl _, Nat.le_refl _⟩ (fun r42 h42 => ?_)
        subst h42
        refine lv_lstore hx hb dG_search_45 hl (by decide) rfl (fun ls hl => ?_)
        replace hl : lv_has ls 10 [(6, .long (oL n (T k i))), (5, .int (nI i)), (0, .ref (h 0)), (1, .int (nI k)), (2, .long (eL n x)), (4, .ref q0)] := hl
        refine lv_lload hx hb dG_search_47 (lv_at hl 0 rfl) ?_
        refine W.ldc2 hx hb hown (ht _ tw_99) rfl dG_search_49 ?_
        refine W.lcmp hx hb dG_search_52 ?_
        refine lv_if_ne (tgt := 62) hx hb dG_search_53 rfl (fun h53 => ?_) (fun h53 => ?_)
        · have h54 : T k i ≠ none := fun e => h53 ((lg_cmp_eq _ _).mpr ((oL_none hT hn).mpr e))
          obtain ⟨st, hst⟩ : ∃ st, T k i = some st := by
            cases e : T k i with
            | none => exact absurd e h54
            | some st => exact ⟨st, rfl⟩
          have hstP := (hT.2 _ _ _ hst).2.2.2.1
          rw [hst] at hl
          have hl : lv_has ls 10 [(6, .long (eL n st)), (5, .int (nI i)), (0, .ref (h 0)), (1, .int (nI k)), (2, .long (eL n x)), (4, .ref q0)] := hl
          refine lv_aload_n hx hb dG_search_62 rfl (lv_at hl 2 rfl) ?_
          refine lv_iload_n hx hb dG_search_63 rfl (lv_at hl 3 rfl) ?_
          refine lv_iconst (v := 1) hx hb dG_search_64 (by decide) ?_
          refine lv_iadd hx hb dG_search_65 ?_
          refine wti (x' := nI (k + 1)) (nI_1 k) ?_
          refine lv_lload hx hb dG_search_66 (lv_at hl 0 rfl) ?_
          refine lv_lload_n hx hb dG_search_68 rfl (lv_at hl 4 rfl) ?_
          refine lv_aload_n hx hb dG_search_69 rfl (lv_at hl 2 rfl) ?_
          refine va_get (ci := 0) (C := RG) (T := TG) (N := 6) hx hb ht inG hown hK hP 0 rfl rfl 0 (by decide) (ht _ tw_103) (fun _ h9 => h9) rfl dG_search_70 ?_
          refine qS_l (As := [.long (eL n st), .long (eL n x), .int (nI n)]) (rest := [.int (nI (k + 1)), .ref (h 0)]) ⟨hx, hb, hml, hown, ht⟩ (c_E_product l n st x hn hstP hxP) (cB 3 ht gE_product rfl tw_62 tw_411 (by decide +kernel) ⟨by show 0 + 1 ≤ 3 + (d + 1); omega, by show 8 + (9 + 11) + 0 ≤ 40 * (3 + (d + 1)); omega⟩) tw_265 rfl hl.1 rfl (Nat.le_of_ble_eq_true rfl) dG_search_73 ⟨Nat.le_refl _, Nat.le_refl _⟩ (fun r73 h73 => ?_)
          subst h73
          refine lv_aload hx hb dG_search_76 (lv_at hl 5 rfl) ?_
          refine qVX_l (ci := 0) (q0 := 0) (As := [.int (nI (k + 1)), .long (eL n (pg_mul st x)), .ref q0]) (rest := []) ⟨hx, hb, hml, hown, ht⟩ (IH (k + 1) (pg_mul st x) (by omega) (pg_P_mul hstP hxP)) (cB 3 ht gG_search rfl tw_61 tw_516 (by decide +kernel) ⟨by show (3 + d) + 1 ≤ 3 + (d + 1); omega, by show 8 + (10 + 11) + 40 * (3 + d) ≤ 40 * (3 + (d + 1)); omega⟩) tw_518 tw_24 hK hP (fun U hU => va_Fw.moved (by decide) hU hF) rfl rfl rfl hl.1 rfl (Nat.le_of_ble_eq_true rfl) dG_search_78 ⟨Nat.le_refl _, Nat.le_refl _⟩ (fun r78 h78 => ?_)
          obtain ⟨o, rfl, hfo, hoP⟩ := h78
          refine lv_lstore hx hb dG_search_81 hl (by decide) rfl (fun ls hl => ?_)
          replace hl : lv_has ls 10 [(8, .long (oL n o)), (6, .long (eL n st)), (5, .int (nI i)), (0, .ref (h 0)), (1, .int (nI k)), (2, .long (eL n x)), (4, .ref q0)] := hl
          refine lv_lload hx hb dG_search_83 (lv_at hl 0 rfl) ?_
          refine W.ldc2 hx hb hown (ht _ tw_99) rfl dG_search_85 ?_
          refine W.lcmp hx hb dG_search_88 ?_
          refine lv_if_eq (tgt := 95) hx hb dG_search_89 rfl (fun h89 => ?_) (fun h89 => ?_)
          · have ho : o = none := by
              cases o with
              | none => rfl
              | some y9 => exact absurd ((lg_cmp_eq _ _).mp h89) (eL_ne hn ((hoP y9 rfl).d4 (by omega)))
            subst ho
            refine lv_iinc (k := 2) (v := (nI (i + 1))) hx hb dG_search_95 hl rfl (by exact nI_1 _) (by decide) rfl (fun ls hl => ?_)
            replace hl : lv_has ls 10 [(5, .int (nI (i + 1))), (8, .long (oL n none)), (6, .long (eL n st)), (0, .ref (h 0)), (1, .int (nI k)), (2, .long (eL n x)), (4, .ref q0)] := hl
            refine lv_goto (tgt := 29) hx hb dG_search_98 rfl ?_
            refine ih (d2 - 1) (i + 1) ls (by omega) ⟨by omega, by omega, fun j s9 h1 h2 h3 => ?_, lv_sub hl [0, 3, 4, 5, 6] rfl⟩
            by_cases q : j = i
            · subst q
              rw [hst] at h3
              cases h3
              exact hfo
            · exact hno j s9 h1 (by omega) h3
          obtain ⟨y9, rfl⟩ : ∃ y9, o = some y9 := by
            cases o with
            | none => exact absurd ((lg_cmp_eq _ _).mpr rfl) h89
            | some y9 => exact ⟨y9, rfl⟩
          refine lv_lload hx hb dG_search_92 (lv_at hl 0 rfl) ?_
          exact W.lret hx hb hr (fun t h _ => ⟨_, rfl, ⟨some y9, rfl, pg_fnd_some hst hfo, hoP⟩, h⟩) (fun q h => by cases h) dG_search_94
        · have h54 := (oL_none hT hn).mp ((lg_cmp_eq _ _).mp h53)
          refine W.ldc2 hx hb hown (ht _ tw_99) rfl dG_search_56 ?_
          refine lv_goto (tgt := 81) hx hb dG_search_59 rfl ?_
          refine lv_lstore hx hb dG_search_81 hl (by decide) rfl (fun ls hl => ?_)
          replace hl : lv_has ls 10 [(8, .long (-1)), (6, .long (oL n (T k i))), (5, .int (nI i)), (0, .ref (h 0)), (1, .int (nI k)), (2, .long (eL n x)), (4, .ref q0)] := hl
          refine lv_lload hx hb dG_search_83 (lv_at hl 0 rfl) ?_
          refine W.ldc2 hx hb hown (ht _ tw_99) rfl dG_search_85 ?_
          refine W.lcmp hx hb dG_search_88 ?_
          refine lv_if_eq (tgt := 95) hx hb dG_search_89 rfl (fun h89 => ?_) (fun h89 => ?_)
          · skip
            refine lv_iinc (k := 2) (v := (nI (i + 1))) hx hb dG_search_95 hl rfl (by exact nI_1 _) (by decide) rfl (fun ls hl => ?_)
            replace hl : lv_has ls 10 [(5, .int (nI (i + 1))), (8, .long (-1)), (6, .long (oL n (T k i))), (0, .ref (h 0)), (1, .int (nI k)), (2, .long (eL n x)), (4, .ref q0)] := hl
            refine lv_goto (tgt := 29) hx hb dG_search_98 rfl ?_
            refine ih (d2 - 1) (i + 1) ls (by omega) ⟨by omega, by omega, fun j s9 h1 h2 h3 => ?_, lv_sub hl [0, 3, 4, 5, 6] rfl⟩
            by_cases q : j = i
            · subst q
              rw [h54] at h3
              cases h3
            · exact hno j s9 h1 (by omega) h3
          exact absurd ((lg_cmp_eq _ _).mpr rfl) h89
      exact absurd (nI_lt hkn (by omega)) h21
    have h10 := bI_0.mp h9
    refine W.ldc2 hx hb hown (ht _ tw_99) rfl dG_search_12 ?_
    exact W.lret hx hb hr (fun t h _ => ⟨_, rfl, ⟨none, rfl, pg_fnd_no hT hkd hxP (kAll_cnd) h10, fun y9 e9 => by cases e9⟩, h⟩) (fun q h => by cases h) dG_search_15

set_option maxHeartbeats 2000000 in
set_option maxRecDepth 100000 in
/-- search: an element that has x's images of the points below k and meets the condition, or none -/
theorem c_G_searchC (l : Launch) (D : va_G) (z : Nat → ClassId) (h : Nat → Nat) (n ncB : Nat) (fSB fMB : Nat → Int64) (fLB : Nat → Int32) (T : pg_T) (hn : n ≤ 14) (hT : pg_ok n T) (hG : gS n T fSB) (q0 : Nat) (y : pg_F) (hyP : pg_P n y) : ∀ (d k : Nat) (x : pg_F), k + d = n → pg_P n x → Met l yG_search wG_search (rmF (3 + d)) (va_Pc [.ref (h 0), .int (nI k), .long (eL n x), .ref q0] (fun U => va_P D vC (gW z h n ncB fSB fMB fLB ++ cmW q0 n y) U.heap ∧ va_K D vC (tyL z) U ∧ va_Fw "PermutationDesk$CommutesWith" yI_allows yC_allows U)) (vp_Sl (fun r => ∃ o : Option pg_F, r = oL n o ∧ pg_fnd T d k x (fun w9 => pg_mul w9 y = pg_mul y w9) o ∧ ∀ y9, o = some y9 → pg_P n y9)) 0 0 (fun _ => False) := by
  intro d
  induction d with
  | zero =>
    intro k x hkd hxP
    have hkn : k = n := by omega
    subst hkn
    refine Met.ofW (cc := prog_5_method_14_code) (maxL := 10) (ret := (some .long)) (by decide) rfl ?_
    intro p e s m args below meth c s₁ B hml hv
    have hx := B.exec
    have hb := B.bytes
    have hr := B.returns
    have ht : ∀ w ∈ TB, w.before args s = true := fun w h => atoms_spec (ws := wG_search) B.pre w (List.mem_cons_of_mem _ h)
    have hown : s.vm.findClass "PermutationDesk$Group" = some m.cls := findClass_of_methodNamed B.named
    have hlocks := B.notSynchronized
    obtain ⟨rfl, hP, hK, hF⟩ := hv
    have hl := lv_entry ([.ref (h 0), .int (nI k), .long (eL k x), .ref q0]) (n := 10) (Nat.le_of_ble_eq_true rfl)
    rw [lg_entry_eq]
    generalize (lg_sl ([.ref (h 0), .int (nI k), .long (eL k x), .ref q0]) ++ List.replicate (10 - (lg_sl ([.ref (h 0), .int (nI k), .long (eL k x), .ref q0])).length) Slot.unset).toArray = ls at hl ⊢
    have hl : lv_has ls 10 [(0, .ref (h 0)), (1, .int (nI k)), (2, .long (eL k x)), (4, .ref q0)] := hl
    refine lv_aload hx hb dG_search_0 (lv_at hl 3 rfl) ?_
    refine lv_lload_n hx hb dG_search_2 rfl (lv_at hl 2 rfl) ?_
    refine lv_iload_n hx hb dG_search_3 rfl (lv_at hl 1 rfl) ?_
    refine qF_i (ci := 4) (q0 := 0) (As := [.long (eL k x), .int (nI k)]) (rest := []) ⟨hx, hb, hml, hown, ht⟩ hF (c_C_allows l D z q0 k k y x hn (by omega) hyP hxP) (cF 2 ht gC_allows rfl tw_521 tw_525 tw_527 tw_73 hF (by decide +kernel) ⟨by decide, by decide⟩) hK (hP.sub (ws' := cmW q0 k y) [4] rfl) rfl rfl rfl hl.1 rfl (Nat.le_of_ble_eq_true rfl) dG_search_4 ⟨by decide, by decide⟩ (fun r4 h4 => ?_)
    subst h4
    refine lv_if_ne (tgt := 16) hx hb dG_search_9 rfl (fun h9 => ?_) (fun h9 => ?_)
    · have h10 : cAll y x k k = true := by
        cases e9 : cAll y x k k with
        | true => rfl
        | false => exact absurd (bI_0.mpr e9) h9
      refine lv_iload_n hx hb dG_search_16 rfl (lv_at hl 1 rfl) ?_
      refine lv_aload_n hx hb dG_search_17 rfl (lv_at hl 0 rfl) ?_
      refine va_get (ci := 0) (C := RG) (T := TG) (N := 6) hx hb ht inG hown hK hP 0 rfl rfl 0 (by decide) (ht _ tw_103) (fun _ h9 => h9) rfl dG_search_18 ?_
      refine lv_icmp_lt (tgt := 26) hx hb dG_search_21 rfl (fun h21 => ?_) (fun h21 => ?_)
      · exact absurd h21 (nI_nlt (Nat.le_refl _) (by omega))
      refine lv_lload_n hx hb dG_search_24 rfl (lv_at hl 2 rfl) ?_
      exact W.lret hx hb hr (fun t h _ => ⟨_, rfl, ⟨some x, rfl, pg_fnd_end hxP (cAll_cnd hyP) h10, fun y9 e9 => by cases e9; exact hxP⟩, h⟩) (fun q h => by cases h) dG_search_25
    have h10 := bI_0.mp h9
    refine W.ldc2 hx hb hown (ht _ tw_99) rfl dG_search_12 ?_
    exact W.lret hx hb hr (fun t h _ => ⟨_, rfl, ⟨none, rfl, pg_fnd_no hT hkd hxP (cAll_cnd hyP) h10, fun y9 e9 => by cases e9⟩, h⟩) (fun q h => by cases h) dG_search_15
  | succ d IH =>
    intro k x hkd hxP
    have hkn : k < n := by omega
    refine Met.ofW (cc := prog_5_method_14_code) (maxL := 10) (ret := (some .long)) (by decide) rfl ?_
    intro p e s m args below meth c s₁ B hml hv
    have hx := B.exec
    have hb := B.bytes
    have hr := B.returns
    have ht : ∀ w ∈ TB, w.before args s = true := fun w h => atoms_spec (ws := wG_search) B.pre w (List.mem_cons_of_mem _ h)
    have hown : s.vm.findClass "PermutationDesk$Group" = some m.cls := findClass_of_methodNamed B.named
    have hlocks := B.notSynchronized
    obtain ⟨rfl, hP, hK, hF⟩ := hv
    have hl := lv_entry ([.ref (h 0), .int (nI k), .long (eL n x), .ref q0]) (n := 10) (Nat.le_of_ble_eq_true rfl)
    rw [lg_entry_eq]
    generalize (lg_sl ([.ref (h 0), .int (nI k), .long (eL n x), .ref q0]) ++ List.replicate (10 - (lg_sl ([.ref (h 0), .int (nI k), .long (eL n x), .ref q0])).length) Slot.unset).toArray = ls at hl ⊢
    have hl : lv_has ls 10 [(0, .ref (h 0)), (1, .int (nI k)), (2, .long (eL n x)), (4, .ref q0)] := hl
    refine lv_aload hx hb dG_search_0 (lv_at hl 3 rfl) ?_
    refine lv_lload_n hx hb dG_search_2 rfl (lv_at hl 2 rfl) ?_
    refine lv_iload_n hx hb dG_search_3 rfl (lv_at hl 1 rfl) ?_
    refine qF_i (ci := 4) (q0 := 0) (As := [.long (eL n x), .int (nI k)]) (rest := []) ⟨hx, hb, hml, hown, ht⟩ hF (c_C_allows l D z q0 n k y x hn (by omega) hyP hxP) (cF 2 ht gC_allows rfl tw_521 tw_525 tw_527 tw_73 hF (by decide +kernel) ⟨by show 1 + 1 ≤ 3 + (d + 1); omega, by show 8 + (6 + 11) + 40 * 1 ≤ 40 * (3 + (d + 1)); omega⟩) hK (hP.sub (ws' := cmW q0 n y) [4] rfl) rfl rfl rfl hl.1 rfl (Nat.le_of_ble_eq_true rfl) dG_search_4 ⟨Nat.le_refl _, Nat.le_refl _⟩ (fun r4 h4 => ?_)
    subst h4
    refine lv_if_ne (tgt := 16) hx hb dG_search_9 rfl (fun h9 => ?_) (fun h9 => ?_)
    · skip
      refine lv_iload_n hx hb dG_search_16 rfl (lv_at hl 1 rfl) ?_
      refine lv_aload_n hx hb dG_search_17 rfl (lv_at hl 0 rfl) ?_
      refine va_get (ci := 0) (C := RG) (T := TG) (N := 6) hx hb ht inG hown hK hP 0 rfl rfl 0 (by decide) (ht _ tw_103) (fun _ h9 => h9) rfl dG_search_18 ?_
      refine lv_icmp_lt (tgt := 26) hx hb dG_search_21 rfl (fun h21 => ?_) (fun h21 => ?_)
      · skip
        refine lv_iload_n hx hb dG_search_26 rfl (lv_at hl 1 rfl) ?_
        refine lv_istore hx hb dG_search_27 hl (by decide) rfl (fun ls hl => ?_)
        replace hl : lv_has ls 10 [(5, .int (nI k)), (0, .ref (h 0)), (1, .int (nI k)), (2, .long (eL n x)), (4, .ref q0)] := hl
        refine wl0 (σ := Nat) (pc := 29) (I := fun d2 i ls => d2 + i = n ∧ k ≤ i ∧ (∀ j s9, k ≤ j → j < i → T k j = some s9 → pg_fnd T d (k + 1) (pg_mul s9 x) (fun w9 => pg_mul w9 y = pg_mul y w9) none) ∧ lv_has ls 10 [(5, .int (nI i)), (0, .ref (h 0)), (1, .int (nI k)), (2, .long (eL n x)), (4, .ref q0)]) ?_ (n - k) k ls ⟨by omega, Nat.le_refl _, fun j s9 h1 h2 => by omega, hl⟩
        clear hl
        rintro d2 i ls ⟨hdi, hki, hno, hl⟩ ih
        refine lv_iload hx hb dG_search_29 (lv_at hl 0 rfl) ?_
        refine lv_aload_n hx hb dG_search_31 rfl (lv_at hl 1 rfl) ?_
        refine va_get (ci := 0) (C := RG) (T := TG) (N := 6) hx hb ht inG hown hK hP 0 rfl rfl 0 (by decide) (ht _ tw_103) (fun _ h9 => h9) rfl dG_search_32 ?_
        refine lv_icmp_ge (tgt := 101) hx hb dG_search_35 rfl (fun h35 => ?_) (fun h35 => ?_)
        · have hin : i = n := by have := (nI_leI (by omega) (by omega)).mp h35; omega
          subst hin
          refine W.ldc2 hx hb hown (ht _ tw_99) rfl dG_search_101 ?_
          exact W.lret hx hb hr (fun t h _ => ⟨_, rfl, ⟨none, rfl, pg_fnd_none hT (fun j s9 h1 h2 h3 => hno j s9 h1 h2 h3), fun y9 e9 => by cases e9⟩, h⟩) (fun q h => by cases h) dG_search_104
        have hin : i < n := by
          rw [nI_leI (by omega) (by omega)] at h35
          omega
        refine lv_aload_n hx hb dG_search_38 rfl (lv_at hl 1 rfl) ?_
        refine lv_iload_n hx hb dG_search_39 rfl (lv_at hl 2 rfl) ?_
        refine lv_iload hx hb dG_search_40 (lv_at hl 0 rfl) ?_
        refine qV_l (ci := 0) (q0 := 0) (As := [.int (nI k), .int (nI i)]) (rest := []) ⟨hx, hb, hml, hown, ht⟩ (c_G_step l D z h n ncB fSB fMB fLB T hn hT hG k i hkn hin) (cB 2 ht gG_step rfl tw_61 tw_402 (by decide +kernel) ⟨by show 0 + 1 ≤ 3 + (d + 1); omega, by show 8 + (3 + 11) + 40 * 0 ≤ 40 * (3 + (d + 1)); omega⟩) tw_404 tw_14 hK (hP.sub (ws' := gW z h n ncB fSB fMB fLB) [0, 1, 2, 3] rfl) rfl rfl rfl hl.1 rfl (Nat.le_of_ble_eq_true rfl) dG_search_42 ⟨Nat.le_refl _, Nat.le_refl _⟩ (fun r42 h42 => ?_)
        subst h42
        refine lv_lstore hx hb dG_search_45 hl (by decide) rfl (fun ls hl => ?_)
        replace hl : lv_has ls 10 [(6, .long (oL n (T k i))), (5, .int (nI i)), (0, .ref (h 0)), (1, .int (nI k)), (2, .long (eL n x)), (4, .ref q0)] := hl
        refine lv_lload hx hb dG_search_47 (lv_at hl 0 rfl) ?_
        refine W.ldc2 hx hb hown (ht _ tw_99) rfl dG_search_49 ?_
        refine W.lcmp hx hb dG_search_52 ?_
        refine lv_if_ne (tgt := 62) hx hb dG_search_53 rfl (fun h53 => ?_) (fun h53 => ?_)
        · have h54 : T k i ≠ none := fun e => h53 ((lg_cmp_eq _ _).mpr ((oL_none hT hn).mpr e))
          obtain ⟨st, hst⟩ : ∃ st, T k i = some st := by
            cases e : T k i with
            | none => exact absurd e h54
            | some st => exact ⟨st, rfl⟩
          have hstP := (hT.2 _ _ _ hst).2.2.2.1
          rw [hst] at hl
          have hl : lv_has ls 10 [(6, .long (eL n st)), (5, .int (nI i)), (0, .ref (h 0)), (1, .int (nI k)), (2, .long (eL n x)), (4, .ref q0)] := hl
          refine lv_aload_n hx hb dG_search_62 rfl (lv_at hl 2 rfl) ?_
          refine lv_iload_n hx hb dG_search_63 rfl (lv_at hl 3 rfl) ?_
          refine lv_iconst (v := 1) hx hb dG_search_64 (by decide) ?_
          refine lv_iadd hx hb dG_search_65 ?_
          refine wti (x' := nI (k + 1)) (nI_1 k) ?_
          refine lv_lload hx hb dG_search_66 (lv_at hl 0 rfl) ?_
          refine lv_lload_n hx hb dG_search_68 rfl (lv_at hl 4 rfl) ?_
          refine lv_aload_n hx hb dG_search_69 rfl (lv_at hl 2 rfl) ?_
          refine va_get (ci := 0) (C := RG) (T := TG) (N := 6) hx hb ht inG hown hK hP 0 rfl rfl 0 (by decide) (ht _ tw_103) (fun _ h9 => h9) rfl dG_search_70 ?_
          refine qS_l (As := [.long (eL n st), .long (eL n x), .int (nI n)]) (rest := [.int (nI (k + 1)), .ref (h 0)]) ⟨hx, hb, hml, hown, ht⟩ (c_E_product l n st x hn hstP hxP) (cB 3 ht gE_product rfl tw_62 tw_411 (by decide +kernel) ⟨by show 0 + 1 ≤ 3 + (d + 1); omega, by show 8 + (9 + 11) + 0 ≤ 40 * (3 + (d + 1)); omega⟩) tw_265 rfl hl.1 rfl (Nat.le_of_ble_eq_true rfl) dG_search_73 ⟨Nat.le_refl _, Nat.le_refl _⟩ (fun r73 h73 => ?_)
          subst h73
          refine lv_aload hx hb dG_search_76 (lv_at hl 5 rfl) ?_
          refine qVX_l (ci := 0) (q0 := 0) (As := [.int (nI (k + 1)), .long (eL n (pg_mul st x)), .ref q0]) (rest := []) ⟨hx, hb, hml, hown, ht⟩ (IH (k + 1) (pg_mul st x) (by omega) (pg_P_mul hstP hxP)) (cB 3 ht gG_search rfl tw_61 tw_516 (by decide +kernel) ⟨by show (3 + d) + 1 ≤ 3 + (d + 1); omega, by show 8 + (10 + 11) + 40 * (3 + d) ≤ 40 * (3 + (d + 1)); omega⟩) tw_518 tw_24 hK hP (fun U hU => va_Fw.moved (by decide) hU hF) rfl rfl rfl hl.1 rfl (Nat.le_of_ble_eq_true rfl) dG_search_78 ⟨Nat.le_refl _, Nat.le_refl _⟩ (fun r78 h78 => ?_)
          obtain ⟨o, rfl, hfo, hoP⟩ := h78
          refine lv_lstore hx hb dG_search_81 hl (by decide) rfl (fun ls hl => ?_)
          replace hl : lv_has ls 10 [(8, .long (oL n o)), (6, .long (eL n st)), (5, .int (nI i)), (0, .ref (h 0)), (1, .int (nI k)), (2, .long (eL n x)), (4, .ref q0)] := hl
          refine lv_lload hx hb dG_search_83 (lv_at hl 0 rfl) ?_
          refine W.ldc2 hx hb hown (ht _ tw_99) rfl dG_search_85 ?_
          refine W.lcmp hx hb dG_search_88 ?_
          refine lv_if_eq (tgt := 95) hx hb dG_search_89 rfl (fun h89 => ?_) (fun h89 => ?_)
          · have ho : o = none := by
              cases o with
              | none => rfl
              | some y9 => exact absurd ((lg_cmp_eq _ _).mp h89) (eL_ne hn ((hoP y9 rfl).d4 (by omega)))
            subst ho
            refine lv_iinc (k := 2) (v := (nI (i + 1))) hx hb dG_search_95 hl rfl (by exact nI_1 _) (by decide) rfl (fun ls hl => ?_)
            replace hl : lv_has ls 10 [(5, .int (nI (i + 1))), (8, .long (oL n none)), (6, .long (eL n st)), (0, .ref (h 0)), (1, .int (nI k)), (2, .long (eL n x)), (4, .ref q0)] := hl
            refine lv_goto (tgt := 29) hx hb dG_search_98 rfl ?_
            refine ih (d2 - 1) (i + 1) ls (by omega) ⟨by omega, by omega, fun j s9 h1 h2 h3 => ?_, lv_sub hl [0, 3, 4, 5, 6] rfl⟩
            by_cases q : j = i
            · subst q
              rw [hst] at h3
              cases h3
              exact hfo
            · exact hno j s9 h1 (by omega) h3
          obtain ⟨y9, rfl⟩ : ∃ y9, o = some y9 := by
            cases o with
            | none => exact absurd ((lg_cmp_eq _ _).mpr rfl) h89
            | some y9 => exact ⟨y9, rfl⟩
          refine lv_lload hx hb dG_search_92 (lv_at hl 0 rfl) ?_
          exact W.lret hx hb hr (fun t h _ => ⟨_, rfl, ⟨some y9, rfl, pg_fnd_some hst hfo, hoP⟩, h⟩) (fun q h => by cases h) dG_search_94
        · have h54 := (oL_none hT hn).mp ((lg_cmp_eq _ _).mp h53)
          refine W.ldc2 hx hb hown (ht _ tw_99) rfl dG_search_56 ?_
          refine lv_goto (tgt := 81) hx hb dG_search_59 rfl ?_
          refine lv_lstore hx hb dG_search_81 hl (by decide) rfl (fun ls hl => ?_)
          replace hl : lv_has ls 10 [(8, .long (-1)), (6, .long (oL n (T k i))), (5, .int (nI i)), (0, .ref (h 0)), (1, .int (nI k)), (2, .long (eL n x)), (4, .ref q0)] := hl
          refine lv_lload hx hb dG_search_83 (lv_at hl 0 rfl) ?_
          refine W.ldc2 hx hb hown (ht _ tw_99) rfl dG_search_85 ?_
          refine W.lcmp hx hb dG_search_88 ?_
          refine lv_if_eq (tgt := 95) hx hb dG_search_89 rfl (fun h89 => ?_) (fun h89 => ?_)
          · skip
            refine lv_iinc (k := 2) (v := (nI (i + 1))) hx hb dG_search_95 hl rfl (by exact nI_1 _) (by decide) rfl (fun ls hl => ?_)
            replace hl : lv_has ls 10 [(5, .int (nI (i + 1))), (8, .long (-1)), (6, .long (oL n (T k i))), (0, .ref (h 0)), (1, .int (nI k)), (2, .long (eL n x)), (4, .ref q0)] := hl
            refine lv_goto (tgt := 29) hx hb dG_search_98 rfl ?_
            refine ih (d2 - 1) (i + 1) ls (by omega) ⟨by omega, by omega, fun j s9 h1 h2 h3 => ?_, lv_sub hl [0, 3, 4, 5, 6] rfl⟩
            by_cases q : j = i
            · subst q
              rw [h54] at h3
              cases h3
            · exact hno j s9 h1 (by omega) h3
          exact absurd ((lg_cmp_eq _ _).mpr rfl) h89
      exact absurd (nI_lt hkn (by omega)) h21
    have h10 := bI_0.mp h9
    refine W.ldc2 hx hb hown (ht _ tw_99) rfl dG_search_12 ?_
    exact W.lret hx hb hr (fun t h _ => ⟨_, rfl, ⟨none, rfl, pg_fnd_no hT hkd hxP (cAll_cnd hyP) h10, fun y9 e9 => by cases e9⟩, h⟩) (fun q h => by cases h) dG_search_15
