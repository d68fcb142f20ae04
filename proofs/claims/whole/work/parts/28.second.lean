/-! Group: takeSecondParts. -/
/-- a table that is being laid: up to (k, i) each place off the diagonal is as it should be, behind it nothing stands -/
def gPart (n : Nat) (Sp : Nat → Nat → Option pg_F → Prop) (k i : Nat) (T : pg_T) : Prop := (∀ a, a < n → T a a = some pg_id) ∧ (∀ a b, ¬ (a ≤ b ∧ b < n) → T a b = none) ∧ (∀ a b, a < b → b < n → (a < k ∨ (a = k ∧ b < i)) → Sp a b (T a b)) ∧ ∀ a b, a < b → b < n → ¬ (a < k ∨ (a = k ∧ b < i)) → T a b = none
theorem gPart_0 (n : Nat) (Sp : Nat → Nat → Option pg_F → Prop) : gPart n Sp 0 0 (pg_clear n) := by
  refine ⟨fun a ha => if_pos ⟨rfl, ha⟩, fun a b h => if_neg (fun q => h ⟨by omega, by omega⟩), fun a b _ _ h => by omega, fun a b h _ _ => if_neg (fun q => by omega)⟩
theorem gPart_i {n : Nat} {Sp : Nat → Nat → Option pg_F → Prop} {k : Nat} {T : pg_T} (h : gPart n Sp k 0 T) : gPart n Sp k (k + 1) T :=
  ⟨h.1, h.2.1, fun a b h1 h2 h3 => h.2.2.1 a b h1 h2 (by omega), fun a b h1 h2 h3 => h.2.2.2 a b h1 h2 (by omega)⟩
theorem gPart_k {n : Nat} {Sp : Nat → Nat → Option pg_F → Prop} {k : Nat} {T : pg_T} (h : gPart n Sp k n T) : gPart n Sp (k + 1) 0 T :=
  ⟨h.1, h.2.1, fun a b h1 h2 h3 => h.2.2.1 a b h1 h2 (by omega), fun a b h1 h2 h3 => h.2.2.2 a b h1 h2 (by omega)⟩
theorem gPart_none {n : Nat} {Sp : Nat → Nat → Option pg_F → Prop} {k i : Nat} {T : pg_T} (h : gPart n Sp k i T) (hk : k < i) (hi : i < n) (hs : Sp k i none) : gPart n Sp k (i + 1) T := by
  refine ⟨h.1, h.2.1, fun a b h1 h2 h3 => ?_, fun a b h1 h2 h3 => h.2.2.2 a b h1 h2 (by omega)⟩
  by_cases q : a = k ∧ b = i
  · obtain ⟨rfl, rfl⟩ := q
    rw [h.2.2.2 a b h1 h2 (by omega)]
    exact hs
  · exact h.2.2.1 a b h1 h2 (by omega)
theorem gPart_free {n : Nat} {Sp : Nat → Nat → Option pg_F → Prop} {k i : Nat} {T : pg_T} (h : gPart n Sp k i T) (hk : k < i) (hi : i < n) : T k i = none := h.2.2.2 k i hk hi (by omega)
theorem gPart_some {n : Nat} {Sp : Nat → Nat → Option pg_F → Prop} {k i : Nat} {T : pg_T} {x : pg_F} (h : gPart n Sp k i T) (hk : k < i) (hi : i < n) (hs : Sp k i (some x)) : gPart n Sp k (i + 1) (pg_put T k i x) := by
  refine ⟨fun a ha => ?_, fun a b h1 => ?_, fun a b h1 h2 h3 => ?_, fun a b h1 h2 h3 => ?_⟩
  · rw [pg_put_ne T x (fun q => by omega)]; exact h.1 a ha
  · rw [pg_put_ne T x (fun q => h1 ⟨by omega, by omega⟩)]; exact h.2.1 a b h1
  · by_cases q : a = k ∧ b = i
    · obtain ⟨rfl, rfl⟩ := q
      rw [pg_put_at]; exact hs
    · rw [pg_put_ne T x q]; exact h.2.2.1 a b h1 h2 (by omega)
  · rw [pg_put_ne T x (fun q => by omega)]; exact h.2.2.2 a b h1 h2 (by omega)
/-- a state with one step more -/
def gPut (n : Nat) (u : gSt) (k i : Nat) (x : pg_F) : gSt := (pg_put u.1 k i x, u.2.1 + 1, va_up u.2.2.1 u.2.1 x, va_up u.2.2.2.1 u.2.1 k, vp_updL u.2.2.2.2.1 (k * n + i) (eL n x), vp_updL u.2.2.2.2.2.1 u.2.1 (eL n x), upd u.2.2.2.2.2.2 u.2.1 (nI k))
theorem gPut_rep {n : Nat} {u : gSt} (h : gRep n u) {k i : Nat} {x : pg_F} (hk : k < i) (hi : i < n) (hn : u.1 k i = none) (hx : pg_P n x) (hf : ∀ j, j < k → x j = j) (e : x k = i) : gRep n (gPut n u k i x) :=
  ⟨pg_put_ok h.1 hk hi hx hf e, pg_mk_put h.2.1 hk hi hn (fun a ha => va_up_ne _ _ (by omega)) (fun a ha => va_up_ne _ _ (by omega)) (va_up_self _ _ _) (va_up_self _ _ _), gSt_put h.2.2.1 hi x, gMk_put h.2.2.2 x k⟩
set_option maxHeartbeats 1000000 in
set_option maxRecDepth 100000 in
/-- takeSecondParts: the kernel, out of the pairs -/
theorem c_G_takeSecondParts (l : Launch) (D : va_G) (z : Nat → ClassId) (g h : Nat → Nat) (sz n nc : Nat) (fS fM : Nat → Int64) (fL : Nat → Int32) (TP : pg_T) (ncB : Nat) (MB : Nat → pg_F) (lvB : Nat → Nat) (fSB fMB : Nat → Int64) (fLB : Nat → Int32) (hn : n ≤ 7) (ct : Nat) (tt tg : Nat → pg_F) (htt : ∀ k, k < ct → pg_P n (tt k)) (htg : ∀ k, k < ct → pg_P n (tg k)) (hGB : gGp (n + n) (TP, ncB, MB, lvB, fSB, fMB, fLB) (pg_Gen (pg_PS n ct tt tg))) : Met l yG_takeSecondParts wG_takeSecondParts (rmF 2) (va_Pc [.ref (g 0), .ref (h 0)] (fun U => U.heap.size = sz ∧ va_P D vC (gW z g n nc fS fM fL ++ gW z h (n + n) ncB fSB fMB fLB) U.heap ∧ va_K D vC (tyL z) U ∧ va_D (fun _ => True) (gW z g n nc fS fM fL ++ gW z h (n + n) ncB fSB fMB fLB))) (va_Qv (fun u => gGp n u (fun x => pg_P n x ∧ pg_Gen (pg_PS n ct tt tg) (pg_pair n pg_id x))) (fun u t => va_P D vC (gWu z g n u ++ gW z h (n + n) ncB fSB fMB fLB) t.heap ∧ va_D (va_A (gW z g n nc fS fM fL ++ gW z h (n + n) ncB fSB fMB fLB) sz) (gWu z g n u ++ gW z h (n + n) ncB fSB fMB fLB)) (va_A (gW z g n nc fS fM fL ++ gW z h (n + n) ncB fSB fMB fLB) sz)) 0 0 (va_A (gW z g n nc fS fM fL ++ gW z h (n + n) ncB fSB fMB fLB) sz) := by
  have hTP : pg_ok (n + n) TP := hGB.1.1
  have hSP : gS (n + n) TP fSB := hGB.1.2.2.1
  have hIP : pg_In TP (n + n) 0 = pg_Gen (pg_PS n ct tt tg) := hGB.2.2
  have hkern := pg_kern htt htg hTP hIP
  refine Met.ofW (cc := prog_5_method_15_code) (maxL := 6) (ret := none) (by decide) rfl ?_
  intro p e s m args below meth c s₁ B hml hv
  have hx := B.exec
  have hb := B.bytes
  have hr := B.returns
  have ht : ∀ w ∈ TB, w.before args s = true := fun w h => atoms_spec (ws := wG_takeSecondParts) B.pre w (List.mem_cons_of_mem _ h)
  have hown : s.vm.findClass "PermutationDesk$Group" = some m.cls := findClass_of_methodNamed B.named
  have hlocks := B.notSynchronized
  obtain ⟨rfl, hsz, hP, hK, hD0⟩ := hv
  subst hsz
  have hD := hD0.self (sz := s.heap.size)
  generalize hAe : va_A (gW z g n nc fS fM fL ++ gW z h (n + n) ncB fSB fMB fLB) s.heap.size = A at hD ⊢
  have hA : ∀ q : Nat, s.heap.size ≤ q → A q := fun q h => by rw [← hAe]; exact Or.inr h
  have hS : va_S A s.heap s.heap [] := va_S.rf
  have hl := lv_entry ([.ref (g 0), .ref (h 0)]) (n := 6) (Nat.le_of_ble_eq_true rfl)
  rw [lg_entry_eq]
  generalize (lg_sl ([.ref (g 0), .ref (h 0)]) ++ List.replicate (6 - (lg_sl ([.ref (g 0), .ref (h 0)])).length) Slot.unset).toArray = ls at hl ⊢
  have hl : lv_has ls 6 [(0, .ref (g 0)), (1, .ref (h 0))] := hl
  refine lv_aload_n hx hb dG_takeSecondParts_0 rfl (lv_at hl 0 rfl) ?_
  refine qW_v (ci := 0) (q0 := 0) (wr := gW z h (n + n) ncB fSB fMB fLB) (As := []) (rest := []) ⟨hx, hb, hml, hown, ht⟩ (c_G_clear l D z g s.heap.size n nc fS fM fL (by omega)) (cB 0 ht gG_clear rfl tw_61 tw_95 (by decide +kernel) ⟨by decide, by decide⟩) tw_96 tw_97 hK hP hD hS hA [0, 1, 2, 3] [4, 5, 6, 7] rfl rfl rfl rfl (by decide) rfl rfl rfl rfl hl.1 rfl (Nat.le_of_ble_eq_true rfl) dG_takeSecondParts_1 ⟨by decide, by decide⟩ (fun u1 H locs h1 hP hD hS => ?_)
  obtain ⟨hR1, hT1, hc1⟩ := h1
  have hP := hP.sub (ws' := gWu z g n u1 ++ gW z h (n + n) ncB fSB fMB fLB) [4, 5, 6, 7, 0, 1, 2, 3] rfl
  have hD := hD.sub (ws' := gWu z g n u1 ++ gW z h (n + n) ncB fSB fMB fLB) [4, 5, 6, 7, 0, 1, 2, 3] (by decide) rfl
  refine lv_iconst (v := 0) hx hb dG_takeSecondParts_4 (by decide) ?_
  refine lv_istore_n hx hb dG_takeSecondParts_5 rfl hl (by decide) rfl (fun ls hl => ?_)
  replace hl : lv_has ls 6 [(2, .int (nI 0)), (0, .ref (g 0)), (1, .ref (h 0))] := hl
  refine wl (σ := Nat × gSt) (I := fun d st H locs ls => d + st.1 = n ∧ gRep n st.2 ∧ gPart n (fun a b o => o = pg_kt n TP a b) st.1 0 st.2.1 ∧ va_P D vC (gWu z g n st.2 ++ gW z h (n + n) ncB fSB fMB fLB) H ∧ va_D A (gWu z g n st.2 ++ gW z h (n + n) ncB fSB fMB fLB) ∧ va_S A s.heap H locs ∧ lv_has ls 6 [(2, .int (nI st.1)), (0, .ref (g 0)), (1, .ref (h 0))]) ?_ n (0, u1) _ _ ls ⟨rfl, hR1.1, by show gPart n _ 0 0 u1.1; rw [hT1]; exact gPart_0 n _, hP, hD, hS, hl⟩
  clear hP hD hS hl hR1 hT1 hc1
  rintro d ⟨k, u⟩ H locs ls ⟨hdk, hRu, hpt, hP, hD, hS, hl⟩ ih
  obtain ⟨T1, nc1, M1, lv1, fS1, fM1, fL1⟩ := u
  have hdk : d + k = n := hdk
  have hpt : gPart n (fun a b o => o = pg_kt n TP a b) k 0 T1 := hpt
  have hP : va_P D vC (gW z g n nc1 fS1 fM1 fL1 ++ gW z h (n + n) ncB fSB fMB fLB) H := hP
  have hD : va_D A (gW z g n nc1 fS1 fM1 fL1 ++ gW z h (n + n) ncB fSB fMB fLB) := hD
  have hl : lv_has ls 6 [(2, .int (nI k)), (0, .ref (g 0)), (1, .ref (h 0))] := hl
  refine lv_iload_n hx hb dG_takeSecondParts_6 rfl (lv_at hl 0 rfl) ?_
  refine lv_aload_n hx hb dG_takeSecondParts_7 rfl (lv_at hl 1 rfl) ?_
  refine va_get (ci := 0) (C := RG) (T := TG) (N := 6) hx hb ht inG hown hK hP 0 rfl rfl 0 (by decide) (ht _ tw_103) (fun _ h9 => h9) rfl dG_takeSecondParts_8 ?_
  refine lv_icmp_ge (tgt := 80) hx hb dG_takeSecondParts_11 rfl (fun h2 => ?_) (fun h2 => ?_)
  · have hk : k = n := by have := (nI_leI (by omega) (by omega)).mp h2; omega
    subst hk
    have hTT : T1 = pg_kt k TP := by
      funext a b
      by_cases q : a < b ∧ b < k
      · exact hpt.2.2.1 a b q.1 q.2 (Or.inl (by omega))
      · by_cases q2 : a = b ∧ a < k
        · obtain ⟨rfl, q3⟩ := q2
          rw [hpt.1 a q3, hkern.1.1 a q3]
        · rw [hpt.2.1 a b (fun r => by omega)]
          cases e : pg_kt k TP a b with
          | none => rfl
          | some x => have := hkern.1.2 a b x e; omega
    exact W.vret hx hb hr (fun t ht hW => ⟨⟨(T1, nc1, M1, lv1, fS1, fM1, fL1), rfl, ⟨hRu, by
      have h9 := hkern.2
      rw [← hTT] at h9
      have hok : pg_ok k T1 := hRu.1
      rw [← h9]
      refine ⟨fun x hx => (pg_In.fix hok k 0 x hx).1, pg_In.one hok k 0 (by omega), fun x y hx hy => ?_⟩
      rw [h9] at hx hy ⊢
      refine ⟨pg_P_mul hx.1 hy.1, ?_⟩
      have := pg_Gen.mul hx.2 hy.2
      rw [pg_pair_mul (pg_P_id k) hx.1 (pg_P_id k) hy.1] at this
      exact this, by
      show pg_In T1 k 0 = _
      rw [hTT]; exact hkern.2⟩, by rw [ht]; exact hP, hD⟩, hS.F ht⟩) hS.2.2 dG_takeSecondParts_80
  have hk : k < n := by
    rw [nI_leI (by omega) (by omega)] at h2
    omega
  refine lv_iload_n hx hb dG_takeSecondParts_14 rfl (lv_at hl 0 rfl) ?_
  refine lv_iconst (v := 1) hx hb dG_takeSecondParts_15 (by decide) ?_
  refine lv_iadd hx hb dG_takeSecondParts_16 ?_
  refine wti (x' := nI (k + 1)) (nI_1 k) ?_
  refine lv_istore_n hx hb dG_takeSecondParts_17 rfl hl (by decide) rfl (fun ls hl => ?_)
  replace hl : lv_has ls 6 [(3, .int (nI (k + 1))), (2, .int (nI k)), (0, .ref (g 0)), (1, .ref (h 0))] := hl
  refine wl (σ := Nat × gSt) (pc := 18) (I := fun d2 st H locs ls => d2 + st.1 = n ∧ k < st.1 ∧ gRep n st.2 ∧ gPart n (fun a b o => o = pg_kt n TP a b) k st.1 st.2.1 ∧ va_P D vC (gWu z g n st.2 ++ gW z h (n + n) ncB fSB fMB fLB) H ∧ va_D A (gWu z g n st.2 ++ gW z h (n + n) ncB fSB fMB fLB) ∧ va_S A s.heap H locs ∧ lv_has ls 6 [(3, .int (nI st.1)), (2, .int (nI k)), (0, .ref (g 0)), (1, .ref (h 0))]) ?_ (n - (k + 1)) (k + 1, (T1, nc1, M1, lv1, fS1, fM1, fL1)) _ _ ls ⟨by show n - (k + 1) + (k + 1) = n; omega, by show k < k + 1; omega, hRu, gPart_i hpt, hP, hD, hS, hl⟩
  clear hP hD hS hl hRu hpt
  rintro d2 ⟨i, u⟩ H locs ls ⟨hdi, hki, hRu, hpt, hP, hD, hS, hl⟩ ih2
  obtain ⟨T1, nc1, M1, lv1, fS1, fM1, fL1⟩ := u
  have hdi : d2 + i = n := hdi
  have hki : k < i := hki
  have hpt : gPart n (fun a b o => o = pg_kt n TP a b) k i T1 := hpt
  have hP : va_P D vC (gW z g n nc1 fS1 fM1 fL1 ++ gW z h (n + n) ncB fSB fMB fLB) H := hP
  have hD : va_D A (gW z g n nc1 fS1 fM1 fL1 ++ gW z h (n + n) ncB fSB fMB fLB) := hD
  have hl : lv_has ls 6 [(3, .int (nI i)), (2, .int (nI k)), (0, .ref (g 0)), (1, .ref (h 0))] := hl
  refine lv_iload_n hx hb dG_takeSecondParts_18 rfl (lv_at hl 0 rfl) ?_
  refine lv_aload_n hx hb dG_takeSecondParts_19 rfl (lv_at hl 2 rfl) ?_
  refine va_get (ci := 0) (C := RG) (T := TG) (N := 6) hx hb ht inG hown hK hP 0 rfl rfl 0 (by decide) (ht _ tw_103) (fun _ h9 => h9) rfl dG_takeSecondParts_20 ?_
  refine lv_icmp_ge (tgt := 74) hx hb dG_takeSecondParts_23 rfl (fun h3 => ?_) (fun h3 => ?_)
  · have hin : i = n := by have := (nI_leI (by omega) (by omega)).mp h3; omega
    subst hin
    refine lv_iinc (k := 1) (v := (nI (k + 1))) hx hb dG_takeSecondParts_74 hl rfl (by exact nI_1 _) (by decide) rfl (fun ls hl => ?_)
    replace hl : lv_has ls 6 [(2, .int (nI (k + 1))), (3, .int (nI i)), (0, .ref (g 0)), (1, .ref (h 0))] := hl
    refine lv_goto (tgt := 6) hx hb dG_takeSecondParts_77 rfl ?_
    exact ih (d - 1) (k + 1, (T1, nc1, M1, lv1, fS1, fM1, fL1)) _ _ ls (by omega) ⟨by show d - 1 + (k + 1) = i; omega, hRu, gPart_k hpt, hP, hD, hS, lv_sub hl [0, 2, 3] rfl⟩
  have hin : i < n := by
    rw [nI_leI (by omega) (by omega)] at h3
    omega
  refine lv_aload_n hx hb dG_takeSecondParts_26 rfl (lv_at hl 3 rfl) ?_
  refine lv_aload_n hx hb dG_takeSecondParts_27 rfl (lv_at hl 2 rfl) ?_
  refine va_get (ci := 0) (C := RG) (T := TG) (N := 6) hx hb ht inG hown hK hP 0 rfl rfl 0 (by decide) (ht _ tw_103) (fun _ h9 => h9) rfl dG_takeSecondParts_28 ?_
  refine lv_iload_n hx hb dG_takeSecondParts_31 rfl (lv_at hl 1 rfl) ?_
  refine lv_iadd hx hb dG_takeSecondParts_32 ?_
  refine lv_aload_n hx hb dG_takeSecondParts_33 rfl (lv_at hl 2 rfl) ?_
  refine va_get (ci := 0) (C := RG) (T := TG) (N := 6) hx hb ht inG hown hK hP 0 rfl rfl 0 (by decide) (ht _ tw_103) (fun _ h9 => h9) rfl dG_takeSecondParts_34 ?_
  refine lv_iload_n hx hb dG_takeSecondParts_37 rfl (lv_at hl 0 rfl) ?_
  refine lv_iadd hx hb dG_takeSecondParts_38 ?_
  refine W.eq (g2 := F0 m 39 ls [.int (nI (n + i)), .int (nI (n + k)), .ref (h 0)]) (by rw [nI_add, nI_add]) ?_
  refine qV_l (ci := 0) (q0 := 0) (As := [.int (nI (n + k)), .int (nI (n + i))]) (rest := []) ⟨hx, hb, hml, hown, ht⟩ (c_G_step l D z h (n + n) ncB fSB fMB fLB TP (by omega) hTP hSP (n + k) (n + i) (by omega) (by omega)) (cB 2 ht gG_step rfl tw_61 tw_402 (by decide +kernel) ⟨by decide, by decide⟩) tw_404 tw_14 hK (hP.sub (ws' := gW z h (n + n) ncB fSB fMB fLB) [4, 5, 6, 7] rfl) rfl rfl rfl hl.1 rfl (Nat.le_of_ble_eq_true rfl) dG_takeSecondParts_39 ⟨by decide, by decide⟩ (fun r39 h39 => ?_)
  subst h39
  refine lv_lstore hx hb dG_takeSecondParts_42 hl (by decide) rfl (fun ls hl => ?_)
  replace hl : lv_has ls 6 [(4, .long (oL (n + n) (TP (n + k) (n + i)))), (3, .int (nI i)), (2, .int (nI k)), (0, .ref (g 0)), (1, .ref (h 0))] := hl
  refine lv_lload hx hb dG_takeSecondParts_44 (lv_at hl 0 rfl) ?_
  refine W.ldc2 hx hb hown (ht _ tw_99) rfl dG_takeSecondParts_46 ?_
  refine W.lcmp hx hb dG_takeSecondParts_49 ?_
  refine lv_if_eq (tgt := 68) hx hb dG_takeSecondParts_50 rfl (fun h4 => ?_) (fun h4 => ?_)
  · have h5 := (oL_none hTP (by omega)).mp ((lg_cmp_eq _ _).mp h4)
    refine lv_iinc (k := 1) (v := (nI (i + 1))) hx hb dG_takeSecondParts_68 hl rfl (by exact nI_1 _) (by decide) rfl (fun ls hl => ?_)
    replace hl : lv_has ls 6 [(3, .int (nI (i + 1))), (4, .long (oL (n + n) (TP (n + k) (n + i)))), (2, .int (nI k)), (0, .ref (g 0)), (1, .ref (h 0))] := hl
    refine lv_goto (tgt := 18) hx hb dG_takeSecondParts_71 rfl ?_
    refine ih2 (d2 - 1) (i + 1, (T1, nc1, M1, lv1, fS1, fM1, fL1)) _ _ ls (by omega) ⟨by show d2 - 1 + (i + 1) = n; omega, by show k < i + 1; omega, hRu, gPart_none hpt hki hin ?_, hP, hD, hS, lv_sub hl [0, 2, 3, 4] rfl⟩
    show none = pg_kt n TP k i
    unfold pg_kt
    rw [if_pos ⟨hk, hin⟩, h5]
    rfl
  have h5 : TP (n + k) (n + i) ≠ none := fun e => h4 ((lg_cmp_eq _ _).mpr ((oL_none hTP (by omega)).mpr e))
  obtain ⟨st, hst⟩ : ∃ st, TP (n + k) (n + i) = some st := by
    cases e : TP (n + k) (n + i) with
    | none => exact absurd e h5
    | some st => exact ⟨st, rfl⟩
  have hkt : pg_kt n TP k i = some (pg_snd n st) := by
    unfold pg_kt
    rw [if_pos ⟨hk, hin⟩, hst]
    rfl
  obtain ⟨-, -, -, hsP, hsf, hse⟩ := hkern.1.2 k i _ hkt
  have hstK : pg_Gen (pg_PS n ct tt tg) st := by rw [← hIP]; exact pg_In.step hTP hst
  obtain ⟨pa, pb, hpa, hpb, -, rfl⟩ := pg_K_form htt htg hstK
  rw [pg_snd_pair hpb] at hkt hsP hsf hse
  rw [hst] at hl
  have hl : lv_has ls 6 [(4, .long (eL (n + n) (pg_pair n pa pb))), (3, .int (nI i)), (2, .int (nI k)), (0, .ref (g 0)), (1, .ref (h 0))] := hl
  have hfr := gPart_free hpt hki hin
  have hroom := pg_mk_free (show pg_mk n T1 nc1 M1 lv1 from hRu.2.1) (by omega) hki hin hfr
  refine lv_aload_n hx hb dG_takeSecondParts_53 rfl (lv_at hl 3 rfl) ?_
  refine lv_iload_n hx hb dG_takeSecondParts_54 rfl (lv_at hl 2 rfl) ?_
  refine lv_iload_n hx hb dG_takeSecondParts_55 rfl (lv_at hl 1 rfl) ?_
  refine lv_lload hx hb dG_takeSecondParts_56 (lv_at hl 0 rfl) ?_
  refine lv_aload_n hx hb dG_takeSecondParts_58 rfl (lv_at hl 3 rfl) ?_
  refine va_get (ci := 0) (C := RG) (T := TG) (N := 6) hx hb ht inG hown hK hP 0 rfl rfl 0 (by decide) (ht _ tw_103) (fun _ h9 => h9) rfl dG_takeSecondParts_59 ?_
  refine qS_l (As := [.long (eL (n + n) (pg_pair n pa pb)), .int (nI n)]) (rest := [.int (nI i), .int (nI k), .ref (g 0)]) ⟨hx, hb, hml, hown, ht⟩ (c_E_secondOf l n pa pb hn hpa hpb) (cB 2 ht gE_secondOf rfl tw_62 tw_472 (by decide +kernel) ⟨by decide, by decide⟩) tw_473 rfl hl.1 rfl (Nat.le_of_ble_eq_true rfl) dG_takeSecondParts_62 ⟨by decide, by decide⟩ (fun r62 h62 => ?_)
  subst h62
  refine qW_v (ci := 0) (q0 := 0) (wr := gW z h (n + n) ncB fSB fMB fLB) (As := [.int (nI k), .int (nI i), .long (eL n pb)]) (rest := []) ⟨hx, hb, hml, hown, ht⟩ (c_G_putStep l D z g H.size n nc1 fS1 fM1 fL1 (by omega) k i (eL n pb) hki hin hroom) (cB 3 ht gG_putStep rfl tw_61 tw_406 (by decide +kernel) ⟨by decide, by decide⟩) tw_408 tw_15 hK hP hD hS hA [0, 1, 2, 3] [4, 5, 6, 7] rfl rfl rfl rfl (by decide) rfl rfl rfl rfl hl.1 rfl (Nat.le_of_ble_eq_true rfl) dG_takeSecondParts_65 ⟨by decide, by decide⟩ (fun u65 H locs h65 hP hD hS => ?_)
  have hP := hP.sub (ws' := gWu z g n (gPut n (T1, nc1, M1, lv1, fS1, fM1, fL1) k i pb) ++ gW z h (n + n) ncB fSB fMB fLB) [4, 5, 6, 7, 0, 1, 2, 3] rfl
  have hD := hD.sub (ws' := gWu z g n (gPut n (T1, nc1, M1, lv1, fS1, fM1, fL1) k i pb) ++ gW z h (n + n) ncB fSB fMB fLB) [4, 5, 6, 7, 0, 1, 2, 3] (by decide) rfl
  refine lv_iinc (k := 1) (v := (nI (i + 1))) hx hb dG_takeSecondParts_68 hl rfl (by exact nI_1 _) (by decide) rfl (fun ls hl => ?_)
  replace hl : lv_has ls 6 [(3, .int (nI (i + 1))), (4, .long (eL (n + n) (pg_pair n pa pb))), (2, .int (nI k)), (0, .ref (g 0)), (1, .ref (h 0))] := hl
  refine lv_goto (tgt := 18) hx hb dG_takeSecondParts_71 rfl ?_
  exact ih2 (d2 - 1) (i + 1, gPut n (T1, nc1, M1, lv1, fS1, fM1, fL1) k i pb) _ _ ls (by omega) ⟨by show d2 - 1 + (i + 1) = n; omega, by show k < i + 1; omega, gPut_rep hRu hki hin hfr hsP hsf hse, gPart_some hpt hki hin hkt.symm, hP, hD, hS, lv_sub hl [0, 2, 3, 4] rfl⟩
