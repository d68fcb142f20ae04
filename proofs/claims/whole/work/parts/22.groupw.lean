/-! Group: entering elements, add. -/
/-- a Group's state: table, number of makers, makers, their levels, the three arrays -/
abbrev gSt : Type := pg_T × Nat × (Nat → pg_F) × (Nat → Nat) × (Nat → Int64) × (Nat → Int64) × (Nat → Int32)
abbrev gWu (z : Nat → ClassId) (g : Nat → Nat) (n : Nat) (u : gSt) : va_W := gW z g n u.2.1 u.2.2.2.2.1 u.2.2.2.2.2.1 u.2.2.2.2.2.2
/-- the arrays hold the table and the makers; both are in order -/
def gRep (n : Nat) (u : gSt) : Prop := pg_ok n u.1 ∧ pg_mk n u.1 u.2.1 u.2.2.1 u.2.2.2.1 ∧ gS n u.1 u.2.2.2.2.1 ∧ gM n u.2.1 u.2.2.1 u.2.2.2.1 u.2.2.2.2.2.1 u.2.2.2.2.2.2
/-- it has grown: u' has all that u has, and nothing that a group with u's steps lacks -/
def gGrw (n : Nat) (u u' : gSt) : Prop := pg_le u.1 u'.1 ∧ u.2.1 ≤ u'.2.1 ∧ (∀ a, a < u.2.1 → u'.2.2.1 a = u.2.2.1 a ∧ u'.2.2.2.1 a = u.2.2.2.1 a) ∧ ∀ H, pg_G n H → (∀ k i s, u.1 k i = some s → H s) → ∀ k i s, u'.1 k i = some s → H s
theorem gGrw.rf {n : Nat} {u : gSt} : gGrw n u u := ⟨pg_le.rf, Nat.le_refl _, fun _ _ => ⟨rfl, rfl⟩, fun _ _ h => h⟩
theorem gGrw.tr {n : Nat} {u u' u'' : gSt} (h : gGrw n u u') (h' : gGrw n u' u'') : gGrw n u u'' := by
  obtain ⟨a1, a2, a3, a4⟩ := h
  obtain ⟨b1, b2, b3, b4⟩ := h'
  refine ⟨a1.tr b1, by omega, fun a ha => ?_, fun H hH hs => b4 H hH (a4 H hH hs)⟩
  obtain ⟨q1, q2⟩ := a3 a ha
  obtain ⟨r1, r2⟩ := b3 a (by omega)
  exact ⟨r1.trans q1, r2.trans q2⟩
def gEnt (n : Nat) (u : gSt) (x : pg_F) (u' : gSt) : Prop := pg_ent n u.1 u.2.1 u.2.2.1 u.2.2.2.1 x u'.1 u'.2.1 u'.2.2.1 u'.2.2.2.1
theorem gEnt.grw {n : Nat} {u u' : gSt} {x : pg_F} (h : gEnt n u x u') (hx : ∀ H, pg_G n H → (∀ k i s, u.1 k i = some s → H s) → H x) : gGrw n u u' := by
  obtain ⟨-, -, a3, a4, a5, -, a7⟩ := h
  exact ⟨a3, a4, a5, fun H hH hs => a7 H hH hs (hx H hH hs)⟩
theorem gSt_put {n : Nat} {T : pg_T} {fS : Nat → Int64} (h : gS n T fS) {k i : Nat} (hi : i < n) (x : pg_F) : gS n (pg_put T k i x) (vp_updL fS (k * n + i) (eL n x)) := by
  intro a b ha hb
  by_cases q : a = k ∧ b = i
  · obtain ⟨rfl, rfl⟩ := q
    rw [pk_uLs, pg_put_at]; rfl
  · rw [pg_put_ne T x q, pk_uLn (fun e => q (ix_inj hb hi e))]
    exact h a b ha hb
theorem gMk_put {n nc : Nat} {M : Nat → pg_F} {lv : Nat → Nat} {fM : Nat → Int64} {fL : Nat → Int32} (h : gM n nc M lv fM fL) (x : pg_F) (k : Nat) : gM n (nc + 1) (va_up M nc x) (va_up lv nc k) (vp_updL fM nc (eL n x)) (upd fL nc (nI k)) := by
  refine ⟨fun a ha => ?_, fun a ha => ?_⟩
  · by_cases q : a = nc
    · rw [q, pk_uLs, va_up_self]
    · rw [pk_uLn q, va_up_ne _ _ q]; exact h.1 a (by omega)
  · by_cases q : a = nc
    · rw [q, pk_us, va_up_self]
    · rw [pk_un q, va_up_ne _ _ q]; exact h.2 a (by omega)
set_option maxHeartbeats 1000000 in
set_option maxRecDepth 100000 in
/-- putStep: one step more -/
theorem c_G_putStep (l : Launch) (D : va_G) (z : Nat → ClassId) (g : Nat → Nat) (sz n nc : Nat) (fS fM : Nat → Int64) (fL : Nat → Int32) (hn : n ≤ 14) (k i : Nat) (x : Int64) (hk : k < i) (hi : i < n) (hnc : nc < gcap n) : Met l yG_putStep wG_putStep (rmF 0) (va_Pc [.ref (g 0), .int (nI k), .int (nI i), .long x] (fun U => U.heap.size = sz ∧ va_P D vC (gW z g n nc fS fM fL) U.heap ∧ va_K D vC (tyL z) U ∧ va_D (fun _ => True) (gW z g n nc fS fM fL))) (va_Qv (fun _ : Unit => True) (fun _ t => va_P D vC (gW z g n (nc + 1) (vp_updL fS (k * n + i) x) (vp_updL fM nc x) (upd fL nc (nI k))) t.heap ∧ va_D (va_A (gW z g n nc fS fM fL) sz) (gW z g n (nc + 1) (vp_updL fS (k * n + i) x) (vp_updL fM nc x) (upd fL nc (nI k)))) (va_A (gW z g n nc fS fM fL) sz)) 0 0 (va_A (gW z g n nc fS fM fL) sz) := by
  have hnn := nn_lt hn
  have hcap := gcap_le hn
  have hix := ix_lt (by omega : k < n) hi
  refine Met.ofW (cc := prog_5_method_7_code) (maxL := 5) (ret := none) (by decide) rfl ?_
  intro p e s m args below meth c s₁ B hml hv
  have hx := B.exec
  have hb := B.bytes
  have hr := B.returns
  have ht : ∀ w ∈ TB, w.before args s = true := fun w h => atoms_spec (ws := wG_putStep) B.pre w (List.mem_cons_of_mem _ h)
  have hown : s.vm.findClass "PermutationDesk$Group" = some m.cls := findClass_of_methodNamed B.named
  have hlocks := B.notSynchronized
  obtain ⟨rfl, hsz, hP, hK, hD0⟩ := hv
  subst hsz
  have hD := hD0.self (sz := s.heap.size)
  generalize hAe : va_A (gW z g n nc fS fM fL) s.heap.size = A at hD ⊢
  have hA : ∀ q : Nat, s.heap.size ≤ q → A q := fun q h => by rw [← hAe]; exact Or.inr h
  have hS : va_S A s.heap s.heap [] := va_S.rf
  have hl := lv_entry ([.ref (g 0), .int (nI k), .int (nI i), .long x]) (n := 5) (Nat.le_of_ble_eq_true rfl)
  rw [lg_entry_eq]
  generalize (lg_sl ([.ref (g 0), .int (nI k), .int (nI i), .long x]) ++ List.replicate (5 - (lg_sl ([.ref (g 0), .int (nI k), .int (nI i), .long x])).length) Slot.unset).toArray = ls at hl ⊢
  have hl : lv_has ls 5 [(0, .ref (g 0)), (1, .int (nI k)), (2, .int (nI i)), (3, .long x)] := hl
  refine lv_iload_n hx hb dG_putStep_0 rfl (lv_at hl 1 rfl) ?_
  refine lv_if_lt (tgt := 29) hx hb dG_putStep_1 rfl (fun h => ?_) (fun h => ?_)
  · exact absurd h (nI_pos (by omega))
  refine lv_iload_n hx hb dG_putStep_4 rfl (lv_at hl 2 rfl) ?_
  refine lv_iload_n hx hb dG_putStep_5 rfl (lv_at hl 1 rfl) ?_
  refine lv_icmp_le (tgt := 29) hx hb dG_putStep_6 rfl (fun h => ?_) (fun h => ?_)
  · exact absurd h (nI_ge hk (by omega))
  refine lv_iload_n hx hb dG_putStep_9 rfl (lv_at hl 2 rfl) ?_
  refine lv_aload_n hx hb dG_putStep_10 rfl (lv_at hl 0 rfl) ?_
  refine va_get (ci := 0) (C := RG) (T := TG) (N := 6) hx hb ht inG hown hK hP 0 rfl rfl 0 (by decide) (ht _ tw_103) (fun _ h9 => h9) rfl dG_putStep_11 ?_
  refine lv_icmp_ge (tgt := 29) hx hb dG_putStep_14 rfl (fun h => ?_) (fun h => ?_)
  · exact absurd h (nI_ge hi (by omega))
  refine lv_aload_n hx hb dG_putStep_17 rfl (lv_at hl 0 rfl) ?_
  refine va_get (ci := 0) (C := RG) (T := TG) (N := 6) hx hb ht inG hown hK hP 0 rfl rfl 5 (by decide) (ht _ tw_108) (fun _ h9 => h9) rfl dG_putStep_18 ?_
  refine lv_aload_n hx hb dG_putStep_21 rfl (lv_at hl 0 rfl) ?_
  refine va_get (ci := 0) (C := RG) (T := TG) (N := 6) hx hb ht inG hown hK hP 0 rfl rfl 3 (by decide) (ht _ tw_106) (fun _ h9 => h9) rfl dG_putStep_22 ?_
  refine va_alen hx hb hK hP 2 0 rfl rfl rfl dG_putStep_25 ?_
  refine wti (x' := nI (gcap n)) rfl ?_
  refine lv_icmp_lt (tgt := 30) hx hb dG_putStep_26 rfl (fun h => ?_) (fun h => ?_)
  · skip
    refine lv_aload_n hx hb dG_putStep_30 rfl (lv_at hl 0 rfl) ?_
    refine va_get (ci := 0) (C := RG) (T := TG) (N := 6) hx hb ht inG hown hK hP 0 rfl rfl 2 (by decide) (ht _ tw_105) (fun _ h9 => h9) rfl dG_putStep_31 ?_
    refine lv_iload_n hx hb dG_putStep_34 rfl (lv_at hl 1 rfl) ?_
    refine lv_aload_n hx hb dG_putStep_35 rfl (lv_at hl 0 rfl) ?_
    refine va_get (ci := 0) (C := RG) (T := TG) (N := 6) hx hb ht inG hown hK hP 0 rfl rfl 0 (by decide) (ht _ tw_103) (fun _ h9 => h9) rfl dG_putStep_36 ?_
    refine lv_imul hx hb dG_putStep_39 ?_
    refine lv_iload_n hx hb dG_putStep_40 rfl (lv_at hl 2 rfl) ?_
    refine lv_iadd hx hb dG_putStep_41 ?_
    refine W.eq (g2 := F0 m 42 ls [.int (nI (k * n + i)), .ref (g 1)]) (by rw [pk_mul, nI_add]) ?_
    refine lv_lload_n hx hb dG_putStep_42 rfl (lv_at hl 3 rfl) ?_
    refine va_last hx hb hK hP hD hS 1 0 rfl rfl (vp_in_nI hix hnn) dG_putStep_43 (fun H locs hP hD hS => ?_)
    rw [nI_clamp (by omega)] at hP hD
    have hP : va_P D vC (gW z g n nc (vp_updL fS (k * n + i) x) fM fL) H := hP
    have hD : va_D A (gW z g n nc (vp_updL fS (k * n + i) x) fM fL) := hD
    refine lv_aload_n hx hb dG_putStep_44 rfl (lv_at hl 0 rfl) ?_
    refine va_get (ci := 0) (C := RG) (T := TG) (N := 6) hx hb ht inG hown hK hP 0 rfl rfl 3 (by decide) (ht _ tw_106) (fun _ h9 => h9) rfl dG_putStep_45 ?_
    refine lv_aload_n hx hb dG_putStep_48 rfl (lv_at hl 0 rfl) ?_
    refine va_get (ci := 0) (C := RG) (T := TG) (N := 6) hx hb ht inG hown hK hP 0 rfl rfl 5 (by decide) (ht _ tw_108) (fun _ h9 => h9) rfl dG_putStep_49 ?_
    refine lv_lload_n hx hb dG_putStep_52 rfl (lv_at hl 3 rfl) ?_
    refine va_last hx hb hK hP hD hS 2 0 rfl rfl (vp_in_nI hnc hcap) dG_putStep_53 (fun H locs hP hD hS => ?_)
    rw [nI_clamp (by omega)] at hP hD
    have hP : va_P D vC (gW z g n nc (vp_updL fS (k * n + i) x) (vp_updL fM nc x) fL) H := hP
    have hD : va_D A (gW z g n nc (vp_updL fS (k * n + i) x) (vp_updL fM nc x) fL) := hD
    refine lv_aload_n hx hb dG_putStep_54 rfl (lv_at hl 0 rfl) ?_
    refine va_get (ci := 0) (C := RG) (T := TG) (N := 6) hx hb ht inG hown hK hP 0 rfl rfl 4 (by decide) (ht _ tw_107) (fun _ h9 => h9) rfl dG_putStep_55 ?_
    refine lv_aload_n hx hb dG_putStep_58 rfl (lv_at hl 0 rfl) ?_
    refine va_get (ci := 0) (C := RG) (T := TG) (N := 6) hx hb ht inG hown hK hP 0 rfl rfl 5 (by decide) (ht _ tw_108) (fun _ h9 => h9) rfl dG_putStep_59 ?_
    refine lv_iload_n hx hb dG_putStep_62 rfl (lv_at hl 1 rfl) ?_
    refine va_iast hx hb hK hP hD hS 3 1 rfl rfl (vp_in_nI hnc hcap) dG_putStep_63 (fun H locs hP hD hS => ?_)
    rw [nI_clamp (by omega)] at hP hD
    have hP : va_P D vC (gW z g n nc (vp_updL fS (k * n + i) x) (vp_updL fM nc x) (upd fL nc (nI k))) H := hP
    have hD : va_D A (gW z g n nc (vp_updL fS (k * n + i) x) (vp_updL fM nc x) (upd fL nc (nI k))) := hD
    refine lv_aload_n hx hb dG_putStep_64 rfl (lv_at hl 0 rfl) ?_
    refine lv_dup hx hb dG_putStep_65 rfl ?_
    refine va_get (ci := 0) (C := RG) (T := TG) (N := 6) hx hb ht inG hown hK hP 0 rfl rfl 5 (by decide) (ht _ tw_108) (fun _ h9 => h9) rfl dG_putStep_66 ?_
    refine lv_iconst (v := 1) hx hb dG_putStep_69 (by decide) ?_
    refine lv_iadd hx hb dG_putStep_70 ?_
    refine wti (x' := nI (nc + 1)) (nI_1 nc) ?_
    refine va_put (ci := 0) (ty := .int) (C := RG) (T := TG) (N := 6) hx hb ht inG tyG tyG_ok nmG hown hK hP hD hS 0 rfl rfl 5 (by decide) (ht _ tw_108) (fun _ h9 => h9) rfl (by decide +kernel) rfl rfl (Nat.le_of_ble_eq_true rfl) dG_putStep_71 (fun H locs hP hD hS => ?_)
    have hP : va_P D vC (gW z g n (nc + 1) (vp_updL fS (k * n + i) x) (vp_updL fM nc x) (upd fL nc (nI k))) H := hP
    have hD : va_D A (gW z g n (nc + 1) (vp_updL fS (k * n + i) x) (vp_updL fM nc x) (upd fL nc (nI k))) := hD
    exact W.vret hx hb hr (fun t ht hW => ⟨⟨(), rfl, trivial, by rw [ht]; exact hP, hD⟩, hS.F ht⟩) hS.2.2 dG_putStep_74
  · exact absurd (nI_lt hnc (by omega)) h
set_option maxHeartbeats 1000000 in
set_option maxRecDepth 100000 in
/-- enter: x is held, by a step more if need be -/
theorem c_G_enter (l : Launch) (D : va_G) (z : Nat → ClassId) (g : Nat → Nat) (sz n : Nat) (T : pg_T) (nc : Nat) (M : Nat → pg_F) (lv : Nat → Nat) (fS fM : Nat → Int64) (fL : Nat → Int32) (hn : n ≤ 14) (hR : gRep n (T, nc, M, lv, fS, fM, fL)) (x : pg_F) (hxP : pg_P n x) : Met l yG_enter wG_enter (rmF 1) (va_Pc [.ref (g 0), .long (eL n x)] (fun U => U.heap.size = sz ∧ va_P D vC (gW z g n nc fS fM fL) U.heap ∧ va_K D vC (tyL z) U ∧ va_D (fun _ => True) (gW z g n nc fS fM fL))) (va_Qv (fun u => gEnt n (T, nc, M, lv, fS, fM, fL) x u ∧ gRep n u) (fun u t => va_P D vC (gWu z g n u) t.heap ∧ va_D (va_A (gW z g n nc fS fM fL) sz) (gWu z g n u)) (va_A (gW z g n nc fS fM fL) sz)) 0 0 (va_A (gW z g n nc fS fM fL) sz) := by
  obtain ⟨hT, hmk, hG, hM⟩ := hR
  have hT : pg_ok n T := hT
  have hmk : pg_mk n T nc M lv := hmk
  have hG : gS n T fS := hG
  have hM : gM n nc M lv fM fL := hM
  refine Met.ofW (cc := prog_5_method_10_code) (maxL := 9) (ret := none) (by decide) rfl ?_
  intro p e s m args below meth c s₁ B hml hv
  have hx := B.exec
  have hb := B.bytes
  have hr := B.returns
  have ht : ∀ w ∈ TB, w.before args s = true := fun w h => atoms_spec (ws := wG_enter) B.pre w (List.mem_cons_of_mem _ h)
  have hown : s.vm.findClass "PermutationDesk$Group" = some m.cls := findClass_of_methodNamed B.named
  have hlocks := B.notSynchronized
  obtain ⟨rfl, hsz, hP, hK, hD0⟩ := hv
  subst hsz
  have hD := hD0.self (sz := s.heap.size)
  generalize hAe : va_A (gW z g n nc fS fM fL) s.heap.size = A at hD ⊢
  have hA : ∀ q : Nat, s.heap.size ≤ q → A q := fun q h => by rw [← hAe]; exact Or.inr h
  have hS : va_S A s.heap s.heap [] := va_S.rf
  have hl := lv_entry ([.ref (g 0), .long (eL n x)]) (n := 9) (Nat.le_of_ble_eq_true rfl)
  rw [lg_entry_eq]
  generalize (lg_sl ([.ref (g 0), .long (eL n x)]) ++ List.replicate (9 - (lg_sl ([.ref (g 0), .long (eL n x)])).length) Slot.unset).toArray = ls at hl ⊢
  have hl : lv_has ls 9 [(0, .ref (g 0)), (1, .long (eL n x))] := hl
  refine lv_lload_n hx hb dG_enter_0 rfl (lv_at hl 1 rfl) ?_
  refine lv_lstore_n hx hb dG_enter_1 rfl hl (by decide) rfl (fun ls hl => ?_)
  replace hl : lv_has ls 9 [(3, .long (eL n x)), (0, .ref (g 0)), (1, .long (eL n x))] := hl
  refine lv_iconst (v := 0) hx hb dG_enter_2 (by decide) ?_
  refine lv_topi (fun v3 e3 => ?_)
  refine lv_istore hx hb dG_enter_3 hl (by decide) rfl (fun ls hl => ?_)
  replace hl : lv_has ls 9 [(5, .int v3), (3, .long (eL n x)), (0, .ref (g 0)), (1, .long (eL n x))] := hl
  refine wl0 (σ := Nat × pg_F) (I := fun d st ls => d + st.1 = n ∧ pg_sif n T x st.1 st.2 ∧ lv_has ls 9 [(5, .int (nI st.1)), (3, .long (eL n st.2)), (0, .ref (g 0))]) ?_ n (0, x) ls ⟨rfl, pg_sif_0 hxP, by rw [e3] at hl; exact lv_sub hl [0, 1, 2] rfl⟩
  rintro d ⟨k, q⟩ ls ⟨hdk, hsif, hl⟩ ih
  have hdk : d + k = n := hdk
  have hsif : pg_sif n T x k q := hsif
  have hq9 := hsif.1.d4 (by omega : n ≤ 16)
  refine lv_iload hx hb dG_enter_5 (lv_at hl 0 rfl) ?_
  refine lv_aload_n hx hb dG_enter_7 rfl (lv_at hl 2 rfl) ?_
  refine va_get (ci := 0) (C := RG) (T := TG) (N := 6) hx hb ht inG hown hK hP 0 rfl rfl 0 (by decide) (ht _ tw_103) (fun _ h9 => h9) rfl dG_enter_8 ?_
  refine lv_icmp_ge (tgt := 91) hx hb dG_enter_11 rfl (fun h => ?_) (fun h => ?_)
  · have hk : k = n := by have := (nI_leI (by omega) (by omega)).mp h; omega
    subst hk
    have hq := pg_sif_n hsif
    subst hq
    have hin := pg_sif_id hT hsif (Nat.le_refl _)
    exact W.vret hx hb hr (fun t ht hW => ⟨⟨(T, nc, M, lv, fS, fM, fL), rfl, ⟨pg_ent_old hT hmk hin, hT, hmk, hG, hM⟩, by rw [ht]; exact hP, hD⟩, hS.F ht⟩) hS.2.2 dG_enter_91
  have hk : k < n := by
    rw [nI_leI (by omega) (by omega)] at h
    omega
  refine lv_lload_n hx hb dG_enter_14 rfl (lv_at hl 1 rfl) ?_
  refine lv_aload_n hx hb dG_enter_15 rfl (lv_at hl 2 rfl) ?_
  refine va_get (ci := 0) (C := RG) (T := TG) (N := 6) hx hb ht inG hown hK hP 0 rfl rfl 1 (by decide) (ht _ tw_104) (fun _ h9 => h9) rfl dG_enter_16 ?_
  refine W.lcmp hx hb dG_enter_19 ?_
  refine lv_if_eq (tgt := 91) hx hb dG_enter_20 rfl (fun h2 => ?_) (fun h2 => ?_)
  · have hq := eL_inj hn hsif.1 (pg_P_id n) ((lg_cmp_eq _ _).mp h2)
    subst hq
    have hin := pg_sif_id hT hsif (by omega)
    exact W.vret hx hb hr (fun t ht hW => ⟨⟨(T, nc, M, lv, fS, fM, fL), rfl, ⟨pg_ent_old hT hmk hin, hT, hmk, hG, hM⟩, by rw [ht]; exact hP, hD⟩, hS.F ht⟩) hS.2.2 dG_enter_91
  obtain ⟨hto1, hto2⟩ := pg_sif_to hsif hk
  refine lv_lload_n hx hb dG_enter_23 rfl (lv_at hl 1 rfl) ?_
  refine lv_iload hx hb dG_enter_24 (lv_at hl 0 rfl) ?_
  refine qS_i (As := [.long (eL n q), .int (nI k)]) (rest := []) ⟨hx, hb, hml, hown, ht⟩ (c_E_at l n k q hn hq9 hk) (cB 2 ht gE_at rfl tw_62 tw_401 (by decide +kernel) ⟨by decide, by decide⟩) tw_254 rfl hl.1 rfl (Nat.le_of_ble_eq_true rfl) dG_enter_26 ⟨by decide, by decide⟩ (fun r26 h26 => ?_)
  subst h26
  refine lv_istore hx hb dG_enter_29 hl (by decide) rfl (fun ls hl => ?_)
  replace hl : lv_has ls 9 [(6, .int (nI (q k))), (5, .int (nI k)), (3, .long (eL n q)), (0, .ref (g 0))] := hl
  refine lv_aload_n hx hb dG_enter_31 rfl (lv_at hl 3 rfl) ?_
  refine lv_iload hx hb dG_enter_32 (lv_at hl 1 rfl) ?_
  refine lv_iload hx hb dG_enter_34 (lv_at hl 0 rfl) ?_
  refine qV_l (ci := 0) (q0 := 0) (As := [.int (nI k), .int (nI (q k))]) (rest := []) ⟨hx, hb, hml, hown, ht⟩ (c_G_step l D z g n nc fS fM fL T hn hT hG k (q k) hk hto2) (cB 2 ht gG_step rfl tw_61 tw_402 (by decide +kernel) ⟨by decide, by decide⟩) tw_404 tw_14 hK (hP) rfl rfl rfl hl.1 rfl (Nat.le_of_ble_eq_true rfl) dG_enter_36 ⟨by decide, by decide⟩ (fun r36 h36 => ?_)
  subst h36
  refine lv_lstore hx hb dG_enter_39 hl (by decide) rfl (fun ls hl => ?_)
  replace hl : lv_has ls 9 [(7, .long (oL n (T k (q k)))), (6, .int (nI (q k))), (5, .int (nI k)), (3, .long (eL n q)), (0, .ref (g 0))] := hl
  refine lv_lload hx hb dG_enter_41 (lv_at hl 0 rfl) ?_
  refine W.ldc2 hx hb hown (ht _ tw_99) rfl dG_enter_43 ?_
  refine W.lcmp hx hb dG_enter_46 ?_
  refine lv_if_ne (tgt := 60) hx hb dG_enter_47 rfl (fun h3 => ?_) (fun h3 => ?_)
  · have h4 : T k (q k) ≠ none := fun e => h3 ((lg_cmp_eq _ _).mpr ((oL_none hT hn).mpr e))
    obtain ⟨st, hst⟩ : ∃ st, T k (q k) = some st := by
      cases e : T k (q k) with
      | none => exact absurd e h4
      | some st => exact ⟨st, rfl⟩
    have hstP := (hT.2 _ _ _ hst).2.2.2.1
    rw [hst] at hl
    have hl : lv_has ls 9 [(7, .long (eL n st)), (6, .int (nI (q k))), (5, .int (nI k)), (3, .long (eL n q)), (0, .ref (g 0))] := hl
    refine lv_iload hx hb dG_enter_60 (lv_at hl 1 rfl) ?_
    refine lv_iload hx hb dG_enter_62 (lv_at hl 2 rfl) ?_
    refine lv_icmp_eq (tgt := 85) hx hb dG_enter_64 rfl (fun h5 => ?_) (fun h5 => ?_)
    · have h6 : q k = k := (nI_eq (by omega) (by omega)).mp h5
      refine lv_iinc (k := 2) (v := (nI (k + 1))) hx hb dG_enter_85 hl rfl (by exact nI_1 _) (by decide) rfl (fun ls hl => ?_)
      replace hl : lv_has ls 9 [(5, .int (nI (k + 1))), (7, .long (eL n st)), (6, .int (nI (q k))), (3, .long (eL n q)), (0, .ref (g 0))] := hl
      refine lv_goto (tgt := 5) hx hb dG_enter_88 rfl ?_
      exact ih (d - 1) (k + 1, q) ls (by omega) ⟨by show d - 1 + (k + 1) = n; omega, pg_sif_k hT hsif hk h6, lv_sub hl [0, 3, 4] rfl⟩
    · skip
      refine lv_lload_n hx hb dG_enter_67 rfl (lv_at hl 3 rfl) ?_
      refine lv_lload hx hb dG_enter_68 (lv_at hl 0 rfl) ?_
      refine lv_aload_n hx hb dG_enter_70 rfl (lv_at hl 4 rfl) ?_
      refine va_get (ci := 0) (C := RG) (T := TG) (N := 6) hx hb ht inG hown hK hP 0 rfl rfl 0 (by decide) (ht _ tw_103) (fun _ h9 => h9) rfl dG_enter_71 ?_
      refine qS_l (As := [.long (eL n st), .int (nI n)]) (rest := [.long (eL n q)]) ⟨hx, hb, hml, hown, ht⟩ (c_E_inverse l n st hn hstP) (cB 2 ht gE_inverse rfl tw_62 tw_410 (by decide +kernel) ⟨by decide, by decide⟩) tw_268 rfl hl.1 rfl (Nat.le_of_ble_eq_true rfl) dG_enter_74 ⟨by decide, by decide⟩ (fun r74 h74 => ?_)
      subst h74
      refine lv_aload_n hx hb dG_enter_77 rfl (lv_at hl 4 rfl) ?_
      refine va_get (ci := 0) (C := RG) (T := TG) (N := 6) hx hb ht inG hown hK hP 0 rfl rfl 0 (by decide) (ht _ tw_103) (fun _ h9 => h9) rfl dG_enter_78 ?_
      refine qS_l (As := [.long (eL n q), .long (eL n (pg_inv n st)), .int (nI n)]) (rest := []) ⟨hx, hb, hml, hown, ht⟩ (c_E_product l n q (pg_inv n st) hn hsif.1 (pg_P_inv hstP)) (cB 3 ht gE_product rfl tw_62 tw_411 (by decide +kernel) ⟨by decide, by decide⟩) tw_265 rfl hl.1 rfl (Nat.le_of_ble_eq_true rfl) dG_enter_81 ⟨by decide, by decide⟩ (fun r81 h81 => ?_)
      subst h81
      refine lv_lstore_n hx hb dG_enter_84 rfl hl (by decide) rfl (fun ls hl => ?_)
      replace hl : lv_has ls 9 [(3, .long (eL n (pg_mul q (pg_inv n st)))), (7, .long (eL n st)), (6, .int (nI (q k))), (5, .int (nI k)), (0, .ref (g 0))] := hl
      refine lv_iinc (k := 3) (v := (nI (k + 1))) hx hb dG_enter_85 hl rfl (by exact nI_1 _) (by decide) rfl (fun ls hl => ?_)
      replace hl : lv_has ls 9 [(5, .int (nI (k + 1))), (3, .long (eL n (pg_mul q (pg_inv n st)))), (7, .long (eL n st)), (6, .int (nI (q k))), (0, .ref (g 0))] := hl
      refine lv_goto (tgt := 5) hx hb dG_enter_88 rfl ?_
      exact ih (d - 1) (k + 1, pg_mul q (pg_inv n st)) ls (by omega) ⟨by show d - 1 + (k + 1) = n; omega, pg_sif_s hT hsif hk hst, lv_sub hl [0, 1, 4] rfl⟩
  · have h4 : T k (q k) = none := (oL_none hT hn).mp ((lg_cmp_eq _ _).mp h3)
    have hne : k ≠ q k := fun e => by rw [← e, hT.1 k hk] at h4; cases h4
    have hlt : k < q k := by omega
    have hfree := pg_mk_free hmk (by omega) hlt hto2 h4
    refine lv_aload_n hx hb dG_enter_50 rfl (lv_at hl 4 rfl) ?_
    refine lv_iload hx hb dG_enter_51 (lv_at hl 2 rfl) ?_
    refine lv_iload hx hb dG_enter_53 (lv_at hl 1 rfl) ?_
    refine lv_lload_n hx hb dG_enter_55 rfl (lv_at hl 3 rfl) ?_
    refine qW_v (ci := 0) (q0 := 0) (wr := []) (As := [.int (nI k), .int (nI (q k)), .long (eL n q)]) (rest := []) ⟨hx, hb, hml, hown, ht⟩ (c_G_putStep l D z g s.heap.size n nc fS fM fL hn k (q k) (eL n q) hlt hto2 hfree) (cB 3 ht gG_putStep rfl tw_61 tw_406 (by decide +kernel) ⟨by decide, by decide⟩) tw_408 tw_15 hK hP hD hS hA [0, 1, 2, 3] [] rfl rfl rfl rfl (by decide) rfl rfl rfl rfl hl.1 rfl (Nat.le_of_ble_eq_true rfl) dG_enter_56 ⟨by decide, by decide⟩ (fun u56 H locs h56 hP hD hS => ?_)
    have hP : va_P D vC (gW z g n (nc + 1) (vp_updL fS (k * n + q k) (eL n q)) (vp_updL fM nc (eL n q)) (upd fL nc (nI k))) H := hP
    have hD : va_D A (gW z g n (nc + 1) (vp_updL fS (k * n + q k) (eL n q)) (vp_updL fM nc (eL n q)) (upd fL nc (nI k))) := hD
    have hent := pg_ent_new (M' := va_up M nc q) (lv' := va_up lv nc k) hT hmk hsif hk h4 (fun a ha => va_up_ne _ _ (by omega)) (fun a ha => va_up_ne _ _ (by omega)) (va_up_self _ _ _) (va_up_self _ _ _)
    exact W.vret hx hb hr (fun t ht hW => ⟨⟨(pg_put T k (q k) q, nc + 1, va_up M nc q, va_up lv nc k, vp_updL fS (k * n + q k) (eL n q), vp_updL fM nc (eL n q), upd fL nc (nI k)), rfl, ⟨hent, hent.1, hent.2.1, gSt_put hG hto2 q, gMk_put hM q k⟩, by rw [ht]; exact hP, hD⟩, hS.F ht⟩) hS.2.2 dG_enter_59
