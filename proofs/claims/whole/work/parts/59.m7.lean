/-! The reference: the calls that make groups, and those that ask. -/
theorem mCol {n : Nat} {B : Nat → Bool} {C : pg_F → Prop} (hP : ∀ x, C x → pg_P n x) (h : ∀ r x, (pg_all n)[r]? = some x → (B r = true ↔ r < pg_fac n ∧ C x)) : pg_set n B = C := by
  funext x
  refine propext ⟨fun ⟨r, h1, h2⟩ => ((h r x h1).mp h2).2, fun hx => ?_⟩
  obtain ⟨r, hr, e⟩ := pg_all_at (hP x hx)
  exact ⟨r, e, (h r x e).mpr ⟨hr, hx⟩⟩
theorem mCol_put {n k : Nat} {B : Nat → Bool} {C : pg_F → Prop} {x9 : pg_F} (h9 : (pg_all n)[k]? = some x9) (hc : C x9) (h : ∀ r x, (pg_all n)[r]? = some x → (B r = true ↔ r < k ∧ C x)) : ∀ r x, (pg_all n)[r]? = some x → (va_up B k true r = true ↔ r < k + 1 ∧ C x) := by
  intro r x hr
  by_cases e : r = k
  · subst e
    rw [h9] at hr
    cases hr
    rw [va_up_self]
    exact ⟨fun _ => ⟨by omega, hc⟩, fun _ => rfl⟩
  · rw [va_up_ne _ _ e, h r x hr]
    exact ⟨fun q => ⟨by omega, q.2⟩, fun q => ⟨by omega, q.2⟩⟩
theorem mCol_skip {n k : Nat} {B : Nat → Bool} {C : pg_F → Prop} {x9 : pg_F} (h9 : (pg_all n)[k]? = some x9) (hc : ¬ C x9) (h : ∀ r x, (pg_all n)[r]? = some x → (B r = true ↔ r < k ∧ C x)) : ∀ r x, (pg_all n)[r]? = some x → (B r = true ↔ r < k + 1 ∧ C x) := by
  intro r x hr
  rw [h r x hr]
  refine ⟨fun q => ⟨by omega, q.2⟩, fun q => ⟨?_, q.2⟩⟩
  have : r ≠ k := fun e => hc (by rw [e, h9] at hr; cases hr; exact q.2)
  omega
theorem pg_all_in {n k : Nat} (h : k < pg_fac n) : ∃ x, (pg_all n)[k]? = some x := ⟨_, List.getElem?_eq_getElem (by rw [pg_all_len]; exact h)⟩
theorem mSet_P {n : Nat} {B : Nat → Bool} {G : pg_F → Prop} (h : pg_set n B = G) : ∀ x, G x → pg_P n x := by
  intro x hx
  rw [← h] at hx
  obtain ⟨r, h1, -⟩ := hx
  exact (pg_all_P h1).1
theorem pg_and_S {S S' : pg_F → Prop} {w : pg_F} (h : ∀ z, S' z ↔ S z ∨ z = w) : pg_and (pg_Gen S) w = pg_Gen S' :=
  pg_Gen.eq (fun s hs => hs.elim (fun q => pg_Gen.mono (fun z hz => pg_Gen.of ((h z).mpr (Or.inl hz))) q) (fun q => pg_Gen.of ((h s).mpr (Or.inr q)))) (fun s hs => pg_Gen.of (((h s).mp hs).imp pg_Gen.of id))
theorem pg_Gen_none {S : pg_F → Prop} (h : ∀ z, ¬ S z) : pg_Gen S = fun x => x = pg_id := by
  funext x
  refine propext ⟨fun hx => hx (fun x => x = pg_id) rfl (fun a s _ hs => absurd hs (h s)), fun hx => by rw [hx]; exact pg_Gen.one⟩
theorem pg_Gen_cg {S S' : pg_F → Prop} (h : ∀ z, S z ↔ S' z) : pg_Gen S = pg_Gen S' := by
  have : S = S' := funext fun z => propext (h z)
  rw [this]
/-- what the members below k of a group make by f -/
def mSg (n : Nat) (G : pg_F → Prop) (f : pg_F → pg_F) (k : Nat) (w : pg_F) : Prop := ∃ r x, r < k ∧ (pg_all n)[r]? = some x ∧ G x ∧ w = f x
theorem mSg_in {n k : Nat} {G : pg_F → Prop} {f : pg_F → pg_F} {x9 : pg_F} (h9 : (pg_all n)[k]? = some x9) (hG : G x9) : pg_Gen (mSg n G f (k + 1)) = pg_and (pg_Gen (mSg n G f k)) (f x9) := by
  refine (pg_and_S (fun w => ⟨?_, ?_⟩)).symm
  · rintro ⟨r, x, h1, h2, h3, rfl⟩
    by_cases e : r = k
    · rw [e, h9] at h2
      cases h2
      exact Or.inr rfl
    · exact Or.inl ⟨r, x, by omega, h2, h3, rfl⟩
  · rintro (⟨r, x, h1, h2, h3, h4⟩ | rfl)
    · exact ⟨r, x, by omega, h2, h3, h4⟩
    · exact ⟨k, x9, by omega, h9, hG, rfl⟩
theorem mSg_out {n k : Nat} {G : pg_F → Prop} {f : pg_F → pg_F} {x9 : pg_F} (h9 : (pg_all n)[k]? = some x9) (hG : ¬ G x9) : pg_Gen (mSg n G f (k + 1)) = pg_Gen (mSg n G f k) := by
  refine pg_Gen_cg (fun w => ⟨?_, ?_⟩)
  · rintro ⟨r, x, h1, h2, h3, h4⟩
    have : r ≠ k := fun e => hG (by rw [e, h9] at h2; cases h2; exact h3)
    exact ⟨r, x, by omega, h2, h3, h4⟩
  · rintro ⟨r, x, h1, h2, h3, h4⟩
    exact ⟨r, x, by omega, h2, h3, h4⟩
theorem mSg_0 {n : Nat} {G : pg_F → Prop} {f : pg_F → pg_F} : pg_Gen (mSg n G f 0) = fun x => x = pg_id := pg_Gen_none (fun w ⟨r, _, h, _⟩ => Nat.not_lt_zero r h)
theorem mSg_all {n : Nat} {G : pg_F → Prop} {f : pg_F → pg_F} (hP : ∀ x, G x → pg_P n x) : pg_Gen (mSg n G f (pg_fac n)) = pg_Gen (fun w => ∃ x, G x ∧ w = f x) := by
  refine pg_Gen_cg (fun w => ⟨fun ⟨r, x, _, _, h3, h4⟩ => ⟨x, h3, h4⟩, fun ⟨x, h3, h4⟩ => ?_⟩)
  obtain ⟨r, hr, e⟩ := pg_all_at (hP x h3)
  exact ⟨r, x, hr, e, h3, h4⟩
theorem bI_t {b : Bool} (h : ¬ bI b = 0) : b = true := by
  cases b with
  | true => rfl
  | false => exact absurd rfl h
theorem bI_z {b : Bool} (h : bI b = 0) : b = false := by
  cases b with
  | false => rfl
  | true => exact absurd h (by decide)
set_option maxHeartbeats 4000000 in
set_option maxRecDepth 100000 in
theorem c_M_kernel (l : Launch) (D : va_G) (z : Nat → ClassId) (d : Nat → Nat) (n : Nat) {cd : Int32} {ty : Nat} {ft : Nat → Int32} {gc : Nat} {fg fo fh : Nat → Int32} {fs ff : Nat → Int64} {fq : Nat → Int32} {mk : Nat} {fm fi : Nat → Int32} {de ps : Nat} {re : Int32} {go : Bool} {kd pr fa fr : Nat → Int32} (sz : Nat) (tx : Nat → Nat) (g : Nat → pg_F) (tg : Nat → Option pg_F) (Gs : Nat → pg_F → Prop) (hR : mR n tx ty g gc tg Gs ft fg fo fh fs) (x : Int32) : Met l yM_kernel wM_kernel (rmF 4) (va_Pc [.ref (d 0), .int x] (fun U => U.heap.size = sz ∧ va_P D vC (mW z d n cd ty ft gc fg fo fh fs ff fq mk fm fi de ps re go kd pr fa fr) U.heap ∧ va_K D vC (tyL z) U ∧ va_D (fun _ => True) (mW z d n cd ty ft gc fg fo fh fs ff fq mk fm fi de ps re go kd pr fa fr))) (va_Qi (fun r (v : mSt) => (v.1 = 0 ∧ ∃ (tt : Nat → pg_F) (i : Nat), aTg gc tg tt ∧ x = nI i ∧ i < 5 ∧ i ≠ 0 ∧ pg_hom n gc tt g ∧ gOrd n (aKer n gc tt g) r ∧ mRp n (tx, ty, g, gc, tg, va_up Gs i (aKer n gc tt g)) v) ∨ (((v.1 = 1 ∧ ¬ (iN x 5 ∧ x ≠ 0)) ∨ (v.1 = 2 ∧ (iN x 5 ∧ x ≠ 0) ∧ (¬ (∀ k, k < gc → tg k ≠ none) ∨ ∃ tt, aTg gc tg tt ∧ ¬ pg_hom n gc tt g))) ∧ mRp n (tx, ty, g, gc, tg, Gs) v)) (fun v t => va_P D vC (mWu z d n v) t.heap ∧ va_D (va_A (mW z d n cd ty ft gc fg fo fh fs ff fq mk fm fi de ps re go kd pr fa fr) sz) (mWu z d n v)) (va_A (mW z d n cd ty ft gc fg fo fh fs ff fq mk fm fi de ps re go kd pr fa fr) sz)) 0 0 (va_A (mW z d n cd ty ft gc fg fo fh fs ff fq mk fm fi de ps re go kd pr fa fr) sz) := by
  have hR0 := hR
  obtain ⟨h1n, hok, htg, ⟨Bs, hsl, hBs⟩, hg0⟩ := hR
  have hn := hok.2.2.1
  have hgc := hok.2.1
  have hlen := hok.1
  have hfac := pg_fac_le n hn
  refine Met.ofW (cc := prog_9_method_40_code) (maxL := 3) (ret := (some .int)) (by decide) rfl ?_
  intro p e s m args below meth c s₁ B hml hv
  have hx := B.exec
  have hb := B.bytes
  have hr := B.returns
  have ht : ∀ w ∈ TB, w.before args s = true := fun w h => atoms_spec (ws := wM_kernel) B.pre w (List.mem_cons_of_mem _ h)
  have hown : s.vm.findClass "PermutationDeskModel" = some m.cls := findClass_of_methodNamed B.named
  have hlocks := B.notSynchronized
  obtain ⟨rfl, hsz, hP, hK, hD0⟩ := hv
  subst hsz
  have hD := hD0.self (sz := s.heap.size)
  generalize hAe : va_A (mW z d n cd ty ft gc fg fo fh fs ff fq mk fm fi de ps re go kd pr fa fr) s.heap.size = A at hD ⊢
  have hA : ∀ q : Nat, s.heap.size ≤ q → A q := fun q h => by rw [← hAe]; exact Or.inr h
  have hS : va_S A s.heap s.heap [] := va_S.rf
  have hl := lv_entry ([.ref (d 0), .int x]) (n := 3) (Nat.le_of_ble_eq_true rfl)
  rw [lg_entry_eq]
  generalize (lg_sl ([.ref (d 0), .int x]) ++ List.replicate (3 - (lg_sl ([.ref (d 0), .int x])).length) Slot.unset).toArray = ls at hl ⊢
  have hl : lv_has ls 3 [(0, .ref (d 0)), (1, .int x)] := hl
  refine lv_aload_n hx hb dM_kernel_0 rfl (lv_at hl 0 rfl) ?_
  refine lv_iconst (v := 0) hx hb dM_kernel_1 (by decide) ?_
  refine va_put (ci := 5) (ty := .int) (C := RM) (T := TM) (N := 26) hx hb ht inM tyM tyM_ok nmM hown hK hP hD hS 0 rfl rfl 2 (by decide) (ht _ tw_651) (fun _ h9 => h9) rfl (by decide +kernel) rfl rfl (Nat.le_of_ble_eq_true rfl) dM_kernel_2 (fun H locs hP hD hS => ?_)
  have hP : va_P D vC (mW z d n 0 ty ft gc fg fo fh fs ff fq mk fm fi de ps re go kd pr fa fr) H := hP
  have hD : va_D A (mW z d n 0 ty ft gc fg fo fh fs ff fq mk fm fi de ps re go kd pr fa fr) := hD
  refine lv_iload_n hx hb dM_kernel_5 rfl (lv_at hl 1 rfl) ?_
  refine qS_i (As := [.int x]) (rest := []) ⟨hx, hb, hml, hown, ht⟩ (c_M_isTo l x) (cB 1 ht gM_isTo rfl tw_64 tw_872 (by decide +kernel) ⟨by decide, by decide⟩) tw_873 rfl hl.1 rfl (Nat.le_of_ble_eq_true rfl) dM_kernel_6 ⟨by decide, by decide⟩ (fun r6 h6 => ?_)
  obtain ⟨b1, rfl, hb1⟩ := h6
  refine lv_if_ne (tgt := 18) hx hb dM_kernel_9 rfl (fun h9 => ?_) (fun h9 => ?_)
  rotate_left
  · have hni : ¬ (iN x 5 ∧ x ≠ 0) := fun q => by have := hb1.mpr q; rw [bI_z h9] at this; cases this
    refine lv_aload_n hx hb dM_kernel_12 rfl (lv_at hl 0 rfl) ?_
    refine lv_iconst (v := 1) hx hb dM_kernel_13 (by decide) ?_
    refine qM_i (ci := 5) (q0 := 0) (As := [.int 1]) (rest := []) ⟨hx, hb, hml, hown, ht⟩ (c_M_fail l D z d n _ 1) (cB 1 ht gM_fail rfl tw_64 tw_796 (by decide +kernel) ⟨by decide, by decide⟩) tw_798 tw_42 hK hP hD hS hA rfl rfl rfl hl.1 rfl (Nat.le_of_ble_eq_true rfl) dM_kernel_14 ⟨by decide, by decide⟩ (fun r14 u14 H locs h14 hP hD hS => ?_)
    exact W.iret hx hb hr (fun t9 ht hW => ⟨⟨_, (1, ty, ft, gc, fg, fo, fh, fs, ff, fq, mk, fm, fi, de, ps, re, go, kd, pr, fa, fr), rfl, Or.inr ⟨Or.inl ⟨rfl, hni⟩, rfl, rfl, hR0⟩, by rw [ht]; exact hP, hD⟩, hS.F ht⟩) hS.2.2 dM_kernel_17
  have hx5 := hb1.mp (bI_t h9)
  refine wj (σ := (Nat → Int32) × (Nat → Int32)) (pc := 32) (I := fun u9 H1 locs1 ls1 => (¬ (∀ k, k < gc → tg k ≠ none) ∨ ∃ tt, aTg gc tg tt ∧ ¬ pg_hom n gc tt g) ∧ va_P D vC (mW z d n 0 ty ft gc fg fo fh fs ff u9.1 mk fm u9.2 de ps re go kd pr fa fr) H1 ∧ va_D A (mW z d n 0 ty ft gc fg fo fh fs ff u9.1 mk fm u9.2 de ps re go kd pr fa fr) ∧ va_S A s.heap H1 locs1 ∧ lv_has ls1 3 [(0, .ref (d 0)), (1, .int x)]) ?_ (fun jn => ?_)
  · clear hP hD hS hl
    rintro ⟨q9, i9⟩ H locs ls ⟨hni, hP, hD, hS, hl⟩
    replace hP : va_P D vC (mW z d n 0 ty ft gc fg fo fh fs ff q9 mk fm i9 de ps re go kd pr fa fr) H := hP
    replace hD : va_D A (mW z d n 0 ty ft gc fg fo fh fs ff q9 mk fm i9 de ps re go kd pr fa fr) := hD
    refine lv_aload_n hx hb dM_kernel_32 rfl (lv_at hl 0 rfl) ?_
    refine lv_iconst (v := 2) hx hb dM_kernel_33 (by decide) ?_
    refine qM_i (ci := 5) (q0 := 0) (As := [.int 2]) (rest := []) ⟨hx, hb, hml, hown, ht⟩ (c_M_fail l D z d n _ 2) (cB 1 ht gM_fail rfl tw_64 tw_796 (by decide +kernel) ⟨by decide, by decide⟩) tw_798 tw_42 hK hP hD hS hA rfl rfl rfl hl.1 rfl (Nat.le_of_ble_eq_true rfl) dM_kernel_34 ⟨by decide, by decide⟩ (fun r34 u34 H locs h34 hP hD hS => ?_)
    exact W.iret hx hb hr (fun t9 ht hW => ⟨⟨_, (2, ty, ft, gc, fg, fo, fh, fs, ff, q9, mk, fm, i9, de, ps, re, go, kd, pr, fa, fr), rfl, Or.inr ⟨Or.inr ⟨rfl, hx5, hni⟩, rfl, rfl, hR0⟩, by rw [ht]; exact hP, hD⟩, hS.F ht⟩) hS.2.2 dM_kernel_37
  refine lv_aload_n hx hb dM_kernel_18 rfl (lv_at hl 0 rfl) ?_
  refine qV_i (ci := 5) (q0 := 0) (As := []) (rest := []) ⟨hx, hb, hml, hown, ht⟩ (c_M_hasAll l D z d n hgc tg (fun i hi => (htg i hi).1)) (cB 0 ht gM_hasAll rfl tw_64 tw_860 (by decide +kernel) ⟨by decide, by decide⟩) tw_862 tw_54 hK (hP) rfl rfl rfl hl.1 rfl (Nat.le_of_ble_eq_true rfl) dM_kernel_19 ⟨by decide, by decide⟩ (fun r19 h19 => ?_)
  obtain ⟨b2, rfl, hb2⟩ := h19
  refine lv_if_eq (tgt := 32) hx hb dM_kernel_22 rfl (fun h22 => ?_) (fun h22 => ?_)
  · exact jn (fq, fi) _ _ ls ⟨Or.inl (fun q => by have := hb2.mpr q; rw [bI_z h22] at this; cases this), hP, hD, hS, hl⟩
  obtain ⟨tt, htt⟩ := aTg_of (hb2.mp (bI_t h22))
  refine lv_aload_n hx hb dM_kernel_25 rfl (lv_at hl 0 rfl) ?_
  refine qM_i (ci := 5) (q0 := 0) (As := []) (rest := []) ⟨hx, hb, hml, hown, ht⟩ (c_M_spread l D z d n _ hn hgc g tt hok.2.2.2.2 (hR0.tt htt)) (cB 0 ht gM_spread rfl tw_64 tw_864 (by decide +kernel) ⟨by decide, by decide⟩) tw_866 tw_55 hK hP hD hS hA rfl rfl rfl hl.1 rfl (Nat.le_of_ble_eq_true rfl) dM_kernel_26 ⟨by decide, by decide⟩ (fun r26 u26 H locs h26 hP hD hS => ?_)
  replace hP : va_P D vC (mW z d n 0 ty ft gc fg fo fh fs ff u26.1 mk fm u26.2 de ps re go kd pr fa fr) H := hP
  replace hD : va_D A (mW z d n 0 ty ft gc fg fo fh fs ff u26.1 mk fm u26.2 de ps re go kd pr fa fr) := hD
  obtain ⟨b3, rfl, hb3, hb4⟩ := h26
  refine lv_if_ne (tgt := 38) hx hb dM_kernel_29 rfl (fun h29 => ?_) (fun h29 => ?_)
  rotate_left
  · exact jn u26 _ _ ls ⟨Or.inr ⟨tt, htt, fun q => by have := hb3.mpr q; rw [bI_z h29] at this; cases this⟩, hP, hD, hS, hl⟩
  clear jn
  have hhom := hb3.mp (bI_t h29)
  have hker := hb4 (bI_t h29)
  obtain ⟨⟨i, rfl, hi⟩, hx0⟩ := hx5
  have hi0 : i ≠ 0 := fun q => hx0 (by rw [q]; rfl)
  refine lv_aload_n hx hb dM_kernel_38 rfl (lv_at hl 0 rfl) ?_
  refine qM_v (ci := 5) (q0 := 0) (As := []) (rest := []) ⟨hx, hb, hml, hown, ht⟩ (c_M_clearFilled l D z d n _) (cB 0 ht gM_clearFilled rfl tw_64 tw_816 (by decide +kernel) ⟨by decide, by decide⟩) tw_818 tw_46 hK hP hD hS hA rfl rfl rfl hl.1 rfl (Nat.le_of_ble_eq_true rfl) dM_kernel_39 ⟨by decide, by decide⟩ (fun u39 H locs h39 hP hD hS => ?_)
  replace hP : va_P D vC (mW z d n 0 ty ft gc fg fo fh fs u39 u26.1 mk fm u26.2 de ps re go kd pr fa fr) H := hP
  replace hD : va_D A (mW z d n 0 ty ft gc fg fo fh fs u39 u26.1 mk fm u26.2 de ps re go kd pr fa fr) := hD
  have hcl := h39
  refine lv_iconst (v := 0) hx hb dM_kernel_42 (by decide) ?_
  refine lv_istore_n hx hb dM_kernel_43 rfl hl (by decide) rfl (fun ls hl => ?_)
  replace hl : lv_has ls 3 [(2, .int (nI 0)), (0, .ref (d 0)), (1, .int (nI i))] := hl
  refine wl (σ := Nat × (Nat → Bool) × (Nat → Int64)) (I := fun q st H locs ls => q + st.1 = pg_fac n ∧ mB st.2.2 st.2.1 ∧ (∀ r x9, (pg_all n)[r]? = some x9 → (st.2.1 r = true ↔ r < st.1 ∧ aKer n gc tt g x9)) ∧ va_P D vC (mW z d n 0 ty ft gc fg fo fh fs st.2.2 u26.1 mk fm u26.2 de ps re go kd pr fa fr) H ∧ va_D A (mW z d n 0 ty ft gc fg fo fh fs st.2.2 u26.1 mk fm u26.2 de ps re go kd pr fa fr) ∧ va_S A s.heap H locs ∧ lv_has ls 3 [(2, .int (nI st.1)), (0, .ref (d 0)), (1, .int (nI i))]) ?_ (pg_fac n) (0, (fun _ => false), u39) _ _ ls ⟨rfl, hcl, fun r x9 _ => ⟨fun e9 => (by cases e9), fun e9 => absurd e9.1 (Nat.not_lt_zero r)⟩, hP, hD, hS, hl⟩
  clear hP hD hS hl
  rintro q ⟨k, B, f9⟩ H locs ls ⟨hdk, hmB, hcol, hP, hD, hS, hl⟩ ih
  replace hdk : q + k = pg_fac n := hdk
  replace hmB : mB f9 B := hmB
  replace hcol : ∀ r x9, (pg_all n)[r]? = some x9 → (B r = true ↔ r < k ∧ aKer n gc tt g x9) := hcol
  replace hP : va_P D vC (mW z d n 0 ty ft gc fg fo fh fs f9 u26.1 mk fm u26.2 de ps re go kd pr fa fr) H := hP
  replace hD : va_D A (mW z d n 0 ty ft gc fg fo fh fs f9 u26.1 mk fm u26.2 de ps re go kd pr fa fr) := hD
  replace hl : lv_has ls 3 [(2, .int (nI k)), (0, .ref (d 0)), (1, .int (nI i))] := hl
  refine lv_iload_n hx hb dM_kernel_44 rfl (lv_at hl 0 rfl) ?_
  refine lv_aload_n hx hb dM_kernel_45 rfl (lv_at hl 1 rfl) ?_
  refine va_get (ci := 5) (C := RM) (T := TM) (N := 26) hx hb ht inM hown hK hP 0 rfl rfl 1 (by decide) (ht _ tw_650) (fun _ h9 => h9) rfl dM_kernel_46 ?_
  refine lv_icmp_ge (tgt := 78) hx hb dM_kernel_49 rfl (fun h49 => ?_) (fun h49 => ?_)
  · have hk : k = pg_fac n := by have := (nI_leI (by omega) (by omega)).mp h49; omega
    rw [hk] at hcol
    have hset := mCol (fun x h8 => h8.1) hcol
    refine lv_aload_n hx hb dM_kernel_78 rfl (lv_at hl 1 rfl) ?_
    refine lv_iload_n hx hb dM_kernel_79 rfl (lv_at hl 2 rfl) ?_
    refine qM_i (ci := 5) (q0 := 0) (As := [.int (nI i)]) (rest := []) ⟨hx, hb, hml, hown, ht⟩ (c_M_store l D z d n _ hn i B hi hmB) (cB 1 ht gM_store rfl tw_64 tw_836 (by decide +kernel) ⟨by decide, by decide⟩) tw_838 tw_51 hK hP hD hS hA rfl rfl rfl hl.1 rfl (Nat.le_of_ble_eq_true rfl) dM_kernel_80 ⟨by decide, by decide⟩ (fun r80 u80 H locs h80 hP hD hS => ?_)
    replace hP : va_P D vC (mW z d n 0 ty ft gc fg fo fh u80 f9 u26.1 mk fm u26.2 de ps re go kd pr fa fr) H := hP
    replace hD : va_D A (mW z d n 0 ty ft gc fg fo fh u80 f9 u26.1 mk fm u26.2 de ps re go kd pr fa fr) := hD
    obtain ⟨rfl, hst⟩ := h80
    exact W.iret hx hb hr (fun t9 ht hW => ⟨⟨_, (0, ty, ft, gc, fg, fo, fh, u80, f9, u26.1, mk, fm, u26.2, de, ps, re, go, kd, pr, fa, fr), rfl, Or.inl ⟨rfl, tt, i, htt, rfl, hi, hi0, hhom, mOrd hset, rfl, rfl, hR0.put hi0 hset hst⟩, by rw [ht]; exact hP, hD⟩, hS.F ht⟩) hS.2.2 dM_kernel_83
  have hk : k < pg_fac n := by
    rw [nI_leI (by omega) (by omega)] at h49
    omega
  obtain ⟨x9, hx9⟩ := pg_all_in hk
  refine lv_aload_n hx hb dM_kernel_52 rfl (lv_at hl 1 rfl) ?_
  refine va_get (ci := 5) (C := RM) (T := TM) (N := 26) hx hb ht inM hown hK hP 0 rfl rfl 17 (by decide) (ht _ tw_666) (fun _ h9 => h9) rfl dM_kernel_53 ?_
  refine lv_iload_n hx hb dM_kernel_56 rfl (lv_at hl 0 rfl) ?_
  refine va_iald hx hb hK hP 12 1 rfl rfl (vp_in_nI (N := 5040) (by omega) (by decide)) dM_kernel_57 ?_
  refine wti (x' := u26.2 k) (by rw [nI_clamp (by omega)]) ?_
  refine lv_aload_n hx hb dM_kernel_58 rfl (lv_at hl 1 rfl) ?_
  refine va_get (ci := 5) (C := RM) (T := TM) (N := 26) hx hb ht inM hown hK hP 0 rfl rfl 3 (by decide) (ht _ tw_652) (fun _ h9 => h9) rfl dM_kernel_59 ?_
  refine lv_iconst (v := 0) hx hb dM_kernel_62 (by decide) ?_
  refine va_iald hx hb hK hP 1 1 rfl rfl (vp_in_nI (n := 0) (N := 5040) (by decide) (by decide)) dM_kernel_63 ?_
  refine wti (x' := eI n pg_id) (mL_0 n) ?_
  refine lv_icmp_ne (tgt := 72) hx hb dM_kernel_64 rfl (fun h64 => ?_) (fun h64 => ?_)
  · have hc : ¬ aKer n gc tt g x9 := fun q => h64 ((hker k x9 hx9).mpr q)
    refine lv_iinc (k := 0) (v := (nI (k + 1))) hx hb dM_kernel_72 hl rfl (by exact nI_1 _) (by decide) rfl (fun ls hl => ?_)
    replace hl : lv_has ls 3 [(2, .int (nI (k + 1))), (0, .ref (d 0)), (1, .int (nI i))] := hl
    refine lv_goto (tgt := 44) hx hb dM_kernel_75 rfl ?_
    exact ih (q - 1) (k + 1, B, f9) _ _ ls (by omega) ⟨by show q - 1 + (k + 1) = pg_fac n; omega, hmB, mCol_skip hx9 hc hcol, hP, hD, hS, lv_sub hl [0, 1, 2] rfl⟩
  have hc : aKer n gc tt g x9 := (hker k x9 hx9).mp h64
  refine lv_aload_n hx hb dM_kernel_67 rfl (lv_at hl 1 rfl) ?_
  refine lv_iload_n hx hb dM_kernel_68 rfl (lv_at hl 0 rfl) ?_
  refine qM_v (ci := 5) (q0 := 0) (As := [.int (nI k)]) (rest := []) ⟨hx, hb, hml, hown, ht⟩ (c_M_put l D z d n _ k B (by omega) hmB) (cB 1 ht gM_put rfl tw_64 tw_820 (by decide +kernel) ⟨by decide, by decide⟩) tw_822 tw_47 hK hP hD hS hA rfl rfl rfl hl.1 rfl (Nat.le_of_ble_eq_true rfl) dM_kernel_69 ⟨by decide, by decide⟩ (fun u69 H locs h69 hP hD hS => ?_)
  replace hP : va_P D vC (mW z d n 0 ty ft gc fg fo fh fs u69 u26.1 mk fm u26.2 de ps re go kd pr fa fr) H := hP
  replace hD : va_D A (mW z d n 0 ty ft gc fg fo fh fs u69 u26.1 mk fm u26.2 de ps re go kd pr fa fr) := hD
  refine lv_iinc (k := 0) (v := (nI (k + 1))) hx hb dM_kernel_72 hl rfl (by exact nI_1 _) (by decide) rfl (fun ls hl => ?_)
  replace hl : lv_has ls 3 [(2, .int (nI (k + 1))), (0, .ref (d 0)), (1, .int (nI i))] := hl
  refine lv_goto (tgt := 44) hx hb dM_kernel_75 rfl ?_
  exact ih (q - 1) (k + 1, va_up B k true, u69) _ _ ls (by omega) ⟨by show q - 1 + (k + 1) = pg_fac n; omega, h69, mCol_put hx9 hc hcol, hP, hD, hS, lv_sub hl [0, 1, 2] rfl⟩
set_option maxHeartbeats 4000000 in
set_option maxRecDepth 100000 in
theorem c_M_images (l : Launch) (D : va_G) (z : Nat → ClassId) (d : Nat → Nat) (n : Nat) {cd : Int32} {ty : Nat} {ft : Nat → Int32} {gc : Nat} {fg fo fh : Nat → Int32} {fs ff : Nat → Int64} {fq : Nat → Int32} {mk : Nat} {fm fi : Nat → Int32} {de ps : Nat} {re : Int32} {go : Bool} {kd pr fa fr : Nat → Int32} (sz : Nat) (tx : Nat → Nat) (g : Nat → pg_F) (tg : Nat → Option pg_F) (Gs : Nat → pg_F → Prop) (hR : mR n tx ty g gc tg Gs ft fg fo fh fs) (x : Int32) : Met l yM_images wM_images (rmF 4) (va_Pc [.ref (d 0), .int x] (fun U => U.heap.size = sz ∧ va_P D vC (mW z d n cd ty ft gc fg fo fh fs ff fq mk fm fi de ps re go kd pr fa fr) U.heap ∧ va_K D vC (tyL z) U ∧ va_D (fun _ => True) (mW z d n cd ty ft gc fg fo fh fs ff fq mk fm fi de ps re go kd pr fa fr))) (va_Qi (fun r (v : mSt) => (v.1 = 0 ∧ ∃ (tt : Nat → pg_F) (i : Nat), aTg gc tg tt ∧ x = nI i ∧ i < 5 ∧ i ≠ 0 ∧ gOrd n (pg_Gen (pg_GS gc tt)) r ∧ mRp n (tx, ty, g, gc, tg, va_up Gs i (pg_Gen (pg_GS gc tt))) v) ∨ (((v.1 = 1 ∧ ¬ (iN x 5 ∧ x ≠ 0)) ∨ (v.1 = 2 ∧ (iN x 5 ∧ x ≠ 0) ∧ ¬ (∀ k, k < gc → tg k ≠ none))) ∧ mRp n (tx, ty, g, gc, tg, Gs) v)) (fun v t => va_P D vC (mWu z d n v) t.heap ∧ va_D (va_A (mW z d n cd ty ft gc fg fo fh fs ff fq mk fm fi de ps re go kd pr fa fr) sz) (mWu z d n v)) (va_A (mW z d n cd ty ft gc fg fo fh fs ff fq mk fm fi de ps re go kd pr fa fr) sz)) 0 0 (va_A (mW z d n cd ty ft gc fg fo fh fs ff fq mk fm fi de ps re go kd pr fa fr) sz) := by
  have hR0 := hR
  obtain ⟨h1n, hok, htg, ⟨Bs, hsl, hBs⟩, hg0⟩ := hR
  have hn := hok.2.2.1
  have hgc := hok.2.1
  have hlen := hok.1
  have hfac := pg_fac_le n hn
  refine Met.ofW (cc := prog_9_method_41_code) (maxL := 3) (ret := (some .int)) (by decide) rfl ?_
  intro p e s m args below meth c s₁ B hml hv
  have hx := B.exec
  have hb := B.bytes
  have hr := B.returns
  have ht : ∀ w ∈ TB, w.before args s = true := fun w h => atoms_spec (ws := wM_images) B.pre w (List.mem_cons_of_mem _ h)
  have hown : s.vm.findClass "PermutationDeskModel" = some m.cls := findClass_of_methodNamed B.named
  have hlocks := B.notSynchronized
  obtain ⟨rfl, hsz, hP, hK, hD0⟩ := hv
  subst hsz
  have hD := hD0.self (sz := s.heap.size)
  generalize hAe : va_A (mW z d n cd ty ft gc fg fo fh fs ff fq mk fm fi de ps re go kd pr fa fr) s.heap.size = A at hD ⊢
  have hA : ∀ q : Nat, s.heap.size ≤ q → A q := fun q h => by rw [← hAe]; exact Or.inr h
  have hS : va_S A s.heap s.heap [] := va_S.rf
  have hl := lv_entry ([.ref (d 0), .int x]) (n := 3) (Nat.le_of_ble_eq_true rfl)
  rw [lg_entry_eq]
  generalize (lg_sl ([.ref (d 0), .int x]) ++ List.replicate (3 - (lg_sl ([.ref (d 0), .int x])).length) Slot.unset).toArray = ls at hl ⊢
  have hl : lv_has ls 3 [(0, .ref (d 0)), (1, .int x)] := hl
  refine lv_aload_n hx hb dM_images_0 rfl (lv_at hl 0 rfl) ?_
  refine lv_iconst (v := 0) hx hb dM_images_1 (by decide) ?_
  refine va_put (ci := 5) (ty := .int) (C := RM) (T := TM) (N := 26) hx hb ht inM tyM tyM_ok nmM hown hK hP hD hS 0 rfl rfl 2 (by decide) (ht _ tw_651) (fun _ h9 => h9) rfl (by decide +kernel) rfl rfl (Nat.le_of_ble_eq_true rfl) dM_images_2 (fun H locs hP hD hS => ?_)
  have hP : va_P D vC (mW z d n 0 ty ft gc fg fo fh fs ff fq mk fm fi de ps re go kd pr fa fr) H := hP
  have hD : va_D A (mW z d n 0 ty ft gc fg fo fh fs ff fq mk fm fi de ps re go kd pr fa fr) := hD
  refine lv_iload_n hx hb dM_images_5 rfl (lv_at hl 1 rfl) ?_
  refine qS_i (As := [.int x]) (rest := []) ⟨hx, hb, hml, hown, ht⟩ (c_M_isTo l x) (cB 1 ht gM_isTo rfl tw_64 tw_872 (by decide +kernel) ⟨by decide, by decide⟩) tw_873 rfl hl.1 rfl (Nat.le_of_ble_eq_true rfl) dM_images_6 ⟨by decide, by decide⟩ (fun r6 h6 => ?_)
  obtain ⟨b1, rfl, hb1⟩ := h6
  refine lv_if_ne (tgt := 18) hx hb dM_images_9 rfl (fun h9 => ?_) (fun h9 => ?_)
  rotate_left
  · have hni : ¬ (iN x 5 ∧ x ≠ 0) := fun q => by have := hb1.mpr q; rw [bI_z h9] at this; cases this
    refine lv_aload_n hx hb dM_images_12 rfl (lv_at hl 0 rfl) ?_
    refine lv_iconst (v := 1) hx hb dM_images_13 (by decide) ?_
    refine qM_i (ci := 5) (q0 := 0) (As := [.int 1]) (rest := []) ⟨hx, hb, hml, hown, ht⟩ (c_M_fail l D z d n _ 1) (cB 1 ht gM_fail rfl tw_64 tw_796 (by decide +kernel) ⟨by decide, by decide⟩) tw_798 tw_42 hK hP hD hS hA rfl rfl rfl hl.1 rfl (Nat.le_of_ble_eq_true rfl) dM_images_14 ⟨by decide, by decide⟩ (fun r14 u14 H locs h14 hP hD hS => ?_)
    exact W.iret hx hb hr (fun t9 ht hW => ⟨⟨_, (1, ty, ft, gc, fg, fo, fh, fs, ff, fq, mk, fm, fi, de, ps, re, go, kd, pr, fa, fr), rfl, Or.inr ⟨Or.inl ⟨rfl, hni⟩, rfl, rfl, hR0⟩, by rw [ht]; exact hP, hD⟩, hS.F ht⟩) hS.2.2 dM_images_17
  have hx5 := hb1.mp (bI_t h9)
  refine lv_aload_n hx hb dM_images_18 rfl (lv_at hl 0 rfl) ?_
  refine qV_i (ci := 5) (q0 := 0) (As := []) (rest := []) ⟨hx, hb, hml, hown, ht⟩ (c_M_hasAll l D z d n hgc tg (fun i hi => (htg i hi).1)) (cB 0 ht gM_hasAll rfl tw_64 tw_860 (by decide +kernel) ⟨by decide, by decide⟩) tw_862 tw_54 hK (hP) rfl rfl rfl hl.1 rfl (Nat.le_of_ble_eq_true rfl) dM_images_19 ⟨by decide, by decide⟩ (fun r19 h19 => ?_)
  obtain ⟨b2, rfl, hb2⟩ := h19
  refine lv_if_ne (tgt := 31) hx hb dM_images_22 rfl (fun h22 => ?_) (fun h22 => ?_)
  rotate_left
  · have hni : ¬ (∀ k, k < gc → tg k ≠ none) := fun q => by have := hb2.mpr q; rw [bI_z h22] at this; cases this
    refine lv_aload_n hx hb dM_images_25 rfl (lv_at hl 0 rfl) ?_
    refine lv_iconst (v := 2) hx hb dM_images_26 (by decide) ?_
    refine qM_i (ci := 5) (q0 := 0) (As := [.int 2]) (rest := []) ⟨hx, hb, hml, hown, ht⟩ (c_M_fail l D z d n _ 2) (cB 1 ht gM_fail rfl tw_64 tw_796 (by decide +kernel) ⟨by decide, by decide⟩) tw_798 tw_42 hK hP hD hS hA rfl rfl rfl hl.1 rfl (Nat.le_of_ble_eq_true rfl) dM_images_27 ⟨by decide, by decide⟩ (fun r27 u27 H locs h27 hP hD hS => ?_)
    exact W.iret hx hb hr (fun t9 ht hW => ⟨⟨_, (2, ty, ft, gc, fg, fo, fh, fs, ff, fq, mk, fm, fi, de, ps, re, go, kd, pr, fa, fr), rfl, Or.inr ⟨Or.inr ⟨rfl, hx5, hni⟩, rfl, rfl, hR0⟩, by rw [ht]; exact hP, hD⟩, hS.F ht⟩) hS.2.2 dM_images_30
  obtain ⟨tt, htt⟩ := aTg_of (hb2.mp (bI_t h22))
  have htP := hR0.tt htt
  obtain ⟨⟨i, rfl, hi⟩, hx0⟩ := hx5
  have hi0 : i ≠ 0 := fun q => hx0 (by rw [q]; rfl)
  refine lv_aload_n hx hb dM_images_31 rfl (lv_at hl 0 rfl) ?_
  refine qM_v (ci := 5) (q0 := 0) (As := []) (rest := []) ⟨hx, hb, hml, hown, ht⟩ (c_M_begin l D z d n _ hn) (cB 0 ht gM_begin rfl tw_64 tw_808 (by decide +kernel) ⟨by decide, by decide⟩) tw_810 tw_44 hK hP hD hS hA rfl rfl rfl hl.1 rfl (Nat.le_of_ble_eq_true rfl) dM_images_32 ⟨by decide, by decide⟩ (fun u32 H locs h32 hP hD hS => ?_)
  replace hP : va_P D vC (mW z d n 0 ty ft gc fg fo fh fs u32.1 u32.2.1 u32.2.2.1 u32.2.2.2 fi de ps re go kd pr fa fr) H := hP
  replace hD : va_D A (mW z d n 0 ty ft gc fg fo fh fs u32.1 u32.2.1 u32.2.2.1 u32.2.2.2 fi de ps re go kd pr fa fr) := hD
  refine lv_iconst (v := 0) hx hb dM_images_35 (by decide) ?_
  refine lv_istore_n hx hb dM_images_36 rfl hl (by decide) rfl (fun ls hl => ?_)
  replace hl : lv_has ls 3 [(2, .int (nI 0)), (0, .ref (d 0)), (1, .int (nI i))] := hl
  refine wl (σ := Nat × (Nat → Int64) × (Nat → Int32) × Nat × (Nat → Int32)) (I := fun q st H locs ls => q + st.1 = gc ∧ mF n st.2.2.2.1 st.2.1 st.2.2.2.2 (pg_Gen (pg_GS st.1 tt)) ∧ va_P D vC (mW z d n 0 ty ft gc fg fo fh fs st.2.1 st.2.2.1 st.2.2.2.1 st.2.2.2.2 fi de ps re go kd pr fa fr) H ∧ va_D A (mW z d n 0 ty ft gc fg fo fh fs st.2.1 st.2.2.1 st.2.2.2.1 st.2.2.2.2 fi de ps re go kd pr fa fr) ∧ va_S A s.heap H locs ∧ lv_has ls 3 [(2, .int (nI st.1)), (0, .ref (d 0)), (1, .int (nI i))]) ?_ gc (0, u32) _ _ ls ⟨rfl, (by
    show mF n u32.2.2.1 u32.1 u32.2.2.2 (pg_Gen (pg_GS 0 tt))
    rw [pg_Gen_0]; exact h32), hP, hD, hS, hl⟩
  clear hP hD hS hl
  rintro q ⟨k, f9, q9, m9, a9⟩ H locs ls ⟨hdk, hF, hP, hD, hS, hl⟩ ih
  replace hdk : q + k = gc := hdk
  replace hF : mF n m9 f9 a9 (pg_Gen (pg_GS k tt)) := hF
  replace hP : va_P D vC (mW z d n 0 ty ft gc fg fo fh fs f9 q9 m9 a9 fi de ps re go kd pr fa fr) H := hP
  replace hD : va_D A (mW z d n 0 ty ft gc fg fo fh fs f9 q9 m9 a9 fi de ps re go kd pr fa fr) := hD
  replace hl : lv_has ls 3 [(2, .int (nI k)), (0, .ref (d 0)), (1, .int (nI i))] := hl
  refine lv_iload_n hx hb dM_images_37 rfl (lv_at hl 0 rfl) ?_
  refine lv_aload_n hx hb dM_images_38 rfl (lv_at hl 1 rfl) ?_
  refine va_get (ci := 5) (C := RM) (T := TM) (N := 26) hx hb ht inM hown hK hP 0 rfl rfl 8 (by decide) (ht _ tw_657) (fun _ h9 => h9) rfl dM_images_39 ?_
  refine lv_icmp_ge (tgt := 61) hx hb dM_images_42 rfl (fun h => ?_) (fun h => ?_)
  · have hk : k = gc := by have := (nI_leI (by omega) (by omega)).mp h; omega
    rw [hk] at hF
    obtain ⟨B, hmB, hset⟩ := hF.row
    refine lv_aload_n hx hb dM_images_61 rfl (lv_at hl 1 rfl) ?_
    refine lv_iload_n hx hb dM_images_62 rfl (lv_at hl 2 rfl) ?_
    refine qM_i (ci := 5) (q0 := 0) (As := [.int (nI i)]) (rest := []) ⟨hx, hb, hml, hown, ht⟩ (c_M_store l D z d n _ hn i B hi hmB) (cB 1 ht gM_store rfl tw_64 tw_836 (by decide +kernel) ⟨by decide, by decide⟩) tw_838 tw_51 hK hP hD hS hA rfl rfl rfl hl.1 rfl (Nat.le_of_ble_eq_true rfl) dM_images_63 ⟨by decide, by decide⟩ (fun r63 u63 H locs h63 hP hD hS => ?_)
    replace hP : va_P D vC (mW z d n 0 ty ft gc fg fo fh u63 f9 q9 m9 a9 fi de ps re go kd pr fa fr) H := hP
    replace hD : va_D A (mW z d n 0 ty ft gc fg fo fh u63 f9 q9 m9 a9 fi de ps re go kd pr fa fr) := hD
    obtain ⟨rfl, hst⟩ := h63
    exact W.iret hx hb hr (fun t9 ht hW => ⟨⟨_, (0, ty, ft, gc, fg, fo, fh, u63, f9, q9, m9, a9, fi, de, ps, re, go, kd, pr, fa, fr), rfl, Or.inl ⟨rfl, tt, i, htt, rfl, hi, hi0, mOrd hset, rfl, rfl, hR0.put hi0 hset hst⟩, by rw [ht]; exact hP, hD⟩, hS.F ht⟩) hS.2.2 dM_images_66
  have hk : k < gc := by
    rw [nI_leI (by omega) (by omega)] at h
    omega
  refine lv_aload_n hx hb dM_images_45 rfl (lv_at hl 1 rfl) ?_
  refine lv_aload_n hx hb dM_images_46 rfl (lv_at hl 1 rfl) ?_
  refine va_get (ci := 5) (C := RM) (T := TM) (N := 26) hx hb ht inM hown hK hP 0 rfl rfl 10 (by decide) (ht _ tw_659) (fun _ h9 => h9) rfl dM_images_47 ?_
  refine lv_iload_n hx hb dM_images_50 rfl (lv_at hl 0 rfl) ?_
  refine va_iald hx hb hK hP 6 1 rfl rfl (vp_in_nI (N := 6) (by omega) (by decide)) dM_images_51 ?_
  refine wti (x' := eI n (tt k)) (by rw [nI_clamp (by omega)]; exact (htP k hk).2) ?_
  refine qM_v (ci := 5) (q0 := 0) (As := [.int (eI n (tt k))]) (rest := []) ⟨hx, hb, hml, hown, ht⟩ (c_M_grow l D z d n _ hn (tt k) (htP k hk).1 _ hF) (cB 1 ht gM_grow rfl tw_64 tw_832 (by decide +kernel) ⟨by decide, by decide⟩) tw_834 tw_50 hK hP hD hS hA rfl rfl rfl hl.1 rfl (Nat.le_of_ble_eq_true rfl) dM_images_52 ⟨by decide, by decide⟩ (fun u52 H locs h52 hP hD hS => ?_)
  replace hP : va_P D vC (mW z d n 0 ty ft gc fg fo fh fs u52.1 u52.2.1 u52.2.2.1 u52.2.2.2 fi de ps re go kd pr fa fr) H := hP
  replace hD : va_D A (mW z d n 0 ty ft gc fg fo fh fs u52.1 u52.2.1 u52.2.2.1 u52.2.2.2 fi de ps re go kd pr fa fr) := hD
  refine lv_iinc (k := 0) (v := (nI (k + 1))) hx hb dM_images_55 hl rfl (by exact nI_1 _) (by decide) rfl (fun ls hl => ?_)
  replace hl : lv_has ls 3 [(2, .int (nI (k + 1))), (0, .ref (d 0)), (1, .int (nI i))] := hl
  refine lv_goto (tgt := 37) hx hb dM_images_58 rfl ?_
  exact ih (q - 1) (k + 1, u52) _ _ ls (by omega) ⟨by show q - 1 + (k + 1) = gc; omega, (by
    have e9 : pg_Gen (pg_GS (k + 1) tt) = pg_and (pg_Gen (pg_GS k tt)) (tt k) := pg_and_gen (c := k) (K := tt) (K' := tt) rfl (fun _ _ => rfl) rfl
    show mF n u52.2.2.1 u52.1 u52.2.2.2 (pg_Gen (pg_GS (k + 1) tt))
    rw [e9]; exact h52), hP, hD, hS, lv_sub hl [0, 1, 2] rfl⟩
set_option maxHeartbeats 4000000 in
set_option maxRecDepth 100000 in
theorem c_M_isStable (l : Launch) (D : va_G) (z : Nat → ClassId) (d : Nat → Nat) (n : Nat) {cd : Int32} {ty : Nat} {ft : Nat → Int32} {gc : Nat} {fg fo fh : Nat → Int32} {fs ff : Nat → Int64} {fq : Nat → Int32} {mk : Nat} {fm fi : Nat → Int32} {de ps : Nat} {re : Int32} {go : Bool} {kd pr fa fr : Nat → Int32} (hn : n ≤ 7) (x : pg_F) (hxP : pg_P n x) (m9 : Nat) (hm9 : m9 < 2 ^ n) (wh : Bool) : Met l yM_isStable wM_isStable (rmF 1) (va_Pc [.ref (d 0), .int (eI n x), .int (nI m9), .int (bI wh)] (fun U => va_P D vC (mW z d n cd ty ft gc fg fo fh fs ff fq mk fm fi de ps re go kd pr fa fr) U.heap ∧ va_K D vC (tyL z) U)) (vp_Si (fun r => r = bI (kAll m9 wh x n))) 0 0 (fun _ => False) := by
  have hx9 := hxP.d3 (by omega : n ≤ 8)
  have hm31 : m9 < 2 ^ 31 := Nat.lt_of_lt_of_le hm9 (Nat.pow_le_pow_right (by decide) (by omega))
  refine Met.ofW (cc := prog_9_method_42_code) (maxL := 7) (ret := (some .boolean)) (by decide) rfl ?_
  intro p e s m args below meth c s₁ B hml hv
  have hx := B.exec
  have hb := B.bytes
  have hr := B.returns
  have ht : ∀ w ∈ TB, w.before args s = true := fun w h => atoms_spec (ws := wM_isStable) B.pre w (List.mem_cons_of_mem _ h)
  have hown : s.vm.findClass "PermutationDeskModel" = some m.cls := findClass_of_methodNamed B.named
  have hlocks := B.notSynchronized
  obtain ⟨rfl, hP, hK⟩ := hv
  have hl := lv_entry ([.ref (d 0), .int (eI n x), .int (nI m9), .int (bI wh)]) (n := 7) (Nat.le_of_ble_eq_true rfl)
  rw [lg_entry_eq]
  generalize (lg_sl ([.ref (d 0), .int (eI n x), .int (nI m9), .int (bI wh)]) ++ List.replicate (7 - (lg_sl ([.ref (d 0), .int (eI n x), .int (nI m9), .int (bI wh)])).length) Slot.unset).toArray = ls at hl ⊢
  have hl : lv_has ls 7 [(0, .ref (d 0)), (1, .int (eI n x)), (2, .int (nI m9)), (3, .int (bI wh))] := hl
  refine lv_iconst (v := 1) hx hb dM_isStable_0 (by decide) ?_
  refine lv_istore hx hb dM_isStable_1 hl (by decide) rfl (fun ls hl => ?_)
  replace hl : lv_has ls 7 [(4, .int (bI true)), (0, .ref (d 0)), (1, .int (eI n x)), (2, .int (nI m9)), (3, .int (bI wh))] := hl
  refine lv_iconst (v := 0) hx hb dM_isStable_3 (by decide) ?_
  refine lv_istore hx hb dM_isStable_4 hl (by decide) rfl (fun ls hl => ?_)
  replace hl : lv_has ls 7 [(5, .int (nI 0)), (4, .int (bI true)), (0, .ref (d 0)), (1, .int (eI n x)), (2, .int (nI m9)), (3, .int (bI wh))] := hl
  refine wl0 (σ := Nat) (I := fun q k ls => q + k = n ∧ lv_has ls 7 [(5, .int (nI k)), (4, .int (bI (kAll m9 wh x k))), (0, .ref (d 0)), (1, .int (eI n x)), (2, .int (nI m9)), (3, .int (bI wh))]) ?_ n 0 ls ⟨rfl, hl⟩
  rintro q k ls ⟨hdk, hl⟩ ih
  refine lv_iload hx hb dM_isStable_6 (lv_at hl 0 rfl) ?_
  refine lv_aload_n hx hb dM_isStable_8 rfl (lv_at hl 2 rfl) ?_
  refine va_get (ci := 5) (C := RM) (T := TM) (N := 26) hx hb ht inM hown hK hP 0 rfl rfl 0 (by decide) (ht _ tw_649) (fun _ h9 => h9) rfl dM_isStable_9 ?_
  refine lv_icmp_ge (tgt := 78) hx hb dM_isStable_12 rfl (fun h => ?_) (fun h => ?_)
  · have hk : k = n := by have := (nI_leI (by omega) (by omega)).mp h; omega
    subst hk
    refine lv_iload hx hb dM_isStable_78 (lv_at hl 1 rfl) ?_
    exact W.zret hx hb hr (bI_n _) (fun t h _ => ⟨_, rfl, rfl, h⟩) (fun q h => by cases h) dM_isStable_80
  have hk : k < n := by
    rw [nI_leI (by omega) (by omega)] at h
    omega
  have hxk := hxP.1 k hk
  refine lv_iload_n hx hb dM_isStable_15 rfl (lv_at hl 4 rfl) ?_
  refine lv_iload hx hb dM_isStable_16 (lv_at hl 0 rfl) ?_
  refine lv_ishr hx hb dM_isStable_18 ?_
  refine lv_iconst (v := 1) hx hb dM_isStable_19 (by decide) ?_
  refine lv_iand hx hb dM_isStable_20 ?_
  refine wti (x' := nI (m9 / 2 ^ k % 2)) (pe_bitS hm31 (by omega)) ?_
  refine lv_if_ne (tgt := 27) hx hb dM_isStable_21 rfl (fun h21 => ?_) (fun h21 => ?_)
  rotate_left
  · have hb9 : m9.testBit k = false := by
      cases e9 : m9.testBit k with
      | false => rfl
      | true => rw [pe_bit1.mpr e9] at h21; exact absurd h21 (by decide)
    refine lv_goto (tgt := 72) hx hb dM_isStable_24 rfl ?_
    refine lv_iinc (k := 0) (v := (nI (k + 1))) hx hb dM_isStable_72 hl rfl (by exact nI_1 _) (by decide) rfl (fun ls hl => ?_)
    replace hl : lv_has ls 7 [(5, .int (nI (k + 1))), (4, .int (bI (kAll m9 wh x k))), (0, .ref (d 0)), (1, .int (eI n x)), (2, .int (nI m9)), (3, .int (bI wh))] := hl
    refine lv_goto (tgt := 6) hx hb dM_isStable_75 rfl ?_
    exact ih (q - 1) (k + 1) ls (by omega) ⟨by omega, by rw [kAll_s, hb9]; simp only [Bool.not_false, Bool.true_or, Bool.and_true]; exact lv_sub hl [0, 1, 2, 3, 4, 5] rfl⟩
  have hb9 : m9.testBit k = true := by
    cases e9 : m9.testBit k with
    | true => rfl
    | false =>
      refine absurd ?_ h21
      have h8 : m9 / 2 ^ k % 2 ≠ 1 := fun q8 => by
        have := pe_bit1.mp (by rw [q8]; rfl : nI (m9 / 2 ^ k % 2) = 1)
        rw [e9] at this; cases this
      rw [show m9 / 2 ^ k % 2 = 0 by omega]
      rfl
  have hstep : kAll m9 wh x (k + 1) = (kAll m9 wh x k && kMay m9 wh k (x k)) := by rw [kAll_s, hb9]; rfl
  refine lv_aload_n hx hb dM_isStable_27 rfl (lv_at hl 2 rfl) ?_
  refine lv_iload_n hx hb dM_isStable_28 rfl (lv_at hl 3 rfl) ?_
  refine lv_iload hx hb dM_isStable_29 (lv_at hl 0 rfl) ?_
  refine qV_i (ci := 5) (q0 := 0) (As := [.int (eI n x), .int (nI k)]) (rest := []) ⟨hx, hb, hml, hown, ht⟩ (c_M_apply l D z d n k x hn hx9 hk) (cB 2 ht gM_apply rfl tw_64 tw_765 (by decide +kernel) ⟨by decide, by decide⟩) tw_767 tw_35 hK (hP) rfl rfl rfl hl.1 rfl (Nat.le_of_ble_eq_true rfl) dM_isStable_31 ⟨by decide, by decide⟩ (fun r31 h31 => ?_)
  subst h31
  refine lv_istore hx hb dM_isStable_34 hl (by decide) rfl (fun ls hl => ?_)
  replace hl : lv_has ls 7 [(6, .int (nI (x k))), (5, .int (nI k)), (4, .int (bI (kAll m9 wh x k))), (0, .ref (d 0)), (1, .int (eI n x)), (2, .int (nI m9)), (3, .int (bI wh))] := hl
  generalize hKA : kAll m9 wh x k = ka at hl hstep
  replace hl : lv_has ls 7 [(6, .int (nI (x k))), (5, .int (nI k)), (4, .int (bI ka)), (0, .ref (d 0)), (1, .int (eI n x)), (2, .int (nI m9)), (3, .int (bI wh))] := hl
  refine wj (σ := Unit) (pc := 69) (I := fun _ H1 locs1 ls1 => H1 = s.heap ∧ locs1 = [] ∧ ls = ls1 ∧ kAll m9 wh x (k + 1) = false) ?_ (fun jn => ?_)
  · rintro - H1 locs1 ls1 ⟨rfl, rfl, rfl, hno⟩
    refine lv_iconst (v := 0) hx hb dM_isStable_69 (by decide) ?_
    refine lv_istore hx hb dM_isStable_70 hl (by decide) rfl (fun ls hl => ?_)
    replace hl : lv_has ls 7 [(4, .int (bI false)), (6, .int (nI (x k))), (5, .int (nI k)), (0, .ref (d 0)), (1, .int (eI n x)), (2, .int (nI m9)), (3, .int (bI wh))] := hl
    refine lv_iinc (k := 2) (v := (nI (k + 1))) hx hb dM_isStable_72 hl rfl (by exact nI_1 _) (by decide) rfl (fun ls hl => ?_)
    replace hl : lv_has ls 7 [(5, .int (nI (k + 1))), (4, .int (bI false)), (6, .int (nI (x k))), (0, .ref (d 0)), (1, .int (eI n x)), (2, .int (nI m9)), (3, .int (bI wh))] := hl
    refine lv_goto (tgt := 6) hx hb dM_isStable_75 rfl ?_
    exact ih (q - 1) (k + 1) ls (by omega) ⟨by omega, by rw [hno]; exact lv_sub hl [0, 1, 3, 4, 5, 6] rfl⟩
  refine wj (σ := Unit) (pc := 65) (I := fun _ H1 locs1 ls1 => H1 = s.heap ∧ locs1 = [] ∧ ls = ls1 ∧ kAll m9 wh x (k + 1) = true) ?_ (fun jn2 => ?_)
  · rintro - H1 locs1 ls1 ⟨rfl, rfl, rfl, hno⟩
    refine lv_iconst (v := 1) hx hb dM_isStable_65 (by decide) ?_
    refine lv_goto (tgt := 70) hx hb dM_isStable_66 rfl ?_
    refine lv_istore hx hb dM_isStable_70 hl (by decide) rfl (fun ls hl => ?_)
    replace hl : lv_has ls 7 [(4, .int (bI true)), (6, .int (nI (x k))), (5, .int (nI k)), (0, .ref (d 0)), (1, .int (eI n x)), (2, .int (nI m9)), (3, .int (bI wh))] := hl
    refine lv_iinc (k := 2) (v := (nI (k + 1))) hx hb dM_isStable_72 hl rfl (by exact nI_1 _) (by decide) rfl (fun ls hl => ?_)
    replace hl : lv_has ls 7 [(5, .int (nI (k + 1))), (4, .int (bI true)), (6, .int (nI (x k))), (0, .ref (d 0)), (1, .int (eI n x)), (2, .int (nI m9)), (3, .int (bI wh))] := hl
    refine lv_goto (tgt := 6) hx hb dM_isStable_75 rfl ?_
    exact ih (q - 1) (k + 1) ls (by omega) ⟨by omega, by rw [hno]; exact lv_sub hl [0, 1, 3, 4, 5, 6] rfl⟩
  refine lv_iload hx hb dM_isStable_36 (lv_at hl 2 rfl) ?_
  refine lv_if_eq (tgt := 69) hx hb dM_isStable_38 rfl (fun h38 => ?_) (fun h38 => ?_)
  · exact jn () _ _ ls ⟨rfl, rfl, rfl, by rw [hstep, bI_z h38]; rfl⟩
  have hka := bI_t h38
  refine lv_iload_n hx hb dM_isStable_41 rfl (lv_at hl 6 rfl) ?_
  refine lv_if_eq (tgt := 58) hx hb dM_isStable_42 rfl (fun h42 => ?_) (fun h42 => ?_)
  · have hwh := bI_z h42
    have hmay : kMay m9 wh k (x k) = decide (x k = k) := by rw [hwh]; rfl
    refine lv_iload hx hb dM_isStable_58 (lv_at hl 0 rfl) ?_
    refine lv_iload hx hb dM_isStable_60 (lv_at hl 1 rfl) ?_
    refine lv_icmp_ne (tgt := 69) hx hb dM_isStable_62 rfl (fun h62 => ?_) (fun h62 => ?_)
    · have h9 : x k ≠ k := fun q9 => h62 (by rw [q9])
      exact jn () _ _ ls ⟨rfl, rfl, rfl, by rw [hstep, hmay, decide_eq_false h9, Bool.and_false]⟩
    have h9 : x k = k := (nI_eq (by omega) (by omega)).mp h62
    exact jn2 () _ _ ls ⟨rfl, rfl, rfl, by rw [hstep, hmay, decide_eq_true h9, hka]; rfl⟩
  have hwh := bI_t h42
  have hmay : kMay m9 wh k (x k) = m9.testBit (x k) := by rw [hwh]; rfl
  refine lv_iload_n hx hb dM_isStable_45 rfl (lv_at hl 5 rfl) ?_
  refine lv_iload hx hb dM_isStable_46 (lv_at hl 0 rfl) ?_
  refine lv_ishr hx hb dM_isStable_48 ?_
  refine lv_iconst (v := 1) hx hb dM_isStable_49 (by decide) ?_
  refine lv_iand hx hb dM_isStable_50 ?_
  refine wti (x' := nI (m9 / 2 ^ x k % 2)) (pe_bitS hm31 (by omega)) ?_
  refine lv_iconst (v := 1) hx hb dM_isStable_51 (by decide) ?_
  refine lv_icmp_ne (tgt := 69) hx hb dM_isStable_52 rfl (fun h52 => ?_) (fun h52 => ?_)
  · have h9 : m9.testBit (x k) = false := by
      cases e9 : m9.testBit (x k) with
      | false => rfl
      | true => exact absurd (pe_bit1.mpr e9) h52
    exact jn () _ _ ls ⟨rfl, rfl, rfl, by rw [hstep, hmay, h9, Bool.and_false]⟩
  refine lv_goto (tgt := 65) hx hb dM_isStable_55 rfl ?_
  exact jn2 () _ _ ls ⟨rfl, rfl, rfl, by rw [hstep, hmay, pe_bit1.mp h52, hka]; rfl⟩
set_option maxHeartbeats 4000000 in
set_option maxRecDepth 100000 in
theorem c_M_stabiliser (l : Launch) (D : va_G) (z : Nat → ClassId) (d : Nat → Nat) (n : Nat) {cd : Int32} {ty : Nat} {ft : Nat → Int32} {gc : Nat} {fg fo fh : Nat → Int32} {fs ff : Nat → Int64} {fq : Nat → Int32} {mk : Nat} {fm fi : Nat → Int32} {de ps : Nat} {re : Int32} {go : Bool} {kd pr fa fr : Nat → Int32} (sz : Nat) (tx : Nat → Nat) (g : Nat → pg_F) (tg : Nat → Option pg_F) (Gs : Nat → pg_F → Prop) (hR : mR n tx ty g gc tg Gs ft fg fo fh fs) (x y w : Int32) (wh : Bool) : Met l yM_stabiliser wM_stabiliser (rmF 4) (va_Pc [.ref (d 0), .int x, .int y, .int (bI wh), .int w] (fun U => U.heap.size = sz ∧ va_P D vC (mW z d n cd ty ft gc fg fo fh fs ff fq mk fm fi de ps re go kd pr fa fr) U.heap ∧ va_K D vC (tyL z) U ∧ va_D (fun _ => True) (mW z d n cd ty ft gc fg fo fh fs ff fq mk fm fi de ps re go kd pr fa fr))) (va_Qi (fun r (v : mSt) => (v.1 = 0 ∧ ∃ (i j m9 : Nat), x = nI i ∧ i < 5 ∧ w = nI j ∧ j < 5 ∧ j ≠ 0 ∧ y = nI m9 ∧ m9 < 2 ^ n ∧ gOrd n (aStb n m9 wh (Gs i)) r ∧ mRp n (tx, ty, g, gc, tg, va_up Gs j (aStb n m9 wh (Gs i))) v) ∨ (((v.1 = 1 ∧ ¬ (iN x 5 ∧ (iN w 5 ∧ w ≠ 0))) ∨ (v.1 = 2 ∧ (iN x 5 ∧ (iN w 5 ∧ w ≠ 0)) ∧ ¬ iN y (2 ^ n))) ∧ mRp n (tx, ty, g, gc, tg, Gs) v)) (fun v t => va_P D vC (mWu z d n v) t.heap ∧ va_D (va_A (mW z d n cd ty ft gc fg fo fh fs ff fq mk fm fi de ps re go kd pr fa fr) sz) (mWu z d n v)) (va_A (mW z d n cd ty ft gc fg fo fh fs ff fq mk fm fi de ps re go kd pr fa fr) sz)) 0 0 (va_A (mW z d n cd ty ft gc fg fo fh fs ff fq mk fm fi de ps re go kd pr fa fr) sz) := by
  have hR0 := hR
  obtain ⟨h1n, hok, htg, ⟨Bs, hsl, hBs⟩, hg0⟩ := hR
  have hn := hok.2.2.1
  have hgc := hok.2.1
  have hlen := hok.1
  have hfac := pg_fac_le n hn
  refine Met.ofW (cc := prog_9_method_43_code) (maxL := 6) (ret := (some .int)) (by decide) rfl ?_
  intro p e s m args below meth c s₁ B hml hv
  have hx := B.exec
  have hb := B.bytes
  have hr := B.returns
  have ht : ∀ w ∈ TB, w.before args s = true := fun w h => atoms_spec (ws := wM_stabiliser) B.pre w (List.mem_cons_of_mem _ h)
  have hown : s.vm.findClass "PermutationDeskModel" = some m.cls := findClass_of_methodNamed B.named
  have hlocks := B.notSynchronized
  obtain ⟨rfl, hsz, hP, hK, hD0⟩ := hv
  subst hsz
  have hD := hD0.self (sz := s.heap.size)
  generalize hAe : va_A (mW z d n cd ty ft gc fg fo fh fs ff fq mk fm fi de ps re go kd pr fa fr) s.heap.size = A at hD ⊢
  have hA : ∀ q : Nat, s.heap.size ≤ q → A q := fun q h => by rw [← hAe]; exact Or.inr h
  have hS : va_S A s.heap s.heap [] := va_S.rf
  have hl := lv_entry ([.ref (d 0), .int x, .int y, .int (bI wh), .int w]) (n := 6) (Nat.le_of_ble_eq_true rfl)
  rw [lg_entry_eq]
  generalize (lg_sl ([.ref (d 0), .int x, .int y, .int (bI wh), .int w]) ++ List.replicate (6 - (lg_sl ([.ref (d 0), .int x, .int y, .int (bI wh), .int w])).length) Slot.unset).toArray = ls at hl ⊢
  have hl : lv_has ls 6 [(0, .ref (d 0)), (1, .int x), (2, .int y), (3, .int (bI wh)), (4, .int w)] := hl
  refine lv_aload_n hx hb dM_stabiliser_0 rfl (lv_at hl 0 rfl) ?_
  refine lv_iconst (v := 0) hx hb dM_stabiliser_1 (by decide) ?_
  refine va_put (ci := 5) (ty := .int) (C := RM) (T := TM) (N := 26) hx hb ht inM tyM tyM_ok nmM hown hK hP hD hS 0 rfl rfl 2 (by decide) (ht _ tw_651) (fun _ h9 => h9) rfl (by decide +kernel) rfl rfl (Nat.le_of_ble_eq_true rfl) dM_stabiliser_2 (fun H locs hP hD hS => ?_)
  have hP : va_P D vC (mW z d n 0 ty ft gc fg fo fh fs ff fq mk fm fi de ps re go kd pr fa fr) H := hP
  have hD : va_D A (mW z d n 0 ty ft gc fg fo fh fs ff fq mk fm fi de ps re go kd pr fa fr) := hD
  refine lv_iload_n hx hb dM_stabiliser_5 rfl (lv_at hl 1 rfl) ?_
  refine qS_i (As := [.int x]) (rest := []) ⟨hx, hb, hml, hown, ht⟩ (c_M_isSlot l x) (cB 1 ht gM_isSlot rfl tw_64 tw_883 (by decide +kernel) ⟨by decide, by decide⟩) tw_884 rfl hl.1 rfl (Nat.le_of_ble_eq_true rfl) dM_stabiliser_6 ⟨by decide, by decide⟩ (fun r6 h6 => ?_)
  obtain ⟨b1, rfl, hb1⟩ := h6
  refine wj (σ := Unit) (pc := 20) (I := fun _ H1 locs1 ls1 => H = H1 ∧ locs = locs1 ∧ ls = ls1 ∧ ¬ (iN x 5 ∧ (iN w 5 ∧ w ≠ 0))) ?_ (fun jn => ?_)
  · rintro - H1 locs1 ls1 ⟨rfl, rfl, rfl, hni⟩
    refine lv_aload_n hx hb dM_stabiliser_20 rfl (lv_at hl 0 rfl) ?_
    refine lv_iconst (v := 1) hx hb dM_stabiliser_21 (by decide) ?_
    refine qM_i (ci := 5) (q0 := 0) (As := [.int 1]) (rest := []) ⟨hx, hb, hml, hown, ht⟩ (c_M_fail l D z d n _ 1) (cB 1 ht gM_fail rfl tw_64 tw_796 (by decide +kernel) ⟨by decide, by decide⟩) tw_798 tw_42 hK hP hD hS hA rfl rfl rfl hl.1 rfl (Nat.le_of_ble_eq_true rfl) dM_stabiliser_22 ⟨by decide, by decide⟩ (fun r22 u22 H locs h22 hP hD hS => ?_)
    exact W.iret hx hb hr (fun t9 ht hW => ⟨⟨_, (1, ty, ft, gc, fg, fo, fh, fs, ff, fq, mk, fm, fi, de, ps, re, go, kd, pr, fa, fr), rfl, Or.inr ⟨Or.inl ⟨rfl, hni⟩, rfl, rfl, hR0⟩, by rw [ht]; exact hP, hD⟩, hS.F ht⟩) hS.2.2 dM_stabiliser_25
  refine lv_if_eq (tgt := 20) hx hb dM_stabiliser_9 rfl (fun h9 => ?_) (fun h9 => ?_)
  · exact jn () _ _ ls ⟨rfl, rfl, rfl, fun q => by have := hb1.mpr q.1; rw [bI_z h9] at this; cases this⟩
  have hx5 : iN x 5 := hb1.mp (bI_t h9)
  refine lv_iload hx hb dM_stabiliser_12 (lv_at hl 4 rfl) ?_
  refine qS_i (As := [.int w]) (rest := []) ⟨hx, hb, hml, hown, ht⟩ (c_M_isTo l w) (cB 1 ht gM_isTo rfl tw_64 tw_872 (by decide +kernel) ⟨by decide, by decide⟩) tw_873 rfl hl.1 rfl (Nat.le_of_ble_eq_true rfl) dM_stabiliser_14 ⟨by decide, by decide⟩ (fun r14 h14 => ?_)
  obtain ⟨b2, rfl, hb2⟩ := h14
  refine lv_if_ne (tgt := 26) hx hb dM_stabiliser_17 rfl (fun h10 => ?_) (fun h10 => ?_)
  rotate_left
  · exact jn () _ _ ls ⟨rfl, rfl, rfl, fun q => by have := hb2.mpr q.2; rw [bI_z h10] at this; cases this⟩
  have hw5 := hb2.mp (bI_t h10)
  clear jn
  have hOK : (iN x 5 ∧ (iN w 5 ∧ w ≠ 0)) := ⟨hx5, hw5⟩
  obtain ⟨i, rfl, hi⟩ := hx5
  obtain ⟨⟨j, rfl, hj⟩, hw0⟩ := hw5
  have hj0 : j ≠ 0 := fun q => hw0 (by rw [q]; rfl)
  have h2n : 2 ^ n < 2 ^ 31 := Nat.pow_lt_pow_right (by decide) (by omega)
  have hshl : (1 : Int32) <<< (nI n &&& 31) = nI (2 ^ n) := pe_shl1 (by omega)
  refine wj (σ := Unit) (pc := 40) (I := fun _ H1 locs1 ls1 => H = H1 ∧ locs = locs1 ∧ ls = ls1 ∧ ¬ iN y (2 ^ n)) ?_ (fun jn => ?_)
  · rintro - H1 locs1 ls1 ⟨rfl, rfl, rfl, hni⟩
    refine lv_aload_n hx hb dM_stabiliser_40 rfl (lv_at hl 0 rfl) ?_
    refine lv_iconst (v := 2) hx hb dM_stabiliser_41 (by decide) ?_
    refine qM_i (ci := 5) (q0 := 0) (As := [.int 2]) (rest := []) ⟨hx, hb, hml, hown, ht⟩ (c_M_fail l D z d n _ 2) (cB 1 ht gM_fail rfl tw_64 tw_796 (by decide +kernel) ⟨by decide, by decide⟩) tw_798 tw_42 hK hP hD hS hA rfl rfl rfl hl.1 rfl (Nat.le_of_ble_eq_true rfl) dM_stabiliser_42 ⟨by decide, by decide⟩ (fun r42 u42 H locs h42 hP hD hS => ?_)
    exact W.iret hx hb hr (fun t9 ht hW => ⟨⟨_, (2, ty, ft, gc, fg, fo, fh, fs, ff, fq, mk, fm, fi, de, ps, re, go, kd, pr, fa, fr), rfl, Or.inr ⟨Or.inr ⟨rfl, hOK, hni⟩, rfl, rfl, hR0⟩, by rw [ht]; exact hP, hD⟩, hS.F ht⟩) hS.2.2 dM_stabiliser_45
  refine lv_iload_n hx hb dM_stabiliser_26 rfl (lv_at hl 2 rfl) ?_
  refine lv_if_lt (tgt := 40) hx hb dM_stabiliser_27 rfl (fun h27 => ?_) (fun h27 => ?_)
  · exact jn () _ _ ls ⟨rfl, rfl, rfl, fun q => ((iN_of h2n).mp q).1 h27⟩
  refine lv_iload_n hx hb dM_stabiliser_30 rfl (lv_at hl 2 rfl) ?_
  refine lv_iconst (v := 1) hx hb dM_stabiliser_31 (by decide) ?_
  refine lv_aload_n hx hb dM_stabiliser_32 rfl (lv_at hl 0 rfl) ?_
  refine va_get (ci := 5) (C := RM) (T := TM) (N := 26) hx hb ht inM hown hK hP 0 rfl rfl 0 (by decide) (ht _ tw_649) (fun _ h9 => h9) rfl dM_stabiliser_33 ?_
  refine lv_ishl hx hb dM_stabiliser_36 ?_
  refine wti (x' := nI (2 ^ n)) hshl ?_
  refine lv_icmp_lt (tgt := 46) hx hb dM_stabiliser_37 rfl (fun h37 => ?_) (fun h37 => ?_)
  rotate_left
  · exact jn () _ _ ls ⟨rfl, rfl, rfl, fun q => h37 (Int32.not_le.mp ((iN_of h2n).mp q).2)⟩
  clear jn
  obtain ⟨m9, rfl, hm9⟩ : iN y (2 ^ n) := (iN_of h2n).mpr ⟨h27, fun q => Int32.not_le.mpr h37 q⟩
  have hGP := mSet_P (hBs i hi)
  refine lv_aload_n hx hb dM_stabiliser_46 rfl (lv_at hl 0 rfl) ?_
  refine qM_v (ci := 5) (q0 := 0) (As := []) (rest := []) ⟨hx, hb, hml, hown, ht⟩ (c_M_clearFilled l D z d n _) (cB 0 ht gM_clearFilled rfl tw_64 tw_816 (by decide +kernel) ⟨by decide, by decide⟩) tw_818 tw_46 hK hP hD hS hA rfl rfl rfl hl.1 rfl (Nat.le_of_ble_eq_true rfl) dM_stabiliser_47 ⟨by decide, by decide⟩ (fun u47 H locs h47 hP hD hS => ?_)
  replace hP : va_P D vC (mW z d n 0 ty ft gc fg fo fh fs u47 fq mk fm fi de ps re go kd pr fa fr) H := hP
  replace hD : va_D A (mW z d n 0 ty ft gc fg fo fh fs u47 fq mk fm fi de ps re go kd pr fa fr) := hD
  have hcl := h47
  refine lv_iconst (v := 0) hx hb dM_stabiliser_50 (by decide) ?_
  refine lv_istore hx hb dM_stabiliser_51 hl (by decide) rfl (fun ls hl => ?_)
  replace hl : lv_has ls 6 [(5, .int (nI 0)), (0, .ref (d 0)), (1, .int (nI i)), (2, .int (nI m9)), (3, .int (bI wh)), (4, .int (nI j))] := hl
  refine wl (σ := Nat × (Nat → Bool) × (Nat → Int64)) (I := fun q st H locs ls => q + st.1 = pg_fac n ∧ mB st.2.2 st.2.1 ∧ (∀ r x9, (pg_all n)[r]? = some x9 → (st.2.1 r = true ↔ r < st.1 ∧ aStb n m9 wh (Gs i) x9)) ∧ va_P D vC (mW z d n 0 ty ft gc fg fo fh fs st.2.2 fq mk fm fi de ps re go kd pr fa fr) H ∧ va_D A (mW z d n 0 ty ft gc fg fo fh fs st.2.2 fq mk fm fi de ps re go kd pr fa fr) ∧ va_S A s.heap H locs ∧ lv_has ls 6 [(5, .int (nI st.1)), (0, .ref (d 0)), (1, .int (nI i)), (2, .int (nI m9)), (3, .int (bI wh)), (4, .int (nI j))]) ?_ (pg_fac n) (0, (fun _ => false), u47) _ _ ls ⟨rfl, hcl, fun r x9 _ => ⟨fun e9 => (by cases e9), fun e9 => absurd e9.1 (Nat.not_lt_zero r)⟩, hP, hD, hS, hl⟩
  clear hP hD hS hl
  rintro q ⟨k, B, f9⟩ H locs ls ⟨hdk, hmB, hcol, hP, hD, hS, hl⟩ ih
  replace hdk : q + k = pg_fac n := hdk
  replace hmB : mB f9 B := hmB
  replace hcol : ∀ r x9, (pg_all n)[r]? = some x9 → (B r = true ↔ r < k ∧ aStb n m9 wh (Gs i) x9) := hcol
  replace hP : va_P D vC (mW z d n 0 ty ft gc fg fo fh fs f9 fq mk fm fi de ps re go kd pr fa fr) H := hP
  replace hD : va_D A (mW z d n 0 ty ft gc fg fo fh fs f9 fq mk fm fi de ps re go kd pr fa fr) := hD
  replace hl : lv_has ls 6 [(5, .int (nI k)), (0, .ref (d 0)), (1, .int (nI i)), (2, .int (nI m9)), (3, .int (bI wh)), (4, .int (nI j))] := hl
  refine lv_iload hx hb dM_stabiliser_53 (lv_at hl 0 rfl) ?_
  refine lv_aload_n hx hb dM_stabiliser_55 rfl (lv_at hl 1 rfl) ?_
  refine va_get (ci := 5) (C := RM) (T := TM) (N := 26) hx hb ht inM hown hK hP 0 rfl rfl 1 (by decide) (ht _ tw_650) (fun _ h9 => h9) rfl dM_stabiliser_56 ?_
  refine lv_icmp_ge (tgt := 100) hx hb dM_stabiliser_59 rfl (fun h59 => ?_) (fun h59 => ?_)
  · have hk : k = pg_fac n := by have := (nI_leI (by omega) (by omega)).mp h59; omega
    rw [hk] at hcol
    have hset := mCol (fun x h8 => hGP x h8.1) hcol
    refine lv_aload_n hx hb dM_stabiliser_100 rfl (lv_at hl 1 rfl) ?_
    refine lv_iload hx hb dM_stabiliser_101 (lv_at hl 5 rfl) ?_
    refine qM_i (ci := 5) (q0 := 0) (As := [.int (nI j)]) (rest := []) ⟨hx, hb, hml, hown, ht⟩ (c_M_store l D z d n _ hn j B hj hmB) (cB 1 ht gM_store rfl tw_64 tw_836 (by decide +kernel) ⟨by decide, by decide⟩) tw_838 tw_51 hK hP hD hS hA rfl rfl rfl hl.1 rfl (Nat.le_of_ble_eq_true rfl) dM_stabiliser_103 ⟨by decide, by decide⟩ (fun r103 u103 H locs h103 hP hD hS => ?_)
    replace hP : va_P D vC (mW z d n 0 ty ft gc fg fo fh u103 f9 fq mk fm fi de ps re go kd pr fa fr) H := hP
    replace hD : va_D A (mW z d n 0 ty ft gc fg fo fh u103 f9 fq mk fm fi de ps re go kd pr fa fr) := hD
    obtain ⟨rfl, hst⟩ := h103
    exact W.iret hx hb hr (fun t9 ht hW => ⟨⟨_, (0, ty, ft, gc, fg, fo, fh, u103, f9, fq, mk, fm, fi, de, ps, re, go, kd, pr, fa, fr), rfl, Or.inl ⟨rfl, i, j, m9, rfl, hi, rfl, hj, hj0, rfl, hm9, mOrd hset, rfl, rfl, hR0.put hj0 hset hst⟩, by rw [ht]; exact hP, hD⟩, hS.F ht⟩) hS.2.2 dM_stabiliser_106
  have hk : k < pg_fac n := by
    rw [nI_leI (by omega) (by omega)] at h59
    omega
  obtain ⟨x9, hx9⟩ := pg_all_in hk
  have hx9P := (pg_all_P hx9).1
  have hGk : Bs i k = true ↔ Gs i x9 := by rw [← hBs i hi]; exact (pg_set_at hx9).symm
  refine lv_aload_n hx hb dM_stabiliser_62 rfl (lv_at hl 1 rfl) ?_
  refine lv_iload_n hx hb dM_stabiliser_63 rfl (lv_at hl 2 rfl) ?_
  refine lv_iload hx hb dM_stabiliser_64 (lv_at hl 0 rfl) ?_
  refine qV_i (ci := 5) (q0 := 0) (As := [.int (nI i), .int (nI k)]) (rest := []) ⟨hx, hb, hml, hown, ht⟩ (c_M_isIn l D z d n i k (Bs i) hi (by omega) (hsl i hi)) (cB 2 ht gM_isIn rfl tw_64 tw_844 (by decide +kernel) ⟨by decide, by decide⟩) tw_846 tw_53 hK (hP) rfl rfl rfl hl.1 rfl (Nat.le_of_ble_eq_true rfl) dM_stabiliser_66 ⟨by decide, by decide⟩ (fun r66 h66 => ?_)
  subst h66
  refine wj (σ := Unit) (pc := 94) (I := fun _ H1 locs1 ls1 => H = H1 ∧ locs = locs1 ∧ ls = ls1 ∧ ¬ aStb n m9 wh (Gs i) x9) ?_ (fun jn => ?_)
  · rintro - H1 locs1 ls1 ⟨rfl, rfl, rfl, hc⟩
    refine lv_iinc (k := 0) (v := (nI (k + 1))) hx hb dM_stabiliser_94 hl rfl (by exact nI_1 _) (by decide) rfl (fun ls hl => ?_)
    replace hl : lv_has ls 6 [(5, .int (nI (k + 1))), (0, .ref (d 0)), (1, .int (nI i)), (2, .int (nI m9)), (3, .int (bI wh)), (4, .int (nI j))] := hl
    refine lv_goto (tgt := 53) hx hb dM_stabiliser_97 rfl ?_
    exact ih (q - 1) (k + 1, B, f9) _ _ ls (by omega) ⟨by show q - 1 + (k + 1) = pg_fac n; omega, hmB, mCol_skip hx9 hc hcol, hP, hD, hS, lv_sub hl [0, 1, 2, 3, 4, 5] rfl⟩
  refine lv_if_eq (tgt := 94) hx hb dM_stabiliser_69 rfl (fun h69 => ?_) (fun h69 => ?_)
  · exact jn () _ _ ls ⟨rfl, rfl, rfl, fun q => by have := hGk.mpr q.1; rw [bI_z h69] at this; cases this⟩
  have hG9 := hGk.mp (bI_t h69)
  refine lv_aload_n hx hb dM_stabiliser_72 rfl (lv_at hl 1 rfl) ?_
  refine lv_aload_n hx hb dM_stabiliser_73 rfl (lv_at hl 1 rfl) ?_
  refine va_get (ci := 5) (C := RM) (T := TM) (N := 26) hx hb ht inM hown hK hP 0 rfl rfl 3 (by decide) (ht _ tw_652) (fun _ h9 => h9) rfl dM_stabiliser_74 ?_
  refine lv_iload hx hb dM_stabiliser_77 (lv_at hl 0 rfl) ?_
  refine va_iald hx hb hK hP 1 1 rfl rfl (vp_in_nI (N := 5040) (by omega) (by decide)) dM_stabiliser_79 ?_
  refine wti (x' := eI n x9) (by rw [nI_clamp (by omega)]; exact mL_at hx9) ?_
  refine lv_iload_n hx hb dM_stabiliser_80 rfl (lv_at hl 3 rfl) ?_
  refine lv_iload_n hx hb dM_stabiliser_81 rfl (lv_at hl 4 rfl) ?_
  refine qV_i (ci := 5) (q0 := 0) (As := [.int (eI n x9), .int (nI m9), .int (bI wh)]) (rest := []) ⟨hx, hb, hml, hown, ht⟩ (c_M_isStable l D z d n hn x9 hx9P m9 hm9 wh) (cB 3 ht gM_isStable rfl tw_64 tw_886 (by decide +kernel) ⟨by decide, by decide⟩) tw_888 tw_56 hK (hP) rfl rfl rfl hl.1 rfl (Nat.le_of_ble_eq_true rfl) dM_stabiliser_82 ⟨by decide, by decide⟩ (fun r82 h82 => ?_)
  subst h82
  refine lv_if_eq (tgt := 94) hx hb dM_stabiliser_85 rfl (fun h85 => ?_) (fun h85 => ?_)
  · exact jn () _ _ ls ⟨rfl, rfl, rfl, fun q => by have := q.2; rw [bI_z h85] at this; cases this⟩
  clear jn
  have hc : aStb n m9 wh (Gs i) x9 := ⟨hG9, bI_t h85⟩
  refine lv_aload_n hx hb dM_stabiliser_88 rfl (lv_at hl 1 rfl) ?_
  refine lv_iload hx hb dM_stabiliser_89 (lv_at hl 0 rfl) ?_
  refine qM_v (ci := 5) (q0 := 0) (As := [.int (nI k)]) (rest := []) ⟨hx, hb, hml, hown, ht⟩ (c_M_put l D z d n _ k B (by omega) hmB) (cB 1 ht gM_put rfl tw_64 tw_820 (by decide +kernel) ⟨by decide, by decide⟩) tw_822 tw_47 hK hP hD hS hA rfl rfl rfl hl.1 rfl (Nat.le_of_ble_eq_true rfl) dM_stabiliser_91 ⟨by decide, by decide⟩ (fun u91 H locs h91 hP hD hS => ?_)
  replace hP : va_P D vC (mW z d n 0 ty ft gc fg fo fh fs u91 fq mk fm fi de ps re go kd pr fa fr) H := hP
  replace hD : va_D A (mW z d n 0 ty ft gc fg fo fh fs u91 fq mk fm fi de ps re go kd pr fa fr) := hD
  refine lv_iinc (k := 0) (v := (nI (k + 1))) hx hb dM_stabiliser_94 hl rfl (by exact nI_1 _) (by decide) rfl (fun ls hl => ?_)
  replace hl : lv_has ls 6 [(5, .int (nI (k + 1))), (0, .ref (d 0)), (1, .int (nI i)), (2, .int (nI m9)), (3, .int (bI wh)), (4, .int (nI j))] := hl
  refine lv_goto (tgt := 53) hx hb dM_stabiliser_97 rfl ?_
  exact ih (q - 1) (k + 1, va_up B k true, u91) _ _ ls (by omega) ⟨by show q - 1 + (k + 1) = pg_fac n; omega, h91, mCol_put hx9 hc hcol, hP, hD, hS, lv_sub hl [0, 1, 2, 3, 4, 5] rfl⟩
set_option maxHeartbeats 4000000 in
set_option maxRecDepth 100000 in
theorem c_M_centraliser (l : Launch) (D : va_G) (z : Nat → ClassId) (d : Nat → Nat) (n : Nat) {cd : Int32} {ty : Nat} {ft : Nat → Int32} {gc : Nat} {fg fo fh : Nat → Int32} {fs ff : Nat → Int64} {fq : Nat → Int32} {mk : Nat} {fm fi : Nat → Int32} {de ps : Nat} {re : Int32} {go : Bool} {kd pr fa fr : Nat → Int32} (sz : Nat) (tx : Nat → Nat) (g : Nat → pg_F) (tg : Nat → Option pg_F) (Gs : Nat → pg_F → Prop) (hR : mR n tx ty g gc tg Gs ft fg fo fh fs) (x w : Int32) : Met l yM_centraliser wM_centraliser (rmF 6) (va_Pc [.ref (d 0), .int x, .int w] (fun U => U.heap.size = sz ∧ va_P D vC (mW z d n cd ty ft gc fg fo fh fs ff fq mk fm fi de ps re go kd pr fa fr) U.heap ∧ va_K D vC (tyL z) U ∧ va_D (fun _ => True) (mW z d n cd ty ft gc fg fo fh fs ff fq mk fm fi de ps re go kd pr fa fr))) (va_Qi (fun r (v : mSt) => (v.1 = 0 ∧ ∃ (i j : Nat) (y : pg_F), pr_text tx ty n gc g = some y ∧ x = nI i ∧ i < 5 ∧ w = nI j ∧ j < 5 ∧ j ≠ 0 ∧ gOrd n (aCen y (Gs i)) r ∧ mRp n (tx, ty, g, gc, tg, va_up Gs j (aCen y (Gs i))) v) ∨ (((v.1 = 1 ∧ ¬ (iN x 5 ∧ (iN w 5 ∧ w ≠ 0))) ∨ (v.1 = 2 ∧ (iN x 5 ∧ (iN w 5 ∧ w ≠ 0)) ∧ pr_text tx ty n gc g = none)) ∧ mRp n (tx, ty, g, gc, tg, Gs) v)) (fun v t => va_P D vC (mWu z d n v) t.heap ∧ va_D (va_A (mW z d n cd ty ft gc fg fo fh fs ff fq mk fm fi de ps re go kd pr fa fr) sz) (mWu z d n v)) (va_A (mW z d n cd ty ft gc fg fo fh fs ff fq mk fm fi de ps re go kd pr fa fr) sz)) 0 0 (va_A (mW z d n cd ty ft gc fg fo fh fs ff fq mk fm fi de ps re go kd pr fa fr) sz) := by
  have hR0 := hR
  obtain ⟨h1n, hok, htg, ⟨Bs, hsl, hBs⟩, hg0⟩ := hR
  have hn := hok.2.2.1
  have hgc := hok.2.1
  have hlen := hok.1
  have hfac := pg_fac_le n hn
  refine Met.ofW (cc := prog_9_method_44_code) (maxL := 4) (ret := (some .int)) (by decide) rfl ?_
  intro p e s m args below meth c s₁ B hml hv
  have hx := B.exec
  have hb := B.bytes
  have hr := B.returns
  have ht : ∀ w ∈ TB, w.before args s = true := fun w h => atoms_spec (ws := wM_centraliser) B.pre w (List.mem_cons_of_mem _ h)
  have hown : s.vm.findClass "PermutationDeskModel" = some m.cls := findClass_of_methodNamed B.named
  have hlocks := B.notSynchronized
  obtain ⟨rfl, hsz, hP, hK, hD0⟩ := hv
  subst hsz
  have hD := hD0.self (sz := s.heap.size)
  generalize hAe : va_A (mW z d n cd ty ft gc fg fo fh fs ff fq mk fm fi de ps re go kd pr fa fr) s.heap.size = A at hD ⊢
  have hA : ∀ q : Nat, s.heap.size ≤ q → A q := fun q h => by rw [← hAe]; exact Or.inr h
  have hS : va_S A s.heap s.heap [] := va_S.rf
  have hl := lv_entry ([.ref (d 0), .int x, .int w]) (n := 4) (Nat.le_of_ble_eq_true rfl)
  rw [lg_entry_eq]
  generalize (lg_sl ([.ref (d 0), .int x, .int w]) ++ List.replicate (4 - (lg_sl ([.ref (d 0), .int x, .int w])).length) Slot.unset).toArray = ls at hl ⊢
  have hl : lv_has ls 4 [(0, .ref (d 0)), (1, .int x), (2, .int w)] := hl
  refine lv_aload_n hx hb dM_centraliser_0 rfl (lv_at hl 0 rfl) ?_
  refine lv_iconst (v := 0) hx hb dM_centraliser_1 (by decide) ?_
  refine va_put (ci := 5) (ty := .int) (C := RM) (T := TM) (N := 26) hx hb ht inM tyM tyM_ok nmM hown hK hP hD hS 0 rfl rfl 2 (by decide) (ht _ tw_651) (fun _ h9 => h9) rfl (by decide +kernel) rfl rfl (Nat.le_of_ble_eq_true rfl) dM_centraliser_2 (fun H locs hP hD hS => ?_)
  have hP : va_P D vC (mW z d n 0 ty ft gc fg fo fh fs ff fq mk fm fi de ps re go kd pr fa fr) H := hP
  have hD : va_D A (mW z d n 0 ty ft gc fg fo fh fs ff fq mk fm fi de ps re go kd pr fa fr) := hD
  refine lv_iload_n hx hb dM_centraliser_5 rfl (lv_at hl 1 rfl) ?_
  refine qS_i (As := [.int x]) (rest := []) ⟨hx, hb, hml, hown, ht⟩ (c_M_isSlot l x) (cB 1 ht gM_isSlot rfl tw_64 tw_883 (by decide +kernel) ⟨by decide, by decide⟩) tw_884 rfl hl.1 rfl (Nat.le_of_ble_eq_true rfl) dM_centraliser_6 ⟨by decide, by decide⟩ (fun r6 h6 => ?_)
  obtain ⟨b1, rfl, hb1⟩ := h6
  refine wj (σ := Unit) (pc := 19) (I := fun _ H1 locs1 ls1 => H = H1 ∧ locs = locs1 ∧ ls = ls1 ∧ ¬ (iN x 5 ∧ (iN w 5 ∧ w ≠ 0))) ?_ (fun jn => ?_)
  · rintro - H1 locs1 ls1 ⟨rfl, rfl, rfl, hni⟩
    refine lv_aload_n hx hb dM_centraliser_19 rfl (lv_at hl 0 rfl) ?_
    refine lv_iconst (v := 1) hx hb dM_centraliser_20 (by decide) ?_
    refine qM_i (ci := 5) (q0 := 0) (As := [.int 1]) (rest := []) ⟨hx, hb, hml, hown, ht⟩ (c_M_fail l D z d n _ 1) (cB 1 ht gM_fail rfl tw_64 tw_796 (by decide +kernel) ⟨by decide, by decide⟩) tw_798 tw_42 hK hP hD hS hA rfl rfl rfl hl.1 rfl (Nat.le_of_ble_eq_true rfl) dM_centraliser_21 ⟨by decide, by decide⟩ (fun r21 u21 H locs h21 hP hD hS => ?_)
    exact W.iret hx hb hr (fun t9 ht hW => ⟨⟨_, (1, ty, ft, gc, fg, fo, fh, fs, ff, fq, mk, fm, fi, de, ps, re, go, kd, pr, fa, fr), rfl, Or.inr ⟨Or.inl ⟨rfl, hni⟩, rfl, rfl, hR0⟩, by rw [ht]; exact hP, hD⟩, hS.F ht⟩) hS.2.2 dM_centraliser_24
  refine lv_if_eq (tgt := 19) hx hb dM_centraliser_9 rfl (fun h9 => ?_) (fun h9 => ?_)
  · exact jn () _ _ ls ⟨rfl, rfl, rfl, fun q => by have := hb1.mpr q.1; rw [bI_z h9] at this; cases this⟩
  have hx5 : iN x 5 := hb1.mp (bI_t h9)
  refine lv_iload_n hx hb dM_centraliser_12 rfl (lv_at hl 2 rfl) ?_
  refine qS_i (As := [.int w]) (rest := []) ⟨hx, hb, hml, hown, ht⟩ (c_M_isTo l w) (cB 1 ht gM_isTo rfl tw_64 tw_872 (by decide +kernel) ⟨by decide, by decide⟩) tw_873 rfl hl.1 rfl (Nat.le_of_ble_eq_true rfl) dM_centraliser_13 ⟨by decide, by decide⟩ (fun r13 h13 => ?_)
  obtain ⟨b2, rfl, hb2⟩ := h13
  refine lv_if_ne (tgt := 25) hx hb dM_centraliser_16 rfl (fun h10 => ?_) (fun h10 => ?_)
  rotate_left
  · exact jn () _ _ ls ⟨rfl, rfl, rfl, fun q => by have := hb2.mpr q.2; rw [bI_z h10] at this; cases this⟩
  have hw5 := hb2.mp (bI_t h10)
  clear jn
  have hOK : (iN x 5 ∧ (iN w 5 ∧ w ≠ 0)) := ⟨hx5, hw5⟩
  obtain ⟨i, rfl, hi⟩ := hx5
  obtain ⟨⟨j, rfl, hj⟩, hw0⟩ := hw5
  have hj0 : j ≠ 0 := fun q => hw0 (by rw [q]; rfl)
  refine lv_aload_n hx hb dM_centraliser_25 rfl (lv_at hl 0 rfl) ?_
  refine qM_i (ci := 5) (q0 := 0) (As := []) (rest := []) ⟨hx, hb, hml, hown, ht⟩ (c_M_read l D z d n _ tx g hok) (cB 0 ht gM_read rfl tw_64 tw_745 (by decide +kernel) ⟨by decide, by decide⟩) tw_747 tw_30 hK hP hD hS hA rfl rfl rfl hl.1 rfl (Nat.le_of_ble_eq_true rfl) dM_centraliser_26 ⟨by decide, by decide⟩ (fun r26 u26 H locs h26 hP hD hS => ?_)
  obtain ⟨⟨de26, ps26, go26, kd26, pr26, fa26, fr26⟩, re26⟩ := u26
  replace hP : va_P D vC (mW z d n 0 ty ft gc fg fo fh fs ff fq mk fm fi de26 ps26 re26 go26 kd26 pr26 fa26 fr26) H := hP
  replace hD : va_D A (mW z d n 0 ty ft gc fg fo fh fs ff fq mk fm fi de26 ps26 re26 go26 kd26 pr26 fa26 fr26) := hD
  replace h26 : (r26 = 1 ∧ ∃ y, pr_text tx ty n gc g = some y ∧ re26 = eI n y) ∨ (r26 = 0 ∧ pr_text tx ty n gc g = none) := h26
  rcases h26 with ⟨rfl, y, hy, rfl⟩ | ⟨rfl, hno⟩
  rotate_left
  · refine lv_if_ne (tgt := 38) hx hb dM_centraliser_29 rfl (fun h9 => absurd rfl h9) (fun h9 => ?_)
    refine lv_aload_n hx hb dM_centraliser_32 rfl (lv_at hl 0 rfl) ?_
    refine lv_iconst (v := 2) hx hb dM_centraliser_33 (by decide) ?_
    refine qM_i (ci := 5) (q0 := 0) (As := [.int 2]) (rest := []) ⟨hx, hb, hml, hown, ht⟩ (c_M_fail l D z d n _ 2) (cB 1 ht gM_fail rfl tw_64 tw_796 (by decide +kernel) ⟨by decide, by decide⟩) tw_798 tw_42 hK hP hD hS hA rfl rfl rfl hl.1 rfl (Nat.le_of_ble_eq_true rfl) dM_centraliser_34 ⟨by decide, by decide⟩ (fun r34 u34 H locs h34 hP hD hS => ?_)
    exact W.iret hx hb hr (fun t9 ht hW => ⟨⟨_, (2, ty, ft, gc, fg, fo, fh, fs, ff, fq, mk, fm, fi, de26, ps26, re26, go26, kd26, pr26, fa26, fr26), rfl, Or.inr ⟨Or.inr ⟨rfl, hOK, hno⟩, rfl, rfl, hR0⟩, by rw [ht]; exact hP, hD⟩, hS.F ht⟩) hS.2.2 dM_centraliser_37
  have hyP := pr_text_P (fun i hi => (hok.2.2.2.2 i hi).1) hy
  refine lv_if_ne (tgt := 38) hx hb dM_centraliser_29 rfl (fun h9 => ?_) (fun h9 => absurd h9 (by decide))
  have hGP := mSet_P (hBs i hi)
  refine lv_aload_n hx hb dM_centraliser_38 rfl (lv_at hl 0 rfl) ?_
  refine qM_v (ci := 5) (q0 := 0) (As := []) (rest := []) ⟨hx, hb, hml, hown, ht⟩ (c_M_clearFilled l D z d n _) (cB 0 ht gM_clearFilled rfl tw_64 tw_816 (by decide +kernel) ⟨by decide, by decide⟩) tw_818 tw_46 hK hP hD hS hA rfl rfl rfl hl.1 rfl (Nat.le_of_ble_eq_true rfl) dM_centraliser_39 ⟨by decide, by decide⟩ (fun u39 H locs h39 hP hD hS => ?_)
  replace hP : va_P D vC (mW z d n 0 ty ft gc fg fo fh fs u39 fq mk fm fi de26 ps26 (eI n y) go26 kd26 pr26 fa26 fr26) H := hP
  replace hD : va_D A (mW z d n 0 ty ft gc fg fo fh fs u39 fq mk fm fi de26 ps26 (eI n y) go26 kd26 pr26 fa26 fr26) := hD
  have hcl := h39
  refine lv_iconst (v := 0) hx hb dM_centraliser_42 (by decide) ?_
  refine lv_istore_n hx hb dM_centraliser_43 rfl hl (by decide) rfl (fun ls hl => ?_)
  replace hl : lv_has ls 4 [(3, .int (nI 0)), (0, .ref (d 0)), (1, .int (nI i)), (2, .int (nI j))] := hl
  refine wl (σ := Nat × (Nat → Bool) × (Nat → Int64)) (I := fun q st H locs ls => q + st.1 = pg_fac n ∧ mB st.2.2 st.2.1 ∧ (∀ r x9, (pg_all n)[r]? = some x9 → (st.2.1 r = true ↔ r < st.1 ∧ aCen y (Gs i) x9)) ∧ va_P D vC (mW z d n 0 ty ft gc fg fo fh fs st.2.2 fq mk fm fi de26 ps26 (eI n y) go26 kd26 pr26 fa26 fr26) H ∧ va_D A (mW z d n 0 ty ft gc fg fo fh fs st.2.2 fq mk fm fi de26 ps26 (eI n y) go26 kd26 pr26 fa26 fr26) ∧ va_S A s.heap H locs ∧ lv_has ls 4 [(3, .int (nI st.1)), (0, .ref (d 0)), (1, .int (nI i)), (2, .int (nI j))]) ?_ (pg_fac n) (0, (fun _ => false), u39) _ _ ls ⟨rfl, hcl, fun r x9 _ => ⟨fun e9 => (by cases e9), fun e9 => absurd e9.1 (Nat.not_lt_zero r)⟩, hP, hD, hS, hl⟩
  clear hP hD hS hl
  rintro q ⟨k, B, f9⟩ H locs ls ⟨hdk, hmB, hcol, hP, hD, hS, hl⟩ ih
  replace hdk : q + k = pg_fac n := hdk
  replace hmB : mB f9 B := hmB
  replace hcol : ∀ r x9, (pg_all n)[r]? = some x9 → (B r = true ↔ r < k ∧ aCen y (Gs i) x9) := hcol
  replace hP : va_P D vC (mW z d n 0 ty ft gc fg fo fh fs f9 fq mk fm fi de26 ps26 (eI n y) go26 kd26 pr26 fa26 fr26) H := hP
  replace hD : va_D A (mW z d n 0 ty ft gc fg fo fh fs f9 fq mk fm fi de26 ps26 (eI n y) go26 kd26 pr26 fa26 fr26) := hD
  replace hl : lv_has ls 4 [(3, .int (nI k)), (0, .ref (d 0)), (1, .int (nI i)), (2, .int (nI j))] := hl
  refine lv_iload_n hx hb dM_centraliser_44 rfl (lv_at hl 0 rfl) ?_
  refine lv_aload_n hx hb dM_centraliser_45 rfl (lv_at hl 1 rfl) ?_
  refine va_get (ci := 5) (C := RM) (T := TM) (N := 26) hx hb ht inM hown hK hP 0 rfl rfl 1 (by decide) (ht _ tw_650) (fun _ h9 => h9) rfl dM_centraliser_46 ?_
  refine lv_icmp_ge (tgt := 103) hx hb dM_centraliser_49 rfl (fun h49 => ?_) (fun h49 => ?_)
  · have hk : k = pg_fac n := by have := (nI_leI (by omega) (by omega)).mp h49; omega
    rw [hk] at hcol
    have hset := mCol (fun x h8 => hGP x h8.1) hcol
    refine lv_aload_n hx hb dM_centraliser_103 rfl (lv_at hl 1 rfl) ?_
    refine lv_iload_n hx hb dM_centraliser_104 rfl (lv_at hl 3 rfl) ?_
    refine qM_i (ci := 5) (q0 := 0) (As := [.int (nI j)]) (rest := []) ⟨hx, hb, hml, hown, ht⟩ (c_M_store l D z d n _ hn j B hj hmB) (cB 1 ht gM_store rfl tw_64 tw_836 (by decide +kernel) ⟨by decide, by decide⟩) tw_838 tw_51 hK hP hD hS hA rfl rfl rfl hl.1 rfl (Nat.le_of_ble_eq_true rfl) dM_centraliser_105 ⟨by decide, by decide⟩ (fun r105 u105 H locs h105 hP hD hS => ?_)
    replace hP : va_P D vC (mW z d n 0 ty ft gc fg fo fh u105 f9 fq mk fm fi de26 ps26 (eI n y) go26 kd26 pr26 fa26 fr26) H := hP
    replace hD : va_D A (mW z d n 0 ty ft gc fg fo fh u105 f9 fq mk fm fi de26 ps26 (eI n y) go26 kd26 pr26 fa26 fr26) := hD
    obtain ⟨rfl, hst⟩ := h105
    exact W.iret hx hb hr (fun t9 ht hW => ⟨⟨_, (0, ty, ft, gc, fg, fo, fh, u105, f9, fq, mk, fm, fi, de26, ps26, eI n y, go26, kd26, pr26, fa26, fr26), rfl, Or.inl ⟨rfl, i, j, y, hy, rfl, hi, rfl, hj, hj0, mOrd hset, rfl, rfl, hR0.put hj0 hset hst⟩, by rw [ht]; exact hP, hD⟩, hS.F ht⟩) hS.2.2 dM_centraliser_108
  have hk : k < pg_fac n := by
    rw [nI_leI (by omega) (by omega)] at h49
    omega
  obtain ⟨x9, hx9⟩ := pg_all_in hk
  have hx9P := (pg_all_P hx9).1
  have hGk : Bs i k = true ↔ Gs i x9 := by rw [← hBs i hi]; exact (pg_set_at hx9).symm
  refine lv_aload_n hx hb dM_centraliser_52 rfl (lv_at hl 1 rfl) ?_
  refine lv_iload_n hx hb dM_centraliser_53 rfl (lv_at hl 2 rfl) ?_
  refine lv_iload_n hx hb dM_centraliser_54 rfl (lv_at hl 0 rfl) ?_
  refine qV_i (ci := 5) (q0 := 0) (As := [.int (nI i), .int (nI k)]) (rest := []) ⟨hx, hb, hml, hown, ht⟩ (c_M_isIn l D z d n i k (Bs i) hi (by omega) (hsl i hi)) (cB 2 ht gM_isIn rfl tw_64 tw_844 (by decide +kernel) ⟨by decide, by decide⟩) tw_846 tw_53 hK (hP) rfl rfl rfl hl.1 rfl (Nat.le_of_ble_eq_true rfl) dM_centraliser_55 ⟨by decide, by decide⟩ (fun r55 h55 => ?_)
  subst h55
  refine wj (σ := Unit) (pc := 97) (I := fun _ H1 locs1 ls1 => H = H1 ∧ locs = locs1 ∧ ls = ls1 ∧ ¬ aCen y (Gs i) x9) ?_ (fun jn => ?_)
  · rintro - H1 locs1 ls1 ⟨rfl, rfl, rfl, hc⟩
    refine lv_iinc (k := 0) (v := (nI (k + 1))) hx hb dM_centraliser_97 hl rfl (by exact nI_1 _) (by decide) rfl (fun ls hl => ?_)
    replace hl : lv_has ls 4 [(3, .int (nI (k + 1))), (0, .ref (d 0)), (1, .int (nI i)), (2, .int (nI j))] := hl
    refine lv_goto (tgt := 44) hx hb dM_centraliser_100 rfl ?_
    exact ih (q - 1) (k + 1, B, f9) _ _ ls (by omega) ⟨by show q - 1 + (k + 1) = pg_fac n; omega, hmB, mCol_skip hx9 hc hcol, hP, hD, hS, lv_sub hl [0, 1, 2, 3] rfl⟩
  refine lv_if_eq (tgt := 97) hx hb dM_centraliser_58 rfl (fun h58 => ?_) (fun h58 => ?_)
  · exact jn () _ _ ls ⟨rfl, rfl, rfl, fun q => by have := hGk.mpr q.1; rw [bI_z h58] at this; cases this⟩
  have hG9 := hGk.mp (bI_t h58)
  refine lv_aload_n hx hb dM_centraliser_61 rfl (lv_at hl 1 rfl) ?_
  refine lv_aload_n hx hb dM_centraliser_62 rfl (lv_at hl 1 rfl) ?_
  refine va_get (ci := 5) (C := RM) (T := TM) (N := 26) hx hb ht inM hown hK hP 0 rfl rfl 3 (by decide) (ht _ tw_652) (fun _ h9 => h9) rfl dM_centraliser_63 ?_
  refine lv_iload_n hx hb dM_centraliser_66 rfl (lv_at hl 0 rfl) ?_
  refine va_iald hx hb hK hP 1 1 rfl rfl (vp_in_nI (N := 5040) (by omega) (by decide)) dM_centraliser_67 ?_
  refine wti (x' := eI n x9) (by rw [nI_clamp (by omega)]; exact mL_at hx9) ?_
  refine lv_aload_n hx hb dM_centraliser_68 rfl (lv_at hl 1 rfl) ?_
  refine va_get (ci := 5) (C := RM) (T := TM) (N := 26) hx hb ht inM hown hK hP 0 rfl rfl 20 (by decide) (ht _ tw_669) (fun _ h9 => h9) rfl dM_centraliser_69 ?_
  refine qV_i (ci := 5) (q0 := 0) (As := [.int (eI n x9), .int (eI n y)]) (rest := []) ⟨hx, hb, hml, hown, ht⟩ (c_M_times l D z d n x9 y hn hx9P hyP) (cB 2 ht gM_times rfl tw_64 tw_761 (by decide +kernel) ⟨by decide, by decide⟩) tw_763 tw_34 hK (hP) rfl rfl rfl hl.1 rfl (Nat.le_of_ble_eq_true rfl) dM_centraliser_72 ⟨by decide, by decide⟩ (fun r72 h72 => ?_)
  subst h72
  refine lv_aload_n hx hb dM_centraliser_75 rfl (lv_at hl 1 rfl) ?_
  refine lv_aload_n hx hb dM_centraliser_76 rfl (lv_at hl 1 rfl) ?_
  refine va_get (ci := 5) (C := RM) (T := TM) (N := 26) hx hb ht inM hown hK hP 0 rfl rfl 20 (by decide) (ht _ tw_669) (fun _ h9 => h9) rfl dM_centraliser_77 ?_
  refine lv_aload_n hx hb dM_centraliser_80 rfl (lv_at hl 1 rfl) ?_
  refine va_get (ci := 5) (C := RM) (T := TM) (N := 26) hx hb ht inM hown hK hP 0 rfl rfl 3 (by decide) (ht _ tw_652) (fun _ h9 => h9) rfl dM_centraliser_81 ?_
  refine lv_iload_n hx hb dM_centraliser_84 rfl (lv_at hl 0 rfl) ?_
  refine va_iald hx hb hK hP 1 1 rfl rfl (vp_in_nI (N := 5040) (by omega) (by decide)) dM_centraliser_85 ?_
  refine wti (x' := eI n x9) (by rw [nI_clamp (by omega)]; exact mL_at hx9) ?_
  refine qV_i (ci := 5) (q0 := 0) (As := [.int (eI n y), .int (eI n x9)]) (rest := [.int (eI n (pg_mul x9 y))]) ⟨hx, hb, hml, hown, ht⟩ (c_M_times l D z d n y x9 hn hyP hx9P) (cB 2 ht gM_times rfl tw_64 tw_761 (by decide +kernel) ⟨by decide, by decide⟩) tw_763 tw_34 hK (hP) rfl rfl rfl hl.1 rfl (Nat.le_of_ble_eq_true rfl) dM_centraliser_86 ⟨by decide, by decide⟩ (fun r86 h86 => ?_)
  subst h86
  refine lv_icmp_ne (tgt := 97) hx hb dM_centraliser_89 rfl (fun h89 => ?_) (fun h89 => ?_)
  · exact jn () _ _ ls ⟨rfl, rfl, rfl, fun q => h89 (by rw [q.2])⟩
  clear jn
  have hc : aCen y (Gs i) x9 := ⟨hG9, eI_inj hn (pg_P_mul hx9P hyP) (pg_P_mul hyP hx9P) h89⟩
  refine lv_aload_n hx hb dM_centraliser_92 rfl (lv_at hl 1 rfl) ?_
  refine lv_iload_n hx hb dM_centraliser_93 rfl (lv_at hl 0 rfl) ?_
  refine qM_v (ci := 5) (q0 := 0) (As := [.int (nI k)]) (rest := []) ⟨hx, hb, hml, hown, ht⟩ (c_M_put l D z d n _ k B (by omega) hmB) (cB 1 ht gM_put rfl tw_64 tw_820 (by decide +kernel) ⟨by decide, by decide⟩) tw_822 tw_47 hK hP hD hS hA rfl rfl rfl hl.1 rfl (Nat.le_of_ble_eq_true rfl) dM_centraliser_94 ⟨by decide, by decide⟩ (fun u94 H locs h94 hP hD hS => ?_)
  replace hP : va_P D vC (mW z d n 0 ty ft gc fg fo fh fs u94 fq mk fm fi de26 ps26 (eI n y) go26 kd26 pr26 fa26 fr26) H := hP
  replace hD : va_D A (mW z d n 0 ty ft gc fg fo fh fs u94 fq mk fm fi de26 ps26 (eI n y) go26 kd26 pr26 fa26 fr26) := hD
  refine lv_iinc (k := 0) (v := (nI (k + 1))) hx hb dM_centraliser_97 hl rfl (by exact nI_1 _) (by decide) rfl (fun ls hl => ?_)
  replace hl : lv_has ls 4 [(3, .int (nI (k + 1))), (0, .ref (d 0)), (1, .int (nI i)), (2, .int (nI j))] := hl
  refine lv_goto (tgt := 44) hx hb dM_centraliser_100 rfl ?_
  exact ih (q - 1) (k + 1, va_up B k true, u94) _ _ ls (by omega) ⟨by show q - 1 + (k + 1) = pg_fac n; omega, h94, mCol_put hx9 hc hcol, hP, hD, hS, lv_sub hl [0, 1, 2, 3] rfl⟩
