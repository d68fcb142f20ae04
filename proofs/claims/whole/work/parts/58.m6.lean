/-! The reference: its calls. -/
abbrev mSt : Type := Int32 × Nat × (Nat → Int32) × Nat × (Nat → Int32) × (Nat → Int32) × (Nat → Int32) × (Nat → Int64) × (Nat → Int64) × (Nat → Int32) × Nat × (Nat → Int32) × (Nat → Int32) × Nat × Nat × Int32 × Bool × (Nat → Int32) × (Nat → Int32) × (Nat → Int32) × (Nat → Int32)
abbrev mWu (z : Nat → ClassId) (d : Nat → Nat) (n : Nat) (u : mSt) : va_W := mW z d n u.1 u.2.1 u.2.2.1 u.2.2.2.1 u.2.2.2.2.1 u.2.2.2.2.2.1 u.2.2.2.2.2.2.1 u.2.2.2.2.2.2.2.1 u.2.2.2.2.2.2.2.2.1 u.2.2.2.2.2.2.2.2.2.1 u.2.2.2.2.2.2.2.2.2.2.1 u.2.2.2.2.2.2.2.2.2.2.2.1 u.2.2.2.2.2.2.2.2.2.2.2.2.1 u.2.2.2.2.2.2.2.2.2.2.2.2.2.1 u.2.2.2.2.2.2.2.2.2.2.2.2.2.2.1 u.2.2.2.2.2.2.2.2.2.2.2.2.2.2.2.1 u.2.2.2.2.2.2.2.2.2.2.2.2.2.2.2.2.1 u.2.2.2.2.2.2.2.2.2.2.2.2.2.2.2.2.2.1 u.2.2.2.2.2.2.2.2.2.2.2.2.2.2.2.2.2.2.1 u.2.2.2.2.2.2.2.2.2.2.2.2.2.2.2.2.2.2.2.1 u.2.2.2.2.2.2.2.2.2.2.2.2.2.2.2.2.2.2.2.2
/-- what the reference means -/
def mR (n : Nat) (tx : Nat → Nat) (len : Nat) (g : Nat → pg_F) (gc : Nat) (tg : Nat → Option pg_F) (Gs : Nat → pg_F → Prop) (ft fg fo fh : Nat → Int32) (fs : Nat → Int64) : Prop := 1 ≤ n ∧ mOK tx len n gc g ft fg ∧ (∀ i, i < gc → fh i = bI (tg i).isSome ∧ ∀ x, tg i = some x → fo i = eI n x ∧ pg_P n x) ∧ (∃ Bs, mSl fs Bs ∧ ∀ i, i < 5 → pg_set n (Bs i) = Gs i) ∧ Gs 0 = pg_Gen (pg_GS gc g)
def mRp (n : Nat) (a : dA) (v : mSt) : Prop := v.2.1 = a.2.1 ∧ v.2.2.2.1 = a.2.2.2.1 ∧ mR n a.1 a.2.1 a.2.2.1 a.2.2.2.1 a.2.2.2.2.1 a.2.2.2.2.2 v.2.2.1 v.2.2.2.2.1 v.2.2.2.2.2.1 v.2.2.2.2.2.2.1 v.2.2.2.2.2.2.2.1
theorem mR.put {n : Nat} {tx : Nat → Nat} {len : Nat} {g : Nat → pg_F} {gc : Nat} {tg : Nat → Option pg_F} {Gs : Nat → pg_F → Prop} {ft fg fo fh : Nat → Int32} {fs f9 : Nat → Int64} (h : mR n tx len g gc tg Gs ft fg fo fh fs) {i : Nat} (h0 : i ≠ 0) {G : pg_F → Prop} {B : Nat → Bool} (hB : pg_set n B = G) (hf : ∀ Bs, mSl fs Bs → mSl f9 (va_up Bs i B)) : mR n tx len g gc tg (va_up Gs i G) ft fg fo fh f9 := by
  obtain ⟨a1, a2, a3, ⟨Bs, b1, b2⟩, a5⟩ := h
  refine ⟨a1, a2, a3, ⟨va_up Bs i B, hf Bs b1, fun j hj => ?_⟩, ?_⟩
  · by_cases e : j = i
    · rw [e, va_up_self, va_up_self]; exact hB
    · rw [va_up_ne _ _ e, va_up_ne _ _ e]; exact b2 j hj
  · rw [va_up_ne _ _ (fun e => h0 e.symm)]; exact a5
theorem mR.tt {n : Nat} {tx : Nat → Nat} {len : Nat} {g : Nat → pg_F} {gc : Nat} {tg : Nat → Option pg_F} {Gs : Nat → pg_F → Prop} {ft fg fo fh : Nat → Int32} {fs : Nat → Int64} (h : mR n tx len g gc tg Gs ft fg fo fh fs) {tt : Nat → pg_F} (ht : aTg gc tg tt) : ∀ i, i < gc → pg_P n (tt i) ∧ fo i = eI n (tt i) := fun i hi => ⟨((h.2.2.1 i hi).2 _ (ht i hi)).2, ((h.2.2.1 i hi).2 _ (ht i hi)).1⟩
set_option maxHeartbeats 4000000 in
set_option maxRecDepth 100000 in
theorem c_M_wipe (l : Launch) (D : va_G) (z : Nat → ClassId) (d : Nat → Nat) (n : Nat) {cd : Int32} {ty : Nat} {ft : Nat → Int32} {gc : Nat} {fg fo fh : Nat → Int32} {fs ff : Nat → Int64} {fq : Nat → Int32} {mk : Nat} {fm fi : Nat → Int32} {de ps : Nat} {re : Int32} {go : Bool} {kd pr fa fr : Nat → Int32} (sz : Nat) (tx : Nat → Nat) (g : Nat → pg_F) (tg : Nat → Option pg_F) (Gs : Nat → pg_F → Prop) (hR : mR n tx ty g gc tg Gs ft fg fo fh fs) : Met l yM_wipe wM_wipe (rmF 0) (va_Pc [.ref (d 0)] (fun U => U.heap.size = sz ∧ va_P D vC (mW z d n cd ty ft gc fg fo fh fs ff fq mk fm fi de ps re go kd pr fa fr) U.heap ∧ va_K D vC (tyL z) U ∧ va_D (fun _ => True) (mW z d n cd ty ft gc fg fo fh fs ff fq mk fm fi de ps re go kd pr fa fr))) (va_Qv (fun (v : mSt) => v.1 = 0 ∧ mRp n (aWipe (tx, ty, g, gc, tg, Gs)) v) (fun v t => va_P D vC (mWu z d n v) t.heap ∧ va_D (va_A (mW z d n cd ty ft gc fg fo fh fs ff fq mk fm fi de ps re go kd pr fa fr) sz) (mWu z d n v)) (va_A (mW z d n cd ty ft gc fg fo fh fs ff fq mk fm fi de ps re go kd pr fa fr) sz)) 0 0 (va_A (mW z d n cd ty ft gc fg fo fh fs ff fq mk fm fi de ps re go kd pr fa fr) sz) := by
  have hR0 := hR
  obtain ⟨h1n, hok, htg, ⟨Bs, hsl, hBs⟩, hg0⟩ := hR
  have hn := hok.2.2.1
  have hgc := hok.2.1
  have hlen := hok.1
  have hfac := pg_fac_le n hn
  refine Met.ofW (cc := prog_9_method_11_code) (maxL := 1) (ret := none) (by decide) rfl ?_
  intro p e s m args below meth c s₁ B hml hv
  have hx := B.exec
  have hb := B.bytes
  have hr := B.returns
  have ht : ∀ w ∈ TB, w.before args s = true := fun w h => atoms_spec (ws := wM_wipe) B.pre w (List.mem_cons_of_mem _ h)
  have hown : s.vm.findClass "PermutationDeskModel" = some m.cls := findClass_of_methodNamed B.named
  have hlocks := B.notSynchronized
  obtain ⟨rfl, hsz, hP, hK, hD0⟩ := hv
  subst hsz
  have hD := hD0.self (sz := s.heap.size)
  generalize hAe : va_A (mW z d n cd ty ft gc fg fo fh fs ff fq mk fm fi de ps re go kd pr fa fr) s.heap.size = A at hD ⊢
  have hA : ∀ q : Nat, s.heap.size ≤ q → A q := fun q h => by rw [← hAe]; exact Or.inr h
  have hS : va_S A s.heap s.heap [] := va_S.rf
  have hl := lv_entry ([.ref (d 0)]) (n := 1) (Nat.le_of_ble_eq_true rfl)
  rw [lg_entry_eq]
  generalize (lg_sl ([.ref (d 0)]) ++ List.replicate (1 - (lg_sl ([.ref (d 0)])).length) Slot.unset).toArray = ls at hl ⊢
  have hl : lv_has ls 1 [(0, .ref (d 0))] := hl
  refine lv_aload_n hx hb dM_wipe_0 rfl (lv_at hl 0 rfl) ?_
  refine lv_iconst (v := 0) hx hb dM_wipe_1 (by decide) ?_
  refine va_put (ci := 5) (ty := .int) (C := RM) (T := TM) (N := 26) hx hb ht inM tyM tyM_ok nmM hown hK hP hD hS 0 rfl rfl 2 (by decide) (ht _ tw_651) (fun _ h9 => h9) rfl (by decide +kernel) rfl rfl (Nat.le_of_ble_eq_true rfl) dM_wipe_2 (fun H locs hP hD hS => ?_)
  have hP : va_P D vC (mW z d n 0 ty ft gc fg fo fh fs ff fq mk fm fi de ps re go kd pr fa fr) H := hP
  have hD : va_D A (mW z d n 0 ty ft gc fg fo fh fs ff fq mk fm fi de ps re go kd pr fa fr) := hD
  refine lv_aload_n hx hb dM_wipe_5 rfl (lv_at hl 0 rfl) ?_
  refine lv_iconst (v := 0) hx hb dM_wipe_6 (by decide) ?_
  refine va_put (ci := 5) (ty := .int) (C := RM) (T := TM) (N := 26) hx hb ht inM tyM tyM_ok nmM hown hK hP hD hS 0 rfl rfl 6 (by decide) (ht _ tw_655) (fun _ h9 => h9) rfl (by decide +kernel) rfl rfl (Nat.le_of_ble_eq_true rfl) dM_wipe_7 (fun H locs hP hD hS => ?_)
  have hP : va_P D vC (mW z d n 0 0 ft gc fg fo fh fs ff fq mk fm fi de ps re go kd pr fa fr) H := hP
  have hD : va_D A (mW z d n 0 0 ft gc fg fo fh fs ff fq mk fm fi de ps re go kd pr fa fr) := hD
  exact W.vret hx hb hr (fun t ht hW => ⟨⟨(0, 0, ft, gc, fg, fo, fh, fs, ff, fq, mk, fm, fi, de, ps, re, go, kd, pr, fa, fr), rfl, ⟨rfl, rfl, rfl, h1n, ⟨Nat.zero_le _, hgc, hn, fun j hj => absurd hj (Nat.not_lt_zero j), hok.2.2.2.2⟩, htg, ⟨Bs, hsl, hBs⟩, hg0⟩, by rw [ht]; exact hP, hD⟩, hS.F ht⟩) hS.2.2 dM_wipe_10
set_option maxHeartbeats 4000000 in
set_option maxRecDepth 100000 in
theorem c_M_type (l : Launch) (D : va_G) (z : Nat → ClassId) (d : Nat → Nat) (n : Nat) {cd : Int32} {ty : Nat} {ft : Nat → Int32} {gc : Nat} {fg fo fh : Nat → Int32} {fs ff : Nat → Int64} {fq : Nat → Int32} {mk : Nat} {fm fi : Nat → Int32} {de ps : Nat} {re : Int32} {go : Bool} {kd pr fa fr : Nat → Int32} (sz : Nat) (tx : Nat → Nat) (g : Nat → pg_F) (tg : Nat → Option pg_F) (Gs : Nat → pg_F → Prop) (hR : mR n tx ty g gc tg Gs ft fg fo fh fs) (cv : Nat) (hcv : cv < 65536) : Met l yM_type wM_type (rmF 0) (va_Pc [.ref (d 0), .int (nI cv)] (fun U => U.heap.size = sz ∧ va_P D vC (mW z d n cd ty ft gc fg fo fh fs ff fq mk fm fi de ps re go kd pr fa fr) U.heap ∧ va_K D vC (tyL z) U ∧ va_D (fun _ => True) (mW z d n cd ty ft gc fg fo fh fs ff fq mk fm fi de ps re go kd pr fa fr))) (va_Qi (fun r (v : mSt) => v.1 = 0 ∧ r = bI (aTypes cv (tx, ty, g, gc, tg, Gs)) ∧ mRp n (aType cv (tx, ty, g, gc, tg, Gs)) v) (fun v t => va_P D vC (mWu z d n v) t.heap ∧ va_D (va_A (mW z d n cd ty ft gc fg fo fh fs ff fq mk fm fi de ps re go kd pr fa fr) sz) (mWu z d n v)) (va_A (mW z d n cd ty ft gc fg fo fh fs ff fq mk fm fi de ps re go kd pr fa fr) sz)) 0 0 (va_A (mW z d n cd ty ft gc fg fo fh fs ff fq mk fm fi de ps re go kd pr fa fr) sz) := by
  generalize hty : aTypes cv (tx, ty, g, gc, tg, Gs) = T9
  replace hty : (decide (32 ≤ cv) && decide (cv ≤ 126) && decide (ty < 24)) = T9 := hty
  have hty0 : aType cv (tx, ty, g, gc, tg, Gs) = if T9 = true then (va_up tx ty cv, ty + 1, g, gc, tg, Gs) else (tx, ty, g, gc, tg, Gs) := by
    rw [← hty]; rfl
  rw [hty0]
  have hR0 := hR
  obtain ⟨h1n, hok, htg, ⟨Bs, hsl, hBs⟩, hg0⟩ := hR
  have hn := hok.2.2.1
  have hgc := hok.2.1
  have hlen := hok.1
  have hfac := pg_fac_le n hn
  refine Met.ofW (cc := prog_9_method_10_code) (maxL := 2) (ret := (some .boolean)) (by decide) rfl ?_
  intro p e s m args below meth c s₁ B hml hv
  have hx := B.exec
  have hb := B.bytes
  have hr := B.returns
  have ht : ∀ w ∈ TB, w.before args s = true := fun w h => atoms_spec (ws := wM_type) B.pre w (List.mem_cons_of_mem _ h)
  have hown : s.vm.findClass "PermutationDeskModel" = some m.cls := findClass_of_methodNamed B.named
  have hlocks := B.notSynchronized
  obtain ⟨rfl, hsz, hP, hK, hD0⟩ := hv
  subst hsz
  have hD := hD0.self (sz := s.heap.size)
  generalize hAe : va_A (mW z d n cd ty ft gc fg fo fh fs ff fq mk fm fi de ps re go kd pr fa fr) s.heap.size = A at hD ⊢
  have hA : ∀ q : Nat, s.heap.size ≤ q → A q := fun q h => by rw [← hAe]; exact Or.inr h
  have hS : va_S A s.heap s.heap [] := va_S.rf
  have hl := lv_entry ([.ref (d 0), .int (nI cv)]) (n := 2) (Nat.le_of_ble_eq_true rfl)
  rw [lg_entry_eq]
  generalize (lg_sl ([.ref (d 0), .int (nI cv)]) ++ List.replicate (2 - (lg_sl ([.ref (d 0), .int (nI cv)])).length) Slot.unset).toArray = ls at hl ⊢
  have hl : lv_has ls 2 [(0, .ref (d 0)), (1, .int (nI cv))] := hl
  refine lv_aload_n hx hb dM_type_0 rfl (lv_at hl 0 rfl) ?_
  refine lv_iconst (v := 0) hx hb dM_type_1 (by decide) ?_
  refine va_put (ci := 5) (ty := .int) (C := RM) (T := TM) (N := 26) hx hb ht inM tyM tyM_ok nmM hown hK hP hD hS 0 rfl rfl 2 (by decide) (ht _ tw_651) (fun _ h9 => h9) rfl (by decide +kernel) rfl rfl (Nat.le_of_ble_eq_true rfl) dM_type_2 (fun H locs hP hD hS => ?_)
  have hP : va_P D vC (mW z d n 0 ty ft gc fg fo fh fs ff fq mk fm fi de ps re go kd pr fa fr) H := hP
  have hD : va_D A (mW z d n 0 ty ft gc fg fo fh fs ff fq mk fm fi de ps re go kd pr fa fr) := hD
  refine wj (σ := Unit) (pc := 26) (I := fun _ H1 locs1 ls1 => H = H1 ∧ locs = locs1 ∧ T9 = false) ?_ (fun jn => ?_)
  · rintro - H1 locs1 ls1 ⟨rfl, rfl, hno⟩
    refine lv_iconst (v := 0) hx hb dM_type_26 (by decide) ?_
    exact W.zret (v := 0) hx hb hr rfl (fun t ht hW => ⟨⟨_, (0, ty, ft, gc, fg, fo, fh, fs, ff, fq, mk, fm, fi, de, ps, re, go, kd, pr, fa, fr), rfl, ⟨rfl, by rw [hno]; rfl, by rw [hno]; exact ⟨rfl, rfl, hR0⟩⟩, by rw [ht]; exact hP, hD⟩, hS.F ht⟩) hS.2.2 dM_type_27
  refine lv_iload_n hx hb dM_type_5 rfl (lv_at hl 1 rfl) ?_
  refine lv_bipush (v := 32) hx hb dM_type_6 (by decide) ?_
  refine lv_icmp_lt (tgt := 26) hx hb dM_type_8 rfl (fun h3 => ?_) (fun h3 => ?_)
  · have h4 : cv < 32 := (nI_ltI (a := cv) (b := 32) (by omega) (by omega)).mp h3
    exact jn () _ _ ls ⟨rfl, rfl, by rw [← hty, decide_eq_false (by omega)]; rfl⟩
  have h4 : 32 ≤ cv := by
    have : ¬ cv < 32 := fun q => h3 ((nI_ltI (a := cv) (b := 32) (by omega) (by omega)).mpr q)
    omega
  refine lv_iload_n hx hb dM_type_11 rfl (lv_at hl 1 rfl) ?_
  refine lv_bipush (v := 126) hx hb dM_type_12 (by decide) ?_
  refine lv_icmp_gt (tgt := 26) hx hb dM_type_14 rfl (fun h9 => ?_) (fun h9 => ?_)
  · have h10 : 126 < cv := (nI_ltI (a := 126) (b := cv) (by omega) (by omega)).mp h9
    exact jn () _ _ ls ⟨rfl, rfl, by rw [← hty, decide_eq_false (p := cv ≤ 126) (by omega), Bool.and_false]; rfl⟩
  have h10 : cv ≤ 126 := by
    have : ¬ 126 < cv := fun q => h9 ((nI_ltI (a := 126) (b := cv) (by omega) (by omega)).mpr q)
    omega
  refine lv_aload_n hx hb dM_type_17 rfl (lv_at hl 0 rfl) ?_
  refine va_get (ci := 5) (C := RM) (T := TM) (N := 26) hx hb ht inM hown hK hP 0 rfl rfl 6 (by decide) (ht _ tw_655) (fun _ h9 => h9) rfl dM_type_18 ?_
  refine lv_bipush (v := 24) hx hb dM_type_21 (by decide) ?_
  refine lv_icmp_ne (tgt := 28) hx hb dM_type_23 rfl (fun h18 => ?_) (fun h18 => ?_)
  · have h19 : ty < 24 := by
      have : ty ≠ 24 := fun q => h18 (by rw [q]; rfl)
      omega
    have hyes : T9 = true := by rw [← hty, decide_eq_true h4, decide_eq_true h10, decide_eq_true h19]; rfl
    refine lv_aload_n hx hb dM_type_28 rfl (lv_at hl 0 rfl) ?_
    refine va_get (ci := 5) (C := RM) (T := TM) (N := 26) hx hb ht inM hown hK hP 0 rfl rfl 7 (by decide) (ht _ tw_656) (fun _ h9 => h9) rfl dM_type_29 ?_
    refine lv_aload_n hx hb dM_type_32 rfl (lv_at hl 0 rfl) ?_
    refine va_get (ci := 5) (C := RM) (T := TM) (N := 26) hx hb ht inM hown hK hP 0 rfl rfl 6 (by decide) (ht _ tw_655) (fun _ h9 => h9) rfl dM_type_33 ?_
    refine lv_iload_n hx hb dM_type_36 rfl (lv_at hl 1 rfl) ?_
    refine va_iast hx hb hK hP hD hS 4 1 rfl rfl (vp_in_nI (N := 24) (by omega) (by decide)) dM_type_37 (fun H locs hP hD hS => ?_)
    rw [nI_clamp (by omega)] at hP hD
    replace hP : va_P D vC (mW z d n 0 ty (upd ft ty (nI cv)) gc fg fo fh fs ff fq mk fm fi de ps re go kd pr fa fr) H := hP
    replace hD : va_D A (mW z d n 0 ty (upd ft ty (nI cv)) gc fg fo fh fs ff fq mk fm fi de ps re go kd pr fa fr) := hD
    refine lv_aload_n hx hb dM_type_38 rfl (lv_at hl 0 rfl) ?_
    refine lv_dup hx hb dM_type_39 rfl ?_
    refine va_get (ci := 5) (C := RM) (T := TM) (N := 26) hx hb ht inM hown hK hP 0 rfl rfl 6 (by decide) (ht _ tw_655) (fun _ h9 => h9) rfl dM_type_40 ?_
    refine lv_iconst (v := 1) hx hb dM_type_43 (by decide) ?_
    refine lv_iadd hx hb dM_type_44 ?_
    refine wti (x' := nI (ty + 1)) (nI_1 ty) ?_
    refine va_put (ci := 5) (ty := .int) (C := RM) (T := TM) (N := 26) hx hb ht inM tyM tyM_ok nmM hown hK hP hD hS 0 rfl rfl 6 (by decide) (ht _ tw_655) (fun _ h9 => h9) rfl (by decide +kernel) rfl rfl (Nat.le_of_ble_eq_true rfl) dM_type_45 (fun H locs hP hD hS => ?_)
    have hP : va_P D vC (mW z d n 0 (ty + 1) (upd ft ty (nI cv)) gc fg fo fh fs ff fq mk fm fi de ps re go kd pr fa fr) H := hP
    have hD : va_D A (mW z d n 0 (ty + 1) (upd ft ty (nI cv)) gc fg fo fh fs ff fq mk fm fi de ps re go kd pr fa fr) := hD
    refine lv_iconst (v := 1) hx hb dM_type_48 (by decide) ?_
    refine W.zret (v := 1) hx hb hr rfl (fun t ht hW => ⟨⟨_, (0, ty + 1, upd ft ty (nI cv), gc, fg, fo, fh, fs, ff, fq, mk, fm, fi, de, ps, re, go, kd, pr, fa, fr), rfl, ⟨rfl, by rw [hyes]; rfl, ?_⟩, by rw [ht]; exact hP, hD⟩, hS.F ht⟩) hS.2.2 dM_type_49
    rw [hyes]
    refine ⟨rfl, rfl, h1n, ⟨h19, hgc, hn, fun j hj => ?_, hok.2.2.2.2⟩, htg, ⟨Bs, hsl, hBs⟩, hg0⟩
    replace hj : j < ty + 1 := hj
    show va_up tx ty cv j < 128 ∧ upd ft ty (nI cv) j = nI (va_up tx ty cv j)
    by_cases e : j = ty
    · rw [e, va_up_self, pk_us]; exact ⟨by omega, rfl⟩
    · rw [va_up_ne _ _ e, pk_un e]; exact hok.2.2.2.1 j (by omega)
  have h19 : ¬ ty < 24 := by
    have := (nI_eq (a := ty) (b := 24) (by omega) (by omega)).mp h18
    omega
  exact jn () _ _ ls ⟨rfl, rfl, by rw [← hty, decide_eq_false h19, Bool.and_false]⟩
set_option maxHeartbeats 4000000 in
set_option maxRecDepth 100000 in
theorem c_M_value (l : Launch) (D : va_G) (z : Nat → ClassId) (d : Nat → Nat) (n : Nat) {cd : Int32} {ty : Nat} {ft : Nat → Int32} {gc : Nat} {fg fo fh : Nat → Int32} {fs ff : Nat → Int64} {fq : Nat → Int32} {mk : Nat} {fm fi : Nat → Int32} {de ps : Nat} {re : Int32} {go : Bool} {kd pr fa fr : Nat → Int32} (sz : Nat) (tx : Nat → Nat) (g : Nat → pg_F) (tg : Nat → Option pg_F) (Gs : Nat → pg_F → Prop) (hR : mR n tx ty g gc tg Gs ft fg fo fh fs) (x : Int32) : Met l yM_value wM_value (rmF 6) (va_Pc [.ref (d 0), .int x] (fun U => U.heap.size = sz ∧ va_P D vC (mW z d n cd ty ft gc fg fo fh fs ff fq mk fm fi de ps re go kd pr fa fr) U.heap ∧ va_K D vC (tyL z) U ∧ va_D (fun _ => True) (mW z d n cd ty ft gc fg fo fh fs ff fq mk fm fi de ps re go kd pr fa fr))) (va_Qi (fun r (v : mSt) => ((v.1 = 0 ∧ ∃ (y : pg_F) (k : Nat), pr_text tx ty n gc g = some y ∧ x = nI k ∧ k < n ∧ r = nI (y k)) ∨ (v.1 = 1 ∧ pr_text tx ty n gc g = none) ∨ (v.1 = 2 ∧ pr_text tx ty n gc g ≠ none ∧ ¬ iN x n)) ∧ mRp n (tx, ty, g, gc, tg, Gs) v) (fun v t => va_P D vC (mWu z d n v) t.heap ∧ va_D (va_A (mW z d n cd ty ft gc fg fo fh fs ff fq mk fm fi de ps re go kd pr fa fr) sz) (mWu z d n v)) (va_A (mW z d n cd ty ft gc fg fo fh fs ff fq mk fm fi de ps re go kd pr fa fr) sz)) 0 0 (va_A (mW z d n cd ty ft gc fg fo fh fs ff fq mk fm fi de ps re go kd pr fa fr) sz) := by
  have hR0 := hR
  obtain ⟨h1n, hok, htg, ⟨Bs, hsl, hBs⟩, hg0⟩ := hR
  have hn := hok.2.2.1
  have hgc := hok.2.1
  have hlen := hok.1
  have hfac := pg_fac_le n hn
  refine Met.ofW (cc := prog_9_method_21_code) (maxL := 2) (ret := (some .int)) (by decide) rfl ?_
  intro p e s m args below meth c s₁ B hml hv
  have hx := B.exec
  have hb := B.bytes
  have hr := B.returns
  have ht : ∀ w ∈ TB, w.before args s = true := fun w h => atoms_spec (ws := wM_value) B.pre w (List.mem_cons_of_mem _ h)
  have hown : s.vm.findClass "PermutationDeskModel" = some m.cls := findClass_of_methodNamed B.named
  have hlocks := B.notSynchronized
  obtain ⟨rfl, hsz, hP, hK, hD0⟩ := hv
  subst hsz
  have hD := hD0.self (sz := s.heap.size)
  generalize hAe : va_A (mW z d n cd ty ft gc fg fo fh fs ff fq mk fm fi de ps re go kd pr fa fr) s.heap.size = A at hD ⊢
  have hA : ∀ q : Nat, s.heap.size ≤ q → A q := fun q h => by rw [← hAe]; exact Or.inr h
  have hS : va_S A s.heap s.heap [] := va_S.rf
  have hl := lv_entry ([.ref (d 0), .int x]) (n := 2) (Nat.le_of_ble_eq_true rfl)
  rw [lg_entry_eq]
  generalize (lg_sl ([.ref (d 0), .int x]) ++ List.replicate (2 - (lg_sl ([.ref (d 0), .int x])).length) Slot.unset).toArray = ls at hl ⊢
  have hl : lv_has ls 2 [(0, .ref (d 0)), (1, .int x)] := hl
  refine lv_aload_n hx hb dM_value_0 rfl (lv_at hl 0 rfl) ?_
  refine lv_iconst (v := 0) hx hb dM_value_1 (by decide) ?_
  refine va_put (ci := 5) (ty := .int) (C := RM) (T := TM) (N := 26) hx hb ht inM tyM tyM_ok nmM hown hK hP hD hS 0 rfl rfl 2 (by decide) (ht _ tw_651) (fun _ h9 => h9) rfl (by decide +kernel) rfl rfl (Nat.le_of_ble_eq_true rfl) dM_value_2 (fun H locs hP hD hS => ?_)
  have hP : va_P D vC (mW z d n 0 ty ft gc fg fo fh fs ff fq mk fm fi de ps re go kd pr fa fr) H := hP
  have hD : va_D A (mW z d n 0 ty ft gc fg fo fh fs ff fq mk fm fi de ps re go kd pr fa fr) := hD
  refine lv_aload_n hx hb dM_value_5 rfl (lv_at hl 0 rfl) ?_
  refine qM_i (ci := 5) (q0 := 0) (As := []) (rest := []) ⟨hx, hb, hml, hown, ht⟩ (c_M_read l D z d n _ tx g hok) (cB 0 ht gM_read rfl tw_64 tw_745 (by decide +kernel) ⟨by decide, by decide⟩) tw_747 tw_30 hK hP hD hS hA rfl rfl rfl hl.1 rfl (Nat.le_of_ble_eq_true rfl) dM_value_6 ⟨by decide, by decide⟩ (fun r6 u6 H locs h6 hP hD hS => ?_)
  obtain ⟨⟨de6, ps6, go6, kd6, pr6, fa6, fr6⟩, re6⟩ := u6
  replace hP : va_P D vC (mW z d n 0 ty ft gc fg fo fh fs ff fq mk fm fi de6 ps6 re6 go6 kd6 pr6 fa6 fr6) H := hP
  replace hD : va_D A (mW z d n 0 ty ft gc fg fo fh fs ff fq mk fm fi de6 ps6 re6 go6 kd6 pr6 fa6 fr6) := hD
  replace h6 : (r6 = 1 ∧ ∃ y, pr_text tx ty n gc g = some y ∧ re6 = eI n y) ∨ (r6 = 0 ∧ pr_text tx ty n gc g = none) := h6
  rcases h6 with ⟨rfl, y, hy, rfl⟩ | ⟨rfl, hno⟩
  rotate_left
  · refine lv_if_ne (tgt := 18) hx hb dM_value_9 rfl (fun h9 => absurd rfl h9) (fun h9 => ?_)
    refine lv_aload_n hx hb dM_value_12 rfl (lv_at hl 0 rfl) ?_
    refine lv_iconst (v := 1) hx hb dM_value_13 (by decide) ?_
    refine qM_i (ci := 5) (q0 := 0) (As := [.int 1]) (rest := []) ⟨hx, hb, hml, hown, ht⟩ (c_M_fail l D z d n _ 1) (cB 1 ht gM_fail rfl tw_64 tw_796 (by decide +kernel) ⟨by decide, by decide⟩) tw_798 tw_42 hK hP hD hS hA rfl rfl rfl hl.1 rfl (Nat.le_of_ble_eq_true rfl) dM_value_14 ⟨by decide, by decide⟩ (fun r14 u14 H locs h14 hP hD hS => ?_)
    exact W.iret hx hb hr (fun t9 ht hW => ⟨⟨_, (1, ty, ft, gc, fg, fo, fh, fs, ff, fq, mk, fm, fi, de6, ps6, re6, go6, kd6, pr6, fa6, fr6), rfl, ⟨Or.inr (Or.inl ⟨rfl, hno⟩), rfl, rfl, hR0⟩, by rw [ht]; exact hP, hD⟩, hS.F ht⟩) hS.2.2 dM_value_17
  have hyP := pr_text_P (fun i hi => (hok.2.2.2.2 i hi).1) hy
  refine lv_if_ne (tgt := 18) hx hb dM_value_9 rfl (fun h9 => ?_) (fun h9 => absurd h9 (by decide))
  refine wj (σ := Unit) (pc := 30) (I := fun _ H1 locs1 ls1 => H = H1 ∧ locs = locs1 ∧ ls = ls1 ∧ ¬ iN x n) ?_ (fun jn => ?_)
  · rintro - H1 locs1 ls1 ⟨rfl, rfl, rfl, hni⟩
    refine lv_aload_n hx hb dM_value_30 rfl (lv_at hl 0 rfl) ?_
    refine lv_iconst (v := 2) hx hb dM_value_31 (by decide) ?_
    refine qM_i (ci := 5) (q0 := 0) (As := [.int 2]) (rest := []) ⟨hx, hb, hml, hown, ht⟩ (c_M_fail l D z d n _ 2) (cB 1 ht gM_fail rfl tw_64 tw_796 (by decide +kernel) ⟨by decide, by decide⟩) tw_798 tw_42 hK hP hD hS hA rfl rfl rfl hl.1 rfl (Nat.le_of_ble_eq_true rfl) dM_value_32 ⟨by decide, by decide⟩ (fun r32 u32 H locs h32 hP hD hS => ?_)
    exact W.iret hx hb hr (fun t9 ht hW => ⟨⟨_, (2, ty, ft, gc, fg, fo, fh, fs, ff, fq, mk, fm, fi, de6, ps6, eI n y, go6, kd6, pr6, fa6, fr6), rfl, ⟨Or.inr (Or.inr ⟨rfl, (by rw [hy]; exact fun q => nomatch q), hni⟩), rfl, rfl, hR0⟩, by rw [ht]; exact hP, hD⟩, hS.F ht⟩) hS.2.2 dM_value_35
  refine lv_iload_n hx hb dM_value_18 rfl (lv_at hl 1 rfl) ?_
  refine lv_if_lt (tgt := 30) hx hb dM_value_19 rfl (fun h19 => ?_) (fun h19 => ?_)
  · exact jn () _ _ ls ⟨rfl, rfl, rfl, fun q => ((iN_of (by omega)).mp q).1 h19⟩
  refine lv_iload_n hx hb dM_value_22 rfl (lv_at hl 1 rfl) ?_
  refine lv_aload_n hx hb dM_value_23 rfl (lv_at hl 0 rfl) ?_
  refine va_get (ci := 5) (C := RM) (T := TM) (N := 26) hx hb ht inM hown hK hP 0 rfl rfl 0 (by decide) (ht _ tw_649) (fun _ h9 => h9) rfl dM_value_24 ?_
  refine lv_icmp_lt (tgt := 36) hx hb dM_value_27 rfl (fun h27 => ?_) (fun h27 => ?_)
  · obtain ⟨k, rfl, hk⟩ : iN x n := (iN_of (by omega)).mpr ⟨h19, fun q => Int32.not_le.mpr h27 q⟩
    refine lv_aload_n hx hb dM_value_36 rfl (lv_at hl 0 rfl) ?_
    refine lv_aload_n hx hb dM_value_37 rfl (lv_at hl 0 rfl) ?_
    refine va_get (ci := 5) (C := RM) (T := TM) (N := 26) hx hb ht inM hown hK hP 0 rfl rfl 20 (by decide) (ht _ tw_669) (fun _ h9 => h9) rfl dM_value_38 ?_
    refine lv_iload_n hx hb dM_value_41 rfl (lv_at hl 1 rfl) ?_
    refine qV_i (ci := 5) (q0 := 0) (As := [.int (eI n y), .int (nI k)]) (rest := []) ⟨hx, hb, hml, hown, ht⟩ (c_M_apply l D z d n k y hn (hyP.d3 (by omega)) hk) (cB 2 ht gM_apply rfl tw_64 tw_765 (by decide +kernel) ⟨by decide, by decide⟩) tw_767 tw_35 hK (hP) rfl rfl rfl hl.1 rfl (Nat.le_of_ble_eq_true rfl) dM_value_42 ⟨by decide, by decide⟩ (fun r42 h42 => ?_)
    subst h42
    exact W.iret hx hb hr (fun t9 ht hW => ⟨⟨_, (0, ty, ft, gc, fg, fo, fh, fs, ff, fq, mk, fm, fi, de6, ps6, eI n y, go6, kd6, pr6, fa6, fr6), rfl, ⟨Or.inl ⟨rfl, y, k, hy, rfl, hk, rfl⟩, rfl, rfl, hR0⟩, by rw [ht]; exact hP, hD⟩, hS.F ht⟩) hS.2.2 dM_value_45
  exact jn () _ _ ls ⟨rfl, rfl, rfl, fun q => h27 (Int32.not_le.mp ((iN_of (by omega)).mp q).2)⟩
set_option maxHeartbeats 4000000 in
set_option maxRecDepth 100000 in
theorem c_M_generate (l : Launch) (D : va_G) (z : Nat → ClassId) (d : Nat → Nat) (n : Nat) {cd : Int32} {ty : Nat} {ft : Nat → Int32} {gc : Nat} {fg fo fh : Nat → Int32} {fs ff : Nat → Int64} {fq : Nat → Int32} {mk : Nat} {fm fi : Nat → Int32} {de ps : Nat} {re : Int32} {go : Bool} {kd pr fa fr : Nat → Int32} (sz : Nat) (tx : Nat → Nat) (g : Nat → pg_F) (tg : Nat → Option pg_F) (Gs : Nat → pg_F → Prop) (hR : mR n tx ty g gc tg Gs ft fg fo fh fs) : Met l yM_generate wM_generate (rmF 6) (va_Pc [.ref (d 0)] (fun U => U.heap.size = sz ∧ va_P D vC (mW z d n cd ty ft gc fg fo fh fs ff fq mk fm fi de ps re go kd pr fa fr) U.heap ∧ va_K D vC (tyL z) U ∧ va_D (fun _ => True) (mW z d n cd ty ft gc fg fo fh fs ff fq mk fm fi de ps re go kd pr fa fr))) (va_Qi (fun r (v : mSt) => (v.1 = 0 ∧ ∃ y : pg_F, pr_text tx ty n gc g = some y ∧ gc < 6 ∧ r = nI (gc + 1) ∧ mRp n (tx, ty, va_up g gc y, gc + 1, va_up tg gc none, va_up Gs 0 (pg_and (Gs 0) y)) v) ∨ (((v.1 = 1 ∧ pr_text tx ty n gc g = none) ∨ (v.1 = 2 ∧ pr_text tx ty n gc g ≠ none ∧ ¬ gc < 6)) ∧ mRp n (tx, ty, g, gc, tg, Gs) v)) (fun v t => va_P D vC (mWu z d n v) t.heap ∧ va_D (va_A (mW z d n cd ty ft gc fg fo fh fs ff fq mk fm fi de ps re go kd pr fa fr) sz) (mWu z d n v)) (va_A (mW z d n cd ty ft gc fg fo fh fs ff fq mk fm fi de ps re go kd pr fa fr) sz)) 0 0 (va_A (mW z d n cd ty ft gc fg fo fh fs ff fq mk fm fi de ps re go kd pr fa fr) sz) := by
  have hR0 := hR
  obtain ⟨h1n, hok, htg, ⟨Bs, hsl, hBs⟩, hg0⟩ := hR
  have hn := hok.2.2.1
  have hgc := hok.2.1
  have hlen := hok.1
  have hfac := pg_fac_le n hn
  refine Met.ofW (cc := prog_9_method_32_code) (maxL := 1) (ret := (some .int)) (by decide) rfl ?_
  intro p e s m args below meth c s₁ B hml hv
  have hx := B.exec
  have hb := B.bytes
  have hr := B.returns
  have ht : ∀ w ∈ TB, w.before args s = true := fun w h => atoms_spec (ws := wM_generate) B.pre w (List.mem_cons_of_mem _ h)
  have hown : s.vm.findClass "PermutationDeskModel" = some m.cls := findClass_of_methodNamed B.named
  have hlocks := B.notSynchronized
  obtain ⟨rfl, hsz, hP, hK, hD0⟩ := hv
  subst hsz
  have hD := hD0.self (sz := s.heap.size)
  generalize hAe : va_A (mW z d n cd ty ft gc fg fo fh fs ff fq mk fm fi de ps re go kd pr fa fr) s.heap.size = A at hD ⊢
  have hA : ∀ q : Nat, s.heap.size ≤ q → A q := fun q h => by rw [← hAe]; exact Or.inr h
  have hS : va_S A s.heap s.heap [] := va_S.rf
  have hl := lv_entry ([.ref (d 0)]) (n := 1) (Nat.le_of_ble_eq_true rfl)
  rw [lg_entry_eq]
  generalize (lg_sl ([.ref (d 0)]) ++ List.replicate (1 - (lg_sl ([.ref (d 0)])).length) Slot.unset).toArray = ls at hl ⊢
  have hl : lv_has ls 1 [(0, .ref (d 0))] := hl
  refine lv_aload_n hx hb dM_generate_0 rfl (lv_at hl 0 rfl) ?_
  refine lv_iconst (v := 0) hx hb dM_generate_1 (by decide) ?_
  refine va_put (ci := 5) (ty := .int) (C := RM) (T := TM) (N := 26) hx hb ht inM tyM tyM_ok nmM hown hK hP hD hS 0 rfl rfl 2 (by decide) (ht _ tw_651) (fun _ h9 => h9) rfl (by decide +kernel) rfl rfl (Nat.le_of_ble_eq_true rfl) dM_generate_2 (fun H locs hP hD hS => ?_)
  have hP : va_P D vC (mW z d n 0 ty ft gc fg fo fh fs ff fq mk fm fi de ps re go kd pr fa fr) H := hP
  have hD : va_D A (mW z d n 0 ty ft gc fg fo fh fs ff fq mk fm fi de ps re go kd pr fa fr) := hD
  refine lv_aload_n hx hb dM_generate_5 rfl (lv_at hl 0 rfl) ?_
  refine qM_i (ci := 5) (q0 := 0) (As := []) (rest := []) ⟨hx, hb, hml, hown, ht⟩ (c_M_read l D z d n _ tx g hok) (cB 0 ht gM_read rfl tw_64 tw_745 (by decide +kernel) ⟨by decide, by decide⟩) tw_747 tw_30 hK hP hD hS hA rfl rfl rfl hl.1 rfl (Nat.le_of_ble_eq_true rfl) dM_generate_6 ⟨by decide, by decide⟩ (fun r6 u6 H locs h6 hP hD hS => ?_)
  obtain ⟨⟨de6, ps6, go6, kd6, pr6, fa6, fr6⟩, re6⟩ := u6
  replace hP : va_P D vC (mW z d n 0 ty ft gc fg fo fh fs ff fq mk fm fi de6 ps6 re6 go6 kd6 pr6 fa6 fr6) H := hP
  replace hD : va_D A (mW z d n 0 ty ft gc fg fo fh fs ff fq mk fm fi de6 ps6 re6 go6 kd6 pr6 fa6 fr6) := hD
  replace h6 : (r6 = 1 ∧ ∃ y, pr_text tx ty n gc g = some y ∧ re6 = eI n y) ∨ (r6 = 0 ∧ pr_text tx ty n gc g = none) := h6
  rcases h6 with ⟨rfl, y, hy, rfl⟩ | ⟨rfl, hno⟩
  rotate_left
  · refine lv_if_ne (tgt := 18) hx hb dM_generate_9 rfl (fun h9 => absurd rfl h9) (fun h9 => ?_)
    refine lv_aload_n hx hb dM_generate_12 rfl (lv_at hl 0 rfl) ?_
    refine lv_iconst (v := 1) hx hb dM_generate_13 (by decide) ?_
    refine qM_i (ci := 5) (q0 := 0) (As := [.int 1]) (rest := []) ⟨hx, hb, hml, hown, ht⟩ (c_M_fail l D z d n _ 1) (cB 1 ht gM_fail rfl tw_64 tw_796 (by decide +kernel) ⟨by decide, by decide⟩) tw_798 tw_42 hK hP hD hS hA rfl rfl rfl hl.1 rfl (Nat.le_of_ble_eq_true rfl) dM_generate_14 ⟨by decide, by decide⟩ (fun r14 u14 H locs h14 hP hD hS => ?_)
    exact W.iret hx hb hr (fun t9 ht hW => ⟨⟨_, (1, ty, ft, gc, fg, fo, fh, fs, ff, fq, mk, fm, fi, de6, ps6, re6, go6, kd6, pr6, fa6, fr6), rfl, Or.inr ⟨Or.inl ⟨rfl, hno⟩, rfl, rfl, hR0⟩, by rw [ht]; exact hP, hD⟩, hS.F ht⟩) hS.2.2 dM_generate_17
  have hyP := pr_text_P (fun i hi => (hok.2.2.2.2 i hi).1) hy
  refine lv_if_ne (tgt := 18) hx hb dM_generate_9 rfl (fun h9 => ?_) (fun h9 => absurd h9 (by decide))
  refine lv_aload_n hx hb dM_generate_18 rfl (lv_at hl 0 rfl) ?_
  refine va_get (ci := 5) (C := RM) (T := TM) (N := 26) hx hb ht inM hown hK hP 0 rfl rfl 8 (by decide) (ht _ tw_657) (fun _ h9 => h9) rfl dM_generate_19 ?_
  refine lv_bipush (v := 6) hx hb dM_generate_22 (by decide) ?_
  refine lv_icmp_ne (tgt := 33) hx hb dM_generate_24 rfl (fun h24 => ?_) (fun h24 => ?_)
  rotate_left
  · have h6 : ¬ gc < 6 := by
      have := (nI_eq (a := gc) (b := 6) (by omega) (by omega)).mp h24
      omega
    refine lv_aload_n hx hb dM_generate_27 rfl (lv_at hl 0 rfl) ?_
    refine lv_iconst (v := 2) hx hb dM_generate_28 (by decide) ?_
    refine qM_i (ci := 5) (q0 := 0) (As := [.int 2]) (rest := []) ⟨hx, hb, hml, hown, ht⟩ (c_M_fail l D z d n _ 2) (cB 1 ht gM_fail rfl tw_64 tw_796 (by decide +kernel) ⟨by decide, by decide⟩) tw_798 tw_42 hK hP hD hS hA rfl rfl rfl hl.1 rfl (Nat.le_of_ble_eq_true rfl) dM_generate_29 ⟨by decide, by decide⟩ (fun r29 u29 H locs h29 hP hD hS => ?_)
    exact W.iret hx hb hr (fun t9 ht hW => ⟨⟨_, (2, ty, ft, gc, fg, fo, fh, fs, ff, fq, mk, fm, fi, de6, ps6, eI n y, go6, kd6, pr6, fa6, fr6), rfl, Or.inr ⟨Or.inr ⟨rfl, (by rw [hy]; exact fun q => nomatch q), h6⟩, rfl, rfl, hR0⟩, by rw [ht]; exact hP, hD⟩, hS.F ht⟩) hS.2.2 dM_generate_32
  have h6 : gc < 6 := by
    have : gc ≠ 6 := fun q => h24 (by rw [q]; rfl)
    omega
  refine lv_aload_n hx hb dM_generate_33 rfl (lv_at hl 0 rfl) ?_
  refine va_get (ci := 5) (C := RM) (T := TM) (N := 26) hx hb ht inM hown hK hP 0 rfl rfl 9 (by decide) (ht _ tw_658) (fun _ h9 => h9) rfl dM_generate_34 ?_
  refine lv_aload_n hx hb dM_generate_37 rfl (lv_at hl 0 rfl) ?_
  refine va_get (ci := 5) (C := RM) (T := TM) (N := 26) hx hb ht inM hown hK hP 0 rfl rfl 8 (by decide) (ht _ tw_657) (fun _ h9 => h9) rfl dM_generate_38 ?_
  refine lv_aload_n hx hb dM_generate_41 rfl (lv_at hl 0 rfl) ?_
  refine va_get (ci := 5) (C := RM) (T := TM) (N := 26) hx hb ht inM hown hK hP 0 rfl rfl 20 (by decide) (ht _ tw_669) (fun _ h9 => h9) rfl dM_generate_42 ?_
  refine va_iast hx hb hK hP hD hS 5 1 rfl rfl (vp_in_nI (N := 6) (by omega) (by decide)) dM_generate_45 (fun H locs hP hD hS => ?_)
  rw [nI_clamp (by omega)] at hP hD
  replace hP : va_P D vC (mW z d n 0 ty ft gc (upd fg gc (eI n y)) fo fh fs ff fq mk fm fi de6 ps6 (eI n y) go6 kd6 pr6 fa6 fr6) H := hP
  replace hD : va_D A (mW z d n 0 ty ft gc (upd fg gc (eI n y)) fo fh fs ff fq mk fm fi de6 ps6 (eI n y) go6 kd6 pr6 fa6 fr6) := hD
  refine lv_aload_n hx hb dM_generate_46 rfl (lv_at hl 0 rfl) ?_
  refine va_get (ci := 5) (C := RM) (T := TM) (N := 26) hx hb ht inM hown hK hP 0 rfl rfl 11 (by decide) (ht _ tw_660) (fun _ h9 => h9) rfl dM_generate_47 ?_
  refine lv_aload_n hx hb dM_generate_50 rfl (lv_at hl 0 rfl) ?_
  refine va_get (ci := 5) (C := RM) (T := TM) (N := 26) hx hb ht inM hown hK hP 0 rfl rfl 8 (by decide) (ht _ tw_657) (fun _ h9 => h9) rfl dM_generate_51 ?_
  refine lv_iconst (v := 0) hx hb dM_generate_54 (by decide) ?_
  refine va_zast hx hb hK hP hD hS 7 4 rfl rfl (vp_in_nI (N := 6) (by omega) (by decide)) dM_generate_55 (fun H locs hP hD hS => ?_)
  rw [nI_clamp (by omega)] at hP hD
  replace hP : va_P D vC (mW z d n 0 ty ft gc (upd fg gc (eI n y)) fo (upd fh gc (bI false)) fs ff fq mk fm fi de6 ps6 (eI n y) go6 kd6 pr6 fa6 fr6) H := hP
  replace hD : va_D A (mW z d n 0 ty ft gc (upd fg gc (eI n y)) fo (upd fh gc (bI false)) fs ff fq mk fm fi de6 ps6 (eI n y) go6 kd6 pr6 fa6 fr6) := hD
  refine lv_aload_n hx hb dM_generate_56 rfl (lv_at hl 0 rfl) ?_
  refine lv_dup hx hb dM_generate_57 rfl ?_
  refine va_get (ci := 5) (C := RM) (T := TM) (N := 26) hx hb ht inM hown hK hP 0 rfl rfl 8 (by decide) (ht _ tw_657) (fun _ h9 => h9) rfl dM_generate_58 ?_
  refine lv_iconst (v := 1) hx hb dM_generate_61 (by decide) ?_
  refine lv_iadd hx hb dM_generate_62 ?_
  refine wti (x' := nI (gc + 1)) (nI_1 gc) ?_
  refine va_put (ci := 5) (ty := .int) (C := RM) (T := TM) (N := 26) hx hb ht inM tyM tyM_ok nmM hown hK hP hD hS 0 rfl rfl 8 (by decide) (ht _ tw_657) (fun _ h9 => h9) rfl (by decide +kernel) rfl rfl (Nat.le_of_ble_eq_true rfl) dM_generate_63 (fun H locs hP hD hS => ?_)
  have hP : va_P D vC (mW z d n 0 ty ft (gc + 1) (upd fg gc (eI n y)) fo (upd fh gc (bI false)) fs ff fq mk fm fi de6 ps6 (eI n y) go6 kd6 pr6 fa6 fr6) H := hP
  have hD : va_D A (mW z d n 0 ty ft (gc + 1) (upd fg gc (eI n y)) fo (upd fh gc (bI false)) fs ff fq mk fm fi de6 ps6 (eI n y) go6 kd6 pr6 fa6 fr6) := hD
  refine lv_aload_n hx hb dM_generate_66 rfl (lv_at hl 0 rfl) ?_
  have hg9 : ∀ i, i < gc + 1 → pg_P n (va_up g gc y i) ∧ upd fg gc (eI n y) i = eI n (va_up g gc y i) := by
    intro i hi
    by_cases e : i = gc
    · rw [e, va_up_self, pk_us]; exact ⟨hyP, rfl⟩
    · rw [va_up_ne _ _ e, pk_un e]; exact hok.2.2.2.2 i (by omega)
  refine qM_v (ci := 5) (q0 := 0) (As := []) (rest := []) ⟨hx, hb, hml, hown, ht⟩ (c_M_fillZero l D z d n _ hn (by omega) (va_up g gc y) hg9) (cB 0 ht gM_fillZero rfl tw_64 tw_804 (by decide +kernel) ⟨by decide, by decide⟩) tw_806 tw_43 hK hP hD hS hA rfl rfl rfl hl.1 rfl (Nat.le_of_ble_eq_true rfl) dM_generate_67 ⟨by decide, by decide⟩ (fun u67 H locs h67 hP hD hS => ?_)
  replace hP : va_P D vC (mW z d n 0 ty ft (gc + 1) (upd fg gc (eI n y)) fo (upd fh gc (bI false)) u67.1 u67.2.1 u67.2.2.1 u67.2.2.2.1 u67.2.2.2.2 fi de6 ps6 (eI n y) go6 kd6 pr6 fa6 fr6) H := hP
  replace hD : va_D A (mW z d n 0 ty ft (gc + 1) (upd fg gc (eI n y)) fo (upd fh gc (bI false)) u67.1 u67.2.1 u67.2.2.1 u67.2.2.2.1 u67.2.2.2.2 fi de6 ps6 (eI n y) go6 kd6 pr6 fa6 fr6) := hD
  obtain ⟨B, hB1, hB2⟩ := h67
  have e9 : pg_Gen (pg_GS (gc + 1) (va_up g gc y)) = pg_and (Gs 0) y := pg_and_gen (c := gc) (K := g) (K' := va_up g gc y) hg0.symm (fun a ha => va_up_ne _ _ (by omega)) (va_up_self _ _ _)
  refine lv_aload_n hx hb dM_generate_70 rfl (lv_at hl 0 rfl) ?_
  refine va_get (ci := 5) (C := RM) (T := TM) (N := 26) hx hb ht inM hown hK hP 0 rfl rfl 8 (by decide) (ht _ tw_657) (fun _ h9 => h9) rfl dM_generate_71 ?_
  refine W.iret hx hb hr (fun t9 ht hW => ⟨⟨_, (0, ty, ft, gc + 1, upd fg gc (eI n y), fo, upd fh gc (bI false), u67.1, u67.2.1, u67.2.2.1, u67.2.2.2.1, u67.2.2.2.2, fi, de6, ps6, eI n y, go6, kd6, pr6, fa6, fr6), rfl, Or.inl ⟨rfl, y, hy, h6, rfl, rfl, rfl, h1n, ⟨hlen, h6, hn, hok.2.2.2.1, hg9⟩, fun i hi => ?_, ⟨va_up Bs 0 B, hB2 Bs hsl, fun i hi => ?_⟩, ?_⟩, by rw [ht]; exact hP, hD⟩, hS.F ht⟩) hS.2.2 dM_generate_74
  · replace hi : i < gc + 1 := hi
    show upd fh gc (bI false) i = bI (va_up tg gc none i).isSome ∧ ∀ x, va_up tg gc none i = some x → fo i = eI n x ∧ pg_P n x
    by_cases e : i = gc
    · rw [e, va_up_self, pk_us]; exact ⟨rfl, fun x e8 => by cases e8⟩
    · rw [va_up_ne _ _ e, pk_un e]; exact htg i (by omega)
  · show pg_set n (va_up Bs 0 B i) = va_up Gs 0 (pg_and (Gs 0) y) i
    by_cases e : i = 0
    · rw [e, va_up_self, va_up_self, hB1, e9]
    · rw [va_up_ne _ _ e, va_up_ne _ _ e]; exact hBs i hi
  · show va_up Gs 0 (pg_and (Gs 0) y) 0 = _
    rw [va_up_self, ← e9]
set_option maxHeartbeats 4000000 in
set_option maxRecDepth 100000 in
theorem c_M_forget (l : Launch) (D : va_G) (z : Nat → ClassId) (d : Nat → Nat) (n : Nat) {cd : Int32} {ty : Nat} {ft : Nat → Int32} {gc : Nat} {fg fo fh : Nat → Int32} {fs ff : Nat → Int64} {fq : Nat → Int32} {mk : Nat} {fm fi : Nat → Int32} {de ps : Nat} {re : Int32} {go : Bool} {kd pr fa fr : Nat → Int32} (sz : Nat) (tx : Nat → Nat) (g : Nat → pg_F) (tg : Nat → Option pg_F) (Gs : Nat → pg_F → Prop) (hR : mR n tx ty g gc tg Gs ft fg fo fh fs) : Met l yM_forget wM_forget (rmF 5) (va_Pc [.ref (d 0)] (fun U => U.heap.size = sz ∧ va_P D vC (mW z d n cd ty ft gc fg fo fh fs ff fq mk fm fi de ps re go kd pr fa fr) U.heap ∧ va_K D vC (tyL z) U ∧ va_D (fun _ => True) (mW z d n cd ty ft gc fg fo fh fs ff fq mk fm fi de ps re go kd pr fa fr))) (va_Qv (fun (v : mSt) => v.1 = 0 ∧ mRp n (aForget (tx, ty, g, gc, tg, Gs)) v) (fun v t => va_P D vC (mWu z d n v) t.heap ∧ va_D (va_A (mW z d n cd ty ft gc fg fo fh fs ff fq mk fm fi de ps re go kd pr fa fr) sz) (mWu z d n v)) (va_A (mW z d n cd ty ft gc fg fo fh fs ff fq mk fm fi de ps re go kd pr fa fr) sz)) 0 0 (va_A (mW z d n cd ty ft gc fg fo fh fs ff fq mk fm fi de ps re go kd pr fa fr) sz) := by
  have hR0 := hR
  obtain ⟨h1n, hok, htg, ⟨Bs, hsl, hBs⟩, hg0⟩ := hR
  have hn := hok.2.2.1
  have hgc := hok.2.1
  have hlen := hok.1
  have hfac := pg_fac_le n hn
  refine Met.ofW (cc := prog_9_method_33_code) (maxL := 1) (ret := none) (by decide) rfl ?_
  intro p e s m args below meth c s₁ B hml hv
  have hx := B.exec
  have hb := B.bytes
  have hr := B.returns
  have ht : ∀ w ∈ TB, w.before args s = true := fun w h => atoms_spec (ws := wM_forget) B.pre w (List.mem_cons_of_mem _ h)
  have hown : s.vm.findClass "PermutationDeskModel" = some m.cls := findClass_of_methodNamed B.named
  have hlocks := B.notSynchronized
  obtain ⟨rfl, hsz, hP, hK, hD0⟩ := hv
  subst hsz
  have hD := hD0.self (sz := s.heap.size)
  generalize hAe : va_A (mW z d n cd ty ft gc fg fo fh fs ff fq mk fm fi de ps re go kd pr fa fr) s.heap.size = A at hD ⊢
  have hA : ∀ q : Nat, s.heap.size ≤ q → A q := fun q h => by rw [← hAe]; exact Or.inr h
  have hS : va_S A s.heap s.heap [] := va_S.rf
  have hl := lv_entry ([.ref (d 0)]) (n := 1) (Nat.le_of_ble_eq_true rfl)
  rw [lg_entry_eq]
  generalize (lg_sl ([.ref (d 0)]) ++ List.replicate (1 - (lg_sl ([.ref (d 0)])).length) Slot.unset).toArray = ls at hl ⊢
  have hl : lv_has ls 1 [(0, .ref (d 0))] := hl
  refine lv_aload_n hx hb dM_forget_0 rfl (lv_at hl 0 rfl) ?_
  refine lv_iconst (v := 0) hx hb dM_forget_1 (by decide) ?_
  refine va_put (ci := 5) (ty := .int) (C := RM) (T := TM) (N := 26) hx hb ht inM tyM tyM_ok nmM hown hK hP hD hS 0 rfl rfl 2 (by decide) (ht _ tw_651) (fun _ h9 => h9) rfl (by decide +kernel) rfl rfl (Nat.le_of_ble_eq_true rfl) dM_forget_2 (fun H locs hP hD hS => ?_)
  have hP : va_P D vC (mW z d n 0 ty ft gc fg fo fh fs ff fq mk fm fi de ps re go kd pr fa fr) H := hP
  have hD : va_D A (mW z d n 0 ty ft gc fg fo fh fs ff fq mk fm fi de ps re go kd pr fa fr) := hD
  refine lv_aload_n hx hb dM_forget_5 rfl (lv_at hl 0 rfl) ?_
  refine lv_iconst (v := 0) hx hb dM_forget_6 (by decide) ?_
  refine va_put (ci := 5) (ty := .int) (C := RM) (T := TM) (N := 26) hx hb ht inM tyM tyM_ok nmM hown hK hP hD hS 0 rfl rfl 8 (by decide) (ht _ tw_657) (fun _ h9 => h9) rfl (by decide +kernel) rfl rfl (Nat.le_of_ble_eq_true rfl) dM_forget_7 (fun H locs hP hD hS => ?_)
  have hP : va_P D vC (mW z d n 0 ty ft 0 fg fo fh fs ff fq mk fm fi de ps re go kd pr fa fr) H := hP
  have hD : va_D A (mW z d n 0 ty ft 0 fg fo fh fs ff fq mk fm fi de ps re go kd pr fa fr) := hD
  refine lv_aload_n hx hb dM_forget_10 rfl (lv_at hl 0 rfl) ?_
  refine qM_v (ci := 5) (q0 := 0) (As := []) (rest := []) ⟨hx, hb, hml, hown, ht⟩ (c_M_fillZero l D z d n _ hn (by decide) g (fun i hi => absurd hi (Nat.not_lt_zero i))) (cB 0 ht gM_fillZero rfl tw_64 tw_804 (by decide +kernel) ⟨by decide, by decide⟩) tw_806 tw_43 hK hP hD hS hA rfl rfl rfl hl.1 rfl (Nat.le_of_ble_eq_true rfl) dM_forget_11 ⟨by decide, by decide⟩ (fun u11 H locs h11 hP hD hS => ?_)
  replace hP : va_P D vC (mW z d n 0 ty ft 0 fg fo fh u11.1 u11.2.1 u11.2.2.1 u11.2.2.2.1 u11.2.2.2.2 fi de ps re go kd pr fa fr) H := hP
  replace hD : va_D A (mW z d n 0 ty ft 0 fg fo fh u11.1 u11.2.1 u11.2.2.1 u11.2.2.2.1 u11.2.2.2.2 fi de ps re go kd pr fa fr) := hD
  obtain ⟨B, hB1, hB2⟩ := h11
  rw [pg_Gen_0] at hB1
  refine W.vret hx hb hr (fun t9 ht hW => ⟨⟨(0, ty, ft, 0, fg, fo, fh, u11.1, u11.2.1, u11.2.2.1, u11.2.2.2.1, u11.2.2.2.2, fi, de, ps, re, go, kd, pr, fa, fr), rfl, ⟨rfl, rfl, rfl, h1n, ⟨hlen, Nat.zero_le _, hn, hok.2.2.2.1, fun i hi => absurd hi (Nat.not_lt_zero i)⟩, fun i hi => absurd hi (Nat.not_lt_zero i), ⟨va_up Bs 0 B, hB2 Bs hsl, fun i hi => ?_⟩, ?_⟩, by rw [ht]; exact hP, hD⟩, hS.F ht⟩) hS.2.2 dM_forget_14
  · show pg_set n (va_up Bs 0 B i) = va_up Gs 0 (fun x => x = pg_id) i
    by_cases e : i = 0
    · rw [e, va_up_self, va_up_self, hB1]
    · rw [va_up_ne _ _ e, va_up_ne _ _ e]; exact hBs i hi
  · show va_up Gs 0 (fun x => x = pg_id) 0 = pg_Gen (pg_GS 0 g)
    rw [va_up_self, pg_Gen_0]
set_option maxHeartbeats 4000000 in
set_option maxRecDepth 100000 in
theorem c_M_image (l : Launch) (D : va_G) (z : Nat → ClassId) (d : Nat → Nat) (n : Nat) {cd : Int32} {ty : Nat} {ft : Nat → Int32} {gc : Nat} {fg fo fh : Nat → Int32} {fs ff : Nat → Int64} {fq : Nat → Int32} {mk : Nat} {fm fi : Nat → Int32} {de ps : Nat} {re : Int32} {go : Bool} {kd pr fa fr : Nat → Int32} (sz : Nat) (tx : Nat → Nat) (g : Nat → pg_F) (tg : Nat → Option pg_F) (Gs : Nat → pg_F → Prop) (hR : mR n tx ty g gc tg Gs ft fg fo fh fs) (x : Int32) : Met l yM_image wM_image (rmF 6) (va_Pc [.ref (d 0), .int x] (fun U => U.heap.size = sz ∧ va_P D vC (mW z d n cd ty ft gc fg fo fh fs ff fq mk fm fi de ps re go kd pr fa fr) U.heap ∧ va_K D vC (tyL z) U ∧ va_D (fun _ => True) (mW z d n cd ty ft gc fg fo fh fs ff fq mk fm fi de ps re go kd pr fa fr))) (va_Qv (fun (v : mSt) => (v.1 = 0 ∧ ∃ (y : pg_F) (k : Nat), pr_text tx ty n gc g = some y ∧ x = nI k ∧ k < gc ∧ mRp n (tx, ty, g, gc, va_up tg k (some y), Gs) v) ∨ (((v.1 = 1 ∧ pr_text tx ty n gc g = none) ∨ (v.1 = 2 ∧ pr_text tx ty n gc g ≠ none ∧ ¬ iN x gc)) ∧ mRp n (tx, ty, g, gc, tg, Gs) v)) (fun v t => va_P D vC (mWu z d n v) t.heap ∧ va_D (va_A (mW z d n cd ty ft gc fg fo fh fs ff fq mk fm fi de ps re go kd pr fa fr) sz) (mWu z d n v)) (va_A (mW z d n cd ty ft gc fg fo fh fs ff fq mk fm fi de ps re go kd pr fa fr) sz)) 0 0 (va_A (mW z d n cd ty ft gc fg fo fh fs ff fq mk fm fi de ps re go kd pr fa fr) sz) := by
  have hR0 := hR
  obtain ⟨h1n, hok, htg, ⟨Bs, hsl, hBs⟩, hg0⟩ := hR
  have hn := hok.2.2.1
  have hgc := hok.2.1
  have hlen := hok.1
  have hfac := pg_fac_le n hn
  refine Met.ofW (cc := prog_9_method_34_code) (maxL := 2) (ret := none) (by decide) rfl ?_
  intro p e s m args below meth c s₁ B hml hv
  have hx := B.exec
  have hb := B.bytes
  have hr := B.returns
  have ht : ∀ w ∈ TB, w.before args s = true := fun w h => atoms_spec (ws := wM_image) B.pre w (List.mem_cons_of_mem _ h)
  have hown : s.vm.findClass "PermutationDeskModel" = some m.cls := findClass_of_methodNamed B.named
  have hlocks := B.notSynchronized
  obtain ⟨rfl, hsz, hP, hK, hD0⟩ := hv
  subst hsz
  have hD := hD0.self (sz := s.heap.size)
  generalize hAe : va_A (mW z d n cd ty ft gc fg fo fh fs ff fq mk fm fi de ps re go kd pr fa fr) s.heap.size = A at hD ⊢
  have hA : ∀ q : Nat, s.heap.size ≤ q → A q := fun q h => by rw [← hAe]; exact Or.inr h
  have hS : va_S A s.heap s.heap [] := va_S.rf
  have hl := lv_entry ([.ref (d 0), .int x]) (n := 2) (Nat.le_of_ble_eq_true rfl)
  rw [lg_entry_eq]
  generalize (lg_sl ([.ref (d 0), .int x]) ++ List.replicate (2 - (lg_sl ([.ref (d 0), .int x])).length) Slot.unset).toArray = ls at hl ⊢
  have hl : lv_has ls 2 [(0, .ref (d 0)), (1, .int x)] := hl
  refine lv_aload_n hx hb dM_image_0 rfl (lv_at hl 0 rfl) ?_
  refine lv_iconst (v := 0) hx hb dM_image_1 (by decide) ?_
  refine va_put (ci := 5) (ty := .int) (C := RM) (T := TM) (N := 26) hx hb ht inM tyM tyM_ok nmM hown hK hP hD hS 0 rfl rfl 2 (by decide) (ht _ tw_651) (fun _ h9 => h9) rfl (by decide +kernel) rfl rfl (Nat.le_of_ble_eq_true rfl) dM_image_2 (fun H locs hP hD hS => ?_)
  have hP : va_P D vC (mW z d n 0 ty ft gc fg fo fh fs ff fq mk fm fi de ps re go kd pr fa fr) H := hP
  have hD : va_D A (mW z d n 0 ty ft gc fg fo fh fs ff fq mk fm fi de ps re go kd pr fa fr) := hD
  refine lv_aload_n hx hb dM_image_5 rfl (lv_at hl 0 rfl) ?_
  refine qM_i (ci := 5) (q0 := 0) (As := []) (rest := []) ⟨hx, hb, hml, hown, ht⟩ (c_M_read l D z d n _ tx g hok) (cB 0 ht gM_read rfl tw_64 tw_745 (by decide +kernel) ⟨by decide, by decide⟩) tw_747 tw_30 hK hP hD hS hA rfl rfl rfl hl.1 rfl (Nat.le_of_ble_eq_true rfl) dM_image_6 ⟨by decide, by decide⟩ (fun r6 u6 H locs h6 hP hD hS => ?_)
  obtain ⟨⟨de6, ps6, go6, kd6, pr6, fa6, fr6⟩, re6⟩ := u6
  replace hP : va_P D vC (mW z d n 0 ty ft gc fg fo fh fs ff fq mk fm fi de6 ps6 re6 go6 kd6 pr6 fa6 fr6) H := hP
  replace hD : va_D A (mW z d n 0 ty ft gc fg fo fh fs ff fq mk fm fi de6 ps6 re6 go6 kd6 pr6 fa6 fr6) := hD
  replace h6 : (r6 = 1 ∧ ∃ y, pr_text tx ty n gc g = some y ∧ re6 = eI n y) ∨ (r6 = 0 ∧ pr_text tx ty n gc g = none) := h6
  rcases h6 with ⟨rfl, y, hy, rfl⟩ | ⟨rfl, hno⟩
  rotate_left
  · refine lv_if_ne (tgt := 20) hx hb dM_image_9 rfl (fun h9 => absurd rfl h9) (fun h9 => ?_)
    refine lv_aload_n hx hb dM_image_12 rfl (lv_at hl 0 rfl) ?_
    refine lv_iconst (v := 1) hx hb dM_image_13 (by decide) ?_
    refine va_put (ci := 5) (ty := .int) (C := RM) (T := TM) (N := 26) hx hb ht inM tyM tyM_ok nmM hown hK hP hD hS 0 rfl rfl 2 (by decide) (ht _ tw_651) (fun _ h9 => h9) rfl (by decide +kernel) rfl rfl (Nat.le_of_ble_eq_true rfl) dM_image_14 (fun H locs hP hD hS => ?_)
    have hP : va_P D vC (mW z d n 1 ty ft gc fg fo fh fs ff fq mk fm fi de6 ps6 re6 go6 kd6 pr6 fa6 fr6) H := hP
    have hD : va_D A (mW z d n 1 ty ft gc fg fo fh fs ff fq mk fm fi de6 ps6 re6 go6 kd6 pr6 fa6 fr6) := hD
    refine lv_goto (tgt := 57) hx hb dM_image_17 rfl ?_
    exact W.vret hx hb hr (fun t9 ht hW => ⟨⟨(1, ty, ft, gc, fg, fo, fh, fs, ff, fq, mk, fm, fi, de6, ps6, re6, go6, kd6, pr6, fa6, fr6), rfl, Or.inr ⟨Or.inl ⟨rfl, hno⟩, rfl, rfl, hR0⟩, by rw [ht]; exact hP, hD⟩, hS.F ht⟩) hS.2.2 dM_image_57
  have hyP := pr_text_P (fun i hi => (hok.2.2.2.2 i hi).1) hy
  refine lv_if_ne (tgt := 20) hx hb dM_image_9 rfl (fun h9 => ?_) (fun h9 => absurd h9 (by decide))
  refine wj (σ := Unit) (pc := 32) (I := fun _ H1 locs1 ls1 => H = H1 ∧ locs = locs1 ∧ ls = ls1 ∧ ¬ iN x gc) ?_ (fun jn => ?_)
  · rintro - H1 locs1 ls1 ⟨rfl, rfl, rfl, hni⟩
    refine lv_aload_n hx hb dM_image_32 rfl (lv_at hl 0 rfl) ?_
    refine lv_iconst (v := 2) hx hb dM_image_33 (by decide) ?_
    refine va_put (ci := 5) (ty := .int) (C := RM) (T := TM) (N := 26) hx hb ht inM tyM tyM_ok nmM hown hK hP hD hS 0 rfl rfl 2 (by decide) (ht _ tw_651) (fun _ h9 => h9) rfl (by decide +kernel) rfl rfl (Nat.le_of_ble_eq_true rfl) dM_image_34 (fun H locs hP hD hS => ?_)
    have hP : va_P D vC (mW z d n 2 ty ft gc fg fo fh fs ff fq mk fm fi de6 ps6 (eI n y) go6 kd6 pr6 fa6 fr6) H := hP
    have hD : va_D A (mW z d n 2 ty ft gc fg fo fh fs ff fq mk fm fi de6 ps6 (eI n y) go6 kd6 pr6 fa6 fr6) := hD
    refine lv_goto (tgt := 57) hx hb dM_image_37 rfl ?_
    exact W.vret hx hb hr (fun t9 ht hW => ⟨⟨(2, ty, ft, gc, fg, fo, fh, fs, ff, fq, mk, fm, fi, de6, ps6, eI n y, go6, kd6, pr6, fa6, fr6), rfl, Or.inr ⟨Or.inr ⟨rfl, (by rw [hy]; exact fun q => nomatch q), hni⟩, rfl, rfl, hR0⟩, by rw [ht]; exact hP, hD⟩, hS.F ht⟩) hS.2.2 dM_image_57
  refine lv_iload_n hx hb dM_image_20 rfl (lv_at hl 1 rfl) ?_
  refine lv_if_lt (tgt := 32) hx hb dM_image_21 rfl (fun h21 => ?_) (fun h21 => ?_)
  · exact jn () _ _ ls ⟨rfl, rfl, rfl, fun q => ((iN_of (by omega)).mp q).1 h21⟩
  refine lv_iload_n hx hb dM_image_24 rfl (lv_at hl 1 rfl) ?_
  refine lv_aload_n hx hb dM_image_25 rfl (lv_at hl 0 rfl) ?_
  refine va_get (ci := 5) (C := RM) (T := TM) (N := 26) hx hb ht inM hown hK hP 0 rfl rfl 8 (by decide) (ht _ tw_657) (fun _ h9 => h9) rfl dM_image_26 ?_
  refine lv_icmp_lt (tgt := 40) hx hb dM_image_29 rfl (fun h29 => ?_) (fun h29 => ?_)
  · obtain ⟨k, rfl, hk⟩ : iN x gc := (iN_of (by omega)).mpr ⟨h21, fun q => Int32.not_le.mpr h29 q⟩
    refine lv_aload_n hx hb dM_image_40 rfl (lv_at hl 0 rfl) ?_
    refine va_get (ci := 5) (C := RM) (T := TM) (N := 26) hx hb ht inM hown hK hP 0 rfl rfl 10 (by decide) (ht _ tw_659) (fun _ h9 => h9) rfl dM_image_41 ?_
    refine lv_iload_n hx hb dM_image_44 rfl (lv_at hl 1 rfl) ?_
    refine lv_aload_n hx hb dM_image_45 rfl (lv_at hl 0 rfl) ?_
    refine va_get (ci := 5) (C := RM) (T := TM) (N := 26) hx hb ht inM hown hK hP 0 rfl rfl 20 (by decide) (ht _ tw_669) (fun _ h9 => h9) rfl dM_image_46 ?_
    refine va_iast hx hb hK hP hD hS 6 1 rfl rfl (vp_in_nI (N := 6) (by omega) (by decide)) dM_image_49 (fun H locs hP hD hS => ?_)
    rw [nI_clamp (by omega)] at hP hD
    replace hP : va_P D vC (mW z d n 0 ty ft gc fg (upd fo k (eI n y)) fh fs ff fq mk fm fi de6 ps6 (eI n y) go6 kd6 pr6 fa6 fr6) H := hP
    replace hD : va_D A (mW z d n 0 ty ft gc fg (upd fo k (eI n y)) fh fs ff fq mk fm fi de6 ps6 (eI n y) go6 kd6 pr6 fa6 fr6) := hD
    refine lv_aload_n hx hb dM_image_50 rfl (lv_at hl 0 rfl) ?_
    refine va_get (ci := 5) (C := RM) (T := TM) (N := 26) hx hb ht inM hown hK hP 0 rfl rfl 11 (by decide) (ht _ tw_660) (fun _ h9 => h9) rfl dM_image_51 ?_
    refine lv_iload_n hx hb dM_image_54 rfl (lv_at hl 1 rfl) ?_
    refine lv_iconst (v := 1) hx hb dM_image_55 (by decide) ?_
    refine va_zast hx hb hK hP hD hS 7 4 rfl rfl (vp_in_nI (N := 6) (by omega) (by decide)) dM_image_56 (fun H locs hP hD hS => ?_)
    rw [nI_clamp (by omega)] at hP hD
    replace hP : va_P D vC (mW z d n 0 ty ft gc fg (upd fo k (eI n y)) (upd fh k (bI true)) fs ff fq mk fm fi de6 ps6 (eI n y) go6 kd6 pr6 fa6 fr6) H := hP
    replace hD : va_D A (mW z d n 0 ty ft gc fg (upd fo k (eI n y)) (upd fh k (bI true)) fs ff fq mk fm fi de6 ps6 (eI n y) go6 kd6 pr6 fa6 fr6) := hD
    refine W.vret hx hb hr (fun t9 ht hW => ⟨⟨(0, ty, ft, gc, fg, upd fo k (eI n y), upd fh k (bI true), fs, ff, fq, mk, fm, fi, de6, ps6, eI n y, go6, kd6, pr6, fa6, fr6), rfl, Or.inl ⟨rfl, y, k, hy, rfl, hk, rfl, rfl, h1n, hok, fun i hi => ?_, ⟨Bs, hsl, hBs⟩, hg0⟩, by rw [ht]; exact hP, hD⟩, hS.F ht⟩) hS.2.2 dM_image_57
    show upd fh k (bI true) i = bI (va_up tg k (some y) i).isSome ∧ ∀ x, va_up tg k (some y) i = some x → upd fo k (eI n y) i = eI n x ∧ pg_P n x
    by_cases e : i = k
    · rw [e, va_up_self, pk_us, pk_us]; exact ⟨rfl, fun x e8 => by cases e8; exact ⟨rfl, hyP⟩⟩
    · rw [va_up_ne _ _ e, pk_un e, pk_un e]; exact htg i hi
  exact jn () _ _ ls ⟨rfl, rfl, rfl, fun q => h29 (Int32.not_le.mp ((iN_of (by omega)).mp q).2)⟩
set_option maxHeartbeats 4000000 in
set_option maxRecDepth 100000 in
theorem c_M_extend (l : Launch) (D : va_G) (z : Nat → ClassId) (d : Nat → Nat) (n : Nat) {cd : Int32} {ty : Nat} {ft : Nat → Int32} {gc : Nat} {fg fo fh : Nat → Int32} {fs ff : Nat → Int64} {fq : Nat → Int32} {mk : Nat} {fm fi : Nat → Int32} {de ps : Nat} {re : Int32} {go : Bool} {kd pr fa fr : Nat → Int32} (sz : Nat) (tx : Nat → Nat) (g : Nat → pg_F) (tg : Nat → Option pg_F) (Gs : Nat → pg_F → Prop) (hR : mR n tx ty g gc tg Gs ft fg fo fh fs) : Met l yM_extend wM_extend (rmF 3) (va_Pc [.ref (d 0)] (fun U => U.heap.size = sz ∧ va_P D vC (mW z d n cd ty ft gc fg fo fh fs ff fq mk fm fi de ps re go kd pr fa fr) U.heap ∧ va_K D vC (tyL z) U ∧ va_D (fun _ => True) (mW z d n cd ty ft gc fg fo fh fs ff fq mk fm fi de ps re go kd pr fa fr))) (va_Qi (fun r (v : mSt) => ((v.1 = 0 ∧ ∃ (tt : Nat → pg_F) (b : Bool), aTg gc tg tt ∧ r = bI b ∧ (b = true ↔ pg_hom n gc tt g)) ∨ (v.1 = 1 ∧ ¬ (∀ k, k < gc → tg k ≠ none))) ∧ mRp n (tx, ty, g, gc, tg, Gs) v) (fun v t => va_P D vC (mWu z d n v) t.heap ∧ va_D (va_A (mW z d n cd ty ft gc fg fo fh fs ff fq mk fm fi de ps re go kd pr fa fr) sz) (mWu z d n v)) (va_A (mW z d n cd ty ft gc fg fo fh fs ff fq mk fm fi de ps re go kd pr fa fr) sz)) 0 0 (va_A (mW z d n cd ty ft gc fg fo fh fs ff fq mk fm fi de ps re go kd pr fa fr) sz) := by
  have hR0 := hR
  obtain ⟨h1n, hok, htg, ⟨Bs, hsl, hBs⟩, hg0⟩ := hR
  have hn := hok.2.2.1
  have hgc := hok.2.1
  have hlen := hok.1
  have hfac := pg_fac_le n hn
  refine Met.ofW (cc := prog_9_method_37_code) (maxL := 1) (ret := (some .boolean)) (by decide) rfl ?_
  intro p e s m args below meth c s₁ B hml hv
  have hx := B.exec
  have hb := B.bytes
  have hr := B.returns
  have ht : ∀ w ∈ TB, w.before args s = true := fun w h => atoms_spec (ws := wM_extend) B.pre w (List.mem_cons_of_mem _ h)
  have hown : s.vm.findClass "PermutationDeskModel" = some m.cls := findClass_of_methodNamed B.named
  have hlocks := B.notSynchronized
  obtain ⟨rfl, hsz, hP, hK, hD0⟩ := hv
  subst hsz
  have hD := hD0.self (sz := s.heap.size)
  generalize hAe : va_A (mW z d n cd ty ft gc fg fo fh fs ff fq mk fm fi de ps re go kd pr fa fr) s.heap.size = A at hD ⊢
  have hA : ∀ q : Nat, s.heap.size ≤ q → A q := fun q h => by rw [← hAe]; exact Or.inr h
  have hS : va_S A s.heap s.heap [] := va_S.rf
  have hl := lv_entry ([.ref (d 0)]) (n := 1) (Nat.le_of_ble_eq_true rfl)
  rw [lg_entry_eq]
  generalize (lg_sl ([.ref (d 0)]) ++ List.replicate (1 - (lg_sl ([.ref (d 0)])).length) Slot.unset).toArray = ls at hl ⊢
  have hl : lv_has ls 1 [(0, .ref (d 0))] := hl
  refine lv_aload_n hx hb dM_extend_0 rfl (lv_at hl 0 rfl) ?_
  refine lv_aload_n hx hb dM_extend_1 rfl (lv_at hl 0 rfl) ?_
  refine qV_i (ci := 5) (q0 := 0) (As := []) (rest := [.ref (d 0)]) ⟨hx, hb, hml, hown, ht⟩ (c_M_hasAll l D z d n hgc tg (fun i hi => (htg i hi).1)) (cB 0 ht gM_hasAll rfl tw_64 tw_860 (by decide +kernel) ⟨by decide, by decide⟩) tw_862 tw_54 hK (hP) rfl rfl rfl hl.1 rfl (Nat.le_of_ble_eq_true rfl) dM_extend_2 ⟨by decide, by decide⟩ (fun r2 h2 => ?_)
  obtain ⟨b, rfl, hb9⟩ := h2
  cases b with
  | false =>
    refine lv_if_eq (tgt := 12) hx hb dM_extend_5 rfl (fun h9 => ?_) (fun h9 => absurd rfl h9)
    refine lv_iconst (v := 1) hx hb dM_extend_12 (by decide) ?_
    refine va_put (ci := 5) (ty := .int) (C := RM) (T := TM) (N := 26) hx hb ht inM tyM tyM_ok nmM hown hK hP hD hS 0 rfl rfl 2 (by decide) (ht _ tw_651) (fun _ h9 => h9) rfl (by decide +kernel) rfl rfl (Nat.le_of_ble_eq_true rfl) dM_extend_13 (fun H locs hP hD hS => ?_)
    have hP : va_P D vC (mW z d n 1 ty ft gc fg fo fh fs ff fq mk fm fi de ps re go kd pr fa fr) H := hP
    have hD : va_D A (mW z d n 1 ty ft gc fg fo fh fs ff fq mk fm fi de ps re go kd pr fa fr) := hD
    refine lv_aload_n hx hb dM_extend_16 rfl (lv_at hl 0 rfl) ?_
    refine va_get (ci := 5) (C := RM) (T := TM) (N := 26) hx hb ht inM hown hK hP 0 rfl rfl 2 (by decide) (ht _ tw_651) (fun _ h9 => h9) rfl dM_extend_17 ?_
    refine lv_if_ne (tgt := 34) hx hb dM_extend_20 rfl (fun h9 => ?_) (fun h9 => absurd h9 (by decide))
    refine lv_iconst (v := 0) hx hb dM_extend_34 (by decide) ?_
    exact W.zret (v := 0) hx hb hr rfl (fun t9 ht hW => ⟨⟨_, (1, ty, ft, gc, fg, fo, fh, fs, ff, fq, mk, fm, fi, de, ps, re, go, kd, pr, fa, fr), rfl, ⟨Or.inr ⟨rfl, fun q => Bool.noConfusion (hb9.mpr q)⟩, rfl, rfl, hR0⟩, by rw [ht]; exact hP, hD⟩, hS.F ht⟩) hS.2.2 dM_extend_35
  | true =>
    obtain ⟨tt, htt⟩ := aTg_of (hb9.mp rfl)
    refine lv_if_eq (tgt := 12) hx hb dM_extend_5 rfl (fun h9 => absurd h9 (by decide)) (fun h9 => ?_)
    refine lv_iconst (v := 0) hx hb dM_extend_8 (by decide) ?_
    refine lv_goto (tgt := 13) hx hb dM_extend_9 rfl ?_
    refine va_put (ci := 5) (ty := .int) (C := RM) (T := TM) (N := 26) hx hb ht inM tyM tyM_ok nmM hown hK hP hD hS 0 rfl rfl 2 (by decide) (ht _ tw_651) (fun _ h9 => h9) rfl (by decide +kernel) rfl rfl (Nat.le_of_ble_eq_true rfl) dM_extend_13 (fun H locs hP hD hS => ?_)
    have hP : va_P D vC (mW z d n 0 ty ft gc fg fo fh fs ff fq mk fm fi de ps re go kd pr fa fr) H := hP
    have hD : va_D A (mW z d n 0 ty ft gc fg fo fh fs ff fq mk fm fi de ps re go kd pr fa fr) := hD
    refine lv_aload_n hx hb dM_extend_16 rfl (lv_at hl 0 rfl) ?_
    refine va_get (ci := 5) (C := RM) (T := TM) (N := 26) hx hb ht inM hown hK hP 0 rfl rfl 2 (by decide) (ht _ tw_651) (fun _ h9 => h9) rfl dM_extend_17 ?_
    refine lv_if_ne (tgt := 34) hx hb dM_extend_20 rfl (fun h9 => absurd rfl h9) (fun h9 => ?_)
    refine lv_aload_n hx hb dM_extend_23 rfl (lv_at hl 0 rfl) ?_
    refine qM_i (ci := 5) (q0 := 0) (As := []) (rest := []) ⟨hx, hb, hml, hown, ht⟩ (c_M_spread l D z d n _ hn hgc g tt hok.2.2.2.2 (hR0.tt htt)) (cB 0 ht gM_spread rfl tw_64 tw_864 (by decide +kernel) ⟨by decide, by decide⟩) tw_866 tw_55 hK hP hD hS hA rfl rfl rfl hl.1 rfl (Nat.le_of_ble_eq_true rfl) dM_extend_24 ⟨by decide, by decide⟩ (fun r24 u24 H locs h24 hP hD hS => ?_)
    replace hP : va_P D vC (mW z d n 0 ty ft gc fg fo fh fs ff u24.1 mk fm u24.2 de ps re go kd pr fa fr) H := hP
    replace hD : va_D A (mW z d n 0 ty ft gc fg fo fh fs ff u24.1 mk fm u24.2 de ps re go kd pr fa fr) := hD
    obtain ⟨b, rfl, hb1, -⟩ := h24
    cases b with
    | false =>
      refine lv_if_eq (tgt := 34) hx hb dM_extend_27 rfl (fun h9 => ?_) (fun h9 => absurd rfl h9)
      refine lv_iconst (v := 0) hx hb dM_extend_34 (by decide) ?_
      exact W.zret (v := 0) hx hb hr rfl (fun t9 ht hW => ⟨⟨_, (0, ty, ft, gc, fg, fo, fh, fs, ff, u24.1, mk, fm, u24.2, de, ps, re, go, kd, pr, fa, fr), rfl, ⟨Or.inl ⟨rfl, tt, false, htt, rfl, hb1⟩, rfl, rfl, hR0⟩, by rw [ht]; exact hP, hD⟩, hS.F ht⟩) hS.2.2 dM_extend_35
    | true =>
      refine lv_if_eq (tgt := 34) hx hb dM_extend_27 rfl (fun h9 => absurd h9 (by decide)) (fun h9 => ?_)
      refine lv_iconst (v := 1) hx hb dM_extend_30 (by decide) ?_
      refine lv_goto (tgt := 35) hx hb dM_extend_31 rfl ?_
      exact W.zret (v := 1) hx hb hr rfl (fun t9 ht hW => ⟨⟨_, (0, ty, ft, gc, fg, fo, fh, fs, ff, u24.1, mk, fm, u24.2, de, ps, re, go, kd, pr, fa, fr), rfl, ⟨Or.inl ⟨rfl, tt, true, htt, rfl, hb1⟩, rfl, rfl, hR0⟩, by rw [ht]; exact hP, hD⟩, hS.F ht⟩) hS.2.2 dM_extend_35
