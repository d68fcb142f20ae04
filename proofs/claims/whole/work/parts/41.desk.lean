/-! Desk: its world, its meaning; the text; the targets. -/
abbrev dSt : Type := Nat × (Nat → Int32) × Nat × (Nat → Int64) × (Nat → Int64) × (Nat → Nat → Nat) × (Nat → gSt)
abbrev dB (z : Nat → ClassId) (d : Nat → Nat) (n len : Nat) (ft : Nat → Int32) (gc : Nat) (fg fo : Nat → Int64) (fs : Nat → Option Nat) (wk pr : Nat) : va_W := [dO d n len gc wk pr, (d 1, .inl (z 2, 24, .inl ft)), (d 2, .inl (z 0, 6, .inr (.inl fg))), (d 3, .inl (z 0, 6, .inr (.inl fo))), (d 4, .inl (z 3, 5, .inr (.inr (.inr (.inr fs)))))]
abbrev dG (z : Nat → ClassId) (n : Nat) (gs : Nat → Nat → Nat) (us : Nat → gSt) : va_W := gWu z (gs 5) n (us 5) ++ (gWu z (gs 6) (n + n) (us 6) ++ (gWu z (gs 0) n (us 0) ++ (gWu z (gs 1) n (us 1) ++ (gWu z (gs 2) n (us 2) ++ (gWu z (gs 3) n (us 3) ++ gWu z (gs 4) n (us 4))))))
abbrev dWf (z : Nat → ClassId) (d : Nat → Nat) (n : Nat) (u : dSt) (fs : Nat → Option Nat) : va_W := dB z d n u.1 u.2.1 u.2.2.1 u.2.2.2.1 u.2.2.2.2.1 fs (u.2.2.2.2.2.1 5 0) (u.2.2.2.2.2.1 6 0) ++ dG z n u.2.2.2.2.2.1 u.2.2.2.2.2.2
def dF (gs : Nat → Nat → Nat) : Nat → Option Nat := fun i => if i < 5 then some (gs i 0) else none
abbrev dW (z : Nat → ClassId) (d : Nat → Nat) (n : Nat) (u : dSt) : va_W := dWf z d n u (dF u.2.2.2.2.2.1)
/-- what a desk means: text, its length, generators, their number, targets, groups -/
abbrev dA : Type := (Nat → Nat) × Nat × (Nat → pg_F) × Nat × (Nat → Option pg_F) × (Nat → pg_F → Prop)
def dTg (n gc : Nat) (fo : Nat → Int64) (tg : Nat → Option pg_F) : Prop := ∀ i, i < gc → fo i = oL n (tg i) ∧ ∀ x, tg i = some x → pg_P n x
def dRp (n : Nat) (a : dA) (u : dSt) : Prop := 1 ≤ n ∧ u.1 = a.2.1 ∧ u.2.2.1 = a.2.2.2.1 ∧ rOK a.1 a.2.1 n a.2.2.2.1 a.2.2.1 u.2.1 u.2.2.2.1 ∧ dTg n a.2.2.2.1 u.2.2.2.2.1 a.2.2.2.2.1 ∧ (∀ i, i < 5 → gGp n (u.2.2.2.2.2.2 i) (a.2.2.2.2.2 i)) ∧ a.2.2.2.2.2 0 = pg_Gen (pg_GS a.2.2.2.1 a.2.2.1)
def aWipe (a : dA) : dA := (a.1, 0, a.2.2)
def aTypes (c : Nat) (a : dA) : Bool := decide (32 ≤ c) && decide (c ≤ 126) && decide (a.2.1 < 24)
def aType (c : Nat) (a : dA) : dA := if aTypes c a = true then (va_up a.1 a.2.1 c, a.2.1 + 1, a.2.2) else a
theorem vp_nar_c {q : Nat} (hq : q < 65536) : vp_nar .char (nI q) = nI q := by
  unfold vp_nar
  rw [(pk_charN hq).1]
theorem rOK.put {tx : Nat → Nat} {len n gc c : Nat} {g : Nat → pg_F} {ft : Nat → Int32} {fg : Nat → Int64} (h : rOK tx len n gc g ft fg) (hl : len < 24) (hc : c < 128) : rOK (va_up tx len c) (len + 1) n gc g (upd ft len (nI c)) fg := by
  refine ⟨by omega, h.2.1, h.2.2.1, fun j hj => ?_, h.2.2.2.2⟩
  by_cases e : j = len
  · subst e
    rw [va_up_self]
    exact ⟨hc, by unfold upd; rw [if_pos rfl]⟩
  · rw [va_up_ne _ _ e]
    have := h.2.2.2.1 j (by omega)
    exact ⟨this.1, by unfold upd; rw [if_neg e]; exact this.2⟩
theorem rOK.cut {tx : Nat → Nat} {len n gc : Nat} {g : Nat → pg_F} {ft : Nat → Int32} {fg : Nat → Int64} (h : rOK tx len n gc g ft fg) (k : Nat) (hk : k ≤ len) : rOK tx k n gc g ft fg := ⟨by have := h.1; omega, h.2.1, h.2.2.1, fun j hj => h.2.2.2.1 j (by omega), h.2.2.2.2⟩
set_option maxHeartbeats 2000000 in
set_option maxRecDepth 100000 in
theorem c_D_wipe (l : Launch) (D : va_G) (z : Nat → ClassId) (d : Nat → Nat) (sz n : Nat) (a : dA) (u : dSt) (hR : dRp n a u) : Met l yD_wipe wD_wipe (rmF 0) (va_Pc [.ref (d 0)] (fun U => U.heap.size = sz ∧ va_P D vC (dW z d n u) U.heap ∧ va_K D vC (tyL z) U ∧ va_D (fun _ => True) (dW z d n u))) (va_Qv (fun v : dSt => dRp n (aWipe a) v) (fun v t => va_P D vC (dW z d n v) t.heap ∧ va_D (va_A (dW z d n u) sz) (dW z d n v)) (va_A (dW z d n u) sz)) 0 0 (va_A (dW z d n u) sz) := by
  obtain ⟨len, ft, gc, fg, fo, gs, us⟩ := u
  refine Met.ofW (cc := prog_1_method_3_code) (maxL := 1) (ret := none) (by decide) rfl ?_
  intro p e s m args below meth c s₁ B hml hv
  have hx := B.exec
  have hb := B.bytes
  have hr := B.returns
  have ht : ∀ w ∈ TB, w.before args s = true := fun w h => atoms_spec (ws := wD_wipe) B.pre w (List.mem_cons_of_mem _ h)
  have hown : s.vm.findClass "PermutationDesk" = some m.cls := findClass_of_methodNamed B.named
  have hlocks := B.notSynchronized
  obtain ⟨rfl, hsz, hP, hK, hD0⟩ := hv
  subst hsz
  have hD := hD0.self (sz := s.heap.size)
  generalize hAe : va_A (dW z d n (len, ft, gc, fg, fo, gs, us)) s.heap.size = A at hD ⊢
  have hA : ∀ q : Nat, s.heap.size ≤ q → A q := fun q h => by rw [← hAe]; exact Or.inr h
  have hS : va_S A s.heap s.heap [] := va_S.rf
  have hl := lv_entry ([.ref (d 0)]) (n := 1) (Nat.le_of_ble_eq_true rfl)
  rw [lg_entry_eq]
  generalize (lg_sl ([.ref (d 0)]) ++ List.replicate (1 - (lg_sl ([.ref (d 0)])).length) Slot.unset).toArray = ls at hl ⊢
  have hl : lv_has ls 1 [(0, .ref (d 0))] := hl
  refine lv_aload_n hx hb dD_wipe_0 rfl (lv_at hl 0 rfl) ?_
  refine lv_iconst (v := 0) hx hb dD_wipe_1 (by decide) ?_
  refine va_put (ci := 2) (ty := .int) (C := RD) (T := TD) (N := 9) hx hb ht inD tyD tyD_ok nmD hown hK hP hD hS 0 rfl rfl 2 (by decide) (ht _ tw_127) (fun _ h9 => h9) rfl (by decide +kernel) rfl rfl (Nat.le_of_ble_eq_true rfl) dD_wipe_2 (fun H locs hP hD hS => ?_)
  have hP : va_P D vC (dW z d n (0, ft, gc, fg, fo, gs, us)) H := hP
  have hD : va_D A (dW z d n (0, ft, gc, fg, fo, gs, us)) := hD
  exact W.vret hx hb hr (fun t ht hW => ⟨⟨(0, ft, gc, fg, fo, gs, us), rfl, ⟨hR.1, rfl, hR.2.2.1, hR.2.2.2.1.cut 0 (Nat.zero_le _), hR.2.2.2.2⟩, by rw [ht]; exact hP, hD⟩, hS.F ht⟩) hS.2.2 dD_wipe_5
set_option maxHeartbeats 2000000 in
set_option maxRecDepth 100000 in
theorem c_D_type (l : Launch) (D : va_G) (z : Nat → ClassId) (d : Nat → Nat) (sz n : Nat) (a : dA) (u : dSt) (hR : dRp n a u) (cv : Nat) (hcv : cv < 65536) : Met l yD_type wD_type (rmF 0) (va_Pc [.ref (d 0), .int (nI cv)] (fun U => U.heap.size = sz ∧ va_P D vC (dW z d n u) U.heap ∧ va_K D vC (tyL z) U ∧ va_D (fun _ => True) (dW z d n u))) (va_Qi (fun r (v : dSt) => r = bI (aTypes cv a) ∧ dRp n (aType cv a) v) (fun v t => va_P D vC (dW z d n v) t.heap ∧ va_D (va_A (dW z d n u) sz) (dW z d n v)) (va_A (dW z d n u) sz)) 0 0 (va_A (dW z d n u) sz) := by
  obtain ⟨len, ft, gc, fg, fo, gs, us⟩ := u
  obtain ⟨tx, len', g, gc', tg, Gs⟩ := a
  have hR0 := hR
  obtain ⟨h1n, e1, e2, hok, hrest⟩ := hR
  replace e1 : len = len' := e1
  replace e2 : gc = gc' := e2
  subst e1
  subst e2
  replace hok : rOK tx len n gc g ft fg := hok
  have hl24 := hok.1
  generalize hty : aTypes cv (tx, len, g, gc, tg, Gs) = T9
  replace hty : (decide (32 ≤ cv) && decide (cv ≤ 126) && decide (len < 24)) = T9 := hty
  refine Met.ofW (cc := prog_1_method_2_code) (maxL := 2) (ret := (some .boolean)) (by decide) rfl ?_
  intro p e s m args below meth c s₁ B hml hv
  have hx := B.exec
  have hb := B.bytes
  have hr := B.returns
  have ht : ∀ w ∈ TB, w.before args s = true := fun w h => atoms_spec (ws := wD_type) B.pre w (List.mem_cons_of_mem _ h)
  have hown : s.vm.findClass "PermutationDesk" = some m.cls := findClass_of_methodNamed B.named
  have hlocks := B.notSynchronized
  obtain ⟨rfl, hsz, hP, hK, hD0⟩ := hv
  subst hsz
  have hD := hD0.self (sz := s.heap.size)
  generalize hAe : va_A (dW z d n (len, ft, gc, fg, fo, gs, us)) s.heap.size = A at hD ⊢
  have hA : ∀ q : Nat, s.heap.size ≤ q → A q := fun q h => by rw [← hAe]; exact Or.inr h
  have hS : va_S A s.heap s.heap [] := va_S.rf
  have hl := lv_entry ([.ref (d 0), .int (nI cv)]) (n := 2) (Nat.le_of_ble_eq_true rfl)
  rw [lg_entry_eq]
  generalize (lg_sl ([.ref (d 0), .int (nI cv)]) ++ List.replicate (2 - (lg_sl ([.ref (d 0), .int (nI cv)])).length) Slot.unset).toArray = ls at hl ⊢
  have hl : lv_has ls 2 [(0, .ref (d 0)), (1, .int (nI cv))] := hl
  refine wj (σ := Unit) (pc := 21) (I := fun _ H1 locs1 ls1 => H1 = s.heap ∧ locs1 = [] ∧ T9 = false) ?_ (fun jn => ?_)
  · rintro - H1 locs1 ls1 ⟨rfl, rfl, hno⟩
    refine lv_iconst (v := 0) hx hb dD_type_21 (by decide) ?_
    exact W.zret (v := 0) hx hb hr rfl (fun t ht hW => ⟨⟨_, (len, ft, gc, fg, fo, gs, us), rfl, ⟨by rw [hno]; rfl, by unfold aType; rw [if_neg (by show ¬ (decide (32 ≤ cv) && decide (cv ≤ 126) && decide (len < 24)) = true; rw [hty, hno]; decide)]; exact hR0⟩, by rw [ht]; exact hP, hD⟩, hS.F ht⟩) hS.2.2 dD_type_22
  refine lv_iload_n hx hb dD_type_0 rfl (lv_at hl 1 rfl) ?_
  refine lv_bipush (v := 32) hx hb dD_type_1 (by decide) ?_
  refine lv_icmp_lt (tgt := 21) hx hb dD_type_3 rfl (fun h3 => ?_) (fun h3 => ?_)
  · have h4 : cv < 32 := (nI_ltI (a := cv) (b := 32) (by omega) (by omega)).mp h3
    exact jn () _ _ ls ⟨rfl, rfl, by rw [← hty, decide_eq_false (by omega)]; rfl⟩
  have h4 : 32 ≤ cv := by
    have : ¬ cv < 32 := fun q => h3 ((nI_ltI (a := cv) (b := 32) (by omega) (by omega)).mpr q)
    omega
  refine lv_iload_n hx hb dD_type_6 rfl (lv_at hl 1 rfl) ?_
  refine lv_bipush (v := 126) hx hb dD_type_7 (by decide) ?_
  refine lv_icmp_gt (tgt := 21) hx hb dD_type_9 rfl (fun h9 => ?_) (fun h9 => ?_)
  · have h10 : 126 < cv := (nI_ltI (a := 126) (b := cv) (by omega) (by omega)).mp h9
    exact jn () _ _ ls ⟨rfl, rfl, by rw [← hty, decide_eq_false (p := cv ≤ 126) (by omega), Bool.and_false]; rfl⟩
  have h10 : cv ≤ 126 := by
    have : ¬ 126 < cv := fun q => h9 ((nI_ltI (a := 126) (b := cv) (by omega) (by omega)).mpr q)
    omega
  refine lv_aload_n hx hb dD_type_12 rfl (lv_at hl 0 rfl) ?_
  refine va_get (ci := 2) (C := RD) (T := TD) (N := 9) hx hb ht inD hown hK hP 0 rfl rfl 2 (by decide) (ht _ tw_127) (fun _ h9 => h9) rfl dD_type_13 ?_
  refine lv_bipush (v := 24) hx hb dD_type_16 (by decide) ?_
  refine lv_icmp_lt (tgt := 23) hx hb dD_type_18 rfl (fun h18 => ?_) (fun h18 => ?_)
  · have h19 : len < 24 := (nI_ltI (a := len) (b := 24) (by omega) (by omega)).mp h18
    have hyes : T9 = true := by rw [← hty, decide_eq_true h4, decide_eq_true h10, decide_eq_true h19]; rfl
    refine lv_aload_n hx hb dD_type_23 rfl (lv_at hl 0 rfl) ?_
    refine va_get (ci := 2) (C := RD) (T := TD) (N := 9) hx hb ht inD hown hK hP 0 rfl rfl 1 (by decide) (ht _ tw_126) (fun _ h9 => h9) rfl dD_type_24 ?_
    refine lv_aload_n hx hb dD_type_27 rfl (lv_at hl 0 rfl) ?_
    refine va_get (ci := 2) (C := RD) (T := TD) (N := 9) hx hb ht inD hown hK hP 0 rfl rfl 2 (by decide) (ht _ tw_127) (fun _ h9 => h9) rfl dD_type_28 ?_
    refine lv_iload_n hx hb dD_type_31 rfl (lv_at hl 1 rfl) ?_
    refine va_cast hx hb hK hP hD hS 1 2 rfl rfl (vp_in_nI (N := 24) (by omega) (by decide)) dD_type_32 (fun H locs hP hD hS => ?_)
    rw [nI_clamp (by omega), vp_nar_c hcv] at hP hD
    replace hP : va_P D vC (dW z d n (len, upd ft len (nI cv), gc, fg, fo, gs, us)) H := hP
    replace hD : va_D A (dW z d n (len, upd ft len (nI cv), gc, fg, fo, gs, us)) := hD
    refine lv_aload_n hx hb dD_type_33 rfl (lv_at hl 0 rfl) ?_
    refine lv_dup hx hb dD_type_34 rfl ?_
    refine va_get (ci := 2) (C := RD) (T := TD) (N := 9) hx hb ht inD hown hK hP 0 rfl rfl 2 (by decide) (ht _ tw_127) (fun _ h9 => h9) rfl dD_type_35 ?_
    refine lv_iconst (v := 1) hx hb dD_type_38 (by decide) ?_
    refine lv_iadd hx hb dD_type_39 ?_
    refine wti (x' := nI (len + 1)) (nI_1 len) ?_
    refine va_put (ci := 2) (ty := .int) (C := RD) (T := TD) (N := 9) hx hb ht inD tyD tyD_ok nmD hown hK hP hD hS 0 rfl rfl 2 (by decide) (ht _ tw_127) (fun _ h9 => h9) rfl (by decide +kernel) rfl rfl (Nat.le_of_ble_eq_true rfl) dD_type_40 (fun H locs hP hD hS => ?_)
    have hP : va_P D vC (dW z d n (len + 1, upd ft len (nI cv), gc, fg, fo, gs, us)) H := hP
    have hD : va_D A (dW z d n (len + 1, upd ft len (nI cv), gc, fg, fo, gs, us)) := hD
    refine lv_iconst (v := 1) hx hb dD_type_43 (by decide) ?_
    exact W.zret (v := 1) hx hb hr rfl (fun t ht hW => ⟨⟨_, (len + 1, upd ft len (nI cv), gc, fg, fo, gs, us), rfl, ⟨by rw [hyes]; rfl, by unfold aType; rw [if_pos (by show (decide (32 ≤ cv) && decide (cv ≤ 126) && decide (len < 24)) = true; rw [hty, hyes])]; exact ⟨h1n, rfl, rfl, hok.put h19 (by omega), hrest⟩⟩, by rw [ht]; exact hP, hD⟩, hS.F ht⟩) hS.2.2 dD_type_44
  have h19 : ¬ len < 24 := fun q => h18 ((nI_ltI (a := len) (b := 24) (by omega) (by omega)).mpr q)
  exact jn () _ _ ls ⟨rfl, rfl, by rw [← hty, decide_eq_false h19, Bool.and_false]⟩
