/-! Desk: slots; work goes into a slot. -/
theorem wtv {p : Program} {l : Launch} {e : Env} {R : Room} {s : State} {m : MethodId} {args : Array Value} {below : List Frame} {meth : Method} {c : Code} {H : Heap} {locs : List Loc} {cells slots : Nat} {Q : State → Prop} {pc : Nat} {ls : Array Slot} {rest : List Value} {x x' : Value} (h : x = x') (k : W p l e R s m args below meth c H locs cells slots Q (F0 m pc ls (x' :: rest))) : W p l e R s m args below meth c H locs cells slots Q (F0 m pc ls (x :: rest)) := h ▸ k
/-- slot i at the place of slot 0, and back -/
def sw (i j : Nat) : Nat := if 5 ≤ j then j else if j = 0 then i else if j = i then 0 else j
def swp {α : Type} (i : Nat) (f : Nat → α) : Nat → α := fun j => f (sw i j)
/-- work into slot i, what was there is work -/
def dPut {α : Type} (f : Nat → α) (i : Nat) : Nat → α := fun j => if j = i then f 5 else if j = 5 then f i else f j
theorem dF_i {gs : Nat → Nat → Nat} {i : Nat} (h : i < 5) : dF gs (nI i).toNatClampNeg = some (gs i 0) := by
  rw [nI_clamp (by omega)]
  exact if_pos h
theorem dF_put {gs : Nat → Nat → Nat} {i : Nat} (h : i < 5) : va_up (dF gs) (nI i).toNatClampNeg (some (gs 5 0)) = dF (dPut gs i) := by
  rw [nI_clamp (by omega)]
  funext j
  unfold dF dPut
  by_cases e : j = i
  · subst e
    rw [va_up_self, if_pos h, if_pos rfl]
  · rw [va_up_ne _ _ e]
    by_cases h5 : j < 5
    · rw [if_pos h5, if_pos h5, if_neg e, if_neg (by omega)]
    · rw [if_neg h5, if_neg h5]
section SW
variable {D : va_G} {z : Nat → ClassId} {d : Nat → Nat} {n len gc : Nat} {ft : Nat → Int32} {fg fo : Nat → Int64} {gs : Nat → Nat → Nat} {us : Nat → gSt} {fs : Nat → Option Nat} {H : Heap} {A : Nat → Prop}
set_option maxRecDepth 100000
theorem sw_P {i : Nat} (hi : i < 5) (h : va_P D vC (dWf z d n (len, ft, gc, fg, fo, gs, us) fs) H) : va_P D vC (dWf z d n (len, ft, gc, fg, fo, swp i gs, swp i us) fs) H := by
  match i, hi with
  | 0, _ => exact h.sub [0, 1, 2, 3, 4, 5, 6, 7, 8, 9, 10, 11, 12, 13, 14, 15, 16, 17, 18, 19, 20, 21, 22, 23, 24, 25, 26, 27, 28, 29, 30, 31, 32] rfl
  | 1, _ => exact h.sub [0, 1, 2, 3, 4, 5, 6, 7, 8, 9, 10, 11, 12, 17, 18, 19, 20, 13, 14, 15, 16, 21, 22, 23, 24, 25, 26, 27, 28, 29, 30, 31, 32] rfl
  | 2, _ => exact h.sub [0, 1, 2, 3, 4, 5, 6, 7, 8, 9, 10, 11, 12, 21, 22, 23, 24, 17, 18, 19, 20, 13, 14, 15, 16, 25, 26, 27, 28, 29, 30, 31, 32] rfl
  | 3, _ => exact h.sub [0, 1, 2, 3, 4, 5, 6, 7, 8, 9, 10, 11, 12, 25, 26, 27, 28, 17, 18, 19, 20, 21, 22, 23, 24, 13, 14, 15, 16, 29, 30, 31, 32] rfl
  | 4, _ => exact h.sub [0, 1, 2, 3, 4, 5, 6, 7, 8, 9, 10, 11, 12, 29, 30, 31, 32, 17, 18, 19, 20, 21, 22, 23, 24, 25, 26, 27, 28, 13, 14, 15, 16] rfl
theorem sw_D {i : Nat} (hi : i < 5) (h : va_D A (dWf z d n (len, ft, gc, fg, fo, gs, us) fs)) : va_D A (dWf z d n (len, ft, gc, fg, fo, swp i gs, swp i us) fs) := by
  match i, hi with
  | 0, _ => exact h.sub [0, 1, 2, 3, 4, 5, 6, 7, 8, 9, 10, 11, 12, 13, 14, 15, 16, 17, 18, 19, 20, 21, 22, 23, 24, 25, 26, 27, 28, 29, 30, 31, 32] rfl rfl
  | 1, _ => exact h.sub [0, 1, 2, 3, 4, 5, 6, 7, 8, 9, 10, 11, 12, 17, 18, 19, 20, 13, 14, 15, 16, 21, 22, 23, 24, 25, 26, 27, 28, 29, 30, 31, 32] rfl rfl
  | 2, _ => exact h.sub [0, 1, 2, 3, 4, 5, 6, 7, 8, 9, 10, 11, 12, 21, 22, 23, 24, 17, 18, 19, 20, 13, 14, 15, 16, 25, 26, 27, 28, 29, 30, 31, 32] rfl rfl
  | 3, _ => exact h.sub [0, 1, 2, 3, 4, 5, 6, 7, 8, 9, 10, 11, 12, 25, 26, 27, 28, 17, 18, 19, 20, 21, 22, 23, 24, 13, 14, 15, 16, 29, 30, 31, 32] rfl rfl
  | 4, _ => exact h.sub [0, 1, 2, 3, 4, 5, 6, 7, 8, 9, 10, 11, 12, 29, 30, 31, 32, 17, 18, 19, 20, 21, 22, 23, 24, 25, 26, 27, 28, 13, 14, 15, 16] rfl rfl
theorem sw_2 {α : Type} {i : Nat} {f : Nat → α} (hi : i < 5) : swp i (swp i f) = f := by
  funext j
  show f (sw i (sw i j)) = f j
  congr 1
  unfold sw
  by_cases h5 : 5 ≤ j
  · rw [if_pos h5, if_pos h5]
  · rw [if_neg h5]
    by_cases h0 : j = 0
    · rw [if_pos h0, if_neg (by omega)]
      by_cases hi0 : i = 0
      · rw [if_pos hi0]; omega
      · rw [if_neg hi0, if_pos rfl]; omega
    · rw [if_neg h0]
      by_cases hji : j = i
      · rw [if_pos hji, if_neg (by omega), if_pos rfl]; omega
      · rw [if_neg hji, if_neg h5, if_neg h0, if_neg hji]
theorem put_P {i : Nat} (hi : i < 5) (h : va_P D vC (dB z d n len ft gc fg fo fs (gs i 0) (gs 6 0) ++ dG z n (swp i gs) (swp i us)) H) : va_P D vC (dWf z d n (len, ft, gc, fg, fo, dPut gs i, dPut us i) fs) H := by
  match i, hi with
  | 0, _ => exact h.sub [0, 1, 2, 3, 4, 13, 14, 15, 16, 9, 10, 11, 12, 5, 6, 7, 8, 17, 18, 19, 20, 21, 22, 23, 24, 25, 26, 27, 28, 29, 30, 31, 32] rfl
  | 1, _ => exact h.sub [0, 1, 2, 3, 4, 13, 14, 15, 16, 9, 10, 11, 12, 17, 18, 19, 20, 5, 6, 7, 8, 21, 22, 23, 24, 25, 26, 27, 28, 29, 30, 31, 32] rfl
  | 2, _ => exact h.sub [0, 1, 2, 3, 4, 13, 14, 15, 16, 9, 10, 11, 12, 21, 22, 23, 24, 17, 18, 19, 20, 5, 6, 7, 8, 25, 26, 27, 28, 29, 30, 31, 32] rfl
  | 3, _ => exact h.sub [0, 1, 2, 3, 4, 13, 14, 15, 16, 9, 10, 11, 12, 25, 26, 27, 28, 17, 18, 19, 20, 21, 22, 23, 24, 5, 6, 7, 8, 29, 30, 31, 32] rfl
  | 4, _ => exact h.sub [0, 1, 2, 3, 4, 13, 14, 15, 16, 9, 10, 11, 12, 29, 30, 31, 32, 17, 18, 19, 20, 21, 22, 23, 24, 25, 26, 27, 28, 5, 6, 7, 8] rfl
theorem put_D {i : Nat} (hi : i < 5) (h : va_D A (dB z d n len ft gc fg fo fs (gs i 0) (gs 6 0) ++ dG z n (swp i gs) (swp i us))) : va_D A (dWf z d n (len, ft, gc, fg, fo, dPut gs i, dPut us i) fs) := by
  match i, hi with
  | 0, _ => exact h.sub [0, 1, 2, 3, 4, 13, 14, 15, 16, 9, 10, 11, 12, 5, 6, 7, 8, 17, 18, 19, 20, 21, 22, 23, 24, 25, 26, 27, 28, 29, 30, 31, 32] rfl rfl
  | 1, _ => exact h.sub [0, 1, 2, 3, 4, 13, 14, 15, 16, 9, 10, 11, 12, 17, 18, 19, 20, 5, 6, 7, 8, 21, 22, 23, 24, 25, 26, 27, 28, 29, 30, 31, 32] rfl rfl
  | 2, _ => exact h.sub [0, 1, 2, 3, 4, 13, 14, 15, 16, 9, 10, 11, 12, 21, 22, 23, 24, 17, 18, 19, 20, 5, 6, 7, 8, 25, 26, 27, 28, 29, 30, 31, 32] rfl rfl
  | 3, _ => exact h.sub [0, 1, 2, 3, 4, 13, 14, 15, 16, 9, 10, 11, 12, 25, 26, 27, 28, 17, 18, 19, 20, 21, 22, 23, 24, 5, 6, 7, 8, 29, 30, 31, 32] rfl rfl
  | 4, _ => exact h.sub [0, 1, 2, 3, 4, 13, 14, 15, 16, 9, 10, 11, 12, 29, 30, 31, 32, 17, 18, 19, 20, 21, 22, 23, 24, 25, 26, 27, 28, 5, 6, 7, 8] rfl rfl
end SW
theorem gGp.row {n : Nat} {u : gSt} {G : pg_F → Prop} (h : gGp n u G) : pg_row n G (pg_L n u.1 n 0 pg_id) ∧ (pg_L n u.1 n 0 pg_id).length = pg_len n u.1 n 0 := by
  have := pg_L_row h.1.1
  rw [h.2.2] at this
  exact ⟨this, pg_L_len h.1.1 n 0 pg_id (pg_P_id n)⟩
/-- how many elements a group has -/
def gOrd (n : Nat) (G : pg_F → Prop) (r : Int32) : Prop := ∃ L, pg_row n G L ∧ r = nI L.length
set_option maxHeartbeats 2000000 in
set_option maxRecDepth 100000 in
theorem c_D_storeWork (l : Launch) (D : va_G) (z : Nat → ClassId) (d : Nat → Nat) (sz n : Nat) (u : dSt) (hn7 : n ≤ 7) (i : Nat) (hi : i < 5) (G : pg_F → Prop) (hG : gGp n (u.2.2.2.2.2.2 5) G) : Met l yD_storeWork wD_storeWork (rmF 4) (va_Pc [.ref (d 0), .int (nI i)] (fun U => U.heap.size = sz ∧ va_P D vC (dW z d n u) U.heap ∧ va_K D vC (tyL z) U ∧ va_D (fun _ => True) (dW z d n u))) (va_Qi (fun r (v : dSt) => gOrd n G r ∧ v = (u.1, u.2.1, u.2.2.1, u.2.2.2.1, u.2.2.2.2.1, dPut u.2.2.2.2.2.1 i, dPut u.2.2.2.2.2.2 i)) (fun v t => va_P D vC (dW z d n v) t.heap ∧ va_D (va_A (dW z d n u) sz) (dW z d n v)) (va_A (dW z d n u) sz)) 0 0 (va_A (dW z d n u) sz) := by
  obtain ⟨len, ft, gc, fg, fo, gs, us⟩ := u
  replace hG : gGp n (us 5) G := hG
  refine Met.ofW (cc := prog_1_method_25_code) (maxL := 3) (ret := (some .int)) (by decide) rfl ?_
  intro p e s m args below meth c s₁ B hml hv
  have hx := B.exec
  have hb := B.bytes
  have hr := B.returns
  have ht : ∀ w ∈ TB, w.before args s = true := fun w h => atoms_spec (ws := wD_storeWork) B.pre w (List.mem_cons_of_mem _ h)
  have hown : s.vm.findClass "PermutationDesk" = some m.cls := findClass_of_methodNamed B.named
  have hlocks := B.notSynchronized
  obtain ⟨rfl, hsz, hP, hK, hD0⟩ := hv
  subst hsz
  have hD := hD0.self (sz := s.heap.size)
  generalize hAe : va_A (dW z d n (len, ft, gc, fg, fo, gs, us)) s.heap.size = A at hD ⊢
  have hA : ∀ q : Nat, s.heap.size ≤ q → A q := fun q h => by rw [← hAe]; exact Or.inr h
  have hS : va_S A s.heap s.heap [] := va_S.rf
  have hl := lv_entry ([.ref (d 0), .int (nI i)]) (n := 3) (Nat.le_of_ble_eq_true rfl)
  rw [lg_entry_eq]
  generalize (lg_sl ([.ref (d 0), .int (nI i)]) ++ List.replicate (3 - (lg_sl ([.ref (d 0), .int (nI i)])).length) Slot.unset).toArray = ls at hl ⊢
  have hl : lv_has ls 3 [(0, .ref (d 0)), (1, .int (nI i))] := hl
  replace hP := sw_P hi hP
  replace hD := sw_D hi hD
  refine lv_aload_n hx hb dD_storeWork_0 rfl (lv_at hl 0 rfl) ?_
  refine va_get (ci := 2) (C := RD) (T := TD) (N := 9) hx hb ht inD hown hK hP 0 rfl rfl 6 (by decide) (ht _ tw_131) (fun _ h9 => h9) rfl dD_storeWork_1 ?_
  refine lv_iload_n hx hb dD_storeWork_4 rfl (lv_at hl 1 rfl) ?_
  refine va_aldq hx hb hK hP 4 3 rfl rfl (vp_in_nI (N := 5) hi (by decide)) dD_storeWork_5 ?_
  refine wtv (x' := .ref (gs i 0)) (by rw [dF_i hi]; rfl) ?_
  refine lv_astore_n hx hb dD_storeWork_6 rfl hl (by decide) rfl (fun ls hl => ?_)
  replace hl : lv_has ls 3 [(2, .ref (gs i 0)), (0, .ref (d 0)), (1, .int (nI i))] := hl
  refine lv_aload_n hx hb dD_storeWork_7 rfl (lv_at hl 1 rfl) ?_
  refine va_get (ci := 2) (C := RD) (T := TD) (N := 9) hx hb ht inD hown hK hP 0 rfl rfl 6 (by decide) (ht _ tw_131) (fun _ h9 => h9) rfl dD_storeWork_8 ?_
  refine lv_iload_n hx hb dD_storeWork_11 rfl (lv_at hl 2 rfl) ?_
  refine lv_aload_n hx hb dD_storeWork_12 rfl (lv_at hl 1 rfl) ?_
  refine va_get (ci := 2) (C := RD) (T := TD) (N := 9) hx hb ht inD hown hK hP 0 rfl rfl 7 (by decide) (ht _ tw_132) (fun _ h9 => h9) rfl dD_storeWork_13 ?_
  refine va_astq hx hb hK hP hD hS 4 3 5 0 rfl rfl rfl rfl (vp_in_nI (N := 5) hi (by decide)) dD_storeWork_16 (fun H locs hP hD hS => ?_)
  rw [show va_up (dF gs) (nI i).toNatClampNeg (some (swp i gs 5 0)) = dF (dPut gs i) from dF_put hi] at hP hD
  refine lv_aload_n hx hb dD_storeWork_17 rfl (lv_at hl 1 rfl) ?_
  refine lv_aload_n hx hb dD_storeWork_18 rfl (lv_at hl 0 rfl) ?_
  refine va_put (ci := 2) (ty := .object "PermutationDesk$Group") (C := RD) (T := TD) (N := 9) hx hb ht inD tyD tyD_ok nmD hown hK hP hD hS 0 rfl rfl 7 (by decide) (ht _ tw_132) (fun _ h9 => h9) rfl (by decide +kernel) rfl rfl (Nat.le_of_ble_eq_true rfl) dD_storeWork_19 (fun H locs hP hD hS => ?_)
  replace hP : va_P D vC (dB z d n len ft gc fg fo (dF (dPut gs i)) (gs i 0) (gs 6 0) ++ dG z n (swp i gs) (swp i us)) H := hP
  replace hD : va_D A (dB z d n len ft gc fg fo (dF (dPut gs i)) (gs i 0) (gs 6 0) ++ dG z n (swp i gs) (swp i us)) := hD
  refine lv_aload_n hx hb dD_storeWork_22 rfl (lv_at hl 1 rfl) ?_
  refine va_get (ci := 2) (C := RD) (T := TD) (N := 9) hx hb ht inD hown hK hP 0 rfl rfl 6 (by decide) (ht _ tw_131) (fun _ h9 => h9) rfl dD_storeWork_23 ?_
  refine lv_iload_n hx hb dD_storeWork_26 rfl (lv_at hl 2 rfl) ?_
  refine va_aldq hx hb hK hP 4 3 rfl rfl (vp_in_nI (N := 5) hi (by decide)) dD_storeWork_27 ?_
  refine wtv (x' := .ref (gs 5 0)) (by rw [dF_i hi]; show Value.ref (dPut gs i i 0) = _; unfold dPut; rw [if_pos rfl]) ?_
  refine qV_i (ci := 0) (q0 := 0) (As := []) (rest := []) ⟨hx, hb, hml, hown, ht⟩ (c_G_size l D z (gs 5) n (us 5).2.1 (us 5).2.2.2.2.1 (us 5).2.2.2.2.2.1 (us 5).2.2.2.2.2.2 (us 5).1 (by omega) hG.1.1 hG.1.2.2.1) (cB 0 ht gG_size rfl tw_61 tw_443 (by decide +kernel) ⟨by decide, by decide⟩) tw_444 tw_445 hK (hP.sub (ws' := gWu z (gs 5) n (us 5)) [5, 6, 7, 8] rfl) rfl rfl rfl hl.1 rfl (Nat.le_of_ble_eq_true rfl) dD_storeWork_28 ⟨by decide, by decide⟩ (fun r28 h28 => ?_)
  subst h28
  replace hP := put_P hi hP
  replace hD := put_D hi hD
  exact W.iret hx hb hr (fun t ht hW => ⟨⟨_, (len, ft, gc, fg, fo, dPut gs i, dPut us i), rfl, ⟨⟨_, hG.row.1, by rw [hG.row.2]⟩, rfl⟩, by rw [ht]; exact hP, hD⟩, hS.F ht⟩) hS.2.2 dD_storeWork_31
theorem pg_Gen_0 {g : Nat → pg_F} : pg_Gen (pg_GS 0 g) = fun x => x = pg_id := by
  funext x
  exact propext ⟨fun hx => hx (fun x => x = pg_id) rfl (fun a s _ hs => by obtain ⟨i, hi, -⟩ := hs; omega), fun hx => by rw [hx]; exact pg_Gen.one⟩
/-- forget: no generators, slot 0 is trivial -/
def aForget (a : dA) : dA := (a.1, a.2.1, a.2.2.1, 0, a.2.2.2.2.1, va_up a.2.2.2.2.2 0 (fun x => x = pg_id))
set_option maxHeartbeats 2000000 in
set_option maxRecDepth 100000 in
theorem c_D_forget (l : Launch) (D : va_G) (z : Nat → ClassId) (d : Nat → Nat) (sz n : Nat) (u : dSt) (a : dA) (hR : dRp n a u) : Met l yD_forget wD_forget (rmF 2) (va_Pc [.ref (d 0)] (fun U => U.heap.size = sz ∧ va_P D vC (dW z d n u) U.heap ∧ va_K D vC (tyL z) U ∧ va_D (fun _ => True) (dW z d n u))) (va_Qv (fun v : dSt => dRp n (aForget a) v) (fun v t => va_P D vC (dW z d n v) t.heap ∧ va_D (va_A (dW z d n u) sz) (dW z d n v)) (va_A (dW z d n u) sz)) 0 0 (va_A (dW z d n u) sz) := by
  obtain ⟨len, ft, gc, fg, fo, gs, us⟩ := u
  have hn7 := hR.2.2.2.1.2.2.1
  refine Met.ofW (cc := prog_1_method_6_code) (maxL := 1) (ret := none) (by decide) rfl ?_
  intro p e s m args below meth c s₁ B hml hv
  have hx := B.exec
  have hb := B.bytes
  have hr := B.returns
  have ht : ∀ w ∈ TB, w.before args s = true := fun w h => atoms_spec (ws := wD_forget) B.pre w (List.mem_cons_of_mem _ h)
  have hown : s.vm.findClass "PermutationDesk" = some m.cls := findClass_of_methodNamed B.named
  have hlocks := B.notSynchronized
  obtain ⟨rfl, hsz, hP, hK, hD0⟩ := hv
  subst hsz
  have hD := hD0.self (sz := s.heap.size)
  generalize hAe : va_A (dW z d n (len, ft, gc, fg, fo, gs, us)) s.heap.size = A at hD ⊢
  have hA : ∀ q : Nat, s.heap.size ≤ q → A q := fun q h => by rw [← hAe]; exact Or.inr h
  have hS : va_S A s.heap s.heap [] := va_S.rf
  have hl := lv_entry ([.ref (d 0)]) (n := 1) (Nat.le_of_ble_eq_true rfl)
  rw [lg_entry_eq]
  generalize (lg_sl ([.ref (d 0)]) ++ List.replicate (1 - (lg_sl ([.ref (d 0)])).length) Slot.unset).toArray = ls at hl ⊢
  have hl : lv_has ls 1 [(0, .ref (d 0))] := hl
  refine lv_aload_n hx hb dD_forget_0 rfl (lv_at hl 0 rfl) ?_
  refine lv_iconst (v := 0) hx hb dD_forget_1 (by decide) ?_
  refine va_put (ci := 2) (ty := .int) (C := RD) (T := TD) (N := 9) hx hb ht inD tyD tyD_ok nmD hown hK hP hD hS 0 rfl rfl 5 (by decide) (ht _ tw_130) (fun _ h9 => h9) rfl (by decide +kernel) rfl rfl (Nat.le_of_ble_eq_true rfl) dD_forget_2 (fun H locs hP hD hS => ?_)
  have hP : va_P D vC (dW z d n (len, ft, 0, fg, fo, gs, us)) H := hP
  have hD : va_D A (dW z d n (len, ft, 0, fg, fo, gs, us)) := hD
  refine lv_aload_n hx hb dD_forget_5 rfl (lv_at hl 0 rfl) ?_
  refine va_get (ci := 2) (C := RD) (T := TD) (N := 9) hx hb ht inD hown hK hP 0 rfl rfl 6 (by decide) (ht _ tw_131) (fun _ h9 => h9) rfl dD_forget_6 ?_
  refine lv_iconst (v := 0) hx hb dD_forget_9 (by decide) ?_
  refine va_aldq hx hb hK hP 4 3 rfl rfl (vp_in_nI (N := 5) (by decide) (by decide)) dD_forget_10 ?_
  refine wtv (x' := .ref (gs 0 0)) rfl ?_
  refine qW_v (ci := 0) (q0 := 0) (wr := (dB z d n len ft 0 fg fo (dF gs) (gs 5 0) (gs 6 0) ++ (gWu z (gs 5) n (us 5) ++ (gWu z (gs 6) (n + n) (us 6) ++ (gWu z (gs 1) n (us 1) ++ (gWu z (gs 2) n (us 2) ++ (gWu z (gs 3) n (us 3) ++ gWu z (gs 4) n (us 4)))))))) (As := []) (rest := []) ⟨hx, hb, hml, hown, ht⟩ (c_G_clear l D z (gs 0) H.size n (us 0).2.1 (us 0).2.2.2.2.1 (us 0).2.2.2.2.2.1 (us 0).2.2.2.2.2.2 (by omega)) (cB 0 ht gG_clear rfl tw_61 tw_165 (by decide +kernel) ⟨by decide, by decide⟩) tw_96 tw_97 hK hP hD hS hA [13, 14, 15, 16] [0, 1, 2, 3, 4, 5, 6, 7, 8, 9, 10, 11, 12, 17, 18, 19, 20, 21, 22, 23, 24, 25, 26, 27, 28, 29, 30, 31, 32] rfl rfl rfl rfl (by decide) rfl rfl rfl rfl hl.1 rfl (Nat.le_of_ble_eq_true rfl) dD_forget_11 ⟨by decide, by decide⟩ (fun u11 H locs h11 hP hD hS => ?_)
  replace hP := hP.sub (ws' := dW z d n (len, ft, 0, fg, fo, gs, va_up us 0 u11)) [0, 1, 2, 3, 4, 5, 6, 7, 8, 9, 10, 11, 12, 29, 30, 31, 32, 13, 14, 15, 16, 17, 18, 19, 20, 21, 22, 23, 24, 25, 26, 27, 28] rfl
  replace hD := hD.sub (ws' := dW z d n (len, ft, 0, fg, fo, gs, va_up us 0 u11)) [0, 1, 2, 3, 4, 5, 6, 7, 8, 9, 10, 11, 12, 29, 30, 31, 32, 13, 14, 15, 16, 17, 18, 19, 20, 21, 22, 23, 24, 25, 26, 27, 28] rfl rfl
  refine W.vret hx hb hr (fun t ht hW => ⟨⟨(len, ft, 0, fg, fo, gs, va_up us 0 u11), rfl, ⟨hR.1, hR.2.1, rfl, ⟨hR.2.2.2.1.1, Nat.zero_le _, hn7, hR.2.2.2.1.2.2.2.1, fun i h => absurd h (Nat.not_lt_zero _)⟩, fun i h => absurd h (Nat.not_lt_zero _), fun i h => ?_, ?_⟩, by rw [ht]; exact hP, hD⟩, hS.F ht⟩) hS.2.2 dD_forget_14
  · show gGp n (va_up us 0 u11 i) (va_up a.2.2.2.2.2 0 (fun x => x = pg_id) i)
    by_cases e : i = 0
    · subst e
      rw [va_up_self, va_up_self]
      exact h11.1
    · rw [va_up_ne _ _ e, va_up_ne _ _ e]
      exact hR.2.2.2.2.2.1 i h
  · show va_up a.2.2.2.2.2 0 (fun x => x = pg_id) 0 = _
    rw [va_up_self]
    exact pg_Gen_0.symm
