/-! Worlds of the class's objects; calls of methods that only read, and of methods that write. -/
abbrev tyL (z : Nat → ClassId) : List (ClassId × FieldType) := [(z 0, .long), (z 1, .int), (z 2, .char), (z 3, .object "PermutationDesk$Group"), (z 4, .boolean)]
abbrev gcap (n : Nat) : Nat := n * (n - 1) / 2
/-- a Group: the object at g 0, its steps at g 1, makers at g 2, makers' levels at g 3 -/
abbrev gW (z : Nat → ClassId) (g : Nat → Nat) (n c : Nat) (fS fM : Nat → Int64) (fL : Nat → Int32) : va_W := [(g 0, .inr (0, [.int (nI n), .long (eL n pg_id), .ref (g 1), .ref (g 2), .ref (g 3), .int (nI c)])), (g 1, .inl (z 0, n * n, .inr (.inl fS))), (g 2, .inl (z 0, gcap n, .inr (.inl fM))), (g 3, .inl (z 1, gcap n, .inl fL))]
/-- an element or none, as a long -/
def oL (n : Nat) (o : Option pg_F) : Int64 := match o with
  | some x => eL n x
  | none => -1
def gS (n : Nat) (T : pg_T) (fS : Nat → Int64) : Prop := ∀ k i, k < n → i < n → fS (k * n + i) = oL n (T k i)
def gM (n c : Nat) (M : Nat → pg_F) (lv : Nat → Nat) (fM : Nat → Int64) (fL : Nat → Int32) : Prop := (∀ a, a < c → fM a = eL n (M a)) ∧ ∀ a, a < c → fL a = nI (lv a)
theorem oL_none {n : Nat} {T : pg_T} (hT : pg_ok n T) (hn : n ≤ 14) {k i : Nat} : oL n (T k i) = -1 ↔ T k i = none := by
  cases h : T k i with
  | none => exact ⟨fun _ => rfl, fun _ => rfl⟩
  | some x =>
    have := (hT.2 k i x h).2.2.2.1
    exact ⟨fun e => absurd e (eL_ne hn (this.d4 (by omega))), fun e => by cases e⟩
theorem ix_lt {n k i : Nat} (hk : k < n) (hi : i < n) : k * n + i < n * n := by
  have h : (k + 1) * n ≤ n * n := Nat.mul_le_mul_right n hk
  rw [Nat.add_mul, Nat.one_mul] at h
  omega
theorem ix_inj {n k i a b : Nat} (hi : i < n) (hb : b < n) (h : k * n + i = a * n + b) : k = a ∧ i = b := by
  have h1 : (k * n + i) / n = k := by
    rw [Nat.mul_comm, Nat.mul_add_div (by omega), Nat.div_eq_of_lt hi, Nat.add_zero]
  have h2 : (a * n + b) / n = a := by
    rw [Nat.mul_comm, Nat.mul_add_div (by omega), Nat.div_eq_of_lt hb, Nat.add_zero]
  have e : k = a := by rw [← h1, h, h2]
  subst e
  exact ⟨rfl, by omega⟩
theorem nn_lt {n : Nat} (hn : n ≤ 14) : n * n < 2 ^ 31 := by
  have := Nat.mul_le_mul hn hn
  omega
theorem gcap_le {n : Nat} (hn : n ≤ 14) : gcap n < 2 ^ 31 := by
  have h1 : n * (n - 1) ≤ 14 * 14 := Nat.mul_le_mul hn (by omega)
  show n * (n - 1) / 2 < 2 ^ 31
  omega
/-- a start that speaks of cells alone -/
theorem fb_world {D : va_G} {ty : List (ClassId × FieldType)} {cw : va_W} {av : List Value} : FrameBlind (va_Pc av (fun U => va_P D vC cw U.heap ∧ va_K D vC ty U)) := by
  intro a U g mk q
  obtain ⟨q0, qP, qK⟩ := q
  exact ⟨q0, qP, va_K.moved (u := U) (U := U.calling g mk a) (Vm.Alike.refl U.vm) qK⟩
theorem fb_worldD {D : va_G} {ty : List (ClassId × FieldType)} {cw : va_W} {av : List Value} {sz : Nat} : FrameBlind (va_Pc av (fun U => U.heap.size = sz ∧ va_P D vC cw U.heap ∧ va_K D vC ty U ∧ va_D (fun _ => True) cw)) := by
  intro a U g mk q
  obtain ⟨q0, q1, qP, qK, qD⟩ := q
  exact ⟨q0, q1, qP, va_K.moved (u := U) (U := U.calling g mk a) (Vm.Alike.refl U.vm) qK, qD⟩
section CALLS
variable {p : Program} {l : Launch} {e : Env} {R : Room} {s : State} {m : MethodId} {args : Array Value} {below : List Frame} {meth : Method} {c : Code} {H : Heap} {locs : List Loc} {cells slots : Nat} {Q : State → Prop}
variable {cc bytes : ByteArray} {nL maxL index n mc ms : Nat} {own C : String} {y : MethodName} {ret : Option FieldType} {rm : Room} {ws ws' : List Cond}
variable {pc : Nat} {ls : Array Slot} {rest st0 As : List Value} {b q0 ci : Nat} {fs : List Value} {D : va_G} {ty : List (ClassId × FieldType)} {cw : va_W} {r : vw_C}
/-- an instance method that only reads -/
theorem qV_i {post : Int32 → Prop} (S : CallFix p m c cc nL s args TB own) (hM : Met l y ws rm (va_Pc (.ref b :: As) (fun U => va_P D vC cw U.heap ∧ va_K D vC ty U)) (vp_Si post) 0 0 (fun _ => False)) (cB : CallB R s args own index y bytes maxL ret ws rm 0 0 n) (hin : Cond.instanceMethod y ∈ TB) (hsel : Cond.selects r.1 y y ∈ TB)
    (hK : va_K D vC ty s) (hP : va_P D vC cw H) (hc : vC[ci]? = some r) (he : cw[q0]? = some (b, .inr (ci, fs)))
    (hn : As.length = n) (hsize : ls.size = nL) (hstack : st0 = As.reverse ++ .ref b :: rest) (hW : (rest.map fun v => v.category).sum ≤ 8) (hdg : decode cc pc = .ok (.invokevirtual index, 3)) (hf : cells ≤ R.cells ∧ slots ≤ R.slots)
    (kk : ∀ x : Int32, post x → W p l e R s m args below meth c H locs cells slots Q (F0 m (pc + 3) ls (.int x :: rest))) : W p l e R s m args below meth c H locs cells slots Q (F0 m pc ls st0) :=
  vp_callSi (W.runV (C := r.1) (As := As) (rest := rest) S hM ⟨cB, S.2.2.2.2 _ hin, S.2.2.2.2 _ hsel⟩ ⟨fb_world, va_recv hK hP hc he, fun U hU hW => ⟨rfl, by rw [hU]; exact hP, va_K.moved hW.alike hK⟩⟩ rfl hn hsize hstack (lv_room hW) hdg hf) kk
theorem qV_l {post : Int64 → Prop} (S : CallFix p m c cc nL s args TB own) (hM : Met l y ws rm (va_Pc (.ref b :: As) (fun U => va_P D vC cw U.heap ∧ va_K D vC ty U)) (vp_Sl post) 0 0 (fun _ => False)) (cB : CallB R s args own index y bytes maxL ret ws rm 0 0 n) (hin : Cond.instanceMethod y ∈ TB) (hsel : Cond.selects r.1 y y ∈ TB)
    (hK : va_K D vC ty s) (hP : va_P D vC cw H) (hc : vC[ci]? = some r) (he : cw[q0]? = some (b, .inr (ci, fs)))
    (hn : As.length = n) (hsize : ls.size = nL) (hstack : st0 = As.reverse ++ .ref b :: rest) (hW : (rest.map fun v => v.category).sum ≤ 8) (hdg : decode cc pc = .ok (.invokevirtual index, 3)) (hf : cells ≤ R.cells ∧ slots ≤ R.slots)
    (kk : ∀ x : Int64, post x → W p l e R s m args below meth c H locs cells slots Q (F0 m (pc + 3) ls (.long x :: rest))) : W p l e R s m args below meth c H locs cells slots Q (F0 m pc ls st0) :=
  vp_callSl (W.runV (C := r.1) (As := As) (rest := rest) S hM ⟨cB, S.2.2.2.2 _ hin, S.2.2.2.2 _ hsel⟩ ⟨fb_world, va_recv hK hP hc he, fun U hU hW => ⟨rfl, by rw [hU]; exact hP, va_K.moved hW.alike hK⟩⟩ rfl hn hsize hstack (lv_room hW) hdg hf) kk
variable {A : Nat → Prop} {H0 : Heap} {w0 wr : va_W}
/-- a method that writes in its own cells: void -/
theorem qW_v {Sg : Type} {post : Sg → Prop} {w1 : Sg → va_W} (S : CallFix p m c cc nL s args TB own) (hM : Met l y ws rm (va_Pc (.ref b :: As) (fun U => U.heap.size = H.size ∧ va_P D vC cw U.heap ∧ va_K D vC ty U ∧ va_D (fun _ => True) cw)) (va_Qv post (fun u t => va_P D vC (w1 u) t.heap ∧ va_D (va_A cw H.size) (w1 u)) (va_A cw H.size)) mc ms (va_A cw H.size)) (cB : CallB R s args own index y bytes maxL ret ws rm mc ms n) (hin : Cond.instanceMethod y ∈ TB) (hsel : Cond.selects r.1 y y ∈ TB)
    (hK : va_K D vC ty s) (hP : va_P D vC w0 H) (hD : va_D A w0) (hS : va_S A H0 H locs) (hA : ∀ q, H0.size ≤ q → A q) (isC isR : List Nat) (hC : isC.map (fun i => w0[i]?) = cw.map some) (hR : isR.map (fun i => w0[i]?) = wr.map some) (hnC : va_nd isC = true) (hnR : va_nd isR = true) (hdis : ∀ i ∈ isR, i ∉ isC) (hsub : isC.filterMap (fun i => w0[i]?) = cw)
    (hc : vC[ci]? = some r) (he : cw[q0]? = some (b, .inr (ci, fs)))
    (hn : As.length = n) (hsize : ls.size = nL) (hstack : st0 = As.reverse ++ .ref b :: rest) (hW : (rest.map fun v => v.category).sum ≤ 8) (hdg : decode cc pc = .ok (.invokevirtual index, 3)) (hf : cells + mc ≤ R.cells ∧ slots + ms ≤ R.slots)
    (kk : ∀ (u : Sg) (H1 : Heap) (locs1 : List Loc), post u → va_P D vC (wr ++ w1 u) H1 → va_D A (wr ++ w1 u) → va_S A H0 H1 locs1 → W p l e R s m args below meth c H1 locs1 (cells + mc) (slots + ms) Q (F0 m (pc + 3) ls rest)) : W p l e R s m args below meth c H locs cells slots Q (F0 m pc ls st0) := by
  have hPc := hP.sub (ws' := cw) isC hsub
  have hDc := hD.sub (ws' := cw) isC hnC hC
  have hFc := va_free (wc := cw) hD hS hA isC hC
  refine va_callv (va_runV (C := r.1) (As := As) (rest := rest) S hM ⟨cB, S.2.2.2.2 _ hin, S.2.2.2.2 _ hsel⟩ ⟨fb_worldD, va_recv hK hPc hc he, fun U hU hW => ⟨rfl, by rw [hU], by rw [hU]; exact hPc, va_K.moved hW.alike hK, hDc.weaken (fun _ _ _ _ => trivial)⟩⟩ rfl hn hsize hstack (lv_room hW) hdg hf) hS (fun q _ h => hFc q h) hFc (fun u t H1 locs1 ht hvm hp hB hz1 hk1 hS => ?_)
  obtain ⟨hP1, hD1⟩ := hB
  rw [ht] at hP1
  obtain ⟨hP2, hD2⟩ := va_join (wr := wr) hP hD isC isR hC hR hnR hdis hk1 hFc hP1 hD1
  exact kk u H1 locs1 hp hP2 hD2 hS
/-- .. and answers an int -/
theorem qW_i {Sg : Type} {post : Int32 → Sg → Prop} {w1 : Sg → va_W} (S : CallFix p m c cc nL s args TB own) (hM : Met l y ws rm (va_Pc (.ref b :: As) (fun U => U.heap.size = H.size ∧ va_P D vC cw U.heap ∧ va_K D vC ty U ∧ va_D (fun _ => True) cw)) (va_Qi post (fun u t => va_P D vC (w1 u) t.heap ∧ va_D (va_A cw H.size) (w1 u)) (va_A cw H.size)) mc ms (va_A cw H.size)) (cB : CallB R s args own index y bytes maxL ret ws rm mc ms n) (hin : Cond.instanceMethod y ∈ TB) (hsel : Cond.selects r.1 y y ∈ TB)
    (hK : va_K D vC ty s) (hP : va_P D vC w0 H) (hD : va_D A w0) (hS : va_S A H0 H locs) (hA : ∀ q, H0.size ≤ q → A q) (isC isR : List Nat) (hC : isC.map (fun i => w0[i]?) = cw.map some) (hR : isR.map (fun i => w0[i]?) = wr.map some) (hnC : va_nd isC = true) (hnR : va_nd isR = true) (hdis : ∀ i ∈ isR, i ∉ isC) (hsub : isC.filterMap (fun i => w0[i]?) = cw)
    (hc : vC[ci]? = some r) (he : cw[q0]? = some (b, .inr (ci, fs)))
    (hn : As.length = n) (hsize : ls.size = nL) (hstack : st0 = As.reverse ++ .ref b :: rest) (hW : (rest.map fun v => v.category).sum ≤ 8) (hdg : decode cc pc = .ok (.invokevirtual index, 3)) (hf : cells + mc ≤ R.cells ∧ slots + ms ≤ R.slots)
    (kk : ∀ (x : Int32) (u : Sg) (H1 : Heap) (locs1 : List Loc), post x u → va_P D vC (wr ++ w1 u) H1 → va_D A (wr ++ w1 u) → va_S A H0 H1 locs1 → W p l e R s m args below meth c H1 locs1 (cells + mc) (slots + ms) Q (F0 m (pc + 3) ls (.int x :: rest))) : W p l e R s m args below meth c H locs cells slots Q (F0 m pc ls st0) := by
  have hPc := hP.sub (ws' := cw) isC hsub
  have hDc := hD.sub (ws' := cw) isC hnC hC
  have hFc := va_free (wc := cw) hD hS hA isC hC
  refine va_calli (va_runV (C := r.1) (As := As) (rest := rest) S hM ⟨cB, S.2.2.2.2 _ hin, S.2.2.2.2 _ hsel⟩ ⟨fb_worldD, va_recv hK hPc hc he, fun U hU hW => ⟨rfl, by rw [hU], by rw [hU]; exact hPc, va_K.moved hW.alike hK, hDc.weaken (fun _ _ _ _ => trivial)⟩⟩ rfl hn hsize hstack (lv_room hW) hdg hf) hS (fun q _ h => hFc q h) hFc (fun x u t H1 locs1 ht hvm hp hB hz1 hk1 hS => ?_)
  obtain ⟨hP1, hD1⟩ := hB
  rw [ht] at hP1
  obtain ⟨hP2, hD2⟩ := va_join (wr := wr) hP hD isC isR hC hR hnR hdis hk1 hFc hP1 hD1
  exact kk x u H1 locs1 hp hP2 hD2 hS
/-- .. a long -/
theorem qW_l {Sg : Type} {post : Int64 → Sg → Prop} {w1 : Sg → va_W} (S : CallFix p m c cc nL s args TB own) (hM : Met l y ws rm (va_Pc (.ref b :: As) (fun U => U.heap.size = H.size ∧ va_P D vC cw U.heap ∧ va_K D vC ty U ∧ va_D (fun _ => True) cw)) (va_Ql post (fun u t => va_P D vC (w1 u) t.heap ∧ va_D (va_A cw H.size) (w1 u)) (va_A cw H.size)) mc ms (va_A cw H.size)) (cB : CallB R s args own index y bytes maxL ret ws rm mc ms n) (hin : Cond.instanceMethod y ∈ TB) (hsel : Cond.selects r.1 y y ∈ TB)
    (hK : va_K D vC ty s) (hP : va_P D vC w0 H) (hD : va_D A w0) (hS : va_S A H0 H locs) (hA : ∀ q, H0.size ≤ q → A q) (isC isR : List Nat) (hC : isC.map (fun i => w0[i]?) = cw.map some) (hR : isR.map (fun i => w0[i]?) = wr.map some) (hnC : va_nd isC = true) (hnR : va_nd isR = true) (hdis : ∀ i ∈ isR, i ∉ isC) (hsub : isC.filterMap (fun i => w0[i]?) = cw)
    (hc : vC[ci]? = some r) (he : cw[q0]? = some (b, .inr (ci, fs)))
    (hn : As.length = n) (hsize : ls.size = nL) (hstack : st0 = As.reverse ++ .ref b :: rest) (hW : (rest.map fun v => v.category).sum ≤ 8) (hdg : decode cc pc = .ok (.invokevirtual index, 3)) (hf : cells + mc ≤ R.cells ∧ slots + ms ≤ R.slots)
    (kk : ∀ (x : Int64) (u : Sg) (H1 : Heap) (locs1 : List Loc), post x u → va_P D vC (wr ++ w1 u) H1 → va_D A (wr ++ w1 u) → va_S A H0 H1 locs1 → W p l e R s m args below meth c H1 locs1 (cells + mc) (slots + ms) Q (F0 m (pc + 3) ls (.long x :: rest))) : W p l e R s m args below meth c H locs cells slots Q (F0 m pc ls st0) := by
  have hPc := hP.sub (ws' := cw) isC hsub
  have hDc := hD.sub (ws' := cw) isC hnC hC
  have hFc := va_free (wc := cw) hD hS hA isC hC
  refine va_calll (va_runV (C := r.1) (As := As) (rest := rest) S hM ⟨cB, S.2.2.2.2 _ hin, S.2.2.2.2 _ hsel⟩ ⟨fb_worldD, va_recv hK hPc hc he, fun U hU hW => ⟨rfl, by rw [hU], by rw [hU]; exact hPc, va_K.moved hW.alike hK, hDc.weaken (fun _ _ _ _ => trivial)⟩⟩ rfl hn hsize hstack (lv_room hW) hdg hf) hS (fun q _ h => hFc q h) hFc (fun x u t H1 locs1 ht hvm hp hB hz1 hk1 hS => ?_)
  obtain ⟨hP1, hD1⟩ := hB
  rw [ht] at hP1
  obtain ⟨hP2, hD2⟩ := va_join (wr := wr) hP hD isC isR hC hR hnR hdis hk1 hFc hP1 hD1
  exact kk x u H1 locs1 hp hP2 hD2 hS
end CALLS
