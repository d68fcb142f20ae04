/-! The law: what holds at its start; its loop; its end. -/
theorem x_arr {ty : FieldType} {args : Array Value} {s : State} (h : (Cond.arrayClass ty).before args s = true) : ∃ cA : ClassId, ArrOfT s cA ty ∧ s.vm.findClass ("[" ++ ty.toString) = some cA := by
  obtain ⟨c, k, comp, h1, h2, h3⟩ := Cond.arrayClass_spec h
  exact ⟨c, fun n z => ⟨fun k h => (by cases h), k, h2, comp, h3⟩, h1⟩
theorem x_arrO {C : String} {s : State} (h : va_AO C s) : ∃ cA : ClassId, ArrOfT s cA (.object C) ∧ va_RA s cA (.object C) := by
  obtain ⟨comp, c, k, h1, h2, h3, h4, h5⟩ := Cond.arrayOver_spec h
  exact ⟨c, fun n z => ⟨fun k h => (by cases h), k, h3, comp, h4⟩, k, comp, h3, h4, h1, h5⟩
theorem law_K {args : Array Value} {s : State} (ht : ∀ w ∈ TB, w.before args s = true) (hAO : va_AO "PermutationDesk$Group" s) : ∃ (D : va_G) (z : Nat → ClassId), va_K D vC (tyL z) s := by
  obtain ⟨cG, iG, kG⟩ := u_known (n := 6) ht inG (ht _ tw_87)
  obtain ⟨cR, iR, kR⟩ := u_known (n := 7) ht inR (ht _ tw_183)
  obtain ⟨cD, iD, kD⟩ := u_known (n := 9) ht inD (ht _ tw_75)
  obtain ⟨cK, iK, kK⟩ := u_known (n := 2) ht inK (ht _ tw_500)
  obtain ⟨cC, iC, kC⟩ := u_known (n := 1) ht inC (ht _ tw_554)
  obtain ⟨cM, iM, kM⟩ := u_known (n := 26) ht inM (ht _ tw_640)
  obtain ⟨zL, aL, fL⟩ := x_arr (ht _ tw_123)
  obtain ⟨zI, aI, fI⟩ := x_arr (ht _ tw_124)
  obtain ⟨zH, aH, fH⟩ := x_arr (ht _ tw_122)
  obtain ⟨zZ, aZ, fZ⟩ := x_arr (ht _ tw_728)
  obtain ⟨zO, aO, fO⟩ := x_arrO hAO
  refine ⟨(fun c => match c with | 0 => cG | 1 => cR | 2 => cD | 3 => cK | 4 => cC | _ => cM, fun c => match c with | 0 => iG | 1 => iR | 2 => iD | 3 => iK | 4 => iC | _ => iM), fun k => match k with | 0 => zL | 1 => zI | 2 => zH | 3 => zO | _ => zZ, fun c q hq => ?_, fun k q hk => ?_⟩
  · match c, hq with
    | 0, hq => cases hq; exact kG
    | 1, hq => cases hq; exact kR
    | 2, hq => cases hq; exact kD
    | 3, hq => cases hq; exact kK
    | 4, hq => cases hq; exact kC
    | 5, hq => cases hq; exact kM
    | (n + 6), hq => cases hq
  · match k, hk with
    | 0, hk => cases hk; exact ⟨aL, fL⟩
    | 1, hk => cases hk; exact ⟨aI, fI⟩
    | 2, hk => cases hk; exact ⟨aH, fH⟩
    | 3, hk => cases hk; exact ⟨aO, fO⟩
    | 4, hk => cases hk; exact ⟨aZ, fZ⟩
    | (n + 5), hk => cases hk
theorem law_R {args : Array Value} {s : State} (hts : ∀ w ∈ lw_tbl, w.before args s = true) {cD : ClassId} (hD : s.vm.findClass "PermutationDesk" = some cD) : ∀ q ∈ xi, ∃ sa, vk_R "PermutationDesk" q.1 q.2 sa s := by
  have key : ∀ (k : Nat) (t : String), Cond.stringRef "PermutationDesk" k t ∈ lw_tbl → ∃ sa, vk_R "PermutationDesk" k t sa s := by
    intro k t h
    obtain ⟨-, -, -, sa, -, -, -, -, -, hev⟩ := Cond.stringRef_spec hD (hts _ h)
    exact ⟨sa, vk_R.of (hts _ h) hev⟩
  intro q hq
  have hin : ∀ q ∈ xi, Cond.stringRef "PermutationDesk" q.1 q.2 ∈ lw_tbl := by decide +kernel
  exact key q.1 q.2 (hin q hq)
theorem law_V {args : Array Value} {s : State} (hts : ∀ w ∈ lw_tbl, w.before args s = true) (hgv : (Jvm.Cond.and given_1 narrow_1).before args s = true) : xV s := by
  have hs := flat_of_before _ hgv
  have ht : ∀ w ∈ TB, w.before args s = true := fun w h => hts w (TB_in h)
  obtain ⟨cD, iD, kD⟩ := u_known (n := 9) ht inD (ht _ tw_75)
  refine ⟨?_, ?_, law_R hts kD.2.1, ?_, ?_, ?_, ?_, ?_⟩
  · intro Y hY
    have hin : ∀ Y ∈ xD, Cond.declares (Bundle.initS Y) ∈ lw_tbl := by decide +kernel
    exact va_Nw.of rfl (hts _ (hin Y hY))
  · intro X hX
    have hin : ∀ X ∈ [eIA, eIS, eIO], Cond.castable X X ∈ lw_tbl := by decide +kernel
    exact va_Nw.of rfl (hts _ (hin X hX))
  · exact va_Fw.of (hts _ (by decide +kernel)) (hts _ (by decide +kernel)) (hts _ (by decide +kernel)) (hts _ (by decide +kernel)) (hts _ (by decide +kernel))
  · exact va_Fw.of (hts _ (by decide +kernel)) (hts _ (by decide +kernel)) (hts _ (by decide +kernel)) (hts _ (by decide +kernel)) (hts _ (by decide +kernel))
  · exact va_Nw.of rfl (hts _ (by decide +kernel))
  · exact va_AO.of (hts _ (by decide +kernel))
  · have h0 : va_Nc eIA eIS s := va_Nc.of (hs _ (by decide +kernel))
    have h1 : va_Nc eIA eIO s := va_Nc.of (hs _ (by decide +kernel))
    have h2 : va_Nc eIS eIA s := va_Nc.of (hs _ (by decide +kernel))
    have h3 : va_Nc eIS eIO s := va_Nc.of (hs _ (by decide +kernel))
    have h4 : va_Nc eIO eIA s := va_Nc.of (hs _ (by decide +kernel))
    have h5 : va_Nc eIO eIS s := va_Nc.of (hs _ (by decide +kernel))
    intro q hq
    unfold xNc at hq
    rcases List.mem_cons.mp hq with rfl | hq
    · exact h0
    rcases List.mem_cons.mp hq with rfl | hq
    · exact h1
    rcases List.mem_cons.mp hq with rfl | hq
    · exact h2
    rcases List.mem_cons.mp hq with rfl | hq
    · exact h3
    rcases List.mem_cons.mp hq with rfl | hq
    · exact h4
    rcases List.mem_cons.mp hq with rfl | hq
    · exact h5
    cases hq
theorem law_H {args : Array Value} {s : State} (hts : ∀ w ∈ lw_tbl, w.before args s = true) (hgv : (Jvm.Cond.and given_1 narrow_1).before args s = true) : xH (fun q => s.heap.size ≤ q) s s.heap := by
  have hs := flat_of_before _ hgv
  exact ⟨vx_Zqof (hts _ (by decide +kernel)) (hts _ (by decide +kernel)) (hs _ (by decide +kernel)) (fun a ha h => by omega), vx_Zqof (hts _ (by decide +kernel)) (hts _ (by decide +kernel)) (hs _ (by decide +kernel)) (fun a ha h => by omega)⟩
section QS2
variable {p : Program} {l : Launch} {e : Env} {R : Room} {s : State} {m : MethodId} {args : Array Value} {below : List Frame} {meth : Method} {c : Code} {H : Heap} {locs : List Loc} {cells slots : Nat} {Q : State → Prop}
variable {cc bytes : ByteArray} {nL maxL index n mc ms : Nat} {own C : String} {y : MethodName} {ret : Option FieldType} {rm : Room} {ws ws' : List Cond}
variable {pc : Nat} {ls : Array Slot} {rest st0 As : List Value} {b : Nat} {D : va_G} {ty : List (ClassId × FieldType)} {cw : va_W} {A : Nat → Prop} {H0 : Heap} {w0 wr : va_W}
theorem qSX_i {post : Int32 → Prop} {b0 L0 : Nat} {xs : Nat → Int32} (S : CallFix p m c cc nL s args TB own) (hM : Met l y ws rm (va_Pc As (fun U => va_X b0 L0 xs U U.heap)) (vp_Si post) 0 0 (fun _ => False)) (cw : CallB R s args own index y bytes maxL ret ws rm 0 0 n) (hst : Cond.static y ∈ TB) (hX : va_X b0 L0 xs s s.heap) (hbl : b0 < s.heap.size) (hbA : ¬ A b0) (hS : va_S A s.heap H locs)
    (hn : As.length = n) (hsize : ls.size = nL) (hstack : st0 = As.reverse ++ rest) (hW : (rest.map fun v => v.category).sum ≤ 8) (hdg : decode cc pc = .ok (.invokestatic index, 3)) (hf : cells ≤ R.cells ∧ slots ≤ R.slots)
    (kk : ∀ r : Int32, post r → W p l e R s m args below meth c H locs cells slots Q (F0 m (pc + 3) ls (.int r :: rest))) : W p l e R s m args below meth c H locs cells slots Q (F0 m pc ls st0) :=
  vp_callSi (W.runS (As := As) (rest := rest) S hM ⟨cw, S.2.2.2.2 _ hst⟩ ⟨fun a U g mk q => ⟨q.1, va_X.moved (u := U) (U := U.calling g mk a) (Vm.Alike.refl U.vm) q.2⟩, fun U hU hW => ⟨rfl, va_X.moved hW.alike (hX.kept (by rw [hU]; exact hS.2.1 b0 hbl hbA))⟩⟩ rfl hn hsize hstack (lv_room hW) hdg hf) kk
theorem qIA_v {Sg : Type} {post : Sg → Prop} {w1 : Sg → va_W} {C0 : String} (S : CallFix p m c cc nL s args TB own) (hM : Met l y ws rm (va_Pc (.ref b :: As) (fun U => (U.heap.size = H.size ∧ va_P D vC cw U.heap ∧ va_K D vC ty U ∧ va_D (fun _ => True) cw) ∧ va_AO C0 U)) (va_Qv post (fun u t => va_P D vC (w1 u) t.heap ∧ va_D (va_A cw H.size) (w1 u)) (va_A cw H.size)) mc ms (va_A cw H.size)) (hAO : va_AO C0 s) (cB : CallB R s args own index y bytes maxL none ws rm mc ms n) (hy : y.name = "<init>") (hin : Cond.instanceMethod y ∈ TB)
    (hK : va_K D vC ty s) (hP : va_P D vC cw H) (hD : va_D A cw) (hS : va_S A s.heap H locs) (hA : ∀ q, s.heap.size ≤ q → A q)
    (hn : As.length = n) (hsize : ls.size = nL) (hstack : st0 = As.reverse ++ .ref b :: rest) (hW : (rest.map fun v => v.category).sum ≤ 8) (hdg : decode cc pc = .ok (.invokespecial index, 3)) (hf : cells + mc ≤ R.cells ∧ slots + ms ≤ R.slots)
    (kk : ∀ (u : Sg) (H1 : Heap) (locs1 : List Loc), post u → va_P D vC (w1 u) H1 → va_D A (w1 u) → va_S A s.heap H1 locs1 → W p l e R s m args below meth c H1 locs1 (cells + mc) (slots + ms) Q (F0 m (pc + 3) ls rest)) : W p l e R s m args below meth c H locs cells slots Q (F0 m pc ls st0) := by
  have hFc := qM_free hD hS hA
  have hbl : FrameBlind (va_Pc (.ref b :: As) (fun U => (U.heap.size = H.size ∧ va_P D vC cw U.heap ∧ va_K D vC ty U ∧ va_D (fun _ => True) cw) ∧ va_AO C0 U)) := by
    intro a U g mk q
    obtain ⟨q0, ⟨q1, qP, qK, qD⟩, qO⟩ := q
    exact ⟨q0, ⟨q1, qP, va_K.moved (u := U) (U := U.calling g mk a) (Vm.Alike.refl U.vm) qK, qD⟩, va_AO.moved (u := U) (U := U.calling g mk a) (Vm.Alike.refl U.vm) qO⟩
  refine va_callv (va_runI (As := As) (rest := rest) S hM ⟨cB, hy, S.2.2.2.2 _ hin⟩ ⟨hbl, fun U hU hW => ⟨rfl, ⟨by rw [hU], by rw [hU]; exact hP, va_K.moved hW.alike hK, hD.weaken (fun _ _ _ _ => trivial)⟩, va_AO.moved hW.alike hAO⟩⟩ rfl hn hsize hstack (lv_room hW) hdg hf) hS (fun q _ h => hFc q h) hFc (fun u t H1 locs1 ht hvm hp hB hz1 hk1 hS => ?_)
  obtain ⟨hP1, hD1⟩ := hB
  rw [ht] at hP1
  exact kk u H1 locs1 hp hP1 (hD1.weaken (fun _ _ _ h => hFc _ h)) hS
/-- a loop whose room grows -/
theorem wlc {σ : Type} {pc : Nat} (cs ss : σ → Nat) (I : Nat → σ → Heap → List Loc → Array Slot → Prop) (step : ∀ (d : Nat) (st : σ) (H : Heap) (locs : List Loc) (ls : Array Slot), I d st H locs ls → (∀ (d' : Nat) (st' : σ) (H' : Heap) (locs' : List Loc) (ls' : Array Slot), d' < d → I d' st' H' locs' ls' → W p l e R s m args below meth c H' locs' (cs st') (ss st') Q (F0 m pc ls' [])) → W p l e R s m args below meth c H locs (cs st) (ss st) Q (F0 m pc ls [])) : ∀ (d : Nat) (st : σ) (H : Heap) (locs : List Loc) (ls : Array Slot), I d st H locs ls → W p l e R s m args below meth c H locs (cs st) (ss st) Q (F0 m pc ls []) := by
  have key : ∀ (n d : Nat), d < n → ∀ (st : σ) (H : Heap) (locs : List Loc) (ls : Array Slot), I d st H locs ls → W p l e R s m args below meth c H locs (cs st) (ss st) Q (F0 m pc ls []) := by
    intro n
    induction n with
    | zero => intro d h; omega
    | succ n ih => intro d hd st H locs ls hI; exact step d st H locs ls hI (fun d' st' H' locs' ls' h' hI' => ih d' (by omega) st' H' locs' ls' hI')
  exact fun d st H locs ls hI => key (d + 1) d (by omega) st H locs ls hI
end QS2
theorem i_and31 (y : Int32) : ∃ k : Nat, k < 32 ∧ y &&& 31 = nI k := by
  obtain ⟨m, hm, rfl⟩ := i_any y
  exact ⟨m % 2 ^ 5, Nat.mod_lt _ (by decide), pe_mask32 m 5 (by decide)⟩
set_option maxHeartbeats 8000000 in
set_option maxRecDepth 100000 in
theorem law_loop {p : Program} {l : Launch} {e : Env} {s : State} {m : MethodId} {below : List Frame} {meth : Method} {c : Code} {b L : Nat} {xs : Nat → Int32} {D : va_G} {z : Nat → ClassId} {d e9 : Nat → Nat} {n o : Nat} (hst : l.stackTraces = false) (hL : L ≤ 2561) (hx : p.tables.exec = Jvm.exec) (hb : c.code = code) (hr : meth.sig.returnType = ret) (hlocks : meth.locks = false) (hml : c.maxLocals = 7) (hown : s.vm.findClass "PermutationDeskLaw" = some m.cls) (ht : ∀ w ∈ TB, w.before #[Value.ref b] s = true) (hK : va_K D vC (tyL z) s) (hV : xV s) (hH : xH (fun q => s.heap.size ≤ q) s s.heap) (hX : va_X b L xs s s.heap) (hbl : b < s.heap.size)
    : ∀ (t : Nat) (st : Nat × dSt × mSt × (Nat → Int64)) (H : Heap) (locs : List Loc) (ls : Array Slot), (t + st.1 = 513 ∧ st.1 ≤ 512 ∧ LSt n st.2.1 st.2.2.1 ∧ va_P D vC (LW z d e9 n st.2.1 st.2.2.1 o st.2.2.2) H ∧ va_D (fun q => s.heap.size ≤ q) (LW z d e9 n st.2.1 st.2.2.1 o st.2.2.2) ∧ va_S (fun q => s.heap.size ≤ q) s.heap H locs ∧ lv_has ls 7 [(4, .int (nI (1 + 5 * st.1))), (0, .ref b), (1, .ref (d 0)), (2, .ref (e9 0)), (3, .ref o)]) → W p l e room_1 s m #[Value.ref b] below meth c H locs (51 + 10 * st.1) (18581 + 100 * st.1) (lw_Z below #[Value.ref b] s) (F0 m 33 ls []) := by
  have hA : ∀ q : Nat, s.heap.size ≤ q → (fun q : Nat => s.heap.size ≤ q) q := fun q h => h
  have hbA : ¬ (fun q : Nat => s.heap.size ≤ q) b := fun h => by
    have h' : s.heap.size ≤ b := h
    omega
  generalize hAe : (fun q : Nat => s.heap.size ≤ q) = A at hH hA hbA ⊢
  have hAl : ∀ q, A q → s.heap.size ≤ q := fun q h => by rw [← hAe] at h; exact h
  clear hAe
  have hRf : 40 ≤ room_1.frames := by decide
  have hRl : 2000 ≤ room_1.locals := by decide
  have hRc : room_1.cells = 601024 := rfl
  have hRs : room_1.slots = 7293000 := rfl
  refine wlc (σ := Nat × dSt × mSt × (Nat → Int64)) (pc := 33) (fun st => 51 + 10 * st.1) (fun st => 18581 + 100 * st.1) _ ?_
  rintro t ⟨j, u, v, fO⟩ H locs ls ⟨htj, hj, hLS, hP, hD, hS, hl⟩ ih
  replace htj : t + j = 513 := htj
  replace hj : j ≤ 512 := hj
  replace hLS : LSt n u v := hLS
  replace hP : va_P D vC (LW z d e9 n u v o fO) H := hP
  replace hD : va_D A (LW z d e9 n u v o fO) := hD
  obtain ⟨i, hi⟩ : ∃ i, i = 1 + 5 * j := ⟨_, rfl⟩
  replace hl : lv_has ls 7 [(4, .int (nI (1 + 5 * j))), (0, .ref b), (1, .ref (d 0)), (2, .ref (e9 0)), (3, .ref o)] := hl
  rw [← hi] at hl
  show W p l e room_1 s m #[Value.ref b] below meth c H locs (51 + 10 * j) (18581 + 100 * j) (lw_Z below #[Value.ref b] s) (F0 m 33 ls [])
  refine lv_iload hx hb dL_law_33 (lv_at hl 0 rfl) ?_
  refine lv_aload_n hx hb dL_law_35 rfl (lv_at hl 1 rfl) ?_
  refine va_slen hx hb hX hbl hbA hS dL_law_36 ?_
  refine wti (x' := nI L) rfl ?_
  refine lv_iconst (v := 5) hx hb dL_law_37 (by decide) ?_
  refine lv_isub hx hb dL_law_38 ?_
  -- the end
  refine wj (σ := Unit) (pc := 1058) (I := fun _ H1 locs1 ls1 => H = H1 ∧ locs = locs1 ∧ ls = ls1) ?_ (fun jn => ?_)
  · rintro - H1 locs1 ls1 ⟨rfl, rfl, rfl⟩
    refine lv_iconst (v := 1) hx hb dL_law_1058 (by decide) ?_
    refine va_forget (fun q hq => hAl _ (hS.2.2 q hq)) ?_
    exact W.widen (k := 601024) (n := 7293000) (by omega) (by omega) (lw_ret hx hb hr hlocks dL_law_1059)
  by_cases hL5 : L < 5
  · refine wti (x' := nI L - nI 5) rfl ?_
    have hneg := pk_sneg (a := L) (b := 5) (by decide) hL5
    refine lv_icmp_gt (tgt := 1058) hx hb dL_law_39 rfl (fun h9 => ?_) (fun h9 => ?_)
    · exact jn () _ _ ls ⟨rfl, rfl, rfl⟩
    · exact absurd (by
        have h1 := Int32.lt_iff_toInt_lt.mp hneg
        have h2 : (nI i).toInt = (i : Int) := nI_toInt (by omega)
        refine Int32.lt_iff_toInt_lt.mpr ?_
        rw [h2]
        have h3 : (0 : Int32).toInt = 0 := rfl
        omega) h9
  refine wti (x' := nI (L - 5)) (pk_sub (b := 5) (by omega)) ?_
  refine lv_icmp_gt (tgt := 1058) hx hb dL_law_39 rfl (fun h9 => ?_) (fun h9 => ?_)
  · exact jn () _ _ ls ⟨rfl, rfl, rfl⟩
  clear jn
  have hi5 : i + 5 ≤ L := by
    have : ¬ L - 5 < i := fun q => h9 ((nI_ltI (by omega) (by omega)).mpr q)
    omega
  have kk : ∀ (u : dSt) (v : mSt) (fO : Nat → Int64) (H : Heap) (locs : List Loc) (ls : Array Slot), LSt n u v → va_P D vC (LW z d e9 n u v o fO) H → va_D A (LW z d e9 n u v o fO) → va_S A s.heap H locs → lv_has ls 7 [(4, .int (nI i)), (0, .ref b), (1, .ref (d 0)), (2, .ref (e9 0)), (3, .ref o)] → W p l e room_1 s m #[Value.ref b] below meth c H locs (51 + 10 * j + 10) (18581 + 100 * j + 100) (lw_Z below #[Value.ref b] s) (F0 m 1052 ls []) := by
    clear hP hD hS hl hLS
    intro u v fO H locs ls hLS hP hD hS hl
    refine lv_iinc (k := 0) (v := (nI (i + 5))) hx hb dL_law_1052 hl rfl (by exact nI_add i 5) (by decide) rfl (fun ls hl => ?_)
    replace hl : lv_has ls 7 [(4, .int (nI (i + 5))), (0, .ref b), (1, .ref (d 0)), (2, .ref (e9 0)), (3, .ref o)] := hl
    refine lv_goto (tgt := 33) hx hb dL_law_1055 rfl ?_
    have hk := ih (t - 1) (j + 1, u, v, fO) H locs ls (by omega) ⟨by show t - 1 + (j + 1) = 513; omega, by show j + 1 ≤ 512; omega, hLS, hP, hD, hS, by
      show lv_has ls 7 [(4, .int (nI (1 + 5 * (j + 1)))), (0, .ref b), (1, .ref (d 0)), (2, .ref (e9 0)), (3, .ref o)]
      rw [show 1 + 5 * (j + 1) = i + 5 by omega]
      exact hl⟩
    exact hk
  refine lv_aload_n hx hb dL_law_42 rfl (lv_at hl 1 rfl) ?_
  refine lv_iload hx hb dL_law_43 (lv_at hl 0 rfl) ?_
  refine va_sld hx hb hX hbl hbA hS (vp_in_nI (by omega) (by omega)) dL_law_45 ?_
  refine wti (x' := xs i) (by rw [nI_clamp (by omega)]) ?_
  refine lv_bipush (v := 31) hx hb dL_law_46 (by decide) ?_
  refine lv_iand hx hb dL_law_48 ?_
  obtain ⟨k, hk, hxk⟩ := i_and31 (xs i)
  refine wti (x' := nI k) hxk ?_
  by_cases h16 : 16 < k
  · refine lv_tableOut (tgt := 1052) hx hb dL_law_49 (Or.inr (by rw [nI_toInt (by omega)]; omega)) rfl ?_
    exact W.widen (k := 51 + 10 * j + 10) (n := 18581 + 100 * j + 100) (by omega) (by omega) (kk u v fO H locs ls hLS hP hD hS hl)
  have hcs : k = 0 ∨ k = 1 ∨ k = 2 ∨ k = 3 ∨ k = 4 ∨ k = 5 ∨ k = 6 ∨ k = 7 ∨ k = 8 ∨ k = 9 ∨ k = 10 ∨ k = 11 ∨ k = 12 ∨ k = 13 ∨ k = 14 ∨ k = 15 ∨ k = 16 := by omega
  rcases hcs with rfl | rfl | rfl | rfl | rfl | rfl | rfl | rfl | rfl | rfl | rfl | rfl | rfl | rfl | rfl | rfl | rfl
  · refine lv_tableIn (tgt := 132) (off := 83) hx hb dL_law_49 (by decide) (by decide) (by decide) rfl ?_
    exact lw_type hst hx hb hml hown ht hRf hRl (by omega) (by omega) hK hV hH hA hP hD hS (by omega) hi5 hX hbl hbA hLS hl kk
  · refine lv_tableIn (tgt := 159) (off := 110) hx hb dL_law_49 (by decide) (by decide) (by decide) rfl ?_
    exact lw_wipe hst hx hb hml hown ht hRf hRl (by omega) (by omega) hK hV hH hA hP hD hS (by omega) hi5 hX hbl hbA hLS hl kk
  · refine lv_tableIn (tgt := 170) (off := 121) hx hb dL_law_49 (by decide) (by decide) (by decide) rfl ?_
    exact lw_value hst hx hb hml hown ht hRf hRl (by omega) (by omega) hK hV hH hA hP hD hS (by omega) hi5 hX hbl hbA hLS hl kk
  · refine lv_tableIn (tgt := 226) (off := 177) hx hb dL_law_49 (by decide) (by decide) (by decide) rfl ?_
    exact lw_generate hst hx hb hml hown ht hRf hRl (by omega) (by omega) hK hV hH hA hP hD hS (by omega) hi5 hX hbl hbA hLS hl kk
  · refine lv_tableIn (tgt := 270) (off := 221) hx hb dL_law_49 (by decide) (by decide) (by decide) rfl ?_
    exact lw_forget hst hx hb hml hown ht hRf hRl (by omega) (by omega) hK hV hH hA hP hD hS (by omega) hi5 hX hbl hbA hLS hl kk
  · refine lv_tableIn (tgt := 281) (off := 232) hx hb dL_law_49 (by decide) (by decide) (by decide) rfl ?_
    exact lw_image hst hx hb hml hown ht hRf hRl (by omega) (by omega) hK hV hH hA hP hD hS (by omega) hi5 hX hbl hbA hLS hl kk
  · refine lv_tableIn (tgt := 317) (off := 268) hx hb dL_law_49 (by decide) (by decide) (by decide) rfl ?_
    exact lw_extend hst hx hb hml hown ht hRf hRl (by omega) (by omega) hK hV hH hA hP hD hS (by omega) hi5 hX hbl hbA hLS hl kk
  · refine lv_tableIn (tgt := 368) (off := 319) hx hb dL_law_49 (by decide) (by decide) (by decide) rfl ?_
    exact lw_kernel hst hx hb hml hown ht hRf hRl (by omega) (by omega) hK hV hH hA hP hD hS (by omega) hi5 hX hbl hbA hLS hl kk
  · refine lv_tableIn (tgt := 424) (off := 375) hx hb dL_law_49 (by decide) (by decide) (by decide) rfl ?_
    exact lw_images hst hx hb hml hown ht hRf hRl (by omega) (by omega) hK hV hH hA hP hD hS (by omega) hi5 hX hbl hbA hLS hl kk
  · refine lv_tableIn (tgt := 480) (off := 431) hx hb dL_law_49 (by decide) (by decide) (by decide) rfl ?_
    exact lw_stabiliser hst hx hb hml hown ht hRf hRl (by omega) (by omega) hK hV hH hA hP hD hS (by omega) hi5 hX hbl hbA hLS hl kk
  · refine lv_tableIn (tgt := 588) (off := 539) hx hb dL_law_49 (by decide) (by decide) (by decide) rfl ?_
    exact lw_centraliser hst hx hb hml hown ht hRf hRl (by omega) (by omega) hK hV hH hA hP hD hS (by omega) hi5 hX hbl hbA hLS hl kk
  · refine lv_tableIn (tgt := 656) (off := 607) hx hb dL_law_49 (by decide) (by decide) (by decide) rfl ?_
    exact lw_closure hst hx hb hml hown ht hRf hRl (by omega) (by omega) hK hV hH hA hP hD hS (by omega) hi5 hX hbl hbA hLS hl kk
  · refine lv_tableIn (tgt := 724) (off := 675) hx hb dL_law_49 (by decide) (by decide) (by decide) rfl ?_
    exact lw_derived hst hx hb hml hown ht hRf hRl (by omega) (by omega) hK hV hH hA hP hD hS (by omega) hi5 hX hbl hbA hLS hl kk
  · refine lv_tableIn (tgt := 792) (off := 743) hx hb dL_law_49 (by decide) (by decide) (by decide) rfl ?_
    exact lw_order hst hx hb hml hown ht hRf hRl (by omega) (by omega) hK hV hH hA hP hD hS (by omega) hi5 hX hbl hbA hLS hl kk
  · refine lv_tableIn (tgt := 848) (off := 799) hx hb dL_law_49 (by decide) (by decide) (by decide) rfl ?_
    exact lw_rank hst hx hb hml hown ht hRf hRl (by omega) (by omega) hK hV hH hA hP hD hS (by omega) hi5 hX hbl hbA hLS hl kk
  · refine lv_tableIn (tgt := 904) (off := 855) hx hb dL_law_49 (by decide) (by decide) (by decide) rfl ?_
    exact lw_element hst hx hb hml hown ht hRf hRl (by omega) (by omega) hK hV hH hA hP hD hS (by omega) hi5 hX hbl hbA hLS hl kk
  · refine lv_tableIn (tgt := 984) (off := 935) hx hb dL_law_49 (by decide) (by decide) (by decide) rfl ?_
    exact lw_orbit hst hx hb hml hown ht hRf hRl (by omega) (by omega) hK hV hH hA hP hD hS (by omega) hi5 hX hbl hbA hLS hl kk
set_option maxHeartbeats 8000000 in
set_option maxRecDepth 100000 in
/-- from the entry, for every script of at most 2561 ints, the law comes to its end with true -/
theorem whole_start {p : Program} {e : Env} {s : State} {m : MethodId} {below : List Frame} {meth : Method} {c : Code} (l : Launch) (hst : l.stackTraces = false) {b L : Nat} {xs : Nat → Int32} (hL : L ≤ 2561) (C0 : lw_At p s m meth c b L xs) : W p l e room_1 s m #[Value.ref b] below meth c s.heap [] 0 0 (lw_Z below #[Value.ref b] s) (entryFrame m ([Value.ref b] : List Value).toArray 7) := by
  obtain ⟨hx, hb, hr, hml, hown, hts, hX, hbl, hlocks, hgv⟩ := C0
  replace hown : s.vm.findClass "PermutationDeskLaw" = some m.cls := hown
  have ht : ∀ w ∈ TB, w.before #[Value.ref b] s = true := fun w h => hts w (TB_in h)
  have hV := law_V hts hgv
  have hH := law_H hts hgv
  have hAO : va_AO "PermutationDesk$Group" s := hV.2.2.2.2.2.2.1
  obtain ⟨D, z, hK⟩ := law_K ht hAO
  have hA : ∀ q : Nat, s.heap.size ≤ q → (fun q : Nat => s.heap.size ≤ q) q := fun q h => h
  have hbA : ¬ (fun q : Nat => s.heap.size ≤ q) b := fun h => by
    have h' : s.heap.size ≤ b := h
    omega
  have hloop := fun (d e9 : Nat → Nat) (n o : Nat) => law_loop (e := e) (below := below) (meth := meth) (d := d) (e9 := e9) (n := n) (o := o) hst hL hx hb hr hlocks hml hown ht hK hV hH hX hbl
  generalize hAe : (fun q : Nat => s.heap.size ≤ q) = A at hH hA hbA hloop
  clear hAe
  have hS : va_S A s.heap s.heap [] := va_S.rf
  have hP : va_P D vC [] s.heap := fun k q hk => by cases hk
  have hD : va_D A [] := ⟨fun i j p q hi => (by cases hi), fun k q hk => (by cases hk)⟩
  have hRf : 40 ≤ room_1.frames := by decide
  have hRl : 2000 ≤ room_1.locals := by decide
  have hRc : room_1.cells = 601024 := rfl
  have hRs : room_1.slots = 7293000 := rfl
  have hl := lv_entry ([.ref b]) (n := 7) (Nat.le_of_ble_eq_true rfl)
  rw [lg_entry_eq]
  generalize (lg_sl ([.ref b]) ++ List.replicate (7 - (lg_sl ([.ref b])).length) Slot.unset).toArray = ls at hl ⊢
  have hl : lv_has ls 7 [(0, .ref b)] := hl
  refine va_new (ci := 2) (C := RD) (T := TD) (N := 9) (fs := [.int 0, .null, .int 0, .null, .null, .int 0, .null, .null, .null]) hx hb ht inD tyD tyD_ok hown (ht _ tw_74) (ht _ tw_75) (ht _ tw_59) hK hP hD hS hA rfl (by decide +kernel) (by decide) (by decide) dL_law_0 (fun q0 H hP hD hS => ?_)
  replace hP : va_P D vC [(q0, .inr (2, [.int 0, .null, .int 0, .null, .null, .int 0, .null, .null, .null]))] H := hP
  replace hD : va_D A [(q0, .inr (2, [.int 0, .null, .int 0, .null, .null, .int 0, .null, .null, .null]))] := hD
  refine lv_dup hx hb dL_law_3 rfl ?_
  refine lv_aload_n hx hb dL_law_4 rfl (lv_at hl 0 rfl) ?_
  refine lv_iconst (v := 0) hx hb dL_law_5 (by decide) ?_
  refine qSX_i (As := [.ref b, .int (nI 0)]) (rest := [.ref q0, .ref q0]) ⟨hx, hb, hml, hown, ht⟩ (c_L_cell l b L 0 xs (by omega) (by decide)) (cB 2 ht gL_cell rfl tw_58 tw_166 (by decide +kernel) ⟨Nat.le_trans (Nat.le_of_ble_eq_true rfl) hRf, Nat.le_trans (Nat.le_of_ble_eq_true rfl) hRl⟩) tw_167 hX hbl hbA hS rfl hl.1 rfl (Nat.le_of_ble_eq_true rfl) dL_law_6 ⟨by omega, by omega⟩ (fun r6 h6 => ?_)
  obtain ⟨x0, hx0⟩ : ∃ x0 : Int32, x0 = if 0 < L then xs 0 else 0 := ⟨_, rfl⟩
  rw [← hx0] at h6
  refine wti (x' := x0) h6 ?_
  obtain ⟨n, h1n, hn7, he, hx7, hx8⟩ := mn_of x0
  refine qIA_v (As := [.int x0]) (rest := [.ref q0]) ⟨hx, hb, hml, hown, ht⟩ (c_D_init l D z H.size q0 n x0 h1n hn7 he) hAO (cB 1 ht gD_init rfl tw_59 tw_76 (by decide +kernel) ⟨Nat.le_trans (Nat.le_of_ble_eq_true rfl) hRf, Nat.le_trans (Nat.le_of_ble_eq_true rfl) hRl⟩) rfl tw_77 hK hP hD hS hA rfl hl.1 rfl (Nat.le_of_ble_eq_true rfl) dL_law_9 ⟨by show _ + _ ≤ _; omega, by show _ + _ ≤ _; omega⟩ (fun u9 H locs h9 hP hD hS => ?_)
  obtain ⟨d, u⟩ := u9
  obtain ⟨hd0, hdR⟩ := h9
  replace hd0 : d 0 = q0 := hd0
  replace hdR : dRp n ((fun _ => 0), 0, (fun _ => pg_id), 0, (fun _ => none), (fun _ x => x = pg_id)) u := hdR
  replace hP : va_P D vC (dW z d n u) H := hP
  replace hD : va_D A (dW z d n u) := hD
  refine wtv (x' := .ref (d 0)) (by rw [hd0]) ?_
  refine lv_astore_n hx hb dL_law_12 rfl hl (by decide) rfl (fun ls hl => ?_)
  replace hl : lv_has ls 7 [(1, .ref (d 0)), (0, .ref b)] := hl
  refine va_new (ci := 5) (C := RM) (T := TM) (N := 26) (fs := [.int 0, .int 0, .int 0, .null, .null, .null, .int 0, .null, .int 0, .null, .null, .null, .null, .null, .null, .int 0, .null, .null, .int 0, .int 0, .int 0, .int 0, .null, .null, .null, .null]) hx hb ht inM tyM tyM_ok hown (ht _ tw_639) (ht _ tw_640) (ht _ tw_64) hK hP hD hS hA rfl (by decide +kernel) (by decide) (by decide) dL_law_13 (fun q13 H hP hD hS => ?_)
  replace hP : va_P D vC (dW z d n u ++ [(q13, .inr (5, [.int 0, .int 0, .int 0, .null, .null, .null, .int 0, .null, .int 0, .null, .null, .null, .null, .null, .null, .int 0, .null, .null, .int 0, .int 0, .int 0, .int 0, .null, .null, .null, .null]))]) H := hP
  replace hD : va_D A (dW z d n u ++ [(q13, .inr (5, [.int 0, .int 0, .int 0, .null, .null, .null, .int 0, .null, .int 0, .null, .null, .null, .null, .null, .null, .int 0, .null, .null, .int 0, .int 0, .int 0, .int 0, .null, .null, .null, .null]))]) := hD
  refine lv_dup hx hb dL_law_16 rfl ?_
  refine lv_aload_n hx hb dL_law_17 rfl (lv_at hl 1 rfl) ?_
  refine lv_iconst (v := 0) hx hb dL_law_18 (by decide) ?_
  refine qSX_i (As := [.ref b, .int (nI 0)]) (rest := [.ref q13, .ref q13]) ⟨hx, hb, hml, hown, ht⟩ (c_L_cell l b L 0 xs (by omega) (by decide)) (cB 2 ht gL_cell rfl tw_58 tw_166 (by decide +kernel) ⟨Nat.le_trans (Nat.le_of_ble_eq_true rfl) hRf, Nat.le_trans (Nat.le_of_ble_eq_true rfl) hRl⟩) tw_167 hX hbl hbA hS rfl hl.1 rfl (Nat.le_of_ble_eq_true rfl) dL_law_19 ⟨by show _ + _ ≤ _; omega, by show _ + _ ≤ _; omega⟩ (fun r19 h19 => ?_)
  rw [← hx0] at h19
  refine wti (x' := x0) h19 ?_
  refine qI_v (wr := dW z d n u) (As := [.int x0]) (rest := [.ref q13]) ⟨hx, hb, hml, hown, ht⟩ (c_M_init l D z H.size q13 n x0 h1n hn7 hx7 hx8) (cB 1 ht gM_init rfl tw_64 tw_641 (by decide +kernel) ⟨Nat.le_trans (Nat.le_of_ble_eq_true rfl) hRf, Nat.le_trans (Nat.le_of_ble_eq_true rfl) hRl⟩) rfl tw_642 hK hP hD hS hA [33] [0, 1, 2, 3, 4, 5, 6, 7, 8, 9, 10, 11, 12, 13, 14, 15, 16, 17, 18, 19, 20, 21, 22, 23, 24, 25, 26, 27, 28, 29, 30, 31, 32] rfl rfl rfl rfl (by decide) rfl rfl hl.1 rfl (Nat.le_of_ble_eq_true rfl) dL_law_22 ⟨by show _ + _ ≤ _; omega, by show _ + _ ≤ _; omega⟩ (fun u22 H locs h22 hP hD hS => ?_)
  obtain ⟨e9, v⟩ := u22
  obtain ⟨he0, hmR⟩ := h22
  replace he0 : e9 0 = q13 := he0
  replace hmR : mRp n ((fun _ => 0), 0, (fun _ => pg_id), 0, (fun _ => none), (fun _ x => x = pg_id)) v := hmR
  replace hP : va_P D vC (dW z d n u ++ mWu z e9 n v) H := hP
  replace hD : va_D A (dW z d n u ++ mWu z e9 n v) := hD
  refine wtv (x' := .ref (e9 0)) (by rw [he0]) ?_
  refine lv_astore_n hx hb dL_law_25 rfl hl (by decide) rfl (fun ls hl => ?_)
  replace hl : lv_has ls 7 [(2, .ref (e9 0)), (1, .ref (d 0)), (0, .ref b)] := hl
  refine lv_iconst (v := 1) hx hb dL_law_26 (by decide) ?_
  refine qNewa (atype := .long) (t0 := 0) (N9 := 1) (a0 := (1, .inr (.inl (fun _ => 0)))) hx hb (ht _ tw_123) rfl hK hP hD hS hA rfl (fun _ h9 => h9) (fun _ => rfl) (by decide) rfl (by decide) (by decide) (by decide) dL_law_27 (fun q27 H hP hD hS => ?_)
  replace hP : va_P D vC (LW z d e9 n u v q27 (fun _ => 0)) H := hP
  replace hD : va_D A (LW z d e9 n u v q27 (fun _ => 0)) := hD
  refine lv_astore_n hx hb dL_law_29 rfl hl (by decide) rfl (fun ls hl => ?_)
  replace hl : lv_has ls 7 [(3, .ref q27), (2, .ref (e9 0)), (1, .ref (d 0)), (0, .ref b)] := hl
  refine lv_iconst (v := 1) hx hb dL_law_30 (by decide) ?_
  refine lv_istore hx hb dL_law_31 hl (by decide) rfl (fun ls hl => ?_)
  replace hl : lv_has ls 7 [(4, .int (nI 1)), (3, .ref q27), (2, .ref (e9 0)), (1, .ref (d 0)), (0, .ref b)] := hl
  have hk := hloop d e9 n q27 513 (0, u, v, fun _ => 0) H locs ls ⟨rfl, Nat.zero_le _, ⟨_, hdR, hmR⟩, hP, hD, hS, lv_sub hl [0, 4, 3, 2, 1] rfl⟩
  exact hk
