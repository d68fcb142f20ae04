/-! The reference: sets of ranks by bits. -/
def mB (f : Nat → Int64) (B : Nat → Bool) : Prop := ∀ r, r < 5056 → (f (r / 64)).toBitVec.getLsbD (r % 64) = B r
theorem mb_bit (x : Int64) {j : Nat} (hj : j < 64) : (x >>> ((nI j).toInt64 &&& 63)) &&& 1 = if x.toBitVec.getLsbD j = true then 1 else 0 := by
  rw [wb_c j hj]
  apply wb_inj
  rw [Int64.toBitVec_and, Int64.toBitVec_shiftRight, wb_tb, wb_sm j hj]
  show BitVec.sshiftRight x.toBitVec (BitVec.ofNat 64 j).toNat &&& 1#64 = _
  rw [BitVec.toNat_ofNat, Nat.mod_eq_of_lt (by omega)]
  apply BitVec.eq_of_getLsbD_eq
  intro i hi
  rw [BitVec.getLsbD_and, BitVec.getLsbD_sshiftRight]
  by_cases q : i = 0
  · subst q
    rw [if_pos (by omega : j + 0 < 64), Nat.add_zero]
    cases x.toBitVec.getLsbD j <;> decide
  · have h1 : (1#64).getLsbD i = false := by rw [BitVec.getLsbD_one]; simp [q]
    rw [h1, Bool.and_false]
    cases x.toBitVec.getLsbD j
    · show false = (0#64).getLsbD i
      simp
    · exact h1.symm
theorem mb_put (x : Int64) {j i : Nat} (hj : j < 64) (hi : i < 64) : (x ||| (1 <<< ((nI j).toInt64 &&& 63))).toBitVec.getLsbD i = (x.toBitVec.getLsbD i || decide (i = j)) := by
  rw [wb_c j hj, Int64.toBitVec_or, Int64.toBitVec_shiftLeft, wb_tb, wb_sm j hj, BitVec.getLsbD_or, BitVec.shiftLeft_eq', BitVec.toNat_ofNat, Nat.mod_eq_of_lt (by omega)]
  congr 1
  show (1#64 <<< j).getLsbD i = _
  rw [BitVec.getLsbD_shiftLeft, BitVec.getLsbD_one]
  by_cases q : i = j
  · subst q; simp [hi]
  · by_cases r : i < j
    · simp [hi, r, q]
    · have : i - j ≠ 0 := by omega
      simp [hi, r, q, this]
theorem mB.put {f : Nat → Int64} {B : Nat → Bool} (h : mB f B) {r : Nat} : mB (vp_updL f (r / 64) (f (r / 64) ||| (1 <<< ((nI (r % 64)).toInt64 &&& 63)))) (va_up B r true) := by
  intro q hq
  by_cases e : q / 64 = r / 64
  · rw [e, pk_uLs, mb_put _ (Nat.mod_lt _ (by decide)) (Nat.mod_lt _ (by decide)), ← e, h q hq]
    by_cases e2 : q = r
    · subst e2
      rw [va_up_self, decide_eq_true rfl, Bool.or_true]
    · rw [va_up_ne _ _ e2, decide_eq_false (by omega), Bool.or_false]
  · rw [pk_uLn e, va_up_ne _ _ (fun e2 => e (by rw [e2])), h q hq]
theorem mB.zero {f : Nat → Int64} (h : ∀ k, k < 79 → f k = 0) : mB f (fun _ => false) := by
  intro r hr
  rw [h (r / 64) (by omega)]
  show (0#64).getLsbD _ = false
  simp
theorem mb_eq (b : Bool) : ((if b = true then 1 else 0 : Int64) = 1) ↔ b = true := by cases b <;> decide
set_option maxHeartbeats 1000000 in
set_option maxRecDepth 100000 in
theorem c_M_isIn (l : Launch) (D : va_G) (z : Nat → ClassId) (d : Nat → Nat) (n : Nat) {cd : Int32} {ty : Nat} {ft : Nat → Int32} {gc : Nat} {fg fo fh : Nat → Int32} {fs ff : Nat → Int64} {fq : Nat → Int32} {mk : Nat} {fm fi : Nat → Int32} {de ps : Nat} {re : Int32} {go : Bool} {kd pr fa fr : Nat → Int32} (i r : Nat) (Bq : Nat → Bool) (hi : i < 5) (hr9 : r < 5056) (hB : mB (fun k => fs (79 * i + k)) Bq) : Met l yM_isIn wM_isIn (rmF 0) (va_Pc [.ref (d 0), .int (nI i), .int (nI r)] (fun U => va_P D vC (mW z d n cd ty ft gc fg fo fh fs ff fq mk fm fi de ps re go kd pr fa fr) U.heap ∧ va_K D vC (tyL z) U)) (vp_Si (fun q => q = bI (Bq r))) 0 0 (fun _ => False) := by
  have hb9 := hB r hr9
  refine Met.ofW (cc := prog_9_method_22_code) (maxL := 3) (ret := (some .boolean)) (by decide) rfl ?_
  intro p e s m args below meth c s₁ B hml hv
  have hx := B.exec
  have hb := B.bytes
  have hr := B.returns
  have ht : ∀ w ∈ TB, w.before args s = true := fun w h => atoms_spec (ws := wM_isIn) B.pre w (List.mem_cons_of_mem _ h)
  have hown : s.vm.findClass "PermutationDeskModel" = some m.cls := findClass_of_methodNamed B.named
  have hlocks := B.notSynchronized
  obtain ⟨rfl, hP, hK⟩ := hv
  have hl := lv_entry ([.ref (d 0), .int (nI i), .int (nI r)]) (n := 3) (Nat.le_of_ble_eq_true rfl)
  rw [lg_entry_eq]
  generalize (lg_sl ([.ref (d 0), .int (nI i), .int (nI r)]) ++ List.replicate (3 - (lg_sl ([.ref (d 0), .int (nI i), .int (nI r)])).length) Slot.unset).toArray = ls at hl ⊢
  have hl : lv_has ls 3 [(0, .ref (d 0)), (1, .int (nI i)), (2, .int (nI r))] := hl
  refine lv_aload_n hx hb dM_isIn_0 rfl (lv_at hl 0 rfl) ?_
  refine va_get (ci := 5) (C := RM) (T := TM) (N := 26) hx hb ht inM hown hK hP 0 rfl rfl 12 (by decide) (ht _ tw_661) (fun _ h9 => h9) rfl dM_isIn_1 ?_
  refine lv_bipush (v := 79) hx hb dM_isIn_4 (by decide) ?_
  refine lv_iload_n hx hb dM_isIn_6 rfl (lv_at hl 1 rfl) ?_
  refine lv_imul hx hb dM_isIn_7 ?_
  refine lv_iload_n hx hb dM_isIn_8 rfl (lv_at hl 2 rfl) ?_
  refine lv_bipush (v := 64) hx hb dM_isIn_9 (by decide) ?_
  refine lv_idiv hx hb dM_isIn_11 (by decide) ?_
  refine lv_iadd hx hb dM_isIn_12 ?_
  refine wti (x' := nI (79 * i + r / 64)) (by rw [show (79 : Int32) * nI i = nI (79 * i) from pk_mul 79 i, show nI r / 64 = nI (r / 64) from pk_div (d := 64) (by omega) (by decide) (by decide), nI_add]) ?_
  refine va_lald hx hb hK hP 8 0 rfl rfl (vp_in_nI (N := 395) (by omega) (by decide)) dM_isIn_13 ?_
  refine lv_iload_n hx hb dM_isIn_14 rfl (lv_at hl 2 rfl) ?_
  refine lv_bipush (v := 64) hx hb dM_isIn_15 (by decide) ?_
  refine lv_irem hx hb dM_isIn_17 (by decide) ?_
  refine wti (x' := nI (r % 64)) (pk_rem (d := 64) (by omega) (by decide) (by decide)) ?_
  refine lv_lshr hx hb dM_isIn_18 rfl ?_
  refine lv_lconst (v := 1) hx hb dM_isIn_19 (by decide) ?_
  refine lv_land hx hb dM_isIn_20 ?_
  refine wtl (x' := if Bq r = true then 1 else 0) (by rw [nI_clamp (by omega), mb_bit _ (Nat.mod_lt _ (by decide)), hb9]) ?_
  refine lv_lconst (v := 1) hx hb dM_isIn_21 (by decide) ?_
  refine W.lcmp hx hb dM_isIn_22 ?_
  refine lv_if_ne (tgt := 30) hx hb dM_isIn_23 rfl (fun h => ?_) (fun h => ?_)
  · have h9 : Bq r = false := by
      cases h8 : Bq r with
      | false => rfl
      | true => exact absurd ((lg_cmp_eq _ _).mpr ((mb_eq _).mpr h8)) h
    refine lv_iconst (v := 0) hx hb dM_isIn_30 (by decide) ?_
    exact W.zret (v := 0) hx hb hr rfl (fun t h _ => ⟨_, rfl, by rw [h9]; rfl, h⟩) (fun q h => by cases h) dM_isIn_31
  have h9 : Bq r = true := (mb_eq _).mp ((lg_cmp_eq _ _).mp h)
  refine lv_iconst (v := 1) hx hb dM_isIn_26 (by decide) ?_
  refine lv_goto (tgt := 31) hx hb dM_isIn_27 rfl ?_
  exact W.zret (v := 1) hx hb hr rfl (fun t h _ => ⟨_, rfl, by rw [h9]; rfl, h⟩) (fun q h => by cases h) dM_isIn_31
set_option maxHeartbeats 1000000 in
set_option maxRecDepth 100000 in
theorem c_M_isFilled (l : Launch) (D : va_G) (z : Nat → ClassId) (d : Nat → Nat) (n : Nat) {cd : Int32} {ty : Nat} {ft : Nat → Int32} {gc : Nat} {fg fo fh : Nat → Int32} {fs ff : Nat → Int64} {fq : Nat → Int32} {mk : Nat} {fm fi : Nat → Int32} {de ps : Nat} {re : Int32} {go : Bool} {kd pr fa fr : Nat → Int32} (r : Nat) (Bq : Nat → Bool) (hr9 : r < 5056) (hB : mB ff Bq) : Met l yM_isFilled wM_isFilled (rmF 0) (va_Pc [.ref (d 0), .int (nI r)] (fun U => va_P D vC (mW z d n cd ty ft gc fg fo fh fs ff fq mk fm fi de ps re go kd pr fa fr) U.heap ∧ va_K D vC (tyL z) U)) (vp_Si (fun q => q = bI (Bq r))) 0 0 (fun _ => False) := by
  have hb9 := hB r hr9
  refine Met.ofW (cc := prog_9_method_23_code) (maxL := 2) (ret := (some .boolean)) (by decide) rfl ?_
  intro p e s m args below meth c s₁ B hml hv
  have hx := B.exec
  have hb := B.bytes
  have hr := B.returns
  have ht : ∀ w ∈ TB, w.before args s = true := fun w h => atoms_spec (ws := wM_isFilled) B.pre w (List.mem_cons_of_mem _ h)
  have hown : s.vm.findClass "PermutationDeskModel" = some m.cls := findClass_of_methodNamed B.named
  have hlocks := B.notSynchronized
  obtain ⟨rfl, hP, hK⟩ := hv
  have hl := lv_entry ([.ref (d 0), .int (nI r)]) (n := 2) (Nat.le_of_ble_eq_true rfl)
  rw [lg_entry_eq]
  generalize (lg_sl ([.ref (d 0), .int (nI r)]) ++ List.replicate (2 - (lg_sl ([.ref (d 0), .int (nI r)])).length) Slot.unset).toArray = ls at hl ⊢
  have hl : lv_has ls 2 [(0, .ref (d 0)), (1, .int (nI r))] := hl
  refine lv_aload_n hx hb dM_isFilled_0 rfl (lv_at hl 0 rfl) ?_
  refine va_get (ci := 5) (C := RM) (T := TM) (N := 26) hx hb ht inM hown hK hP 0 rfl rfl 13 (by decide) (ht _ tw_662) (fun _ h9 => h9) rfl dM_isFilled_1 ?_
  refine lv_iload_n hx hb dM_isFilled_4 rfl (lv_at hl 1 rfl) ?_
  refine lv_bipush (v := 64) hx hb dM_isFilled_5 (by decide) ?_
  refine lv_idiv hx hb dM_isFilled_7 (by decide) ?_
  refine wti (x' := nI (r / 64)) (pk_div (d := 64) (by omega) (by decide) (by decide)) ?_
  refine va_lald hx hb hK hP 9 0 rfl rfl (vp_in_nI (N := 79) (by omega) (by decide)) dM_isFilled_8 ?_
  refine lv_iload_n hx hb dM_isFilled_9 rfl (lv_at hl 1 rfl) ?_
  refine lv_bipush (v := 64) hx hb dM_isFilled_10 (by decide) ?_
  refine lv_irem hx hb dM_isFilled_12 (by decide) ?_
  refine wti (x' := nI (r % 64)) (pk_rem (d := 64) (by omega) (by decide) (by decide)) ?_
  refine lv_lshr hx hb dM_isFilled_13 rfl ?_
  refine lv_lconst (v := 1) hx hb dM_isFilled_14 (by decide) ?_
  refine lv_land hx hb dM_isFilled_15 ?_
  refine wtl (x' := if Bq r = true then 1 else 0) (by rw [nI_clamp (by omega), mb_bit _ (Nat.mod_lt _ (by decide)), hb9]) ?_
  refine lv_lconst (v := 1) hx hb dM_isFilled_16 (by decide) ?_
  refine W.lcmp hx hb dM_isFilled_17 ?_
  refine lv_if_ne (tgt := 25) hx hb dM_isFilled_18 rfl (fun h => ?_) (fun h => ?_)
  · have h9 : Bq r = false := by
      cases h8 : Bq r with
      | false => rfl
      | true => exact absurd ((lg_cmp_eq _ _).mpr ((mb_eq _).mpr h8)) h
    refine lv_iconst (v := 0) hx hb dM_isFilled_25 (by decide) ?_
    exact W.zret (v := 0) hx hb hr rfl (fun t h _ => ⟨_, rfl, by rw [h9]; rfl, h⟩) (fun q h => by cases h) dM_isFilled_26
  have h9 : Bq r = true := (mb_eq _).mp ((lg_cmp_eq _ _).mp h)
  refine lv_iconst (v := 1) hx hb dM_isFilled_21 (by decide) ?_
  refine lv_goto (tgt := 26) hx hb dM_isFilled_22 rfl ?_
  exact W.zret (v := 1) hx hb hr rfl (fun t h _ => ⟨_, rfl, by rw [h9]; rfl, h⟩) (fun q h => by cases h) dM_isFilled_26
set_option maxHeartbeats 1000000 in
set_option maxRecDepth 100000 in
theorem c_M_clearFilled (l : Launch) (D : va_G) (z : Nat → ClassId) (d : Nat → Nat) (n : Nat) {cd : Int32} {ty : Nat} {ft : Nat → Int32} {gc : Nat} {fg fo fh : Nat → Int32} {fs ff : Nat → Int64} {fq : Nat → Int32} {mk : Nat} {fm fi : Nat → Int32} {de ps : Nat} {re : Int32} {go : Bool} {kd pr fa fr : Nat → Int32} (sz : Nat) : Met l yM_clearFilled wM_clearFilled (rmF 0) (va_Pc [.ref (d 0)] (fun U => U.heap.size = sz ∧ va_P D vC (mW z d n cd ty ft gc fg fo fh fs ff fq mk fm fi de ps re go kd pr fa fr) U.heap ∧ va_K D vC (tyL z) U ∧ va_D (fun _ => True) (mW z d n cd ty ft gc fg fo fh fs ff fq mk fm fi de ps re go kd pr fa fr))) (va_Qv (fun u : Nat → Int64 => mB u (fun _ => false)) (fun u t => va_P D vC (mW z d n cd ty ft gc fg fo fh fs u fq mk fm fi de ps re go kd pr fa fr) t.heap ∧ va_D (va_A (mW z d n cd ty ft gc fg fo fh fs ff fq mk fm fi de ps re go kd pr fa fr) sz) (mW z d n cd ty ft gc fg fo fh fs u fq mk fm fi de ps re go kd pr fa fr)) (va_A (mW z d n cd ty ft gc fg fo fh fs ff fq mk fm fi de ps re go kd pr fa fr) sz)) 0 0 (va_A (mW z d n cd ty ft gc fg fo fh fs ff fq mk fm fi de ps re go kd pr fa fr) sz) := by
  refine Met.ofW (cc := prog_9_method_24_code) (maxL := 2) (ret := none) (by decide) rfl ?_
  intro p e s m args below meth c s₁ B hml hv
  have hx := B.exec
  have hb := B.bytes
  have hr := B.returns
  have ht : ∀ w ∈ TB, w.before args s = true := fun w h => atoms_spec (ws := wM_clearFilled) B.pre w (List.mem_cons_of_mem _ h)
  have hown : s.vm.findClass "PermutationDeskModel" = some m.cls := findClass_of_methodNamed B.named
  have hlocks := B.notSynchronized
  obtain ⟨rfl, hsz, hP, hK, hD0⟩ := hv
  subst hsz
  have hD := hD0.self (sz := s.heap.size)
  generalize hAe : va_A (mW z d n cd ty ft gc fg fo fh fs ff fq mk fm fi de ps re go kd pr fa fr) s.heap.size = A at hD ⊢
  have hA : ∀ q : Nat, s.heap.size ≤ q → A q := fun q h => by rw [← hAe]; exact Or.inr h
  have hS : va_S A s.heap s.heap [] := va_S.rf
  have hl := lv_entry ([.ref (d 0)]) (n := 2) (Nat.le_of_ble_eq_true rfl)
  rw [lg_entry_eq]
  generalize (lg_sl ([.ref (d 0)]) ++ List.replicate (2 - (lg_sl ([.ref (d 0)])).length) Slot.unset).toArray = ls at hl ⊢
  have hl : lv_has ls 2 [(0, .ref (d 0))] := hl
  refine lv_iconst (v := 0) hx hb dM_clearFilled_0 (by decide) ?_
  refine lv_istore_n hx hb dM_clearFilled_1 rfl hl (by decide) rfl (fun ls hl => ?_)
  replace hl : lv_has ls 2 [(1, .int (nI 0)), (0, .ref (d 0))] := hl
  refine wl (σ := Nat × (Nat → Int64)) (I := fun q st H locs ls => q + st.1 = 79 ∧ (∀ j, j < st.1 → st.2 j = 0) ∧ va_P D vC (mW z d n cd ty ft gc fg fo fh fs st.2 fq mk fm fi de ps re go kd pr fa fr) H ∧ va_D A (mW z d n cd ty ft gc fg fo fh fs st.2 fq mk fm fi de ps re go kd pr fa fr) ∧ va_S A s.heap H locs ∧ lv_has ls 2 [(1, .int (nI st.1)), (0, .ref (d 0))]) ?_ 79 (0, ff) _ _ ls ⟨rfl, fun j hj => absurd hj (Nat.not_lt_zero j), hP, hD, hS, hl⟩
  clear hP hD hS hl
  rintro q ⟨k, f9⟩ H locs ls ⟨hdk, hz, hP, hD, hS, hl⟩ ih
  replace hdk : q + k = 79 := hdk
  replace hz : ∀ j, j < k → f9 j = 0 := hz
  replace hP : va_P D vC (mW z d n cd ty ft gc fg fo fh fs f9 fq mk fm fi de ps re go kd pr fa fr) H := hP
  replace hD : va_D A (mW z d n cd ty ft gc fg fo fh fs f9 fq mk fm fi de ps re go kd pr fa fr) := hD
  replace hl : lv_has ls 2 [(1, .int (nI k)), (0, .ref (d 0))] := hl
  refine lv_iload_n hx hb dM_clearFilled_2 rfl (lv_at hl 0 rfl) ?_
  refine lv_bipush (v := 79) hx hb dM_clearFilled_3 (by decide) ?_
  refine lv_icmp_ge (tgt := 21) hx hb dM_clearFilled_5 rfl (fun h => ?_) (fun h => ?_)
  · have hk : k = 79 := by have := (nI_leI (a := 79) (by omega) (by omega)).mp h; omega
    subst hk
    exact W.vret hx hb hr (fun t ht hW => ⟨⟨f9, rfl, mB.zero hz, by rw [ht]; exact hP, hD⟩, hS.F ht⟩) hS.2.2 dM_clearFilled_21
  have hk : k < 79 := by
    have : ¬ _ := fun q => h ((nI_leI (a := 79) (b := k) (by omega) (by omega)).mpr q)
    omega
  refine lv_aload_n hx hb dM_clearFilled_8 rfl (lv_at hl 1 rfl) ?_
  refine va_get (ci := 5) (C := RM) (T := TM) (N := 26) hx hb ht inM hown hK hP 0 rfl rfl 13 (by decide) (ht _ tw_662) (fun _ h9 => h9) rfl dM_clearFilled_9 ?_
  refine lv_iload_n hx hb dM_clearFilled_12 rfl (lv_at hl 0 rfl) ?_
  refine lv_lconst (v := 0) hx hb dM_clearFilled_13 (by decide) ?_
  refine va_last hx hb hK hP hD hS 9 0 rfl rfl (vp_in_nI (N := 79) (by omega) (by decide)) dM_clearFilled_14 (fun H locs hP hD hS => ?_)
  rw [nI_clamp (by omega)] at hP hD
  refine lv_iinc (k := 0) (v := (nI (k + 1))) hx hb dM_clearFilled_15 hl rfl (by exact nI_1 _) (by decide) rfl (fun ls hl => ?_)
  replace hl : lv_has ls 2 [(1, .int (nI (k + 1))), (0, .ref (d 0))] := hl
  refine lv_goto (tgt := 2) hx hb dM_clearFilled_18 rfl ?_
  refine ih (q - 1) (k + 1, vp_updL f9 k 0) _ _ ls (by omega) ⟨by show q - 1 + (k + 1) = 79; omega, ?_, hP, hD, hS, lv_sub hl [0, 1] rfl⟩
  intro j hj
  replace hj : j < k + 1 := hj
  by_cases e : j = k
  · rw [e]; exact pk_uLs
  · show vp_updL f9 k 0 j = 0
    rw [pk_uLn e]; exact hz j (by omega)
set_option maxHeartbeats 1000000 in
set_option maxRecDepth 100000 in
theorem c_M_put (l : Launch) (D : va_G) (z : Nat → ClassId) (d : Nat → Nat) (n : Nat) {cd : Int32} {ty : Nat} {ft : Nat → Int32} {gc : Nat} {fg fo fh : Nat → Int32} {fs ff : Nat → Int64} {fq : Nat → Int32} {mk : Nat} {fm fi : Nat → Int32} {de ps : Nat} {re : Int32} {go : Bool} {kd pr fa fr : Nat → Int32} (sz r : Nat) (Bq : Nat → Bool) (hr9 : r < 5056) (hB : mB ff Bq) : Met l yM_put wM_put (rmF 0) (va_Pc [.ref (d 0), .int (nI r)] (fun U => U.heap.size = sz ∧ va_P D vC (mW z d n cd ty ft gc fg fo fh fs ff fq mk fm fi de ps re go kd pr fa fr) U.heap ∧ va_K D vC (tyL z) U ∧ va_D (fun _ => True) (mW z d n cd ty ft gc fg fo fh fs ff fq mk fm fi de ps re go kd pr fa fr))) (va_Qv (fun u : Nat → Int64 => mB u (va_up Bq r true)) (fun u t => va_P D vC (mW z d n cd ty ft gc fg fo fh fs u fq mk fm fi de ps re go kd pr fa fr) t.heap ∧ va_D (va_A (mW z d n cd ty ft gc fg fo fh fs ff fq mk fm fi de ps re go kd pr fa fr) sz) (mW z d n cd ty ft gc fg fo fh fs u fq mk fm fi de ps re go kd pr fa fr)) (va_A (mW z d n cd ty ft gc fg fo fh fs ff fq mk fm fi de ps re go kd pr fa fr) sz)) 0 0 (va_A (mW z d n cd ty ft gc fg fo fh fs ff fq mk fm fi de ps re go kd pr fa fr) sz) := by
  refine Met.ofW (cc := prog_9_method_25_code) (maxL := 2) (ret := none) (by decide) rfl ?_
  intro p e s m args below meth c s₁ B hml hv
  have hx := B.exec
  have hb := B.bytes
  have hr := B.returns
  have ht : ∀ w ∈ TB, w.before args s = true := fun w h => atoms_spec (ws := wM_put) B.pre w (List.mem_cons_of_mem _ h)
  have hown : s.vm.findClass "PermutationDeskModel" = some m.cls := findClass_of_methodNamed B.named
  have hlocks := B.notSynchronized
  obtain ⟨rfl, hsz, hP, hK, hD0⟩ := hv
  subst hsz
  have hD := hD0.self (sz := s.heap.size)
  generalize hAe : va_A (mW z d n cd ty ft gc fg fo fh fs ff fq mk fm fi de ps re go kd pr fa fr) s.heap.size = A at hD ⊢
  have hA : ∀ q : Nat, s.heap.size ≤ q → A q := fun q h => by rw [← hAe]; exact Or.inr h
  have hS : va_S A s.heap s.heap [] := va_S.rf
  have hl := lv_entry ([.ref (d 0), .int (nI r)]) (n := 2) (Nat.le_of_ble_eq_true rfl)
  rw [lg_entry_eq]
  generalize (lg_sl ([.ref (d 0), .int (nI r)]) ++ List.replicate (2 - (lg_sl ([.ref (d 0), .int (nI r)])).length) Slot.unset).toArray = ls at hl ⊢
  have hl : lv_has ls 2 [(0, .ref (d 0)), (1, .int (nI r))] := hl
  refine lv_aload_n hx hb dM_put_0 rfl (lv_at hl 0 rfl) ?_
  refine va_get (ci := 5) (C := RM) (T := TM) (N := 26) hx hb ht inM hown hK hP 0 rfl rfl 13 (by decide) (ht _ tw_662) (fun _ h9 => h9) rfl dM_put_1 ?_
  refine lv_iload_n hx hb dM_put_4 rfl (lv_at hl 1 rfl) ?_
  refine lv_bipush (v := 64) hx hb dM_put_5 (by decide) ?_
  refine lv_idiv hx hb dM_put_7 (by decide) ?_
  refine wti (x' := nI (r / 64)) (pk_div (d := 64) (by omega) (by decide) (by decide)) ?_
  refine lv_dup2_11 hx hb dM_put_8 rfl rfl ?_
  refine va_lald hx hb hK hP 9 0 rfl rfl (vp_in_nI (N := 79) (by omega) (by decide)) dM_put_9 ?_
  refine lv_lconst (v := 1) hx hb dM_put_10 (by decide) ?_
  refine lv_iload_n hx hb dM_put_11 rfl (lv_at hl 1 rfl) ?_
  refine lv_bipush (v := 64) hx hb dM_put_12 (by decide) ?_
  refine lv_irem hx hb dM_put_14 (by decide) ?_
  refine wti (x' := nI (r % 64)) (pk_rem (d := 64) (by omega) (by decide) (by decide)) ?_
  refine lv_lshl hx hb dM_put_15 rfl ?_
  refine lv_lor hx hb dM_put_16 ?_
  refine va_last hx hb hK hP hD hS 9 0 rfl rfl (vp_in_nI (N := 79) (by omega) (by decide)) dM_put_17 (fun H locs hP hD hS => ?_)
  rw [nI_clamp (by omega)] at hP hD
  exact W.vret hx hb hr (fun t ht hW => ⟨⟨_, rfl, hB.put (r := r), by rw [ht]; exact hP, hD⟩, hS.F ht⟩) hS.2.2 dM_put_18
/-! Ranks. -/
theorem mc_below {f : Nat → Bool} {v : Nat} : ∀ m, (List.range (v + m)).countP (fun i => decide (i < v) && f i) = (List.range v).countP f := by
  intro m
  induction m with
  | zero =>
    refine List.countP_congr (fun i hi => ?_)
    rw [List.mem_range] at hi
    rw [decide_eq_true (by omega : i < v), Bool.true_and]
  | succ m ih =>
    rw [show v + (m + 1) = (v + m) + 1 by omega, pg_count_succ, ih, decide_eq_false (by omega : ¬ v + m < v), Bool.false_and, if_neg (by decide), Nat.add_zero]
theorem mOn_at (us : Nat) {v : Nat} (hv : v ≤ 7) (h128 : us % 2 ^ v < 128) : mOn (us % 2 ^ v) = nI ((List.range v).countP us.testBit) := by
  unfold mOn pg_cb
  rw [if_pos h128]
  congr 1
  rw [← mc_below (f := us.testBit) (7 - v), show v + (7 - v) = 7 by omega]
  refine List.countP_congr (fun i _ => ?_)
  rw [Nat.testBit_mod_two_pow]
theorem mk_idx {us v : Nat} (hv : v < 31) : nI us &&& ((1 : Int32) <<< (nI v &&& 31) - 1) = nI (us % 2 ^ v) := by
  have h1 : (1 : Int32) <<< (nI v &&& 31) = nI (2 ^ v) := by
    have := pe_shl (n := 1) (k := v) (by omega) (by rw [Nat.one_mul]; exact Nat.pow_lt_pow_right (by decide) (by omega))
    rw [Nat.one_mul] at this
    exact this
  rw [h1, show nI (2 ^ v) - 1 = nI (2 ^ v - 1) from pk_sub (b := 1) (Nat.two_pow_pos v), pe_and, Nat.and_two_pow_sub_one_eq_mod]
theorem mk_or {us v : Nat} (hv : v < 31) : nI us ||| ((1 : Int32) <<< (nI v &&& 31)) = nI (us ||| 2 ^ v) := by
  have h1 : (1 : Int32) <<< (nI v &&& 31) = nI (2 ^ v) := by
    have := pe_shl (n := 1) (k := v) (by omega) (by rw [Nat.one_mul]; exact Nat.pow_lt_pow_right (by decide) (by omega))
    rw [Nat.one_mul] at this
    exact this
  rw [h1, pe_or]
/-- the first k points of x are read: the block of the row of all elements that begin so begins at r -/
def mRk (n k : Nat) (x : pg_F) (us r : Nat) : Prop := us < 2 ^ 7 ∧ (∀ v, us.testBit v = true ↔ ∃ j, j < k ∧ x j = v) ∧ r ≤ 5040 ∧ ∃ y, pg_P n y ∧ (∀ j, j < k → y j = x j) ∧ ∀ t, t < pg_fac (n - k) → (pg_all n)[r + t]? = (pg_L n (pg_full n) (n - k) k y)[t]?
theorem mRk_0 {n : Nat} (x : pg_F) : mRk n 0 x 0 0 := by
  refine ⟨by decide, fun v => ?_, by decide, pg_id, pg_P_id n, fun j hj => by omega, fun t _ => by rw [Nat.zero_add]; rfl⟩
  rw [Nat.zero_testBit]
  exact ⟨fun h => (by cases h), fun ⟨j, h, _⟩ => (by omega)⟩
theorem mRk_s {n k : Nat} {x : pg_F} {us r : Nat} (hn : n ≤ 7) (hx : pg_P n x) (hk : k < n) (h : mRk n k x us r) : (List.range (x k)).countP us.testBit ≤ x k ∧ mRk n (k + 1) x (us ||| 2 ^ x k) (r + (x k - (List.range (x k)).countP us.testBit) * pg_fac (n - 1 - k)) := by
  obtain ⟨h1, h2, h3, y, hy, hyx, hb⟩ := h
  have hxk := hx.1 k hk
  have hd : n - k = (n - 1 - k) + 1 := by omega
  have hfree : us.testBit (x k) = false := by
    cases q : us.testBit (x k) with
    | false => rfl
    | true =>
      obtain ⟨j, hj, e⟩ := (h2 _).mp q
      have := hx.2.2 j k (by omega) hk e
      omega
  obtain ⟨x', hx', e1, e2, e3⟩ := pg_all_step (n := n) (k := k) (d := n - 1 - k) (by omega) hy (u := us.testBit) (fun v hv => by
    rw [h2 v]
    exact ⟨fun ⟨j, a, b⟩ => ⟨j, a, by rw [hyx j a]; exact b⟩, fun ⟨j, a, b⟩ => ⟨j, a, by rw [← hyx j a]; exact b⟩⟩) hxk hfree
  have hu := pg_free_used us.testBit (x k)
  have hfr : x k - (List.range (x k)).countP us.testBit = pg_free us.testBit (x k) := by omega
  have hpos := pg_fac_pos (n - 1 - k)
  have hblk : ∀ t, t < pg_fac (n - 1 - k) → (pg_all n)[r + pg_free us.testBit (x k) * pg_fac (n - 1 - k) + t]? = (pg_L n (pg_full n) (n - 1 - k) (k + 1) x')[t]? := by
    intro t ht
    rw [Nat.add_assoc, hb _ ?_, hd, e3 t ht]
    have hlen : (pg_L n (pg_full n) (n - 1 - k) (k + 1) x').length = pg_fac (n - 1 - k) := by
      rw [pg_L_len (pg_full_ok n) (n - 1 - k) (k + 1) _ hx', pg_full_len (n - 1 - k) (k + 1) (by omega)]
    have hlen2 : (pg_L n (pg_full n) (n - 1 - k + 1) k y).length = pg_fac (n - 1 - k + 1) := by
      rw [pg_L_len (pg_full_ok n) (n - 1 - k + 1) k _ hy, pg_full_len (n - 1 - k + 1) k (by omega)]
    have e4 := e3 t ht
    rw [List.getElem?_eq_getElem (by omega : t < (pg_L n (pg_full n) (n - 1 - k) (k + 1) x').length)] at e4
    have := (List.getElem?_eq_some_iff.mp e4).1
    rw [hd, ← hlen2]
    exact this
  refine ⟨by omega, Nat.or_lt_two_pow h1 (Nat.pow_lt_pow_right (by decide) (by omega)), fun v => ?_, ?_, x', hx', fun j hj => ?_, fun t ht => ?_⟩
  · rw [Nat.testBit_or, Nat.testBit_two_pow, Bool.or_eq_true, h2 v]
    constructor
    · rintro (⟨j, hj, e⟩ | q)
      · exact ⟨j, by omega, e⟩
      · exact ⟨k, by omega, of_decide_eq_true q⟩
    · rintro ⟨j, hj, e⟩
      by_cases q : j = k
      · right; rw [← e, q]; exact decide_eq_true rfl
      · exact Or.inl ⟨j, by omega, e⟩
  · rw [hfr]
    have h5 := hblk 0 hpos
    have hlen : (pg_L n (pg_full n) (n - 1 - k) (k + 1) x').length = pg_fac (n - 1 - k) := by
      rw [pg_L_len (pg_full_ok n) (n - 1 - k) (k + 1) _ hx', pg_full_len (n - 1 - k) (k + 1) (by omega)]
    rw [List.getElem?_eq_getElem (by omega : 0 < (pg_L n (pg_full n) (n - 1 - k) (k + 1) x').length)] at h5
    have h6 := (pg_all_P h5).2
    have h7 := pg_fac_le n hn
    omega
  · by_cases q : j = k
    · rw [q]; exact e1
    · rw [e2 j (by omega), hyx j (by omega)]
  · rw [show n - (k + 1) = n - 1 - k by omega] at ht ⊢
    rw [hfr]
    exact hblk t ht
theorem mRk_n {n : Nat} {x : pg_F} {us r : Nat} (hx : pg_P n x) (h : mRk n n x us r) : (pg_all n)[r]? = some x := by
  obtain ⟨-, -, -, y, hy, hyx, hb⟩ := h
  have := hb 0 (by rw [Nat.sub_self]; exact pg_fac_pos 0)
  rw [Nat.sub_self, pg_ext hy hx hyx] at this
  exact this
set_option maxHeartbeats 2000000 in
set_option maxRecDepth 100000 in
theorem c_M_rankOf (l : Launch) (D : va_G) (z : Nat → ClassId) (d : Nat → Nat) (n : Nat) {cd : Int32} {ty : Nat} {ft : Nat → Int32} {gc : Nat} {fg fo fh : Nat → Int32} {fs ff : Nat → Int64} {fq : Nat → Int32} {mk : Nat} {fm fi : Nat → Int32} {de ps : Nat} {re : Int32} {go : Bool} {kd pr fa fr : Nat → Int32} (x : pg_F) (hn : n ≤ 7) (hxP : pg_P n x) : Met l yM_rankOf wM_rankOf (rmF 1) (va_Pc [.ref (d 0), .int (eI n x)] (fun U => va_P D vC (mW z d n cd ty ft gc fg fo fh fs ff fq mk fm fi de ps re go kd pr fa fr) U.heap ∧ va_K D vC (tyL z) U)) (vp_Si (fun q => ∃ r : Nat, q = nI r ∧ (pg_all n)[r]? = some x)) 0 0 (fun _ => False) := by
  have hx9 := hxP.d3 (by omega : n ≤ 8)
  refine Met.ofW (cc := prog_9_method_8_code) (maxL := 6) (ret := (some .int)) (by decide) rfl ?_
  intro p e s m args below meth c s₁ B hml hv
  have hx := B.exec
  have hb := B.bytes
  have hr := B.returns
  have ht : ∀ w ∈ TB, w.before args s = true := fun w h => atoms_spec (ws := wM_rankOf) B.pre w (List.mem_cons_of_mem _ h)
  have hown : s.vm.findClass "PermutationDeskModel" = some m.cls := findClass_of_methodNamed B.named
  have hlocks := B.notSynchronized
  obtain ⟨rfl, hP, hK⟩ := hv
  have hl := lv_entry ([.ref (d 0), .int (eI n x)]) (n := 6) (Nat.le_of_ble_eq_true rfl)
  rw [lg_entry_eq]
  generalize (lg_sl ([.ref (d 0), .int (eI n x)]) ++ List.replicate (6 - (lg_sl ([.ref (d 0), .int (eI n x)])).length) Slot.unset).toArray = ls at hl ⊢
  have hl : lv_has ls 6 [(0, .ref (d 0)), (1, .int (eI n x))] := hl
  refine lv_iconst (v := 0) hx hb dM_rankOf_0 (by decide) ?_
  refine lv_istore_n hx hb dM_rankOf_1 rfl hl (by decide) rfl (fun ls hl => ?_)
  replace hl : lv_has ls 6 [(2, .int (nI 0)), (0, .ref (d 0)), (1, .int (eI n x))] := hl
  refine lv_iconst (v := 0) hx hb dM_rankOf_2 (by decide) ?_
  refine lv_istore_n hx hb dM_rankOf_3 rfl hl (by decide) rfl (fun ls hl => ?_)
  replace hl : lv_has ls 6 [(3, .int (nI 0)), (2, .int (nI 0)), (0, .ref (d 0)), (1, .int (eI n x))] := hl
  refine lv_iconst (v := 0) hx hb dM_rankOf_4 (by decide) ?_
  refine lv_istore hx hb dM_rankOf_5 hl (by decide) rfl (fun ls hl => ?_)
  replace hl : lv_has ls 6 [(4, .int (nI 0)), (3, .int (nI 0)), (2, .int (nI 0)), (0, .ref (d 0)), (1, .int (eI n x))] := hl
  refine wl0 (σ := Nat × Nat × Nat) (I := fun q st ls => q + st.1 = n ∧ mRk n st.1 x st.2.1 st.2.2 ∧ lv_has ls 6 [(4, .int (nI st.1)), (3, .int (nI st.2.2)), (2, .int (nI st.2.1)), (0, .ref (d 0)), (1, .int (eI n x))]) ?_ n (0, 0, 0) ls ⟨rfl, mRk_0 x, hl⟩
  rintro q ⟨k, us, r⟩ ls ⟨hdk, hrk, hl⟩ ih
  replace hdk : q + k = n := hdk
  replace hrk : mRk n k x us r := hrk
  replace hl : lv_has ls 6 [(4, .int (nI k)), (3, .int (nI r)), (2, .int (nI us)), (0, .ref (d 0)), (1, .int (eI n x))] := hl
  refine lv_iload hx hb dM_rankOf_7 (lv_at hl 0 rfl) ?_
  refine lv_aload_n hx hb dM_rankOf_9 rfl (lv_at hl 3 rfl) ?_
  refine va_get (ci := 5) (C := RM) (T := TM) (N := 26) hx hb ht inM hown hK hP 0 rfl rfl 0 (by decide) (ht _ tw_649) (fun _ h9 => h9) rfl dM_rankOf_10 ?_
  refine lv_icmp_ge (tgt := 72) hx hb dM_rankOf_13 rfl (fun h => ?_) (fun h => ?_)
  · have hk : k = n := by have := (nI_leI (by omega) (by omega)).mp h; omega
    subst hk
    refine lv_iload_n hx hb dM_rankOf_72 rfl (lv_at hl 1 rfl) ?_
    exact W.iret hx hb hr (fun t h _ => ⟨_, rfl, ⟨r, rfl, mRk_n hxP hrk⟩, h⟩) (fun q h => by cases h) dM_rankOf_73
  have hk : k < n := by
    rw [nI_leI (by omega) (by omega)] at h
    omega
  have hxk := hxP.1 k hk
  obtain ⟨hle, hrk'⟩ := mRk_s hn hxP hk hrk
  have hus := hrk.1
  refine lv_aload_n hx hb dM_rankOf_16 rfl (lv_at hl 3 rfl) ?_
  refine lv_iload_n hx hb dM_rankOf_17 rfl (lv_at hl 4 rfl) ?_
  refine lv_iload hx hb dM_rankOf_18 (lv_at hl 0 rfl) ?_
  refine qV_i (ci := 5) (q0 := 0) (As := [.int (eI n x), .int (nI k)]) (rest := []) ⟨hx, hb, hml, hown, ht⟩ (c_M_apply l D z d n k x hn hx9 hk) (cB 2 ht gM_apply rfl tw_64 tw_765 (by decide +kernel) ⟨by decide, by decide⟩) tw_767 tw_35 hK (hP) rfl rfl rfl hl.1 rfl (Nat.le_of_ble_eq_true rfl) dM_rankOf_20 ⟨by decide, by decide⟩ (fun r20 h20 => ?_)
  subst h20
  refine lv_istore hx hb dM_rankOf_23 hl (by decide) rfl (fun ls hl => ?_)
  replace hl : lv_has ls 6 [(5, .int (nI (x k))), (4, .int (nI k)), (3, .int (nI r)), (2, .int (nI us)), (0, .ref (d 0)), (1, .int (eI n x))] := hl
  refine lv_iload_n hx hb dM_rankOf_25 rfl (lv_at hl 2 rfl) ?_
  refine lv_iload hx hb dM_rankOf_26 (lv_at hl 0 rfl) ?_
  refine lv_aload_n hx hb dM_rankOf_28 rfl (lv_at hl 4 rfl) ?_
  refine va_get (ci := 5) (C := RM) (T := TM) (N := 26) hx hb ht inM hown hK hP 0 rfl rfl 4 (by decide) (ht _ tw_653) (fun _ h9 => h9) rfl dM_rankOf_29 ?_
  refine lv_iload_n hx hb dM_rankOf_32 rfl (lv_at hl 3 rfl) ?_
  refine lv_iconst (v := 1) hx hb dM_rankOf_33 (by decide) ?_
  refine lv_iload hx hb dM_rankOf_34 (lv_at hl 0 rfl) ?_
  refine lv_ishl hx hb dM_rankOf_36 ?_
  refine lv_iconst (v := 1) hx hb dM_rankOf_37 (by decide) ?_
  refine lv_isub hx hb dM_rankOf_38 ?_
  refine lv_iand hx hb dM_rankOf_39 ?_
  refine wti (x' := nI (us % 2 ^ x k)) (mk_idx (by omega)) ?_
  have hm128 : us % 2 ^ x k < 128 := Nat.lt_of_le_of_lt (Nat.mod_le _ _) hus
  refine va_iald hx hb hK hP 2 1 rfl rfl (vp_in_nI (N := 128) hm128 (by decide)) dM_rankOf_40 ?_
  refine wti (x' := nI ((List.range (x k)).countP us.testBit)) (by rw [nI_clamp (by omega)]; exact mOn_at us (by omega) hm128) ?_
  refine lv_isub hx hb dM_rankOf_41 ?_
  refine lv_aload_n hx hb dM_rankOf_42 rfl (lv_at hl 4 rfl) ?_
  refine va_get (ci := 5) (C := RM) (T := TM) (N := 26) hx hb ht inM hown hK hP 0 rfl rfl 5 (by decide) (ht _ tw_654) (fun _ h9 => h9) rfl dM_rankOf_43 ?_
  refine lv_aload_n hx hb dM_rankOf_46 rfl (lv_at hl 4 rfl) ?_
  refine va_get (ci := 5) (C := RM) (T := TM) (N := 26) hx hb ht inM hown hK hP 0 rfl rfl 0 (by decide) (ht _ tw_649) (fun _ h9 => h9) rfl dM_rankOf_47 ?_
  refine lv_iconst (v := 1) hx hb dM_rankOf_50 (by decide) ?_
  refine lv_isub hx hb dM_rankOf_51 ?_
  refine lv_iload hx hb dM_rankOf_52 (lv_at hl 1 rfl) ?_
  refine lv_isub hx hb dM_rankOf_54 ?_
  refine wti (x' := nI (n - 1 - k)) (by rw [show nI n - 1 = nI (n - 1) from pk_sub (b := 1) (by omega), pk_sub (by omega)]) ?_
  refine va_iald hx hb hK hP 3 1 rfl rfl (vp_in_nI (N := 8) (by omega) (by decide)) dM_rankOf_55 ?_
  refine wti (x' := nI (pg_fac (n - 1 - k))) (by rw [nI_clamp (by omega)]; exact if_pos (by omega)) ?_
  refine lv_imul hx hb dM_rankOf_56 ?_
  refine lv_iadd hx hb dM_rankOf_57 ?_
  refine wti (x' := nI (r + (x k - (List.range (x k)).countP us.testBit) * pg_fac (n - 1 - k))) (by rw [pk_sub hle, pk_mul, nI_add]) ?_
  refine lv_istore_n hx hb dM_rankOf_58 rfl hl (by decide) rfl (fun ls hl => ?_)
  replace hl : lv_has ls 6 [(3, .int (nI (r + (x k - (List.range (x k)).countP us.testBit) * pg_fac (n - 1 - k)))), (5, .int (nI (x k))), (4, .int (nI k)), (2, .int (nI us)), (0, .ref (d 0)), (1, .int (eI n x))] := hl
  refine lv_iload_n hx hb dM_rankOf_59 rfl (lv_at hl 3 rfl) ?_
  refine lv_iconst (v := 1) hx hb dM_rankOf_60 (by decide) ?_
  refine lv_iload hx hb dM_rankOf_61 (lv_at hl 1 rfl) ?_
  refine lv_ishl hx hb dM_rankOf_63 ?_
  refine lv_ior hx hb dM_rankOf_64 ?_
  refine wti (x' := nI (us ||| 2 ^ x k)) (mk_or (by omega)) ?_
  refine lv_istore_n hx hb dM_rankOf_65 rfl hl (by decide) rfl (fun ls hl => ?_)
  replace hl : lv_has ls 6 [(2, .int (nI (us ||| 2 ^ x k))), (3, .int (nI (r + (x k - (List.range (x k)).countP us.testBit) * pg_fac (n - 1 - k)))), (5, .int (nI (x k))), (4, .int (nI k)), (0, .ref (d 0)), (1, .int (eI n x))] := hl
  refine lv_iinc (k := 3) (v := (nI (k + 1))) hx hb dM_rankOf_66 hl rfl (by exact nI_1 _) (by decide) rfl (fun ls hl => ?_)
  replace hl : lv_has ls 6 [(4, .int (nI (k + 1))), (2, .int (nI (us ||| 2 ^ x k))), (3, .int (nI (r + (x k - (List.range (x k)).countP us.testBit) * pg_fac (n - 1 - k)))), (5, .int (nI (x k))), (0, .ref (d 0)), (1, .int (eI n x))] := hl
  refine lv_goto (tgt := 7) hx hb dM_rankOf_69 rfl ?_
  exact ih (q - 1) (k + 1, us ||| 2 ^ x k, r + (x k - (List.range (x k)).countP us.testBit) * pg_fac (n - 1 - k)) ls (by omega) ⟨by show q - 1 + (k + 1) = n; omega, hrk', lv_sub hl [0, 2, 1, 4, 5] rfl⟩
