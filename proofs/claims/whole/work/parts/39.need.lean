/-! Desk: what a call needs; the element of the text. -/
theorem nI_of9 {p : Int32} (h : ¬ p < 0) : p = nI p.toNatClampNeg ∧ p.toNatClampNeg < 2 ^ 31 := by
  have h1 : ¬ p.toInt < 0 := fun q => h (by rw [Int32.lt_iff_toInt_lt, Int32.toInt_zero]; exact q)
  have h2 := Int32.toInt_lt p
  have h3 : p.toNatClampNeg < 2 ^ 31 := by show p.toInt.toNat < 2 ^ 31; omega
  refine ⟨Int32.toInt_inj.mp ?_, h3⟩
  rw [nI_toInt h3]
  show p.toInt = ((p.toInt.toNat : Nat) : Int)
  omega
/-- the desk itself -/
abbrev dO (d : Nat → Nat) (n len gc wk pr : Nat) : Nat × va_E := (d 0, .inr (2, [.int (nI n), .ref (d 1), .int (nI len), .ref (d 2), .ref (d 3), .int (nI gc), .ref (d 4), .ref wk, .ref pr]))
abbrev rmX (k mc ms : Nat) : Room := { frames := k, cells := mc, slots := ms, locals := 40 * k }
/-- a number that is one of the first N -/
def iN (p : Int32) (N : Nat) : Prop := ∃ k : Nat, p = nI k ∧ k < N
theorem iN_of {p : Int32} {N : Nat} (hN : N < 2 ^ 31) : iN p N ↔ ¬ p < 0 ∧ ¬ nI N ≤ p := by
  constructor
  · rintro ⟨k, rfl, hk⟩
    exact ⟨nI_pos (by omega), nI_ge hk hN⟩
  · rintro ⟨h1, h2⟩
    obtain ⟨e, h3⟩ := nI_of9 h1
    refine ⟨_, e, ?_⟩
    rw [e, nI_leI hN h3] at h2
    omega
set_option maxHeartbeats 1000000 in
set_option maxRecDepth 100000 in
theorem c_D_needPoint (l : Launch) (hst : l.stackTraces = false) (D : va_G) (z : Nat → ClassId) (d : Nat → Nat) (sz n len gc wk pr : Nat) (hn7 : n ≤ 7) (x : Int32) : vx_Met l yD_needPoint wD_needPoint (rmX 6 1 6) (va_Pc [.ref (d 0), .int x] (xPc D (tyL z) [dO d n len gc wk pr] sz)) (va_Qv (fun _ : Unit => iN x n) (fun _ t => va_P D vC [dO d n len gc wk pr] t.heap ∧ va_D (va_A [dO d n len gc wk pr] sz) [dO d n len gc wk pr]) (va_A [dO d n len gc wk pr] sz)) (xX D (fun E (_ : Unit) => E = eIO ∧ ¬ iN x n) (fun _ => [dO d n len gc wk pr]) (va_A [dO d n len gc wk pr] sz)) 1 6 (va_A [dO d n len gc wk pr] sz) := by
  refine vx_ofW (cc := prog_1_method_20_code) (maxL := 2) (ret := none) (by decide) rfl ?_
  intro p e s m args below meth c s₁ B hml hout hv
  have hx := B.exec
  have hb := B.bytes
  have hr := B.returns
  have ht : ∀ w ∈ TB, w.before args s = true := fun w h => atoms_spec (ws := wD_needPoint) B.pre w (List.mem_cons_of_mem _ h)
  have hown : s.vm.findClass "PermutationDesk" = some m.cls := findClass_of_methodNamed B.named
  have hlocks := B.notSynchronized
  obtain ⟨rfl, ⟨hsz, hP, hK, hD0⟩, hV, hH⟩ := hv
  subst hsz
  have hD := hD0.self (sz := s.heap.size)
  generalize hAe : va_A ([dO d n len gc wk pr]) s.heap.size = A at hD hH ⊢
  have hA : ∀ q : Nat, s.heap.size ≤ q → A q := fun q h => by rw [← hAe]; exact Or.inr h
  have hS : va_S A s.heap s.heap [] := va_S.rf
  have hl := lv_entry ([.ref (d 0), .int x]) (n := 2) (Nat.le_of_ble_eq_true rfl)
  rw [lg_entry_eq]
  generalize (lg_sl ([.ref (d 0), .int x]) ++ List.replicate (2 - (lg_sl ([.ref (d 0), .int x])).length) Slot.unset).toArray = ls at hl ⊢
  have hl : lv_has ls 2 [(0, .ref (d 0)), (1, .int x)] := hl
  refine lv_iload_n hx hb dD_needPoint_0 rfl (lv_at hl 1 rfl) ?_
  refine lv_if_lt (tgt := 12) hx hb dD_needPoint_1 rfl (fun h1 => ?_) (fun h1 => ?_)
  · have hno : ¬ iN x n := fun q => ((iN_of (by omega)).mp q).1 h1
    exact qT (cls := eIO) (is := 163) (text := "no such point") hx hb hst hown (by decide +kernel) ht tw_351 tw_70 (by decide) (x_atO ht hV) x_gdO hV hH () ⟨rfl, hno⟩ hP hD hS hml hl.1 dD_needPoint_12 dD_needPoint_15 dD_needPoint_16 dD_needPoint_18 dD_needPoint_21 hout (by decide) (Nat.le_of_ble_eq_true rfl) (by decide) hlocks hS.2.2 (by decide)
  refine lv_iload_n hx hb dD_needPoint_4 rfl (lv_at hl 1 rfl) ?_
  refine lv_aload_n hx hb dD_needPoint_5 rfl (lv_at hl 0 rfl) ?_
  refine va_get (ci := 2) (C := RD) (T := TD) (N := 9) hx hb ht inD hown hK hP 0 rfl rfl 0 (by decide) (ht _ tw_125) (fun _ h9 => h9) rfl dD_needPoint_6 ?_
  refine lv_icmp_lt (tgt := 22) hx hb dD_needPoint_9 rfl (fun h9 => ?_) (fun h9 => ?_)
  · have hyes : iN x n := (iN_of (by omega)).mpr ⟨h1, fun q => Int32.not_le.mpr h9 q⟩
    refine vx_ret (W.widen (k := 1) (n := 6) (by decide) (by decide) ?_)
    exact W.vret hx hb hr (fun t ht hW => ⟨⟨(), rfl, hyes, by rw [ht]; exact hP, hD⟩, hS.F ht⟩) hS.2.2 dD_needPoint_22
  have hno : ¬ iN x n := fun q => h9 (Int32.not_le.mp ((iN_of (by omega)).mp q).2)
  exact qT (cls := eIO) (is := 163) (text := "no such point") hx hb hst hown (by decide +kernel) ht tw_351 tw_70 (by decide) (x_atO ht hV) x_gdO hV hH () ⟨rfl, hno⟩ hP hD hS hml hl.1 dD_needPoint_12 dD_needPoint_15 dD_needPoint_16 dD_needPoint_18 dD_needPoint_21 hout (by decide) (Nat.le_of_ble_eq_true rfl) (by decide) hlocks hS.2.2 (by decide)
set_option maxHeartbeats 1000000 in
set_option maxRecDepth 100000 in
theorem c_D_needSlot (l : Launch) (hst : l.stackTraces = false) (D : va_G) (z : Nat → ClassId) (d : Nat → Nat) (sz n len gc wk pr : Nat) (x : Int32) : vx_Met l yD_needSlot wD_needSlot (rmX 6 1 6) (va_Pc [.ref (d 0), .int x] (xPc D (tyL z) [dO d n len gc wk pr] sz)) (va_Qv (fun _ : Unit => iN x 5) (fun _ t => va_P D vC [dO d n len gc wk pr] t.heap ∧ va_D (va_A [dO d n len gc wk pr] sz) [dO d n len gc wk pr]) (va_A [dO d n len gc wk pr] sz)) (xX D (fun E (_ : Unit) => E = eIO ∧ ¬ iN x 5) (fun _ => [dO d n len gc wk pr]) (va_A [dO d n len gc wk pr] sz)) 1 6 (va_A [dO d n len gc wk pr] sz) := by
  refine vx_ofW (cc := prog_1_method_21_code) (maxL := 2) (ret := none) (by decide) rfl ?_
  intro p e s m args below meth c s₁ B hml hout hv
  have hx := B.exec
  have hb := B.bytes
  have hr := B.returns
  have ht : ∀ w ∈ TB, w.before args s = true := fun w h => atoms_spec (ws := wD_needSlot) B.pre w (List.mem_cons_of_mem _ h)
  have hown : s.vm.findClass "PermutationDesk" = some m.cls := findClass_of_methodNamed B.named
  have hlocks := B.notSynchronized
  obtain ⟨rfl, ⟨hsz, hP, hK, hD0⟩, hV, hH⟩ := hv
  subst hsz
  have hD := hD0.self (sz := s.heap.size)
  generalize hAe : va_A ([dO d n len gc wk pr]) s.heap.size = A at hD hH ⊢
  have hA : ∀ q : Nat, s.heap.size ≤ q → A q := fun q h => by rw [← hAe]; exact Or.inr h
  have hS : va_S A s.heap s.heap [] := va_S.rf
  have hl := lv_entry ([.ref (d 0), .int x]) (n := 2) (Nat.le_of_ble_eq_true rfl)
  rw [lg_entry_eq]
  generalize (lg_sl ([.ref (d 0), .int x]) ++ List.replicate (2 - (lg_sl ([.ref (d 0), .int x])).length) Slot.unset).toArray = ls at hl ⊢
  have hl : lv_has ls 2 [(0, .ref (d 0)), (1, .int x)] := hl
  refine lv_iload_n hx hb dD_needSlot_0 rfl (lv_at hl 1 rfl) ?_
  refine lv_if_lt (tgt := 9) hx hb dD_needSlot_1 rfl (fun h1 => ?_) (fun h1 => ?_)
  · have hno : ¬ iN x 5 := fun q => ((iN_of (by omega)).mp q).1 h1
    exact qT (cls := eIO) (is := 165) (text := "no such slot") hx hb hst hown (by decide +kernel) ht tw_351 tw_70 (by decide) (x_atO ht hV) x_gdO hV hH () ⟨rfl, hno⟩ hP hD hS hml hl.1 dD_needSlot_9 dD_needSlot_12 dD_needSlot_13 dD_needSlot_15 dD_needSlot_18 hout (by decide) (Nat.le_of_ble_eq_true rfl) (by decide) hlocks hS.2.2 (by decide)
  refine lv_iload_n hx hb dD_needSlot_4 rfl (lv_at hl 1 rfl) ?_
  refine lv_iconst (v := 5) hx hb dD_needSlot_5 (by decide) ?_
  refine lv_icmp_lt (tgt := 19) hx hb dD_needSlot_6 rfl (fun h9 => ?_) (fun h9 => ?_)
  · have hyes : iN x 5 := (iN_of (by omega)).mpr ⟨h1, fun q => Int32.not_le.mpr h9 q⟩
    refine vx_ret (W.widen (k := 1) (n := 6) (by decide) (by decide) ?_)
    exact W.vret hx hb hr (fun t ht hW => ⟨⟨(), rfl, hyes, by rw [ht]; exact hP, hD⟩, hS.F ht⟩) hS.2.2 dD_needSlot_19
  have hno : ¬ iN x 5 := fun q => h9 (Int32.not_le.mp ((iN_of (by omega)).mp q).2)
  exact qT (cls := eIO) (is := 165) (text := "no such slot") hx hb hst hown (by decide +kernel) ht tw_351 tw_70 (by decide) (x_atO ht hV) x_gdO hV hH () ⟨rfl, hno⟩ hP hD hS hml hl.1 dD_needSlot_9 dD_needSlot_12 dD_needSlot_13 dD_needSlot_15 dD_needSlot_18 hout (by decide) (Nat.le_of_ble_eq_true rfl) (by decide) hlocks hS.2.2 (by decide)
set_option maxHeartbeats 1000000 in
set_option maxRecDepth 100000 in
theorem c_D_needTargetSlot (l : Launch) (hst : l.stackTraces = false) (D : va_G) (z : Nat → ClassId) (d : Nat → Nat) (sz n len gc wk pr : Nat) (x : Int32) : vx_Met l yD_needTargetSlot wD_needTargetSlot (rmX 6 1 6) (va_Pc [.ref (d 0), .int x] (xPc D (tyL z) [dO d n len gc wk pr] sz)) (va_Qv (fun _ : Unit => iN x 5 ∧ x ≠ 0) (fun _ t => va_P D vC [dO d n len gc wk pr] t.heap ∧ va_D (va_A [dO d n len gc wk pr] sz) [dO d n len gc wk pr]) (va_A [dO d n len gc wk pr] sz)) (xX D (fun E (_ : Unit) => E = eIO ∧ ¬ (iN x 5 ∧ x ≠ 0)) (fun _ => [dO d n len gc wk pr]) (va_A [dO d n len gc wk pr] sz)) 1 6 (va_A [dO d n len gc wk pr] sz) := by
  have h10 : x < 1 ↔ x < 0 ∨ x = 0 := by
    rw [Int32.lt_iff_toInt_lt, Int32.lt_iff_toInt_lt, ← Int32.toInt_inj]
    show x.toInt < 1 ↔ x.toInt < 0 ∨ x.toInt = 0
    omega
  refine vx_ofW (cc := prog_1_method_22_code) (maxL := 2) (ret := none) (by decide) rfl ?_
  intro p e s m args below meth c s₁ B hml hout hv
  have hx := B.exec
  have hb := B.bytes
  have hr := B.returns
  have ht : ∀ w ∈ TB, w.before args s = true := fun w h => atoms_spec (ws := wD_needTargetSlot) B.pre w (List.mem_cons_of_mem _ h)
  have hown : s.vm.findClass "PermutationDesk" = some m.cls := findClass_of_methodNamed B.named
  have hlocks := B.notSynchronized
  obtain ⟨rfl, ⟨hsz, hP, hK, hD0⟩, hV, hH⟩ := hv
  subst hsz
  have hD := hD0.self (sz := s.heap.size)
  generalize hAe : va_A ([dO d n len gc wk pr]) s.heap.size = A at hD hH ⊢
  have hA : ∀ q : Nat, s.heap.size ≤ q → A q := fun q h => by rw [← hAe]; exact Or.inr h
  have hS : va_S A s.heap s.heap [] := va_S.rf
  have hl := lv_entry ([.ref (d 0), .int x]) (n := 2) (Nat.le_of_ble_eq_true rfl)
  rw [lg_entry_eq]
  generalize (lg_sl ([.ref (d 0), .int x]) ++ List.replicate (2 - (lg_sl ([.ref (d 0), .int x])).length) Slot.unset).toArray = ls at hl ⊢
  have hl : lv_has ls 2 [(0, .ref (d 0)), (1, .int x)] := hl
  refine lv_iload_n hx hb dD_needTargetSlot_0 rfl (lv_at hl 1 rfl) ?_
  refine lv_iconst (v := 1) hx hb dD_needTargetSlot_1 (by decide) ?_
  refine lv_icmp_lt (tgt := 10) hx hb dD_needTargetSlot_2 rfl (fun h1 => ?_) (fun h1 => ?_)
  · have hno : ¬ (iN x 5 ∧ x ≠ 0) := fun q => (h10.mp h1).elim ((iN_of (by omega)).mp q.1).1 q.2
    exact qT (cls := eIO) (is := 167) (text := "no slot that takes a group") hx hb hst hown (by decide +kernel) ht tw_351 tw_70 (by decide) (x_atO ht hV) x_gdO hV hH () ⟨rfl, hno⟩ hP hD hS hml hl.1 dD_needTargetSlot_10 dD_needTargetSlot_13 dD_needTargetSlot_14 dD_needTargetSlot_16 dD_needTargetSlot_19 hout (by decide) (Nat.le_of_ble_eq_true rfl) (by decide) hlocks hS.2.2 (by decide)
  refine lv_iload_n hx hb dD_needTargetSlot_5 rfl (lv_at hl 1 rfl) ?_
  refine lv_iconst (v := 5) hx hb dD_needTargetSlot_6 (by decide) ?_
  refine lv_icmp_lt (tgt := 20) hx hb dD_needTargetSlot_7 rfl (fun h9 => ?_) (fun h9 => ?_)
  · have hyes : iN x 5 ∧ x ≠ 0 := ⟨(iN_of (by omega)).mpr ⟨fun q => h1 (h10.mpr (Or.inl q)), fun q => Int32.not_le.mpr h9 q⟩, fun q => h1 (h10.mpr (Or.inr q))⟩
    refine vx_ret (W.widen (k := 1) (n := 6) (by decide) (by decide) ?_)
    exact W.vret hx hb hr (fun t ht hW => ⟨⟨(), rfl, hyes, by rw [ht]; exact hP, hD⟩, hS.F ht⟩) hS.2.2 dD_needTargetSlot_20
  have hno : ¬ (iN x 5 ∧ x ≠ 0) := fun q => h9 (Int32.not_le.mp ((iN_of (by omega)).mp q.1).2)
  exact qT (cls := eIO) (is := 167) (text := "no slot that takes a group") hx hb hst hown (by decide +kernel) ht tw_351 tw_70 (by decide) (x_atO ht hV) x_gdO hV hH () ⟨rfl, hno⟩ hP hD hS hml hl.1 dD_needTargetSlot_10 dD_needTargetSlot_13 dD_needTargetSlot_14 dD_needTargetSlot_16 dD_needTargetSlot_19 hout (by decide) (Nat.le_of_ble_eq_true rfl) (by decide) hlocks hS.2.2 (by decide)
