/-! Desk: the constructor. -/
theorem tw_84m : Cond.code Lib.Math.min.name Lib.Math.min.code 2 (some .int) ∈ TB := tbm_1 26 rfl rfl
section NEWQ
variable {p : Program} {l : Launch} {e : Env} {R : Room} {s : State} {m : MethodId} {args : Array Value} {below : List Frame} {meth : Method} {c : Code} {H : Heap} {locs : List Loc} {cells slots : Nat} {Q : State → Prop}
variable {cc : ByteArray} {pc : Nat} {ls : Array Slot} {rest : List Value} {D : va_G} {ty : List (ClassId × FieldType)} {A : Nat → Prop} {H0 : Heap} {w0 : va_W}
theorem qNewq (hexec : p.tables.exec = Jvm.exec) (hb : c.code = cc) {own C : String} {index : Nat} (hown : s.vm.findClass own = some m.cls) (hclink : (Cond.classLink own index C).before args s = true) (hover : va_AO C s) (hK : va_K D vC ty s) (hP : va_P D vC w0 H) (hD : va_D A w0) (hS : va_S A H0 H locs) (hA : ∀ q, H0.size ≤ q → A q) {t0 : Nat} {cZ : ClassId} (ht0 : ty[t0]? = some (cZ, .object C))
    {n : Int32} {N' : Nat} (hn : ¬ n < 0) (hN : n.toNatClampNeg = N') (hbytes : N' * 4 ≤ 536870912) (hcells : cells + 1 ≤ R.cells) (hslots : slots + N' ≤ R.slots) (hdg : decode cc pc = .ok (.anewarray index, 3))
    (kk : ∀ (q : Nat) (H1 : Heap), va_P D vC (w0 ++ [(q, .inl (cZ, N', .inr (.inr (.inr (.inr (fun _ => none))))))]) H1 → va_D A (w0 ++ [(q, .inl (cZ, N', .inr (.inr (.inr (.inr (fun _ => none))))))]) → va_S A H0 H1 locs → W p l e R s m args below meth c H1 locs (cells + 1) (slots + N') Q (F0 m (pc + 3) ls (.ref q :: rest))) : W p l e R s m args below meth c H locs cells slots Q (F0 m pc ls (.int n :: rest)) := by
  refine va_newq hexec hb hown hclink hover hK hP hD hS hA hn hN hbytes hcells hslots hdg (fun q cA H1 hK1 hP1 hD1 hS1 => ?_)
  obtain ⟨-, -, -, -, -, e1⟩ := (hK.2 t0 _ ht0).2
  obtain ⟨-, -, -, -, -, e2⟩ := (hK1.2 ty.length (cA, .object C) (by rw [List.getElem?_append_right (Nat.le_refl _), Nat.sub_self]; rfl)).2
  have e3 : cA = cZ := Option.some.inj (e2.symm.trans e1)
  subst e3
  exact kk q H1 hP1 hD1 hS1
end NEWQ
abbrev rmD : Room := { frames := 3, cells := 32, slots := 2729, locals := 120 }
set_option maxHeartbeats 8000000 in
set_option maxRecDepth 100000 in
theorem c_D_init (l : Launch) (D : va_G) (z : Nat → ClassId) (sz q0 n : Nat) (x : Int32) (h1n : 1 ≤ n) (hn : n ≤ 7) (hx9 : (if (7 : Int32) < 1 + (x &&& 7) then 7 else 1 + (x &&& 7)) = nI n) : Met l yD_init wD_init rmD (va_Pc [.ref q0, .int x] (fun U => (U.heap.size = sz ∧ va_P D vC [(q0, .inr (2, [.int 0, .null, .int 0, .null, .null, .int 0, .null, .null, .null]))] U.heap ∧ va_K D vC (tyL z) U ∧ va_D (fun _ => True) [(q0, .inr (2, [.int 0, .null, .int 0, .null, .null, .int 0, .null, .null, .null]))]) ∧ va_AO "PermutationDesk$Group" U)) (va_Qv (fun u : (Nat → Nat) × dSt => u.1 0 = q0 ∧ dRp n ((fun _ => 0), 0, (fun _ => pg_id), 0, (fun _ => none), (fun _ x => x = pg_id)) u.2) (fun u t => va_P D vC (dW z u.1 n u.2) t.heap ∧ va_D (va_A [(q0, .inr (2, [.int 0, .null, .int 0, .null, .null, .int 0, .null, .null, .null]))] sz) (dW z u.1 n u.2)) (va_A [(q0, .inr (2, [.int 0, .null, .int 0, .null, .null, .int 0, .null, .null, .null]))] sz)) 32 2729 (va_A [(q0, .inr (2, [.int 0, .null, .int 0, .null, .null, .int 0, .null, .null, .null]))] sz) := by
  refine Met.ofW (cc := prog_1_method_1_code) (maxL := 3) (ret := none) (by decide) rfl ?_
  intro p e s m args below meth c s₁ B hml hv
  have hx := B.exec
  have hb := B.bytes
  have hr := B.returns
  have ht : ∀ w ∈ TB, w.before args s = true := fun w h => atoms_spec (ws := wD_init) B.pre w (List.mem_cons_of_mem _ h)
  have hown : s.vm.findClass "PermutationDesk" = some m.cls := findClass_of_methodNamed B.named
  have hlocks := B.notSynchronized
  have hin : meth.name = "<init>" := (name_of_methodNamed B.named B.method).1
  obtain ⟨rfl, ⟨hsz, hP, hK, hD0⟩, hAO⟩ := hv
  subst hsz
  have hD := hD0.self (sz := s.heap.size)
  generalize hAe : va_A ([(q0, .inr (2, [.int 0, .null, .int 0, .null, .null, .int 0, .null, .null, .null]))]) s.heap.size = A at hD ⊢
  have hA : ∀ q : Nat, s.heap.size ≤ q → A q := fun q h => by rw [← hAe]; exact Or.inr h
  have hS : va_S A s.heap s.heap [] := va_S.rf
  have hl := lv_entry ([.ref q0, .int x]) (n := 3) (Nat.le_of_ble_eq_true rfl)
  rw [lg_entry_eq]
  generalize (lg_sl ([.ref q0, .int x]) ++ List.replicate (3 - (lg_sl ([.ref q0, .int x])).length) Slot.unset).toArray = ls at hl ⊢
  have hl : lv_has ls 3 [(0, .ref q0), (1, .int x)] := hl
  refine lv_aload_n hx hb dD_init_0 rfl (lv_at hl 0 rfl) ?_
  refine W.objInit hx hb hown (ht _ tw_79) (ht _ tw_80) (ht _ tw_81) rfl (by rw [hml]; exact hl.1) rfl dD_init_1 (Nat.le_of_ble_eq_true rfl) (Nat.le_of_ble_eq_true rfl) ?_
  refine lv_aload_n hx hb dD_init_4 rfl (lv_at hl 0 rfl) ?_
  refine lv_bipush (v := 7) hx hb dD_init_5 (by decide) ?_
  refine lv_iconst (v := 1) hx hb dD_init_7 (by decide) ?_
  refine lv_iload_n hx hb dD_init_8 rfl (lv_at hl 1 rfl) ?_
  refine lv_bipush (v := 7) hx hb dD_init_9 (by decide) ?_
  refine lv_iand hx hb dD_init_11 ?_
  refine lv_iadd hx hb dD_init_12 ?_
  refine va_mmin hx hb (by rw [hml]; exact hl.1.symm) hown (ht _ tw_82) (ht _ tw_83) (ht _ tw_60) (ht _ tw_84m) (by decide) (Nat.le_of_ble_eq_true rfl) (by decide) (by decide) dD_init_13 ?_
  refine wti (x' := nI n) (by
    have e9 : (if 1 + (x &&& 7) < (7 : Int32) then 1 + (x &&& 7) else 7) = nI n := by
      rw [← hx9]
      by_cases q1 : 1 + (x &&& 7) < (7 : Int32)
      · rw [if_pos q1, if_neg (fun q2 => absurd (Int32.lt_iff_toInt_lt.mp q1) (by have := Int32.lt_iff_toInt_lt.mp q2; omega))]
      · by_cases q2 : (7 : Int32) < 1 + (x &&& 7)
        · rw [if_neg q1, if_pos q2]
        · rw [if_neg q1, if_neg q2]
          exact Int32.le_antisymm (Int32.not_lt.mp q1) (Int32.not_lt.mp q2)
    exact e9) ?_
  refine va_putF (ci := 2) (ty := .int) (C := RD) (T := TD) (N := 9) hx hb ht inD tyD tyD_ok nmD hown hK hP hD hS 0 rfl rfl 0 (by decide) (ht _ tw_125) (fun _ h9 => h9) rfl hin rfl (by decide +kernel) rfl rfl (Nat.le_of_ble_eq_true rfl) dD_init_16 (fun H locs hP hD hS => ?_)
  replace hP : va_P D vC ([(q0, .inr (2, [.int (nI n), .null, .int 0, .null, .null, .int 0, .null, .null, .null]))]) H := hP
  replace hD : va_D A ([(q0, .inr (2, [.int (nI n), .null, .int 0, .null, .null, .int 0, .null, .null, .null]))]) := hD
  refine lv_aload_n hx hb dD_init_19 rfl (lv_at hl 0 rfl) ?_
  refine lv_bipush (v := 24) hx hb dD_init_20 (by decide) ?_
  refine qNewa (atype := .char) (t0 := 2) (N9 := 24) (a0 := (24, .inl (fun _ => 0))) hx hb (ht _ tw_122) rfl hK hP hD hS hA rfl (fun _ h9 => h9) (fun _ => rfl) (by decide) rfl (by decide) (by decide) (by decide) dD_init_22 (fun q22 H hP hD hS => ?_)
  refine va_putF (ci := 2) (ty := .array .char) (C := RD) (T := TD) (N := 9) hx hb ht inD tyD tyD_ok nmD hown hK hP hD hS 0 rfl rfl 1 (by decide) (ht _ tw_126) (fun _ h9 => h9) rfl hin rfl (by decide +kernel) rfl rfl (Nat.le_of_ble_eq_true rfl) dD_init_24 (fun H locs hP hD hS => ?_)
  replace hP : va_P D vC ([(q0, .inr (2, [.int (nI n), .ref q22, .int 0, .null, .null, .int 0, .null, .null, .null])), (q22, .inl (z 2, 24, .inl (fun _ => 0)))]) H := hP
  replace hD : va_D A ([(q0, .inr (2, [.int (nI n), .ref q22, .int 0, .null, .null, .int 0, .null, .null, .null])), (q22, .inl (z 2, 24, .inl (fun _ => 0)))]) := hD
  refine lv_aload_n hx hb dD_init_27 rfl (lv_at hl 0 rfl) ?_
  refine lv_iconst (v := 0) hx hb dD_init_28 (by decide) ?_
  refine va_put (ci := 2) (ty := .int) (C := RD) (T := TD) (N := 9) hx hb ht inD tyD tyD_ok nmD hown hK hP hD hS 0 rfl rfl 2 (by decide) (ht _ tw_127) (fun _ h9 => h9) rfl (by decide +kernel) rfl rfl (Nat.le_of_ble_eq_true rfl) dD_init_29 (fun H locs hP hD hS => ?_)
  replace hP : va_P D vC ([(q0, .inr (2, [.int (nI n), .ref q22, .int 0, .null, .null, .int 0, .null, .null, .null])), (q22, .inl (z 2, 24, .inl (fun _ => 0)))]) H := hP
  replace hD : va_D A ([(q0, .inr (2, [.int (nI n), .ref q22, .int 0, .null, .null, .int 0, .null, .null, .null])), (q22, .inl (z 2, 24, .inl (fun _ => 0)))]) := hD
  refine lv_aload_n hx hb dD_init_32 rfl (lv_at hl 0 rfl) ?_
  refine lv_bipush (v := 6) hx hb dD_init_33 (by decide) ?_
  refine qNewa (atype := .long) (t0 := 0) (N9 := 6) (a0 := (6, .inr (.inl (fun _ => 0)))) hx hb (ht _ tw_123) rfl hK hP hD hS hA rfl (fun _ h9 => h9) (fun _ => rfl) (by decide) rfl (by decide) (by decide) (by decide) dD_init_35 (fun q35 H hP hD hS => ?_)
  refine va_putF (ci := 2) (ty := .array .long) (C := RD) (T := TD) (N := 9) hx hb ht inD tyD tyD_ok nmD hown hK hP hD hS 0 rfl rfl 3 (by decide) (ht _ tw_128) (fun _ h9 => h9) rfl hin rfl (by decide +kernel) rfl rfl (Nat.le_of_ble_eq_true rfl) dD_init_37 (fun H locs hP hD hS => ?_)
  replace hP : va_P D vC ([(q0, .inr (2, [.int (nI n), .ref q22, .int 0, .ref q35, .null, .int 0, .null, .null, .null])), (q22, .inl (z 2, 24, .inl (fun _ => 0))), (q35, .inl (z 0, 6, .inr (.inl (fun _ => 0))))]) H := hP
  replace hD : va_D A ([(q0, .inr (2, [.int (nI n), .ref q22, .int 0, .ref q35, .null, .int 0, .null, .null, .null])), (q22, .inl (z 2, 24, .inl (fun _ => 0))), (q35, .inl (z 0, 6, .inr (.inl (fun _ => 0))))]) := hD
  refine lv_aload_n hx hb dD_init_40 rfl (lv_at hl 0 rfl) ?_
  refine lv_bipush (v := 6) hx hb dD_init_41 (by decide) ?_
  refine qNewa (atype := .long) (t0 := 0) (N9 := 6) (a0 := (6, .inr (.inl (fun _ => 0)))) hx hb (ht _ tw_123) rfl hK hP hD hS hA rfl (fun _ h9 => h9) (fun _ => rfl) (by decide) rfl (by decide) (by decide) (by decide) dD_init_43 (fun q43 H hP hD hS => ?_)
  refine va_putF (ci := 2) (ty := .array .long) (C := RD) (T := TD) (N := 9) hx hb ht inD tyD tyD_ok nmD hown hK hP hD hS 0 rfl rfl 4 (by decide) (ht _ tw_129) (fun _ h9 => h9) rfl hin rfl (by decide +kernel) rfl rfl (Nat.le_of_ble_eq_true rfl) dD_init_45 (fun H locs hP hD hS => ?_)
  replace hP : va_P D vC ([(q0, .inr (2, [.int (nI n), .ref q22, .int 0, .ref q35, .ref q43, .int 0, .null, .null, .null])), (q22, .inl (z 2, 24, .inl (fun _ => 0))), (q35, .inl (z 0, 6, .inr (.inl (fun _ => 0)))), (q43, .inl (z 0, 6, .inr (.inl (fun _ => 0))))]) H := hP
  replace hD : va_D A ([(q0, .inr (2, [.int (nI n), .ref q22, .int 0, .ref q35, .ref q43, .int 0, .null, .null, .null])), (q22, .inl (z 2, 24, .inl (fun _ => 0))), (q35, .inl (z 0, 6, .inr (.inl (fun _ => 0)))), (q43, .inl (z 0, 6, .inr (.inl (fun _ => 0))))]) := hD
  refine lv_aload_n hx hb dD_init_48 rfl (lv_at hl 0 rfl) ?_
  refine lv_iconst (v := 0) hx hb dD_init_49 (by decide) ?_
  refine va_put (ci := 2) (ty := .int) (C := RD) (T := TD) (N := 9) hx hb ht inD tyD tyD_ok nmD hown hK hP hD hS 0 rfl rfl 5 (by decide) (ht _ tw_130) (fun _ h9 => h9) rfl (by decide +kernel) rfl rfl (Nat.le_of_ble_eq_true rfl) dD_init_50 (fun H locs hP hD hS => ?_)
  replace hP : va_P D vC ([(q0, .inr (2, [.int (nI n), .ref q22, .int 0, .ref q35, .ref q43, .int 0, .null, .null, .null])), (q22, .inl (z 2, 24, .inl (fun _ => 0))), (q35, .inl (z 0, 6, .inr (.inl (fun _ => 0)))), (q43, .inl (z 0, 6, .inr (.inl (fun _ => 0))))]) H := hP
  replace hD : va_D A ([(q0, .inr (2, [.int (nI n), .ref q22, .int 0, .ref q35, .ref q43, .int 0, .null, .null, .null])), (q22, .inl (z 2, 24, .inl (fun _ => 0))), (q35, .inl (z 0, 6, .inr (.inl (fun _ => 0)))), (q43, .inl (z 0, 6, .inr (.inl (fun _ => 0))))]) := hD
  refine lv_aload_n hx hb dD_init_53 rfl (lv_at hl 0 rfl) ?_
  refine lv_iconst (v := 5) hx hb dD_init_54 (by decide) ?_
  refine qNewq (t0 := 3) (N' := 5) hx hb hown (ht _ tw_85) hAO hK hP hD hS hA rfl (by decide) rfl (by decide) (by decide) (by decide) dD_init_55 (fun q55 H hP hD hS => ?_)
  refine va_putF (ci := 2) (ty := .array (.object "PermutationDesk$Group")) (C := RD) (T := TD) (N := 9) hx hb ht inD tyD tyD_ok nmD hown hK hP hD hS 0 rfl rfl 6 (by decide) (ht _ tw_131) (fun _ h9 => h9) rfl hin rfl (by decide +kernel) rfl rfl (Nat.le_of_ble_eq_true rfl) dD_init_58 (fun H locs hP hD hS => ?_)
  replace hP : va_P D vC ([(q0, .inr (2, [.int (nI n), .ref q22, .int 0, .ref q35, .ref q43, .int 0, .ref q55, .null, .null])), (q22, .inl (z 2, 24, .inl (fun _ => 0))), (q35, .inl (z 0, 6, .inr (.inl (fun _ => 0)))), (q43, .inl (z 0, 6, .inr (.inl (fun _ => 0)))), (q55, .inl (z 3, 5, .inr (.inr (.inr (.inr (fun _ => none))))))]) H := hP
  replace hD : va_D A ([(q0, .inr (2, [.int (nI n), .ref q22, .int 0, .ref q35, .ref q43, .int 0, .ref q55, .null, .null])), (q22, .inl (z 2, 24, .inl (fun _ => 0))), (q35, .inl (z 0, 6, .inr (.inl (fun _ => 0)))), (q43, .inl (z 0, 6, .inr (.inl (fun _ => 0)))), (q55, .inl (z 3, 5, .inr (.inr (.inr (.inr (fun _ => none))))))]) := hD
  refine lv_iconst (v := 0) hx hb dD_init_61 (by decide) ?_
  refine lv_istore_n hx hb dD_init_62 rfl hl (by decide) rfl (fun ls hl => ?_)
  replace hl : lv_has ls 3 [(2, .int (nI 0)), (0, .ref q0), (1, .int x)] := hl
  refine lv_iload_n hx hb dD_init_63 rfl (lv_at hl 0 rfl) ?_
  refine lv_iconst (v := 5) hx hb dD_init_64 (by decide) ?_
  refine lv_icmp_ge (tgt := 91) hx hb dD_init_65 rfl (fun h9 => absurd h9 (by decide)) (fun h9 => ?_)
  clear h9
  refine lv_aload_n hx hb dD_init_68 rfl (lv_at hl 1 rfl) ?_
  refine va_get (ci := 2) (C := RD) (T := TD) (N := 9) hx hb ht inD hown hK hP 0 rfl rfl 6 (by decide) (ht _ tw_131) (fun _ h9 => h9) rfl dD_init_69 ?_
  refine lv_iload_n hx hb dD_init_72 rfl (lv_at hl 0 rfl) ?_
  refine va_new (ci := 0) (C := RG) (T := TG) (N := 6) (fs := [.int 0, .long 0, .null, .null, .null, .int 0]) hx hb ht inG tyG tyG_ok hown (ht _ tw_85) (ht _ tw_87) (ht _ tw_61) hK hP hD hS hA rfl (by decide +kernel) (by decide) (by decide) dD_init_73 (fun q73 H hP hD hS => ?_)
  refine lv_dup hx hb dD_init_76 rfl ?_
  refine lv_aload_n hx hb dD_init_77 rfl (lv_at hl 1 rfl) ?_
  refine va_get (ci := 2) (C := RD) (T := TD) (N := 9) hx hb ht inD hown hK hP 0 rfl rfl 0 (by decide) (ht _ tw_125) (fun _ h9 => h9) rfl dD_init_78 ?_
  refine qI_v (wr := [(q0, .inr (2, [.int (nI n), .ref q22, .int 0, .ref q35, .ref q43, .int 0, .ref q55, .null, .null])), (q22, .inl (z 2, 24, .inl (fun _ => 0))), (q35, .inl (z 0, 6, .inr (.inl (fun _ => 0)))), (q43, .inl (z 0, 6, .inr (.inl (fun _ => 0)))), (q55, .inl (z 3, 5, .inr (.inr (.inr (.inr (fun _ => none))))))]) (As := [.int (nI n)]) (rest := [.ref q73, .int (nI 0), .ref q55]) ⟨hx, hb, hml, hown, ht⟩ (c_G_init l D z H.size q73 n (by omega) h1n) (cB 1 ht gG_init rfl tw_61 tw_88 (by decide +kernel) ⟨by decide, by decide⟩) rfl tw_89 hK hP hD hS hA [5] [0, 1, 2, 3, 4] rfl rfl rfl rfl (by decide) rfl rfl hl.1 rfl (Nat.le_of_ble_eq_true rfl) dD_init_81 ⟨by decide, by decide⟩ (fun u81 H locs h81 hP hD hS => ?_)
  obtain ⟨g0, s0⟩ := u81
  obtain ⟨hq9, hG0, -, -⟩ := h81
  replace hq9 : g0 0 = q73 := hq9
  replace hG0 : gGp n s0 (fun x => x = pg_id) := hG0
  refine wtv (x' := .ref (g0 0)) (by rw [hq9]) ?_
  replace hP : va_P D vC ([(q0, .inr (2, [.int (nI n), .ref q22, .int 0, .ref q35, .ref q43, .int 0, .ref q55, .null, .null])), (q22, .inl (z 2, 24, .inl (fun _ => 0))), (q35, .inl (z 0, 6, .inr (.inl (fun _ => 0)))), (q43, .inl (z 0, 6, .inr (.inl (fun _ => 0)))), (q55, .inl (z 3, 5, .inr (.inr (.inr (.inr (fun _ => none))))))] ++ (gWu z g0 n s0)) H := hP
  replace hD : va_D A ([(q0, .inr (2, [.int (nI n), .ref q22, .int 0, .ref q35, .ref q43, .int 0, .ref q55, .null, .null])), (q22, .inl (z 2, 24, .inl (fun _ => 0))), (q35, .inl (z 0, 6, .inr (.inl (fun _ => 0)))), (q43, .inl (z 0, 6, .inr (.inl (fun _ => 0)))), (q55, .inl (z 3, 5, .inr (.inr (.inr (.inr (fun _ => none))))))] ++ (gWu z g0 n s0)) := hD
  refine va_astq hx hb hK hP hD hS 4 3 5 0 rfl rfl rfl rfl (vp_in_nI (N := 5) (by decide) (by decide)) dD_init_84 (fun H locs hP hD hS => ?_)
  rw [nI_clamp (by decide)] at hP hD
  replace hP : va_P D vC ([(q0, .inr (2, [.int (nI n), .ref q22, .int 0, .ref q35, .ref q43, .int 0, .ref q55, .null, .null])), (q22, .inl (z 2, 24, .inl (fun _ => 0))), (q35, .inl (z 0, 6, .inr (.inl (fun _ => 0)))), (q43, .inl (z 0, 6, .inr (.inl (fun _ => 0)))), (q55, .inl (z 3, 5, .inr (.inr (.inr (.inr (va_up (fun _ => none) 0 (some (g0 0))))))))] ++ (gWu z g0 n s0)) H := hP
  replace hD : va_D A ([(q0, .inr (2, [.int (nI n), .ref q22, .int 0, .ref q35, .ref q43, .int 0, .ref q55, .null, .null])), (q22, .inl (z 2, 24, .inl (fun _ => 0))), (q35, .inl (z 0, 6, .inr (.inl (fun _ => 0)))), (q43, .inl (z 0, 6, .inr (.inl (fun _ => 0)))), (q55, .inl (z 3, 5, .inr (.inr (.inr (.inr (va_up (fun _ => none) 0 (some (g0 0))))))))] ++ (gWu z g0 n s0)) := hD
  refine lv_iinc (k := 0) (v := (nI (0 + 1))) hx hb dD_init_85 hl rfl (by exact nI_1 _) (by decide) rfl (fun ls hl => ?_)
  replace hl : lv_has ls 3 [(2, .int (nI (0 + 1))), (0, .ref q0), (1, .int x)] := hl
  refine lv_goto (tgt := 63) hx hb dD_init_88 rfl ?_
  refine lv_iload_n hx hb dD_init_63 rfl (lv_at hl 0 rfl) ?_
  refine lv_iconst (v := 5) hx hb dD_init_64 (by decide) ?_
  refine lv_icmp_ge (tgt := 91) hx hb dD_init_65 rfl (fun h9 => absurd h9 (by decide)) (fun h9 => ?_)
  clear h9
  refine lv_aload_n hx hb dD_init_68 rfl (lv_at hl 1 rfl) ?_
  refine va_get (ci := 2) (C := RD) (T := TD) (N := 9) hx hb ht inD hown hK hP 0 rfl rfl 6 (by decide) (ht _ tw_131) (fun _ h9 => h9) rfl dD_init_69 ?_
  refine lv_iload_n hx hb dD_init_72 rfl (lv_at hl 0 rfl) ?_
  refine va_new (ci := 0) (C := RG) (T := TG) (N := 6) (fs := [.int 0, .long 0, .null, .null, .null, .int 0]) hx hb ht inG tyG tyG_ok hown (ht _ tw_85) (ht _ tw_87) (ht _ tw_61) hK hP hD hS hA rfl (by decide +kernel) (by decide) (by decide) dD_init_73 (fun q73 H hP hD hS => ?_)
  refine lv_dup hx hb dD_init_76 rfl ?_
  refine lv_aload_n hx hb dD_init_77 rfl (lv_at hl 1 rfl) ?_
  refine va_get (ci := 2) (C := RD) (T := TD) (N := 9) hx hb ht inD hown hK hP 0 rfl rfl 0 (by decide) (ht _ tw_125) (fun _ h9 => h9) rfl dD_init_78 ?_
  refine qI_v (wr := [(q0, .inr (2, [.int (nI n), .ref q22, .int 0, .ref q35, .ref q43, .int 0, .ref q55, .null, .null])), (q22, .inl (z 2, 24, .inl (fun _ => 0))), (q35, .inl (z 0, 6, .inr (.inl (fun _ => 0)))), (q43, .inl (z 0, 6, .inr (.inl (fun _ => 0)))), (q55, .inl (z 3, 5, .inr (.inr (.inr (.inr (va_up (fun _ => none) 0 (some (g0 0))))))))] ++ (gWu z g0 n s0)) (As := [.int (nI n)]) (rest := [.ref q73, .int (nI 1), .ref q55]) ⟨hx, hb, hml, hown, ht⟩ (c_G_init l D z H.size q73 n (by omega) h1n) (cB 1 ht gG_init rfl tw_61 tw_88 (by decide +kernel) ⟨by decide, by decide⟩) rfl tw_89 hK hP hD hS hA [9] [0, 1, 2, 3, 4, 5, 6, 7, 8] rfl rfl rfl rfl (by decide) rfl rfl hl.1 rfl (Nat.le_of_ble_eq_true rfl) dD_init_81 ⟨by decide, by decide⟩ (fun u81 H locs h81 hP hD hS => ?_)
  obtain ⟨g1, s1⟩ := u81
  obtain ⟨hq9, hG1, -, -⟩ := h81
  replace hq9 : g1 0 = q73 := hq9
  replace hG1 : gGp n s1 (fun x => x = pg_id) := hG1
  refine wtv (x' := .ref (g1 0)) (by rw [hq9]) ?_
  replace hP : va_P D vC ([(q0, .inr (2, [.int (nI n), .ref q22, .int 0, .ref q35, .ref q43, .int 0, .ref q55, .null, .null])), (q22, .inl (z 2, 24, .inl (fun _ => 0))), (q35, .inl (z 0, 6, .inr (.inl (fun _ => 0)))), (q43, .inl (z 0, 6, .inr (.inl (fun _ => 0)))), (q55, .inl (z 3, 5, .inr (.inr (.inr (.inr (va_up (fun _ => none) 0 (some (g0 0))))))))] ++ (gWu z g0 n s0 ++ (gWu z g1 n s1))) H := hP
  replace hD : va_D A ([(q0, .inr (2, [.int (nI n), .ref q22, .int 0, .ref q35, .ref q43, .int 0, .ref q55, .null, .null])), (q22, .inl (z 2, 24, .inl (fun _ => 0))), (q35, .inl (z 0, 6, .inr (.inl (fun _ => 0)))), (q43, .inl (z 0, 6, .inr (.inl (fun _ => 0)))), (q55, .inl (z 3, 5, .inr (.inr (.inr (.inr (va_up (fun _ => none) 0 (some (g0 0))))))))] ++ (gWu z g0 n s0 ++ (gWu z g1 n s1))) := hD
  refine va_astq hx hb hK hP hD hS 4 3 9 0 rfl rfl rfl rfl (vp_in_nI (N := 5) (by decide) (by decide)) dD_init_84 (fun H locs hP hD hS => ?_)
  rw [nI_clamp (by decide)] at hP hD
  replace hP : va_P D vC ([(q0, .inr (2, [.int (nI n), .ref q22, .int 0, .ref q35, .ref q43, .int 0, .ref q55, .null, .null])), (q22, .inl (z 2, 24, .inl (fun _ => 0))), (q35, .inl (z 0, 6, .inr (.inl (fun _ => 0)))), (q43, .inl (z 0, 6, .inr (.inl (fun _ => 0)))), (q55, .inl (z 3, 5, .inr (.inr (.inr (.inr (va_up (va_up (fun _ => none) 0 (some (g0 0))) 1 (some (g1 0))))))))] ++ (gWu z g0 n s0 ++ (gWu z g1 n s1))) H := hP
  replace hD : va_D A ([(q0, .inr (2, [.int (nI n), .ref q22, .int 0, .ref q35, .ref q43, .int 0, .ref q55, .null, .null])), (q22, .inl (z 2, 24, .inl (fun _ => 0))), (q35, .inl (z 0, 6, .inr (.inl (fun _ => 0)))), (q43, .inl (z 0, 6, .inr (.inl (fun _ => 0)))), (q55, .inl (z 3, 5, .inr (.inr (.inr (.inr (va_up (va_up (fun _ => none) 0 (some (g0 0))) 1 (some (g1 0))))))))] ++ (gWu z g0 n s0 ++ (gWu z g1 n s1))) := hD
  refine lv_iinc (k := 0) (v := (nI (1 + 1))) hx hb dD_init_85 hl rfl (by exact nI_1 _) (by decide) rfl (fun ls hl => ?_)
  replace hl : lv_has ls 3 [(2, .int (nI (1 + 1))), (0, .ref q0), (1, .int x)] := hl
  refine lv_goto (tgt := 63) hx hb dD_init_88 rfl ?_
  refine lv_iload_n hx hb dD_init_63 rfl (lv_at hl 0 rfl) ?_
  refine lv_iconst (v := 5) hx hb dD_init_64 (by decide) ?_
  refine lv_icmp_ge (tgt := 91) hx hb dD_init_65 rfl (fun h9 => absurd h9 (by decide)) (fun h9 => ?_)
  clear h9
  refine lv_aload_n hx hb dD_init_68 rfl (lv_at hl 1 rfl) ?_
  refine va_get (ci := 2) (C := RD) (T := TD) (N := 9) hx hb ht inD hown hK hP 0 rfl rfl 6 (by decide) (ht _ tw_131) (fun _ h9 => h9) rfl dD_init_69 ?_
  refine lv_iload_n hx hb dD_init_72 rfl (lv_at hl 0 rfl) ?_
  refine va_new (ci := 0) (C := RG) (T := TG) (N := 6) (fs := [.int 0, .long 0, .null, .null, .null, .int 0]) hx hb ht inG tyG tyG_ok hown (ht _ tw_85) (ht _ tw_87) (ht _ tw_61) hK hP hD hS hA rfl (by decide +kernel) (by decide) (by decide) dD_init_73 (fun q73 H hP hD hS => ?_)
  refine lv_dup hx hb dD_init_76 rfl ?_
  refine lv_aload_n hx hb dD_init_77 rfl (lv_at hl 1 rfl) ?_
  refine va_get (ci := 2) (C := RD) (T := TD) (N := 9) hx hb ht inD hown hK hP 0 rfl rfl 0 (by decide) (ht _ tw_125) (fun _ h9 => h9) rfl dD_init_78 ?_
  refine qI_v (wr := [(q0, .inr (2, [.int (nI n), .ref q22, .int 0, .ref q35, .ref q43, .int 0, .ref q55, .null, .null])), (q22, .inl (z 2, 24, .inl (fun _ => 0))), (q35, .inl (z 0, 6, .inr (.inl (fun _ => 0)))), (q43, .inl (z 0, 6, .inr (.inl (fun _ => 0)))), (q55, .inl (z 3, 5, .inr (.inr (.inr (.inr (va_up (va_up (fun _ => none) 0 (some (g0 0))) 1 (some (g1 0))))))))] ++ (gWu z g0 n s0 ++ (gWu z g1 n s1))) (As := [.int (nI n)]) (rest := [.ref q73, .int (nI 2), .ref q55]) ⟨hx, hb, hml, hown, ht⟩ (c_G_init l D z H.size q73 n (by omega) h1n) (cB 1 ht gG_init rfl tw_61 tw_88 (by decide +kernel) ⟨by decide, by decide⟩) rfl tw_89 hK hP hD hS hA [13] [0, 1, 2, 3, 4, 5, 6, 7, 8, 9, 10, 11, 12] rfl rfl rfl rfl (by decide) rfl rfl hl.1 rfl (Nat.le_of_ble_eq_true rfl) dD_init_81 ⟨by decide, by decide⟩ (fun u81 H locs h81 hP hD hS => ?_)
  obtain ⟨g2, s2⟩ := u81
  obtain ⟨hq9, hG2, -, -⟩ := h81
  replace hq9 : g2 0 = q73 := hq9
  replace hG2 : gGp n s2 (fun x => x = pg_id) := hG2
  refine wtv (x' := .ref (g2 0)) (by rw [hq9]) ?_
  replace hP : va_P D vC ([(q0, .inr (2, [.int (nI n), .ref q22, .int 0, .ref q35, .ref q43, .int 0, .ref q55, .null, .null])), (q22, .inl (z 2, 24, .inl (fun _ => 0))), (q35, .inl (z 0, 6, .inr (.inl (fun _ => 0)))), (q43, .inl (z 0, 6, .inr (.inl (fun _ => 0)))), (q55, .inl (z 3, 5, .inr (.inr (.inr (.inr (va_up (va_up (fun _ => none) 0 (some (g0 0))) 1 (some (g1 0))))))))] ++ (gWu z g0 n s0 ++ (gWu z g1 n s1 ++ (gWu z g2 n s2)))) H := hP
  replace hD : va_D A ([(q0, .inr (2, [.int (nI n), .ref q22, .int 0, .ref q35, .ref q43, .int 0, .ref q55, .null, .null])), (q22, .inl (z 2, 24, .inl (fun _ => 0))), (q35, .inl (z 0, 6, .inr (.inl (fun _ => 0)))), (q43, .inl (z 0, 6, .inr (.inl (fun _ => 0)))), (q55, .inl (z 3, 5, .inr (.inr (.inr (.inr (va_up (va_up (fun _ => none) 0 (some (g0 0))) 1 (some (g1 0))))))))] ++ (gWu z g0 n s0 ++ (gWu z g1 n s1 ++ (gWu z g2 n s2)))) := hD
  refine va_astq hx hb hK hP hD hS 4 3 13 0 rfl rfl rfl rfl (vp_in_nI (N := 5) (by decide) (by decide)) dD_init_84 (fun H locs hP hD hS => ?_)
  rw [nI_clamp (by decide)] at hP hD
  replace hP : va_P D vC ([(q0, .inr (2, [.int (nI n), .ref q22, .int 0, .ref q35, .ref q43, .int 0, .ref q55, .null, .null])), (q22, .inl (z 2, 24, .inl (fun _ => 0))), (q35, .inl (z 0, 6, .inr (.inl (fun _ => 0)))), (q43, .inl (z 0, 6, .inr (.inl (fun _ => 0)))), (q55, .inl (z 3, 5, .inr (.inr (.inr (.inr (va_up (va_up (va_up (fun _ => none) 0 (some (g0 0))) 1 (some (g1 0))) 2 (some (g2 0))))))))] ++ (gWu z g0 n s0 ++ (gWu z g1 n s1 ++ (gWu z g2 n s2)))) H := hP
  replace hD : va_D A ([(q0, .inr (2, [.int (nI n), .ref q22, .int 0, .ref q35, .ref q43, .int 0, .ref q55, .null, .null])), (q22, .inl (z 2, 24, .inl (fun _ => 0))), (q35, .inl (z 0, 6, .inr (.inl (fun _ => 0)))), (q43, .inl (z 0, 6, .inr (.inl (fun _ => 0)))), (q55, .inl (z 3, 5, .inr (.inr (.inr (.inr (va_up (va_up (va_up (fun _ => none) 0 (some (g0 0))) 1 (some (g1 0))) 2 (some (g2 0))))))))] ++ (gWu z g0 n s0 ++ (gWu z g1 n s1 ++ (gWu z g2 n s2)))) := hD
  refine lv_iinc (k := 0) (v := (nI (2 + 1))) hx hb dD_init_85 hl rfl (by exact nI_1 _) (by decide) rfl (fun ls hl => ?_)
  replace hl : lv_has ls 3 [(2, .int (nI (2 + 1))), (0, .ref q0), (1, .int x)] := hl
  refine lv_goto (tgt := 63) hx hb dD_init_88 rfl ?_
  refine lv_iload_n hx hb dD_init_63 rfl (lv_at hl 0 rfl) ?_
  refine lv_iconst (v := 5) hx hb dD_init_64 (by decide) ?_
  refine lv_icmp_ge (tgt := 91) hx hb dD_init_65 rfl (fun h9 => absurd h9 (by decide)) (fun h9 => ?_)
  clear h9
  refine lv_aload_n hx hb dD_init_68 rfl (lv_at hl 1 rfl) ?_
  refine va_get (ci := 2) (C := RD) (T := TD) (N := 9) hx hb ht inD hown hK hP 0 rfl rfl 6 (by decide) (ht _ tw_131) (fun _ h9 => h9) rfl dD_init_69 ?_
  refine lv_iload_n hx hb dD_init_72 rfl (lv_at hl 0 rfl) ?_
  refine va_new (ci := 0) (C := RG) (T := TG) (N := 6) (fs := [.int 0, .long 0, .null, .null, .null, .int 0]) hx hb ht inG tyG tyG_ok hown (ht _ tw_85) (ht _ tw_87) (ht _ tw_61) hK hP hD hS hA rfl (by decide +kernel) (by decide) (by decide) dD_init_73 (fun q73 H hP hD hS => ?_)
  refine lv_dup hx hb dD_init_76 rfl ?_
  refine lv_aload_n hx hb dD_init_77 rfl (lv_at hl 1 rfl) ?_
  refine va_get (ci := 2) (C := RD) (T := TD) (N := 9) hx hb ht inD hown hK hP 0 rfl rfl 0 (by decide) (ht _ tw_125) (fun _ h9 => h9) rfl dD_init_78 ?_
  refine qI_v (wr := [(q0, .inr (2, [.int (nI n), .ref q22, .int 0, .ref q35, .ref q43, .int 0, .ref q55, .null, .null])), (q22, .inl (z 2, 24, .inl (fun _ => 0))), (q35, .inl (z 0, 6, .inr (.inl (fun _ => 0)))), (q43, .inl (z 0, 6, .inr (.inl (fun _ => 0)))), (q55, .inl (z 3, 5, .inr (.inr (.inr (.inr (va_up (va_up (va_up (fun _ => none) 0 (some (g0 0))) 1 (some (g1 0))) 2 (some (g2 0))))))))] ++ (gWu z g0 n s0 ++ (gWu z g1 n s1 ++ (gWu z g2 n s2)))) (As := [.int (nI n)]) (rest := [.ref q73, .int (nI 3), .ref q55]) ⟨hx, hb, hml, hown, ht⟩ (c_G_init l D z H.size q73 n (by omega) h1n) (cB 1 ht gG_init rfl tw_61 tw_88 (by decide +kernel) ⟨by decide, by decide⟩) rfl tw_89 hK hP hD hS hA [17] [0, 1, 2, 3, 4, 5, 6, 7, 8, 9, 10, 11, 12, 13, 14, 15, 16] rfl rfl rfl rfl (by decide) rfl rfl hl.1 rfl (Nat.le_of_ble_eq_true rfl) dD_init_81 ⟨by decide, by decide⟩ (fun u81 H locs h81 hP hD hS => ?_)
  obtain ⟨g3, s3⟩ := u81
  obtain ⟨hq9, hG3, -, -⟩ := h81
  replace hq9 : g3 0 = q73 := hq9
  replace hG3 : gGp n s3 (fun x => x = pg_id) := hG3
  refine wtv (x' := .ref (g3 0)) (by rw [hq9]) ?_
  replace hP : va_P D vC ([(q0, .inr (2, [.int (nI n), .ref q22, .int 0, .ref q35, .ref q43, .int 0, .ref q55, .null, .null])), (q22, .inl (z 2, 24, .inl (fun _ => 0))), (q35, .inl (z 0, 6, .inr (.inl (fun _ => 0)))), (q43, .inl (z 0, 6, .inr (.inl (fun _ => 0)))), (q55, .inl (z 3, 5, .inr (.inr (.inr (.inr (va_up (va_up (va_up (fun _ => none) 0 (some (g0 0))) 1 (some (g1 0))) 2 (some (g2 0))))))))] ++ (gWu z g0 n s0 ++ (gWu z g1 n s1 ++ (gWu z g2 n s2 ++ (gWu z g3 n s3))))) H := hP
  replace hD : va_D A ([(q0, .inr (2, [.int (nI n), .ref q22, .int 0, .ref q35, .ref q43, .int 0, .ref q55, .null, .null])), (q22, .inl (z 2, 24, .inl (fun _ => 0))), (q35, .inl (z 0, 6, .inr (.inl (fun _ => 0)))), (q43, .inl (z 0, 6, .inr (.inl (fun _ => 0)))), (q55, .inl (z 3, 5, .inr (.inr (.inr (.inr (va_up (va_up (va_up (fun _ => none) 0 (some (g0 0))) 1 (some (g1 0))) 2 (some (g2 0))))))))] ++ (gWu z g0 n s0 ++ (gWu z g1 n s1 ++ (gWu z g2 n s2 ++ (gWu z g3 n s3))))) := hD
  refine va_astq hx hb hK hP hD hS 4 3 17 0 rfl rfl rfl rfl (vp_in_nI (N := 5) (by decide) (by decide)) dD_init_84 (fun H locs hP hD hS => ?_)
  rw [nI_clamp (by decide)] at hP hD
  replace hP : va_P D vC ([(q0, .inr (2, [.int (nI n), .ref q22, .int 0, .ref q35, .ref q43, .int 0, .ref q55, .null, .null])), (q22, .inl (z 2, 24, .inl (fun _ => 0))), (q35, .inl (z 0, 6, .inr (.inl (fun _ => 0)))), (q43, .inl (z 0, 6, .inr (.inl (fun _ => 0)))), (q55, .inl (z 3, 5, .inr (.inr (.inr (.inr (va_up (va_up (va_up (va_up (fun _ => none) 0 (some (g0 0))) 1 (some (g1 0))) 2 (some (g2 0))) 3 (some (g3 0))))))))] ++ (gWu z g0 n s0 ++ (gWu z g1 n s1 ++ (gWu z g2 n s2 ++ (gWu z g3 n s3))))) H := hP
  replace hD : va_D A ([(q0, .inr (2, [.int (nI n), .ref q22, .int 0, .ref q35, .ref q43, .int 0, .ref q55, .null, .null])), (q22, .inl (z 2, 24, .inl (fun _ => 0))), (q35, .inl (z 0, 6, .inr (.inl (fun _ => 0)))), (q43, .inl (z 0, 6, .inr (.inl (fun _ => 0)))), (q55, .inl (z 3, 5, .inr (.inr (.inr (.inr (va_up (va_up (va_up (va_up (fun _ => none) 0 (some (g0 0))) 1 (some (g1 0))) 2 (some (g2 0))) 3 (some (g3 0))))))))] ++ (gWu z g0 n s0 ++ (gWu z g1 n s1 ++ (gWu z g2 n s2 ++ (gWu z g3 n s3))))) := hD
  refine lv_iinc (k := 0) (v := (nI (3 + 1))) hx hb dD_init_85 hl rfl (by exact nI_1 _) (by decide) rfl (fun ls hl => ?_)
  replace hl : lv_has ls 3 [(2, .int (nI (3 + 1))), (0, .ref q0), (1, .int x)] := hl
  refine lv_goto (tgt := 63) hx hb dD_init_88 rfl ?_
  refine lv_iload_n hx hb dD_init_63 rfl (lv_at hl 0 rfl) ?_
  refine lv_iconst (v := 5) hx hb dD_init_64 (by decide) ?_
  refine lv_icmp_ge (tgt := 91) hx hb dD_init_65 rfl (fun h9 => absurd h9 (by decide)) (fun h9 => ?_)
  clear h9
  refine lv_aload_n hx hb dD_init_68 rfl (lv_at hl 1 rfl) ?_
  refine va_get (ci := 2) (C := RD) (T := TD) (N := 9) hx hb ht inD hown hK hP 0 rfl rfl 6 (by decide) (ht _ tw_131) (fun _ h9 => h9) rfl dD_init_69 ?_
  refine lv_iload_n hx hb dD_init_72 rfl (lv_at hl 0 rfl) ?_
  refine va_new (ci := 0) (C := RG) (T := TG) (N := 6) (fs := [.int 0, .long 0, .null, .null, .null, .int 0]) hx hb ht inG tyG tyG_ok hown (ht _ tw_85) (ht _ tw_87) (ht _ tw_61) hK hP hD hS hA rfl (by decide +kernel) (by decide) (by decide) dD_init_73 (fun q73 H hP hD hS => ?_)
  refine lv_dup hx hb dD_init_76 rfl ?_
  refine lv_aload_n hx hb dD_init_77 rfl (lv_at hl 1 rfl) ?_
  refine va_get (ci := 2) (C := RD) (T := TD) (N := 9) hx hb ht inD hown hK hP 0 rfl rfl 0 (by decide) (ht _ tw_125) (fun _ h9 => h9) rfl dD_init_78 ?_
  refine qI_v (wr := [(q0, .inr (2, [.int (nI n), .ref q22, .int 0, .ref q35, .ref q43, .int 0, .ref q55, .null, .null])), (q22, .inl (z 2, 24, .inl (fun _ => 0))), (q35, .inl (z 0, 6, .inr (.inl (fun _ => 0)))), (q43, .inl (z 0, 6, .inr (.inl (fun _ => 0)))), (q55, .inl (z 3, 5, .inr (.inr (.inr (.inr (va_up (va_up (va_up (va_up (fun _ => none) 0 (some (g0 0))) 1 (some (g1 0))) 2 (some (g2 0))) 3 (some (g3 0))))))))] ++ (gWu z g0 n s0 ++ (gWu z g1 n s1 ++ (gWu z g2 n s2 ++ (gWu z g3 n s3))))) (As := [.int (nI n)]) (rest := [.ref q73, .int (nI 4), .ref q55]) ⟨hx, hb, hml, hown, ht⟩ (c_G_init l D z H.size q73 n (by omega) h1n) (cB 1 ht gG_init rfl tw_61 tw_88 (by decide +kernel) ⟨by decide, by decide⟩) rfl tw_89 hK hP hD hS hA [21] [0, 1, 2, 3, 4, 5, 6, 7, 8, 9, 10, 11, 12, 13, 14, 15, 16, 17, 18, 19, 20] rfl rfl rfl rfl (by decide) rfl rfl hl.1 rfl (Nat.le_of_ble_eq_true rfl) dD_init_81 ⟨by decide, by decide⟩ (fun u81 H locs h81 hP hD hS => ?_)
  obtain ⟨g4, s4⟩ := u81
  obtain ⟨hq9, hG4, -, -⟩ := h81
  replace hq9 : g4 0 = q73 := hq9
  replace hG4 : gGp n s4 (fun x => x = pg_id) := hG4
  refine wtv (x' := .ref (g4 0)) (by rw [hq9]) ?_
  replace hP : va_P D vC ([(q0, .inr (2, [.int (nI n), .ref q22, .int 0, .ref q35, .ref q43, .int 0, .ref q55, .null, .null])), (q22, .inl (z 2, 24, .inl (fun _ => 0))), (q35, .inl (z 0, 6, .inr (.inl (fun _ => 0)))), (q43, .inl (z 0, 6, .inr (.inl (fun _ => 0)))), (q55, .inl (z 3, 5, .inr (.inr (.inr (.inr (va_up (va_up (va_up (va_up (fun _ => none) 0 (some (g0 0))) 1 (some (g1 0))) 2 (some (g2 0))) 3 (some (g3 0))))))))] ++ (gWu z g0 n s0 ++ (gWu z g1 n s1 ++ (gWu z g2 n s2 ++ (gWu z g3 n s3 ++ (gWu z g4 n s4)))))) H := hP
  replace hD : va_D A ([(q0, .inr (2, [.int (nI n), .ref q22, .int 0, .ref q35, .ref q43, .int 0, .ref q55, .null, .null])), (q22, .inl (z 2, 24, .inl (fun _ => 0))), (q35, .inl (z 0, 6, .inr (.inl (fun _ => 0)))), (q43, .inl (z 0, 6, .inr (.inl (fun _ => 0)))), (q55, .inl (z 3, 5, .inr (.inr (.inr (.inr (va_up (va_up (va_up (va_up (fun _ => none) 0 (some (g0 0))) 1 (some (g1 0))) 2 (some (g2 0))) 3 (some (g3 0))))))))] ++ (gWu z g0 n s0 ++ (gWu z g1 n s1 ++ (gWu z g2 n s2 ++ (gWu z g3 n s3 ++ (gWu z g4 n s4)))))) := hD
  refine va_astq hx hb hK hP hD hS 4 3 21 0 rfl rfl rfl rfl (vp_in_nI (N := 5) (by decide) (by decide)) dD_init_84 (fun H locs hP hD hS => ?_)
  rw [nI_clamp (by decide)] at hP hD
  replace hP : va_P D vC ([(q0, .inr (2, [.int (nI n), .ref q22, .int 0, .ref q35, .ref q43, .int 0, .ref q55, .null, .null])), (q22, .inl (z 2, 24, .inl (fun _ => 0))), (q35, .inl (z 0, 6, .inr (.inl (fun _ => 0)))), (q43, .inl (z 0, 6, .inr (.inl (fun _ => 0)))), (q55, .inl (z 3, 5, .inr (.inr (.inr (.inr (va_up (va_up (va_up (va_up (va_up (fun _ => none) 0 (some (g0 0))) 1 (some (g1 0))) 2 (some (g2 0))) 3 (some (g3 0))) 4 (some (g4 0))))))))] ++ (gWu z g0 n s0 ++ (gWu z g1 n s1 ++ (gWu z g2 n s2 ++ (gWu z g3 n s3 ++ (gWu z g4 n s4)))))) H := hP
  replace hD : va_D A ([(q0, .inr (2, [.int (nI n), .ref q22, .int 0, .ref q35, .ref q43, .int 0, .ref q55, .null, .null])), (q22, .inl (z 2, 24, .inl (fun _ => 0))), (q35, .inl (z 0, 6, .inr (.inl (fun _ => 0)))), (q43, .inl (z 0, 6, .inr (.inl (fun _ => 0)))), (q55, .inl (z 3, 5, .inr (.inr (.inr (.inr (va_up (va_up (va_up (va_up (va_up (fun _ => none) 0 (some (g0 0))) 1 (some (g1 0))) 2 (some (g2 0))) 3 (some (g3 0))) 4 (some (g4 0))))))))] ++ (gWu z g0 n s0 ++ (gWu z g1 n s1 ++ (gWu z g2 n s2 ++ (gWu z g3 n s3 ++ (gWu z g4 n s4)))))) := hD
  refine lv_iinc (k := 0) (v := (nI (4 + 1))) hx hb dD_init_85 hl rfl (by exact nI_1 _) (by decide) rfl (fun ls hl => ?_)
  replace hl : lv_has ls 3 [(2, .int (nI (4 + 1))), (0, .ref q0), (1, .int x)] := hl
  refine lv_goto (tgt := 63) hx hb dD_init_88 rfl ?_
  refine lv_iload_n hx hb dD_init_63 rfl (lv_at hl 0 rfl) ?_
  refine lv_iconst (v := 5) hx hb dD_init_64 (by decide) ?_
  refine lv_icmp_ge (tgt := 91) hx hb dD_init_65 rfl (fun h9 => ?_) (fun h9 => absurd (by decide) h9)
  clear h9
  refine lv_aload_n hx hb dD_init_91 rfl (lv_at hl 1 rfl) ?_
  refine va_new (ci := 0) (C := RG) (T := TG) (N := 6) (fs := [.int 0, .long 0, .null, .null, .null, .int 0]) hx hb ht inG tyG tyG_ok hown (ht _ tw_85) (ht _ tw_87) (ht _ tw_61) hK hP hD hS hA rfl (by decide +kernel) (by decide) (by decide) dD_init_92 (fun q92 H hP hD hS => ?_)
  refine lv_dup hx hb dD_init_95 rfl ?_
  refine lv_aload_n hx hb dD_init_96 rfl (lv_at hl 1 rfl) ?_
  refine va_get (ci := 2) (C := RD) (T := TD) (N := 9) hx hb ht inD hown hK hP 0 rfl rfl 0 (by decide) (ht _ tw_125) (fun _ h9 => h9) rfl dD_init_97 ?_
  refine qI_v (wr := [(q0, .inr (2, [.int (nI n), .ref q22, .int 0, .ref q35, .ref q43, .int 0, .ref q55, .null, .null])), (q22, .inl (z 2, 24, .inl (fun _ => 0))), (q35, .inl (z 0, 6, .inr (.inl (fun _ => 0)))), (q43, .inl (z 0, 6, .inr (.inl (fun _ => 0)))), (q55, .inl (z 3, 5, .inr (.inr (.inr (.inr (va_up (va_up (va_up (va_up (va_up (fun _ => none) 0 (some (g0 0))) 1 (some (g1 0))) 2 (some (g2 0))) 3 (some (g3 0))) 4 (some (g4 0))))))))] ++ (gWu z g0 n s0 ++ (gWu z g1 n s1 ++ (gWu z g2 n s2 ++ (gWu z g3 n s3 ++ (gWu z g4 n s4)))))) (As := [.int (nI n)]) (rest := [.ref q92, .ref q0]) ⟨hx, hb, hml, hown, ht⟩ (c_G_init l D z H.size q92 n (by omega) h1n) (cB 1 ht gG_init rfl tw_61 tw_88 (by decide +kernel) ⟨by decide, by decide⟩) rfl tw_89 hK hP hD hS hA [25] [0, 1, 2, 3, 4, 5, 6, 7, 8, 9, 10, 11, 12, 13, 14, 15, 16, 17, 18, 19, 20, 21, 22, 23, 24] rfl rfl rfl rfl (by decide) rfl rfl hl.1 rfl (Nat.le_of_ble_eq_true rfl) dD_init_100 ⟨by decide, by decide⟩ (fun u100 H locs h100 hP hD hS => ?_)
  obtain ⟨g5, s5⟩ := u100
  obtain ⟨hq9, hG5, -, -⟩ := h100
  replace hq9 : g5 0 = q92 := hq9
  replace hG5 : gGp n s5 (fun x => x = pg_id) := hG5
  refine wtv (x' := .ref (g5 0)) (by rw [hq9]) ?_
  replace hP : va_P D vC ([(q0, .inr (2, [.int (nI n), .ref q22, .int 0, .ref q35, .ref q43, .int 0, .ref q55, .null, .null])), (q22, .inl (z 2, 24, .inl (fun _ => 0))), (q35, .inl (z 0, 6, .inr (.inl (fun _ => 0)))), (q43, .inl (z 0, 6, .inr (.inl (fun _ => 0)))), (q55, .inl (z 3, 5, .inr (.inr (.inr (.inr (va_up (va_up (va_up (va_up (va_up (fun _ => none) 0 (some (g0 0))) 1 (some (g1 0))) 2 (some (g2 0))) 3 (some (g3 0))) 4 (some (g4 0))))))))] ++ (gWu z g0 n s0 ++ (gWu z g1 n s1 ++ (gWu z g2 n s2 ++ (gWu z g3 n s3 ++ (gWu z g4 n s4 ++ (gWu z g5 n s5))))))) H := hP
  replace hD : va_D A ([(q0, .inr (2, [.int (nI n), .ref q22, .int 0, .ref q35, .ref q43, .int 0, .ref q55, .null, .null])), (q22, .inl (z 2, 24, .inl (fun _ => 0))), (q35, .inl (z 0, 6, .inr (.inl (fun _ => 0)))), (q43, .inl (z 0, 6, .inr (.inl (fun _ => 0)))), (q55, .inl (z 3, 5, .inr (.inr (.inr (.inr (va_up (va_up (va_up (va_up (va_up (fun _ => none) 0 (some (g0 0))) 1 (some (g1 0))) 2 (some (g2 0))) 3 (some (g3 0))) 4 (some (g4 0))))))))] ++ (gWu z g0 n s0 ++ (gWu z g1 n s1 ++ (gWu z g2 n s2 ++ (gWu z g3 n s3 ++ (gWu z g4 n s4 ++ (gWu z g5 n s5))))))) := hD
  refine va_put (ci := 2) (ty := .object "PermutationDesk$Group") (C := RD) (T := TD) (N := 9) hx hb ht inD tyD tyD_ok nmD hown hK hP hD hS 0 rfl rfl 7 (by decide) (ht _ tw_132) (fun _ h9 => h9) rfl (by decide +kernel) rfl rfl (Nat.le_of_ble_eq_true rfl) dD_init_103 (fun H locs hP hD hS => ?_)
  replace hP : va_P D vC ([(q0, .inr (2, [.int (nI n), .ref q22, .int 0, .ref q35, .ref q43, .int 0, .ref q55, .ref (g5 0), .null])), (q22, .inl (z 2, 24, .inl (fun _ => 0))), (q35, .inl (z 0, 6, .inr (.inl (fun _ => 0)))), (q43, .inl (z 0, 6, .inr (.inl (fun _ => 0)))), (q55, .inl (z 3, 5, .inr (.inr (.inr (.inr (va_up (va_up (va_up (va_up (va_up (fun _ => none) 0 (some (g0 0))) 1 (some (g1 0))) 2 (some (g2 0))) 3 (some (g3 0))) 4 (some (g4 0))))))))] ++ (gWu z g0 n s0 ++ (gWu z g1 n s1 ++ (gWu z g2 n s2 ++ (gWu z g3 n s3 ++ (gWu z g4 n s4 ++ (gWu z g5 n s5))))))) H := hP
  replace hD : va_D A ([(q0, .inr (2, [.int (nI n), .ref q22, .int 0, .ref q35, .ref q43, .int 0, .ref q55, .ref (g5 0), .null])), (q22, .inl (z 2, 24, .inl (fun _ => 0))), (q35, .inl (z 0, 6, .inr (.inl (fun _ => 0)))), (q43, .inl (z 0, 6, .inr (.inl (fun _ => 0)))), (q55, .inl (z 3, 5, .inr (.inr (.inr (.inr (va_up (va_up (va_up (va_up (va_up (fun _ => none) 0 (some (g0 0))) 1 (some (g1 0))) 2 (some (g2 0))) 3 (some (g3 0))) 4 (some (g4 0))))))))] ++ (gWu z g0 n s0 ++ (gWu z g1 n s1 ++ (gWu z g2 n s2 ++ (gWu z g3 n s3 ++ (gWu z g4 n s4 ++ (gWu z g5 n s5))))))) := hD
  refine lv_aload_n hx hb dD_init_106 rfl (lv_at hl 1 rfl) ?_
  refine va_new (ci := 0) (C := RG) (T := TG) (N := 6) (fs := [.int 0, .long 0, .null, .null, .null, .int 0]) hx hb ht inG tyG tyG_ok hown (ht _ tw_85) (ht _ tw_87) (ht _ tw_61) hK hP hD hS hA rfl (by decide +kernel) (by decide) (by decide) dD_init_107 (fun q107 H hP hD hS => ?_)
  refine lv_dup hx hb dD_init_110 rfl ?_
  refine lv_iconst (v := 2) hx hb dD_init_111 (by decide) ?_
  refine lv_aload_n hx hb dD_init_112 rfl (lv_at hl 1 rfl) ?_
  refine va_get (ci := 2) (C := RD) (T := TD) (N := 9) hx hb ht inD hown hK hP 0 rfl rfl 0 (by decide) (ht _ tw_125) (fun _ h9 => h9) rfl dD_init_113 ?_
  refine lv_imul hx hb dD_init_116 ?_
  refine wti (x' := nI (n + n)) (by rw [show (2 : Int32) * nI n = nI (2 * n) from pk_mul 2 n, show 2 * n = n + n by omega]) ?_
  refine qI_v (wr := [(q0, .inr (2, [.int (nI n), .ref q22, .int 0, .ref q35, .ref q43, .int 0, .ref q55, .ref (g5 0), .null])), (q22, .inl (z 2, 24, .inl (fun _ => 0))), (q35, .inl (z 0, 6, .inr (.inl (fun _ => 0)))), (q43, .inl (z 0, 6, .inr (.inl (fun _ => 0)))), (q55, .inl (z 3, 5, .inr (.inr (.inr (.inr (va_up (va_up (va_up (va_up (va_up (fun _ => none) 0 (some (g0 0))) 1 (some (g1 0))) 2 (some (g2 0))) 3 (some (g3 0))) 4 (some (g4 0))))))))] ++ (gWu z g0 n s0 ++ (gWu z g1 n s1 ++ (gWu z g2 n s2 ++ (gWu z g3 n s3 ++ (gWu z g4 n s4 ++ (gWu z g5 n s5))))))) (As := [.int (nI (n + n))]) (rest := [.ref q107, .ref q0]) ⟨hx, hb, hml, hown, ht⟩ (c_G_init l D z H.size q107 (n + n) (by omega) (by omega)) (cB 1 ht gG_init rfl tw_61 tw_88 (by decide +kernel) ⟨by decide, by decide⟩) rfl tw_89 hK hP hD hS hA [29] [0, 1, 2, 3, 4, 5, 6, 7, 8, 9, 10, 11, 12, 13, 14, 15, 16, 17, 18, 19, 20, 21, 22, 23, 24, 25, 26, 27, 28] rfl rfl rfl rfl (by decide) rfl rfl hl.1 rfl (Nat.le_of_ble_eq_true rfl) dD_init_117 ⟨by decide, by decide⟩ (fun u117 H locs h117 hP hD hS => ?_)
  obtain ⟨g6, s6⟩ := u117
  obtain ⟨hq9, hG6, -, -⟩ := h117
  replace hq9 : g6 0 = q107 := hq9
  refine wtv (x' := .ref (g6 0)) (by rw [hq9]) ?_
  replace hP : va_P D vC ([(q0, .inr (2, [.int (nI n), .ref q22, .int 0, .ref q35, .ref q43, .int 0, .ref q55, .ref (g5 0), .null])), (q22, .inl (z 2, 24, .inl (fun _ => 0))), (q35, .inl (z 0, 6, .inr (.inl (fun _ => 0)))), (q43, .inl (z 0, 6, .inr (.inl (fun _ => 0)))), (q55, .inl (z 3, 5, .inr (.inr (.inr (.inr (va_up (va_up (va_up (va_up (va_up (fun _ => none) 0 (some (g0 0))) 1 (some (g1 0))) 2 (some (g2 0))) 3 (some (g3 0))) 4 (some (g4 0))))))))] ++ (gWu z g0 n s0 ++ (gWu z g1 n s1 ++ (gWu z g2 n s2 ++ (gWu z g3 n s3 ++ (gWu z g4 n s4 ++ (gWu z g5 n s5 ++ (gWu z g6 (n + n) s6)))))))) H := hP
  replace hD : va_D A ([(q0, .inr (2, [.int (nI n), .ref q22, .int 0, .ref q35, .ref q43, .int 0, .ref q55, .ref (g5 0), .null])), (q22, .inl (z 2, 24, .inl (fun _ => 0))), (q35, .inl (z 0, 6, .inr (.inl (fun _ => 0)))), (q43, .inl (z 0, 6, .inr (.inl (fun _ => 0)))), (q55, .inl (z 3, 5, .inr (.inr (.inr (.inr (va_up (va_up (va_up (va_up (va_up (fun _ => none) 0 (some (g0 0))) 1 (some (g1 0))) 2 (some (g2 0))) 3 (some (g3 0))) 4 (some (g4 0))))))))] ++ (gWu z g0 n s0 ++ (gWu z g1 n s1 ++ (gWu z g2 n s2 ++ (gWu z g3 n s3 ++ (gWu z g4 n s4 ++ (gWu z g5 n s5 ++ (gWu z g6 (n + n) s6)))))))) := hD
  refine va_putF (ci := 2) (ty := .object "PermutationDesk$Group") (C := RD) (T := TD) (N := 9) hx hb ht inD tyD tyD_ok nmD hown hK hP hD hS 0 rfl rfl 8 (by decide) (ht _ tw_133) (fun _ h9 => h9) rfl hin rfl (by decide +kernel) rfl rfl (Nat.le_of_ble_eq_true rfl) dD_init_120 (fun H locs hP hD hS => ?_)
  replace hP : va_P D vC ([(q0, .inr (2, [.int (nI n), .ref q22, .int 0, .ref q35, .ref q43, .int 0, .ref q55, .ref (g5 0), .ref (g6 0)])), (q22, .inl (z 2, 24, .inl (fun _ => 0))), (q35, .inl (z 0, 6, .inr (.inl (fun _ => 0)))), (q43, .inl (z 0, 6, .inr (.inl (fun _ => 0)))), (q55, .inl (z 3, 5, .inr (.inr (.inr (.inr (va_up (va_up (va_up (va_up (va_up (fun _ => none) 0 (some (g0 0))) 1 (some (g1 0))) 2 (some (g2 0))) 3 (some (g3 0))) 4 (some (g4 0))))))))] ++ (gWu z g0 n s0 ++ (gWu z g1 n s1 ++ (gWu z g2 n s2 ++ (gWu z g3 n s3 ++ (gWu z g4 n s4 ++ (gWu z g5 n s5 ++ (gWu z g6 (n + n) s6)))))))) H := hP
  replace hD : va_D A ([(q0, .inr (2, [.int (nI n), .ref q22, .int 0, .ref q35, .ref q43, .int 0, .ref q55, .ref (g5 0), .ref (g6 0)])), (q22, .inl (z 2, 24, .inl (fun _ => 0))), (q35, .inl (z 0, 6, .inr (.inl (fun _ => 0)))), (q43, .inl (z 0, 6, .inr (.inl (fun _ => 0)))), (q55, .inl (z 3, 5, .inr (.inr (.inr (.inr (va_up (va_up (va_up (va_up (va_up (fun _ => none) 0 (some (g0 0))) 1 (some (g1 0))) 2 (some (g2 0))) 3 (some (g3 0))) 4 (some (g4 0))))))))] ++ (gWu z g0 n s0 ++ (gWu z g1 n s1 ++ (gWu z g2 n s2 ++ (gWu z g3 n s3 ++ (gWu z g4 n s4 ++ (gWu z g5 n s5 ++ (gWu z g6 (n + n) s6)))))))) := hD
  have hsf : va_up (va_up (va_up (va_up (va_up (fun _ => none) 0 (some (g0 0))) 1 (some (g1 0))) 2 (some (g2 0))) 3 (some (g3 0))) 4 (some (g4 0)) = dF (fun i => if i = 0 then g0 else if i = 1 then g1 else if i = 2 then g2 else if i = 3 then g3 else if i = 4 then g4 else if i = 5 then g5 else g6) := by
    funext i
    by_cases h5 : i < 5
    · have : i = 0 ∨ i = 1 ∨ i = 2 ∨ i = 3 ∨ i = 4 := by omega
      rcases this with rfl | rfl | rfl | rfl | rfl <;> rfl
    · unfold dF va_up
      rw [if_neg (by omega), if_neg (by omega), if_neg (by omega), if_neg (by omega), if_neg (by omega), if_neg h5]
  rw [hsf] at hP hD
  replace hP := hP.sub (ws' := dW z (fun i => if i = 0 then q0 else if i = 1 then q22 else if i = 2 then q35 else if i = 3 then q43 else q55) n (0, (fun _ => 0), 0, (fun _ => 0), (fun _ => 0), (fun i => if i = 0 then g0 else if i = 1 then g1 else if i = 2 then g2 else if i = 3 then g3 else if i = 4 then g4 else if i = 5 then g5 else g6), (fun i => if i = 0 then s0 else if i = 1 then s1 else if i = 2 then s2 else if i = 3 then s3 else if i = 4 then s4 else if i = 5 then s5 else s6))) [0, 1, 2, 3, 4, 25, 26, 27, 28, 29, 30, 31, 32, 5, 6, 7, 8, 9, 10, 11, 12, 13, 14, 15, 16, 17, 18, 19, 20, 21, 22, 23, 24] rfl
  replace hD := hD.sub (ws' := dW z (fun i => if i = 0 then q0 else if i = 1 then q22 else if i = 2 then q35 else if i = 3 then q43 else q55) n (0, (fun _ => 0), 0, (fun _ => 0), (fun _ => 0), (fun i => if i = 0 then g0 else if i = 1 then g1 else if i = 2 then g2 else if i = 3 then g3 else if i = 4 then g4 else if i = 5 then g5 else g6), (fun i => if i = 0 then s0 else if i = 1 then s1 else if i = 2 then s2 else if i = 3 then s3 else if i = 4 then s4 else if i = 5 then s5 else s6))) [0, 1, 2, 3, 4, 25, 26, 27, 28, 29, 30, 31, 32, 5, 6, 7, 8, 9, 10, 11, 12, 13, 14, 15, 16, 17, 18, 19, 20, 21, 22, 23, 24] rfl rfl
  refine W.vret hx hb hr (fun t9 ht hW => ⟨⟨((fun i => if i = 0 then q0 else if i = 1 then q22 else if i = 2 then q35 else if i = 3 then q43 else q55), (0, (fun _ => 0), 0, (fun _ => 0), (fun _ => 0), (fun i => if i = 0 then g0 else if i = 1 then g1 else if i = 2 then g2 else if i = 3 then g3 else if i = 4 then g4 else if i = 5 then g5 else g6), (fun i => if i = 0 then s0 else if i = 1 then s1 else if i = 2 then s2 else if i = 3 then s3 else if i = 4 then s4 else if i = 5 then s5 else s6))), rfl, ⟨rfl, h1n, rfl, rfl, ⟨by decide, by decide, hn, fun j hj => absurd hj (Nat.not_lt_zero j), fun j hj => absurd hj (Nat.not_lt_zero j)⟩, fun j hj => absurd hj (Nat.not_lt_zero j), fun i hi => ?_, pg_Gen_0.symm⟩, by rw [ht]; exact hP, hD⟩, hS.F ht⟩) hS.2.2 dD_init_123
  have : i = 0 ∨ i = 1 ∨ i = 2 ∨ i = 3 ∨ i = 4 := by omega
  rcases this with rfl | rfl | rfl | rfl | rfl
  · exact hG0
  · exact hG1
  · exact hG2
  · exact hG3
  · exact hG4
