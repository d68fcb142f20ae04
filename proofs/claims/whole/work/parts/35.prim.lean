/-! Reader: primaries, factors, expressions. -/
/-- what the inner level must give -/
def rInn (l : Launch) (D : va_G) (z : Nat → ClassId) (q : Nat → Nat) (n len gc : Nat) (ft : Nat → Int32) (fg : Nat → Int64) (E : Option (Nat → Option (pg_F × Nat))) (e9 b9 bd : Nat) : Prop := match E with
  | none => b9 = 4
  | some F => b9 < 4 ∧ (∀ a x a1, F a = some (x, a1) → pg_P n x) ∧ pr_inb len F ∧ ∀ (sz a : Nat), a ≤ len → Met l yR_expression wR_expression (rmF e9) (va_Pc [.ref (q 0), .int (nI (b9 + 1))] (fun U => U.heap.size = sz ∧ va_P D vC (rW z q n len gc ft fg a false) U.heap ∧ va_K D vC (tyL z) U ∧ va_D (fun _ => True) (rW z q n len gc ft fg a false))) (va_Ql (fun r (u : Nat × Bool) => rAns n (F a) bd r u) (fun u t => va_P D vC (rWu z q n len gc ft fg u) t.heap ∧ va_D (va_A (rW z q n len gc ft fg a false) sz) (rWu z q n len gc ft fg u)) (va_A (rW z q n len gc ft fg a false) sz)) 0 0 (va_A (rW z q n len gc ft fg a false) sz)
set_option maxHeartbeats 2000000 in
set_option maxRecDepth 100000 in
theorem c_R_primary_of (l : Launch) (D : va_G) (z : Nat → ClassId) (q : Nat → Nat) (n len gc : Nat) (ft : Nat → Int32) (fg : Nat → Int64) (tx : Nat → Nat) (g : Nat → pg_F) (hok : rOK tx len n gc g ft fg) (E : Option (Nat → Option (pg_F × Nat))) (e9 b9 bd : Nat) (he9 : 1 ≤ e9) (hb9 : b9 ≤ 4) (hbd : bd < 900) (hbd2 : 40 ≤ bd) (hE : rInn l D z q n len gc ft fg E e9 b9 bd) (sz a : Nat) (ha : a ≤ len) : Met l yR_primary wR_primary (rmF (e9 + 2)) (va_Pc [.ref (q 0), .int (nI b9)] (fun U => U.heap.size = sz ∧ va_P D vC (rW z q n len gc ft fg a false) U.heap ∧ va_K D vC (tyL z) U ∧ va_D (fun _ => True) (rW z q n len gc ft fg a false))) (va_Ql (fun r (u : Nat × Bool) => rAns n (pr_pri tx len n gc g E a) (bd + 2) r u) (fun u t => va_P D vC (rWu z q n len gc ft fg u) t.heap ∧ va_D (va_A (rW z q n len gc ft fg a false) sz) (rWu z q n len gc ft fg u)) (va_A (rW z q n len gc ft fg a false) sz)) 0 0 (va_A (rW z q n len gc ft fg a false) sz) := by
  have hn7 := hok.2.2.1
  have hlen := hok.1
  have hgc6 := hok.2.1
  have hc := hok.lk a
  generalize hRES : pr_pri tx len n gc g E a = RES
  unfold pr_pri at hRES
  refine Met.ofW (cc := prog_7_method_7_code) (maxL := 5) (ret := (some .long)) (by decide) rfl ?_
  intro p e s m args below meth c s₁ B hml hv
  have hx := B.exec
  have hb := B.bytes
  have hr := B.returns
  have ht : ∀ w ∈ TB, w.before args s = true := fun w h => atoms_spec (ws := wR_primary) B.pre w (List.mem_cons_of_mem _ h)
  have hown : s.vm.findClass "PermutationDesk$Reader" = some m.cls := findClass_of_methodNamed B.named
  have hlocks := B.notSynchronized
  obtain ⟨rfl, hsz, hP, hK, hD0⟩ := hv
  subst hsz
  have hD := hD0.self (sz := s.heap.size)
  generalize hAe : va_A (rW z q n len gc ft fg a false) s.heap.size = A at hD ⊢
  have hA : ∀ q : Nat, s.heap.size ≤ q → A q := fun q h => by rw [← hAe]; exact Or.inr h
  have hS : va_S A s.heap s.heap [] := va_S.rf
  have hl := lv_entry ([.ref (q 0), .int (nI b9)]) (n := 5) (Nat.le_of_ble_eq_true rfl)
  rw [lg_entry_eq]
  generalize (lg_sl ([.ref (q 0), .int (nI b9)]) ++ List.replicate (5 - (lg_sl ([.ref (q 0), .int (nI b9)])).length) Slot.unset).toArray = ls at hl ⊢
  have hl : lv_has ls 5 [(0, .ref (q 0)), (1, .int (nI b9))] := hl
  refine lv_aload_n hx hb dR_primary_0 rfl (lv_at hl 0 rfl) ?_
  refine qW_i (ci := 1) (q0 := 0) (wr := []) (As := []) (rest := []) ⟨hx, hb, hml, hown, ht⟩ (c_R_take l D z q s.heap.size n len gc ft fg tx g hok a (by omega) false) (cB 0 ht gR_take rfl tw_65 tw_222 (by decide +kernel) ⟨by show 1 + 1 ≤ e9 + 2; omega, by show 8 + (2 + 11) + 40 * (1) ≤ 40 * (e9 + 2); omega⟩) tw_224 tw_4 hK hP hD hS hA [0, 1, 2] [] rfl rfl rfl rfl (by decide) rfl rfl rfl rfl hl.1 rfl (Nat.le_of_ble_eq_true rfl) dR_primary_1 ⟨Nat.le_refl _, Nat.le_refl _⟩ (fun r1 u1 H locs h1 hP hD hS => ?_)
  obtain ⟨rfl, rfl⟩ := h1
  replace hP : va_P D vC (rW z q n len gc ft fg (a + 1) false) H := hP
  replace hD : va_D A (rW z q n len gc ft fg (a + 1) false) := hD
  generalize hcc : pr_look tx len a = cc at hc hRES ⊢
  have hin : cc ≠ 0 → a < len := fun h9 => Classical.byContradiction (fun r => h9 (by rw [← hcc]; exact pr_look_out (by omega)))
  refine lv_istore_n hx hb dR_primary_4 rfl hl (by decide) rfl (fun ls hl => ?_)
  replace hl : lv_has ls 5 [(2, .int (nI cc)), (0, .ref (q 0)), (1, .int (nI b9))] := hl
  refine lv_iload_n hx hb dR_primary_5 rfl (lv_at hl 0 rfl) ?_
  refine lv_bipush (v := 40) hx hb dR_primary_6 (by decide) ?_
  refine lv_icmp_ne (tgt := 16) hx hb dR_primary_8 rfl (fun h8 => ?_) (fun h8 => ?_)
  · have n40 : cc ≠ 40 := fun e9 => h8 (by rw [e9]; rfl)
    rw [if_neg n40] at hRES
    refine wj (σ := Unit) (pc := 62) (I := fun _ H1 locs1 ls1 => H1 = H ∧ locs1 = locs ∧ RES = (if 97 ≤ cc ∧ cc < 97 + gc then some (g (cc - 97), a + 1) else none) ∧ lv_has ls1 5 [(2, .int (nI cc)), (0, .ref (q 0))]) ?_ (fun jn => ?_)
    · rintro - H1 locs1 ls1 ⟨rfl, rfl, hres, hl⟩
      refine wj (σ := Unit) (pc := 95) (I := fun _ H2 locs2 ls1 => H2 = H1 ∧ locs2 = locs1 ∧ RES = none ∧ lv_has ls1 5 [(0, .ref (q 0))]) ?_ (fun jn => ?_)
      · rintro - H2 locs2 ls1 ⟨rfl, rfl, hno, hl⟩
        refine lv_aload_n hx hb dR_primary_95 rfl (lv_at hl 0 rfl) ?_
        refine lv_iconst (v := 1) hx hb dR_primary_96 (by decide) ?_
        refine va_put (ci := 1) (ty := .boolean) (C := RR) (T := TR) (N := 7) hx hb ht inR tyR tyR_ok nmR hown hK hP hD hS 0 rfl rfl 6 (by decide) (ht _ tw_194) (fun _ h9 => h9) rfl (by decide +kernel) rfl rfl (Nat.le_of_ble_eq_true rfl) dR_primary_97 (fun H locs hP hD hS => ?_)
        have hP : va_P D vC (rW z q n len gc ft fg (a + 1) true) H := hP
        have hD : va_D A (rW z q n len gc ft fg (a + 1) true) := hD
        refine W.ldc2 hx hb hown (ht _ tw_240) rfl dR_primary_100 ?_
        exact W.lret hx hb hr (fun t9 ht hW => ⟨⟨_, (a + 1, true), rfl, by rw [hno]; exact ⟨rfl, by show a + 1 ≤ bd + 2; omega⟩, by rw [ht]; exact hP, hD⟩, hS.F ht⟩) hS.2.2 dR_primary_103
      refine lv_iload_n hx hb dR_primary_62 rfl (lv_at hl 0 rfl) ?_
      refine lv_bipush (v := 97) hx hb dR_primary_63 (by decide) ?_
      refine lv_isub hx hb dR_primary_65 ?_
      by_cases h97 : cc < 97
      · refine wti (x' := nI cc - nI 97) rfl ?_
        refine lv_istore_n hx hb dR_primary_66 rfl hl (by decide) rfl (fun ls hl => ?_)
        replace hl : lv_has ls 5 [(3, .int (nI cc - nI 97)), (2, .int (nI cc)), (0, .ref (q 0))] := hl
        refine lv_iload_n hx hb dR_primary_67 rfl (lv_at hl 0 rfl) ?_
        refine lv_if_lt (tgt := 95) hx hb dR_primary_68 rfl (fun h68 => ?_) (fun h68 => ?_)
        · exact jn () _ _ ls ⟨rfl, rfl, by rw [hres, if_neg (by omega)], lv_sub hl [2] rfl⟩
        exact absurd (pk_sneg (by decide) h97) h68
      refine wti (x' := nI (cc - 97)) (pk_sub (b := 97) (by omega)) ?_
      generalize hpp : cc - 97 = pp at hres ⊢
      refine lv_istore_n hx hb dR_primary_66 rfl hl (by decide) rfl (fun ls hl => ?_)
      replace hl : lv_has ls 5 [(3, .int (nI pp)), (2, .int (nI cc)), (0, .ref (q 0))] := hl
      refine lv_iload_n hx hb dR_primary_67 rfl (lv_at hl 0 rfl) ?_
      refine lv_if_lt (tgt := 95) hx hb dR_primary_68 rfl (fun h68 => ?_) (fun h68 => ?_)
      · exact absurd h68 (nI_pos (by omega))
      refine lv_iload_n hx hb dR_primary_71 rfl (lv_at hl 0 rfl) ?_
      refine lv_aload_n hx hb dR_primary_72 rfl (lv_at hl 2 rfl) ?_
      refine va_get (ci := 1) (C := RR) (T := TR) (N := 7) hx hb ht inR hown hK hP 0 rfl rfl 3 (by decide) (ht _ tw_191) (fun _ h9 => h9) rfl dR_primary_73 ?_
      refine lv_icmp_ge (tgt := 95) hx hb dR_primary_76 rfl (fun h76 => ?_) (fun h76 => ?_)
      · have h77 := (nI_leI (by omega) (by omega)).mp h76
        exact jn () _ _ ls ⟨rfl, rfl, by rw [hres, if_neg (by omega)], lv_sub hl [2] rfl⟩
      have hpn : pp < gc := by
        rw [nI_leI (by omega) (by omega)] at h76
        omega
      refine lv_iload_n hx hb dR_primary_79 rfl (lv_at hl 0 rfl) ?_
      refine lv_aload_n hx hb dR_primary_80 rfl (lv_at hl 2 rfl) ?_
      refine va_get (ci := 1) (C := RR) (T := TR) (N := 7) hx hb ht inR hown hK hP 0 rfl rfl 2 (by decide) (ht _ tw_190) (fun _ h9 => h9) rfl dR_primary_81 ?_
      refine va_alen hx hb hK hP 2 0 rfl rfl rfl dR_primary_84 ?_
      refine wti (x' := nI 6) rfl ?_
      refine lv_icmp_ge (tgt := 95) hx hb dR_primary_85 rfl (fun h85 => ?_) (fun h85 => ?_)
      · have h86 := (nI_leI (by omega) (by omega)).mp h85
        omega
      refine lv_aload_n hx hb dR_primary_88 rfl (lv_at hl 2 rfl) ?_
      refine va_get (ci := 1) (C := RR) (T := TR) (N := 7) hx hb ht inR hown hK hP 0 rfl rfl 2 (by decide) (ht _ tw_190) (fun _ h9 => h9) rfl dR_primary_89 ?_
      refine lv_iload_n hx hb dR_primary_92 rfl (lv_at hl 0 rfl) ?_
      refine va_lald hx hb hK hP 2 0 rfl rfl (vp_in_nI (N := 6) (by omega) (by decide)) dR_primary_93 ?_
      refine wtl (x' := eL n (g pp)) (by rw [nI_clamp (by omega)]; exact (hok.2.2.2.2 pp hpn).2) ?_
      exact W.lret hx hb hr (fun t9 ht hW => ⟨⟨_, (a + 1, false), rfl, by rw [hres, if_pos (by omega)]; exact ⟨rfl, rfl⟩, by rw [ht]; exact hP, hD⟩, hS.F ht⟩) hS.2.2 dR_primary_94
    refine wj (σ := Unit) (pc := 35) (I := fun _ H1 locs1 ls1 => H1 = H ∧ locs1 = locs ∧ ¬ (cc = 91 ∧ b9 < 4) ∧ lv_has ls1 5 [(2, .int (nI cc)), (0, .ref (q 0)), (1, .int (nI b9))]) ?_ (fun jn35 => ?_)
    · rintro - H1 locs1 ls1 ⟨rfl, rfl, hno, hl⟩
      refine lv_iload_n hx hb dR_primary_35 rfl (lv_at hl 0 rfl) ?_
      refine lv_bipush (v := 123) hx hb dR_primary_36 (by decide) ?_
      refine lv_icmp_ne (tgt := 62) hx hb dR_primary_38 rfl (fun h38 => ?_) (fun h38 => ?_)
      · have n123 : cc ≠ 123 := fun e9 => h38 (by rw [e9]; rfl)
        refine jn () _ _ ls1 ⟨rfl, rfl, ?_, lv_sub hl [0, 1] rfl⟩
        rw [← hRES]
        cases E with
        | none => rfl
        | some F =>
          have hb4 : b9 < 4 := hE.1
          simp only
          rw [if_neg (fun r => hno ⟨r, hb4⟩), if_neg n123]
      have h123 : cc = 123 := (nI_eq (a := cc) (b := 123) (by omega) (by omega)).mp h38
      refine lv_iload_n hx hb dR_primary_41 rfl (lv_at hl 2 rfl) ?_
      refine lv_iconst (v := 4) hx hb dR_primary_42 (by decide) ?_
      refine lv_icmp_ge (tgt := 62) hx hb dR_primary_43 rfl (fun h43 => ?_) (fun h43 => ?_)
      · have h44 : 4 ≤ b9 := (nI_leI (a := 4) (b := b9) (by omega) (by omega)).mp h43
        refine jn () _ _ ls1 ⟨rfl, rfl, ?_, lv_sub hl [0, 1] rfl⟩
        rw [← hRES]
        cases E with
        | none => rfl
        | some F =>
          have hb4 : b9 < 4 := hE.1
          omega
      have hb4 : b9 < 4 := by
        have : ¬ 4 ≤ b9 := fun e9 => h43 ((nI_leI (a := 4) (b := b9) (by omega) (by omega)).mpr e9)
        omega
      cases E with
      | none => have : b9 = 4 := hE; omega
      | some F =>
        obtain ⟨-, hFP, hFl, hexp⟩ := hE
        simp only at hRES
        rw [if_neg (by omega), if_pos h123] at hRES
        refine lv_aload_n hx hb dR_primary_46 rfl (lv_at hl 1 rfl) ?_
        refine lv_iload_n hx hb dR_primary_47 rfl (lv_at hl 2 rfl) ?_
        refine lv_iconst (v := 1) hx hb dR_primary_48 (by decide) ?_
        refine lv_iadd hx hb dR_primary_49 ?_
        refine wti (x' := nI (b9 + 1)) (nI_1 b9) ?_
        have hal := hin (by omega)
        refine qW_l (ci := 1) (q0 := 0) (wr := []) (As := [.int (nI (b9 + 1))]) (rest := []) ⟨hx, hb, hml, hown, ht⟩ (hexp H1.size (a + 1) (by omega)) (cB 1 ht gR_expression rfl tw_65 tw_245 (by decide +kernel) ⟨by show e9 + 1 ≤ e9 + 2; omega, by show 8 + (5 + 11) + 40 * (e9) ≤ 40 * (e9 + 2); omega⟩) tw_212 tw_1 hK hP hD hS hA [0, 1, 2] [] rfl rfl rfl rfl (by decide) rfl rfl rfl rfl hl.1 rfl (Nat.le_of_ble_eq_true rfl) dR_primary_50 ⟨Nat.le_refl _, Nat.le_refl _⟩ (fun r50 u50 H locs h50 hP hD hS => ?_)
        obtain ⟨a1, bk1⟩ := u50
        replace hP : va_P D vC (rW z q n len gc ft fg a1 bk1) H := hP
        replace hD : va_D A (rW z q n len gc ft fg a1 bk1) := hD
        have ha1 : a1 ≤ bd := by
          cases eE : F (a + 1) with
          | none => rw [eE] at h50; exact h50.2
          | some r0 =>
            obtain ⟨x0, b0⟩ := r0
            rw [eE] at h50
            have := hFl _ x0 b0 (by omega) eE
            have e8 := h50.2
            cases e8
            omega
        refine lv_lstore_n hx hb dR_primary_53 rfl hl (by decide) rfl (fun ls hl => ?_)
        replace hl : lv_has ls 5 [(3, .long r50), (2, .int (nI cc)), (0, .ref (q 0)), (1, .int (nI b9))] := hl
        refine lv_aload_n hx hb dR_primary_54 rfl (lv_at hl 2 rfl) ?_
        refine lv_bipush (v := 125) hx hb dR_primary_55 (by decide) ?_
        refine qW_v (ci := 1) (q0 := 0) (wr := []) (As := [.int (nI 125)]) (rest := []) ⟨hx, hb, hml, hown, ht⟩ (c_R_expect l D z q H.size n len gc ft fg tx g hok a1 (by omega) bk1 125 (by decide)) (cB 1 ht gR_expect rfl tw_65 tw_246 (by decide +kernel) ⟨by show 1 + 1 ≤ e9 + 2; omega, by show 8 + (2 + 11) + 40 * (1) ≤ 40 * (e9 + 2); omega⟩) tw_248 tw_8 hK hP hD hS hA [0, 1, 2] [] rfl rfl rfl rfl (by decide) rfl rfl rfl rfl hl.1 rfl (Nat.le_of_ble_eq_true rfl) dR_primary_57 ⟨Nat.le_refl _, Nat.le_refl _⟩ (fun u57 H locs h57 hP hD hS => ?_)
        subst h57
        replace hP : va_P D vC (rW z q n len gc ft fg (a1 + 1) (bk1 || !(decide (pr_look tx len a1 = 125)))) H := hP
        replace hD : va_D A (rW z q n len gc ft fg (a1 + 1) (bk1 || !(decide (pr_look tx len a1 = 125)))) := hD
        refine lv_lload_n hx hb dR_primary_60 rfl (lv_at hl 0 rfl) ?_
        refine W.lret hx hb hr (fun t9 ht hW => ⟨⟨_, (a1 + 1, (bk1 || !(decide (pr_look tx len a1 = 125)))), rfl, ?_, by rw [ht]; exact hP, hD⟩, hS.F ht⟩) hS.2.2 dR_primary_61
        rw [← hRES]
        cases eE : F (a + 1) with
        | none =>
          rw [eE] at h50
          have e8 : bk1 = true := h50.1
          subst e8
          exact ⟨rfl, by show a1 + 1 ≤ bd + 2; omega⟩
        | some r0 =>
          obtain ⟨x0, b0⟩ := r0
          rw [eE] at h50
          obtain ⟨rfl, e8⟩ := h50
          cases e8
          simp only
          by_cases h125 : pr_look tx len a1 = 125
          · rw [if_pos h125, decide_eq_true h125]
            exact ⟨rfl, rfl⟩
          · rw [if_neg h125, decide_eq_false h125]
            exact ⟨rfl, by show a1 + 1 ≤ bd + 2; omega⟩
    refine lv_iload_n hx hb dR_primary_16 rfl (lv_at hl 0 rfl) ?_
    refine lv_bipush (v := 91) hx hb dR_primary_17 (by decide) ?_
    refine lv_icmp_ne (tgt := 35) hx hb dR_primary_19 rfl (fun h19 => ?_) (fun h19 => ?_)
    · exact jn35 () _ _ ls ⟨rfl, rfl, fun e9 => h19 (by rw [e9.1]; rfl), lv_sub hl [0, 1, 2] rfl⟩
    have h91 : cc = 91 := (nI_eq (a := cc) (b := 91) (by omega) (by omega)).mp h19
    refine lv_iload_n hx hb dR_primary_22 rfl (lv_at hl 2 rfl) ?_
    refine lv_iconst (v := 4) hx hb dR_primary_23 (by decide) ?_
    refine lv_icmp_ge (tgt := 35) hx hb dR_primary_24 rfl (fun h24 => ?_) (fun h24 => ?_)
    · have h44 : 4 ≤ b9 := (nI_leI (a := 4) (b := b9) (by omega) (by omega)).mp h24
      exact jn35 () _ _ ls ⟨rfl, rfl, by omega, lv_sub hl [0, 1, 2] rfl⟩
    have hb4 : b9 < 4 := by
      have : ¬ 4 ≤ b9 := fun e9 => h24 ((nI_leI (a := 4) (b := b9) (by omega) (by omega)).mpr e9)
      omega
    cases E with
    | none => have : b9 = 4 := hE; omega
    | some F =>
      obtain ⟨-, hFP, hFl, hexp⟩ := hE
      simp only at hRES
      rw [if_pos h91] at hRES
      refine lv_aload_n hx hb dR_primary_27 rfl (lv_at hl 1 rfl) ?_
      refine lv_iload_n hx hb dR_primary_28 rfl (lv_at hl 2 rfl) ?_
      refine lv_iconst (v := 1) hx hb dR_primary_29 (by decide) ?_
      refine lv_iadd hx hb dR_primary_30 ?_
      refine wti (x' := nI (b9 + 1)) (nI_1 b9) ?_
      have hal := hin (by omega)
      refine qW_l (ci := 1) (q0 := 0) (wr := []) (As := [.int (nI (b9 + 1))]) (rest := []) ⟨hx, hb, hml, hown, ht⟩ (c_R_commutator_of l D z q n len gc ft fg tx g hok F hFP hFl e9 (b9 + 1) bd he9 (by omega) hbd hbd2 hexp H.size (a + 1) (by omega)) (cB 1 ht gR_commutator rfl tw_65 tw_241 (by decide +kernel) ⟨by show e9 + 1 + 1 ≤ e9 + 2; omega, by show 8 + (6 + 11) + 40 * (e9 + 1) ≤ 40 * (e9 + 2); omega⟩) tw_243 tw_7 hK hP hD hS hA [0, 1, 2] [] rfl rfl rfl rfl (by decide) rfl rfl rfl rfl hl.1 rfl (Nat.le_of_ble_eq_true rfl) dR_primary_31 ⟨Nat.le_refl _, Nat.le_refl _⟩ (fun r31 u31 H locs h31 hP hD hS => ?_)
      refine W.lret hx hb hr (fun t9 ht hW => ⟨⟨_, u31, rfl, ?_, by rw [ht]; exact hP, hD⟩, hS.F ht⟩) hS.2.2 dR_primary_34
      rw [← hRES]
      exact h31
  have h40 : cc = 40 := (nI_eq (a := cc) (b := 40) (by omega) (by omega)).mp h8
  rw [if_pos h40] at hRES
  have hal := hin (by omega)
  refine lv_aload_n hx hb dR_primary_11 rfl (lv_at hl 1 rfl) ?_
  refine qW_l (ci := 1) (q0 := 0) (wr := []) (As := []) (rest := []) ⟨hx, hb, hml, hown, ht⟩ (c_R_cycle l D z q H.size n len gc ft fg tx g hok (a + 1) (by omega)) (cB 0 ht gR_cycle rfl tw_65 tw_230 (by decide +kernel) ⟨by show 2 + 1 ≤ e9 + 2; omega, by show 8 + (9 + 11) + 40 * (2) ≤ 40 * (e9 + 2); omega⟩) tw_232 tw_6 hK hP hD hS hA [0, 1, 2] [] rfl rfl rfl rfl (by decide) rfl rfl rfl rfl hl.1 rfl (Nat.le_of_ble_eq_true rfl) dR_primary_12 ⟨Nat.le_refl _, Nat.le_refl _⟩ (fun r12 u12 H locs h12 hP hD hS => ?_)
  refine W.lret hx hb hr (fun t9 ht hW => ⟨⟨_, u12, rfl, ?_, by rw [ht]; exact hP, hD⟩, hS.F ht⟩) hS.2.2 dR_primary_15
  rw [← hRES]
  cases eE : pr_cyc tx len n (n + 1) (a + 1) pr_c0 with
  | none =>
    rw [eE] at h12
    have h13 := h12.2
    have h13 : u12.1 ≤ a + 1 + n + 1 := h13
    exact ⟨h12.1, by omega⟩
  | some r0 => rw [eE] at h12; exact h12
