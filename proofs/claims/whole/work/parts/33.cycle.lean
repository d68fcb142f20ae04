/-! Reader: cycles. -/
/-- what a method that reads says: the element and where it ends, or that the text is broken -/
def rAns (n : Nat) (o : Option (pg_F × Nat)) (bd : Nat) (r : Int64) (u : Nat × Bool) : Prop := match o with
  | some (x, a1) => r = eL n x ∧ u = (a1, false)
  | none => u.2 = true ∧ u.1 ≤ bd
def cyF (o : Option Nat) (v : Nat) : Int32 := match o with
  | none => -1
  | some _ => nI v
set_option maxHeartbeats 2000000 in
set_option maxRecDepth 100000 in
theorem c_R_cycle (l : Launch) (D : va_G) (z : Nat → ClassId) (q : Nat → Nat) (sz n len gc : Nat) (ft : Nat → Int32) (fg : Nat → Int64) (tx : Nat → Nat) (g : Nat → pg_F) (hok : rOK tx len n gc g ft fg) (a : Nat) (ha : a < 900) : Met l yR_cycle wR_cycle (rmF 2) (va_Pc [.ref (q 0)] (fun U => U.heap.size = sz ∧ va_P D vC (rW z q n len gc ft fg a false) U.heap ∧ va_K D vC (tyL z) U ∧ va_D (fun _ => True) (rW z q n len gc ft fg a false))) (va_Ql (fun r (u : Nat × Bool) => rAns n (pr_cyc tx len n (n + 1) a pr_c0) (a + n + 1) r u) (fun u t => va_P D vC (rWu z q n len gc ft fg u) t.heap ∧ va_D (va_A (rW z q n len gc ft fg a false) sz) (rWu z q n len gc ft fg u)) (va_A (rW z q n len gc ft fg a false) sz)) 0 0 (va_A (rW z q n len gc ft fg a false) sz) := by
  have hn7 := hok.2.2.1
  generalize hRES : pr_cyc tx len n (n + 1) a pr_c0 = RES
  refine Met.ofW (cc := prog_7_method_8_code) (maxL := 9) (ret := (some .long)) (by decide) rfl ?_
  intro p e s m args below meth c s₁ B hml hv
  have hx := B.exec
  have hb := B.bytes
  have hr := B.returns
  have ht : ∀ w ∈ TB, w.before args s = true := fun w h => atoms_spec (ws := wR_cycle) B.pre w (List.mem_cons_of_mem _ h)
  have hown : s.vm.findClass "PermutationDesk$Reader" = some m.cls := findClass_of_methodNamed B.named
  have hlocks := B.notSynchronized
  obtain ⟨rfl, hsz, hP, hK, hD0⟩ := hv
  subst hsz
  have hD := hD0.self (sz := s.heap.size)
  generalize hAe : va_A (rW z q n len gc ft fg a false) s.heap.size = A at hD ⊢
  have hA : ∀ q : Nat, s.heap.size ≤ q → A q := fun q h => by rw [← hAe]; exact Or.inr h
  have hS : va_S A s.heap s.heap [] := va_S.rf
  have hl := lv_entry ([.ref (q 0)]) (n := 9) (Nat.le_of_ble_eq_true rfl)
  rw [lg_entry_eq]
  generalize (lg_sl ([.ref (q 0)]) ++ List.replicate (9 - (lg_sl ([.ref (q 0)])).length) Slot.unset).toArray = ls at hl ⊢
  have hl : lv_has ls 9 [(0, .ref (q 0))] := hl
  refine lv_aload_n hx hb dR_cycle_0 rfl (lv_at hl 0 rfl) ?_
  refine va_get (ci := 1) (C := RR) (T := TR) (N := 7) hx hb ht inR hown hK hP 0 rfl rfl 4 (by decide) (ht _ tw_192) (fun _ h9 => h9) rfl dR_cycle_1 ?_
  refine qS_l (As := [.int (nI n)]) (rest := []) ⟨hx, hb, hml, hown, ht⟩ (c_E_identity l n (by omega)) (cB 1 ht gE_identity rfl tw_62 tw_234 (by decide +kernel) ⟨by decide, by decide⟩) tw_93 rfl hl.1 rfl (Nat.le_of_ble_eq_true rfl) dR_cycle_4 ⟨by decide, by decide⟩ (fun r4 h4 => ?_)
  subst h4
  refine lv_lstore_n hx hb dR_cycle_7 rfl hl (by decide) rfl (fun ls hl => ?_)
  replace hl : lv_has ls 9 [(1, .long (eL n pg_id)), (0, .ref (q 0))] := hl
  refine lv_iconst (v := (-1)) hx hb dR_cycle_8 (by decide) ?_
  refine lv_istore_n hx hb dR_cycle_9 rfl hl (by decide) rfl (fun ls hl => ?_)
  replace hl : lv_has ls 9 [(3, .int (cyF none 0)), (1, .long (eL n pg_id)), (0, .ref (q 0))] := hl
  refine lv_iconst (v := (-1)) hx hb dR_cycle_10 (by decide) ?_
  refine lv_istore hx hb dR_cycle_11 hl (by decide) rfl (fun ls hl => ?_)
  replace hl : lv_has ls 9 [(4, .int (cyF none 0)), (3, .int (cyF none 0)), (1, .long (eL n pg_id)), (0, .ref (q 0))] := hl
  refine lv_iconst (v := 0) hx hb dR_cycle_13 (by decide) ?_
  refine lv_istore hx hb dR_cycle_14 hl (by decide) rfl (fun ls hl => ?_)
  replace hl : lv_has ls 9 [(5, .int (nI 0)), (4, .int (cyF none 0)), (3, .int (cyF none 0)), (1, .long (eL n pg_id)), (0, .ref (q 0))] := hl
  refine lv_iconst (v := 0) hx hb dR_cycle_16 (by decide) ?_
  refine lv_istore hx hb dR_cycle_17 hl (by decide) rfl (fun ls hl => ?_)
  replace hl : lv_has ls 9 [(6, .int (nI 0)), (5, .int (nI 0)), (4, .int (cyF none 0)), (3, .int (cyF none 0)), (1, .long (eL n pg_id)), (0, .ref (q 0))] := hl
  refine wl (σ := Nat × pr_C × Nat × Nat) (I := fun d st H locs ls => d + st.1 = n + 1 ∧ pr_cok n st.2.1 st.1 ∧ RES = pr_cyc tx len n (n + 1 - st.1) (a + st.1) st.2.1 ∧ (∀ p, st.2.2.1.testBit p = st.2.1.2.2.2 p) ∧ (∀ f, st.2.1.2.1 = some f → st.2.2.2 = f) ∧ va_P D vC (rW z q n len gc ft fg (a + st.1) false) H ∧ va_D A (rW z q n len gc ft fg (a + st.1) false) ∧ va_S A s.heap H locs ∧ lv_has ls 9 [(6, .int (nI st.1)), (5, .int (nI st.2.2.1)), (4, .int (cyF st.2.1.2.1 st.2.1.2.2.1)), (3, .int (cyF st.2.1.2.1 st.2.2.2)), (1, .long (eL n st.2.1.1)), (0, .ref (q 0))]) ?_ (n + 1) (0, pr_c0, 0, 0) _ _ ls ⟨rfl, pr_cok_0 n, hRES.symm, fun p => Nat.zero_testBit p, fun f e9 => (by cases e9), hP, hD, hS, hl⟩
  clear hP hD hS hl
  rintro d ⟨t, st, m9, f9⟩ H locs ls ⟨hdt, hcok, hcy, hbit, hff, hP, hD, hS, hl⟩ ih
  obtain ⟨x, fo, last, seen⟩ := st
  replace hdt : d + t = n + 1 := hdt
  have htn : t ≤ n := pr_cok_le hcok
  replace hcok : pr_cok n (x, fo, last, seen) t := hcok
  replace hcy : RES = pr_cyc tx len n (n + 1 - t) (a + t) (x, fo, last, seen) := hcy
  replace hbit : ∀ p, m9.testBit p = seen p := hbit
  replace hff : ∀ f, fo = some f → f9 = f := hff
  replace hP : va_P D vC (rW z q n len gc ft fg (a + t) false) H := hP
  replace hD : va_D A (rW z q n len gc ft fg (a + t) false) := hD
  replace hl : lv_has ls 9 [(6, .int (nI t)), (5, .int (nI m9)), (4, .int (cyF fo last)), (3, .int (cyF fo f9)), (1, .long (eL n x)), (0, .ref (q 0))] := hl
  have hseen : ∀ p, n ≤ p → seen p = false := hcok.2.1
  have hm9 : m9 < 2 ^ 31 := pe_lt31 (n := n) (by omega) (fun p hp => Classical.byContradiction (fun h9 => by rw [hbit p, hseen p (by omega)] at hp; cases hp))
  have hx9 : ∀ i, i < n → x i < 2 ^ 4 := fun i hi => by have : x i < n := hcok.2.2.2.1 i hi; omega
  have hc := hok.lk (a + t)
  obtain ⟨f', hf'⟩ : ∃ f', n + 1 - t = f' + 1 := ⟨n - t, by omega⟩
  rw [hf'] at hcy
  unfold pr_cyc at hcy
  refine lv_iload hx hb dR_cycle_19 (lv_at hl 0 rfl) ?_
  refine lv_aload_n hx hb dR_cycle_21 rfl (lv_at hl 5 rfl) ?_
  refine va_get (ci := 1) (C := RR) (T := TR) (N := 7) hx hb ht inR hown hK hP 0 rfl rfl 4 (by decide) (ht _ tw_192) (fun _ h9 => h9) rfl dR_cycle_22 ?_
  refine lv_icmp_gt (tgt := 142) hx hb dR_cycle_25 rfl (fun h25 => ?_) (fun h25 => ?_)
  · exact absurd h25 (nI_nlt htn (by omega))
  refine lv_aload_n hx hb dR_cycle_28 rfl (lv_at hl 5 rfl) ?_
  refine qW_i (ci := 1) (q0 := 0) (wr := []) (As := []) (rest := []) ⟨hx, hb, hml, hown, ht⟩ (c_R_take l D z q H.size n len gc ft fg tx g hok (a + t) (by omega) false) (cB 0 ht gR_take rfl tw_65 tw_222 (by decide +kernel) ⟨by decide, by decide⟩) tw_224 tw_4 hK hP hD hS hA [0, 1, 2] [] rfl rfl rfl rfl (by decide) rfl rfl rfl rfl hl.1 rfl (Nat.le_of_ble_eq_true rfl) dR_cycle_29 ⟨by decide, by decide⟩ (fun r29 u29 H locs h29 hP hD hS => ?_)
  obtain ⟨rfl, rfl⟩ := h29
  replace hP : va_P D vC (rW z q n len gc ft fg (a + t + 1) false) H := hP
  replace hD : va_D A (rW z q n len gc ft fg (a + t + 1) false) := hD
  refine wj (σ := Unit) (pc := 142) (I := fun _ H1 locs1 ls1 => H1 = H ∧ locs1 = locs ∧ RES = none ∧ lv_has ls1 9 [(0, .ref (q 0))]) ?_ (fun jn => ?_)
  · rintro - H1 locs1 ls1 ⟨rfl, rfl, hno, hl⟩
    refine lv_aload_n hx hb dR_cycle_142 rfl (lv_at hl 0 rfl) ?_
    refine lv_iconst (v := 1) hx hb dR_cycle_143 (by decide) ?_
    refine va_put (ci := 1) (ty := .boolean) (C := RR) (T := TR) (N := 7) hx hb ht inR tyR tyR_ok nmR hown hK hP hD hS 0 rfl rfl 6 (by decide) (ht _ tw_194) (fun _ h9 => h9) rfl (by decide +kernel) rfl rfl (Nat.le_of_ble_eq_true rfl) dR_cycle_144 (fun H locs hP hD hS => ?_)
    have hP : va_P D vC (rW z q n len gc ft fg (a + t + 1) true) H := hP
    have hD : va_D A (rW z q n len gc ft fg (a + t + 1) true) := hD
    refine W.ldc2 hx hb hown (ht _ tw_240) rfl dR_cycle_147 ?_
    exact W.lret hx hb hr (fun t9 ht hW => ⟨⟨_, (a + t + 1, true), rfl, by rw [hno]; exact ⟨rfl, by show a + t + 1 ≤ a + n + 1; omega⟩, by rw [ht]; exact hP, hD⟩, hS.F ht⟩) hS.2.2 dR_cycle_150
  generalize hcc : pr_look tx len (a + t) = cc at hc hcy ⊢
  refine lv_istore hx hb dR_cycle_32 hl (by decide) rfl (fun ls hl => ?_)
  replace hl : lv_has ls 9 [(7, .int (nI cc)), (6, .int (nI t)), (5, .int (nI m9)), (4, .int (cyF fo last)), (3, .int (cyF fo f9)), (1, .long (eL n x)), (0, .ref (q 0))] := hl
  refine lv_iload hx hb dR_cycle_34 (lv_at hl 0 rfl) ?_
  refine lv_bipush (v := 41) hx hb dR_cycle_36 (by decide) ?_
  refine lv_icmp_ne (tgt := 58) hx hb dR_cycle_38 rfl (fun h38 => ?_) (fun h38 => ?_)
  · have h41 : cc ≠ 41 := fun e9 => h38 (by rw [e9]; rfl)
    rw [if_neg h41] at hcy
    refine lv_iload hx hb dR_cycle_58 (lv_at hl 0 rfl) ?_
    refine lv_bipush (v := 48) hx hb dR_cycle_60 (by decide) ?_
    refine lv_isub hx hb dR_cycle_62 ?_
    by_cases h48 : cc < 48
    · refine wti (x' := nI cc - nI 48) rfl ?_
      refine lv_istore hx hb dR_cycle_63 hl (by decide) rfl (fun ls hl => ?_)
      replace hl : lv_has ls 9 [(8, .int (nI cc - nI 48)), (7, .int (nI cc)), (6, .int (nI t)), (5, .int (nI m9)), (4, .int (cyF fo last)), (3, .int (cyF fo f9)), (1, .long (eL n x)), (0, .ref (q 0))] := hl
      refine lv_iload hx hb dR_cycle_65 (lv_at hl 0 rfl) ?_
      refine lv_if_lt (tgt := 142) hx hb dR_cycle_67 rfl (fun h67 => ?_) (fun h67 => ?_)
      · exact jn () _ _ ls ⟨rfl, rfl, by rw [hcy, if_neg (by omega)], lv_sub hl [7] rfl⟩
      exact absurd (pk_sneg (by decide) h48) h67
    refine wti (x' := nI (cc - 48)) (pk_sub (b := 48) (by omega)) ?_
    generalize hpp : cc - 48 = pp at hcy ⊢
    refine lv_istore hx hb dR_cycle_63 hl (by decide) rfl (fun ls hl => ?_)
    replace hl : lv_has ls 9 [(8, .int (nI pp)), (7, .int (nI cc)), (6, .int (nI t)), (5, .int (nI m9)), (4, .int (cyF fo last)), (3, .int (cyF fo f9)), (1, .long (eL n x)), (0, .ref (q 0))] := hl
    refine lv_iload hx hb dR_cycle_65 (lv_at hl 0 rfl) ?_
    refine lv_if_lt (tgt := 142) hx hb dR_cycle_67 rfl (fun h67 => ?_) (fun h67 => ?_)
    · exact absurd h67 (nI_pos (by omega))
    refine lv_iload hx hb dR_cycle_70 (lv_at hl 0 rfl) ?_
    refine lv_aload_n hx hb dR_cycle_72 rfl (lv_at hl 7 rfl) ?_
    refine va_get (ci := 1) (C := RR) (T := TR) (N := 7) hx hb ht inR hown hK hP 0 rfl rfl 4 (by decide) (ht _ tw_192) (fun _ h9 => h9) rfl dR_cycle_73 ?_
    refine lv_icmp_ge (tgt := 142) hx hb dR_cycle_76 rfl (fun h76 => ?_) (fun h76 => ?_)
    · have h77 := (nI_leI (by omega) (by omega)).mp h76
      exact jn () _ _ ls ⟨rfl, rfl, by rw [hcy, if_neg (by omega)], lv_sub hl [7] rfl⟩
    have hpn : pp < n := by
      rw [nI_leI (by omega) (by omega)] at h76
      omega
    refine lv_iload hx hb dR_cycle_79 (lv_at hl 3 rfl) ?_
    refine lv_iload hx hb dR_cycle_81 (lv_at hl 0 rfl) ?_
    refine lv_iushr hx hb dR_cycle_83 rfl ?_
    refine lv_iconst (v := 1) hx hb dR_cycle_84 (by decide) ?_
    refine lv_iand hx hb dR_cycle_85 ?_
    refine wti (x' := nI (m9 / 2 ^ pp % 2)) (pe_bit hm9 (by omega)) ?_
    refine lv_iconst (v := 1) hx hb dR_cycle_86 (by decide) ?_
    refine lv_icmp_ne (tgt := 93) hx hb dR_cycle_87 rfl (fun h87 => ?_) (fun h87 => ?_)
    · have hsp : seen pp = false := by
        rw [← hbit]
        cases e9 : m9.testBit pp with
        | false => rfl
        | true => exact absurd (pe_bit1.mpr e9) h87
      have hcond : 48 ≤ cc ∧ cc < 48 + n ∧ seen pp = false := ⟨by omega, by omega, hsp⟩
      rw [if_pos (by exact hcond)] at hcy
      have hcok2 := pr_cok_p hcok hpn hsp
      have hbit2 : ∀ p, (m9 ||| 2 ^ pp).testBit p = va_up seen pp true p := by
        intro p
        rw [Nat.testBit_or, Nat.testBit_two_pow, hbit]
        by_cases e9 : p = pp
        · rw [e9, va_up_self, decide_eq_true rfl, Bool.or_true]
        · rw [va_up_ne _ _ e9, decide_eq_false (fun e8 => e9 e8.symm), Bool.or_false]
      cases fo with
      | none =>
        replace hl : lv_has ls 9 [(8, .int (nI pp)), (7, .int (nI cc)), (6, .int (nI t)), (5, .int (nI m9)), (4, .int (-1)), (3, .int (-1)), (1, .long (eL n x)), (0, .ref (q 0))] := hl
        refine lv_iload hx hb dR_cycle_93 (lv_at hl 4 rfl) ?_
        refine lv_if_ge (tgt := 103) hx hb dR_cycle_95 rfl (fun h95 => ?_) (fun h95 => ?_)
        · exact absurd h95 (show ¬ (0 : Int32) ≤ -1 by decide)
        refine lv_iload hx hb dR_cycle_98 (lv_at hl 0 rfl) ?_
        refine lv_goto (tgt := 104) hx hb dR_cycle_100 rfl ?_
        refine lv_istore_n hx hb dR_cycle_104 rfl hl (by decide) rfl (fun ls hl => ?_)
        replace hl : lv_has ls 9 [(3, .int (nI pp)), (8, .int (nI pp)), (7, .int (nI cc)), (6, .int (nI t)), (5, .int (nI m9)), (4, .int (-1)), (1, .long (eL n x)), (0, .ref (q 0))] := hl
        refine lv_iload hx hb dR_cycle_105 (lv_at hl 5 rfl) ?_
        refine lv_if_ge (tgt := 114) hx hb dR_cycle_107 rfl (fun h107 => ?_) (fun h107 => ?_)
        · exact absurd h107 (show ¬ (0 : Int32) ≤ -1 by decide)
        refine lv_lload_n hx hb dR_cycle_110 rfl (lv_at hl 6 rfl) ?_
        refine lv_goto (tgt := 122) hx hb dR_cycle_111 rfl ?_
        refine lv_lstore_n hx hb dR_cycle_122 rfl hl (by decide) rfl (fun ls hl => ?_)
        replace hl : lv_has ls 9 [(1, .long (eL n x)), (3, .int (nI pp)), (8, .int (nI pp)), (7, .int (nI cc)), (6, .int (nI t)), (5, .int (nI m9)), (4, .int (-1)), (0, .ref (q 0))] := hl
        refine lv_iload hx hb dR_cycle_123 (lv_at hl 2 rfl) ?_
        refine lv_istore hx hb dR_cycle_125 hl (by decide) rfl (fun ls hl => ?_)
        replace hl : lv_has ls 9 [(4, .int (nI pp)), (1, .long (eL n x)), (3, .int (nI pp)), (8, .int (nI pp)), (7, .int (nI cc)), (6, .int (nI t)), (5, .int (nI m9)), (0, .ref (q 0))] := hl
        refine lv_iload hx hb dR_cycle_127 (lv_at hl 6 rfl) ?_
        refine lv_iconst (v := 1) hx hb dR_cycle_129 (by decide) ?_
        refine lv_iload hx hb dR_cycle_130 (lv_at hl 3 rfl) ?_
        refine lv_ishl hx hb dR_cycle_132 ?_
        refine lv_ior hx hb dR_cycle_133 ?_
        refine wti (x' := nI (m9 ||| 2 ^ pp)) (by rw [pe_shl1 (by omega), pe_or]) ?_
        refine lv_istore hx hb dR_cycle_134 hl (by decide) rfl (fun ls hl => ?_)
        replace hl : lv_has ls 9 [(5, .int (nI (m9 ||| 2 ^ pp))), (4, .int (nI pp)), (1, .long (eL n x)), (3, .int (nI pp)), (8, .int (nI pp)), (7, .int (nI cc)), (6, .int (nI t)), (0, .ref (q 0))] := hl
        refine lv_iinc (k := 6) (v := (nI (t + 1))) hx hb dR_cycle_136 hl rfl (by exact nI_1 _) (by decide) rfl (fun ls hl => ?_)
        replace hl : lv_has ls 9 [(6, .int (nI (t + 1))), (5, .int (nI (m9 ||| 2 ^ pp))), (4, .int (nI pp)), (1, .long (eL n x)), (3, .int (nI pp)), (8, .int (nI pp)), (7, .int (nI cc)), (0, .ref (q 0))] := hl
        refine lv_goto (tgt := 19) hx hb dR_cycle_139 rfl ?_
        refine ih (d - 1) (t + 1, pr_cp (x, none, last, seen) pp, m9 ||| 2 ^ pp, pp) _ _ ls (by omega) ⟨by show d - 1 + (t + 1) = n + 1; omega, hcok2, ?_, hbit2, fun f e9 => (by cases e9; rfl), hP, hD, hS, lv_sub hl [0, 1, 2, 4, 3, 7] rfl⟩
        show _ = pr_cyc tx len n (n + 1 - (t + 1)) (a + (t + 1)) _
        rw [hcy, show n + 1 - (t + 1) = f' by omega]
        rfl
      | some f =>
        have hf9 : f9 = f := hff f rfl
        subst hf9
        obtain ⟨hfn, hln, -⟩ := hcok.2.2.2.2.1
        have hfn : f9 < n := hfn
        have hln : last < n := hln
        replace hl : lv_has ls 9 [(8, .int (nI pp)), (7, .int (nI cc)), (6, .int (nI t)), (5, .int (nI m9)), (4, .int (nI last)), (3, .int (nI f9)), (1, .long (eL n x)), (0, .ref (q 0))] := hl
        refine lv_iload hx hb dR_cycle_93 (lv_at hl 4 rfl) ?_
        refine lv_if_ge (tgt := 103) hx hb dR_cycle_95 rfl (fun h95 => ?_) (fun h95 => ?_)
        · skip
          refine lv_iload_n hx hb dR_cycle_103 rfl (lv_at hl 5 rfl) ?_
          refine lv_istore_n hx hb dR_cycle_104 rfl hl (by decide) rfl (fun ls hl => ?_)
          replace hl : lv_has ls 9 [(3, .int (nI f9)), (8, .int (nI pp)), (7, .int (nI cc)), (6, .int (nI t)), (5, .int (nI m9)), (4, .int (nI last)), (1, .long (eL n x)), (0, .ref (q 0))] := hl
          refine lv_iload hx hb dR_cycle_105 (lv_at hl 5 rfl) ?_
          refine lv_if_ge (tgt := 114) hx hb dR_cycle_107 rfl (fun h107 => ?_) (fun h107 => ?_)
          · skip
            refine lv_lload_n hx hb dR_cycle_114 rfl (lv_at hl 6 rfl) ?_
            refine lv_iload hx hb dR_cycle_115 (lv_at hl 5 rfl) ?_
            refine lv_iload hx hb dR_cycle_117 (lv_at hl 1 rfl) ?_
            refine qS_l (As := [.long (eL n x), .int (nI last), .int (nI pp)]) (rest := []) ⟨hx, hb, hml, hown, ht⟩ (c_E_with l n last pp x (by omega) hx9 hln (by omega)) (cB 3 ht gE_with rfl tw_62 tw_235 (by decide +kernel) ⟨by decide, by decide⟩) tw_236 rfl hl.1 rfl (Nat.le_of_ble_eq_true rfl) dR_cycle_119 ⟨by decide, by decide⟩ (fun r119 h119 => ?_)
            subst h119
            refine lv_lstore_n hx hb dR_cycle_122 rfl hl (by decide) rfl (fun ls hl => ?_)
            replace hl : lv_has ls 9 [(1, .long (eL n (va_up x last pp))), (3, .int (nI f9)), (8, .int (nI pp)), (7, .int (nI cc)), (6, .int (nI t)), (5, .int (nI m9)), (4, .int (nI last)), (0, .ref (q 0))] := hl
            refine lv_iload hx hb dR_cycle_123 (lv_at hl 2 rfl) ?_
            refine lv_istore hx hb dR_cycle_125 hl (by decide) rfl (fun ls hl => ?_)
            replace hl : lv_has ls 9 [(4, .int (nI pp)), (1, .long (eL n (va_up x last pp))), (3, .int (nI f9)), (8, .int (nI pp)), (7, .int (nI cc)), (6, .int (nI t)), (5, .int (nI m9)), (0, .ref (q 0))] := hl
            refine lv_iload hx hb dR_cycle_127 (lv_at hl 6 rfl) ?_
            refine lv_iconst (v := 1) hx hb dR_cycle_129 (by decide) ?_
            refine lv_iload hx hb dR_cycle_130 (lv_at hl 3 rfl) ?_
            refine lv_ishl hx hb dR_cycle_132 ?_
            refine lv_ior hx hb dR_cycle_133 ?_
            refine wti (x' := nI (m9 ||| 2 ^ pp)) (by rw [pe_shl1 (by omega), pe_or]) ?_
            refine lv_istore hx hb dR_cycle_134 hl (by decide) rfl (fun ls hl => ?_)
            replace hl : lv_has ls 9 [(5, .int (nI (m9 ||| 2 ^ pp))), (4, .int (nI pp)), (1, .long (eL n (va_up x last pp))), (3, .int (nI f9)), (8, .int (nI pp)), (7, .int (nI cc)), (6, .int (nI t)), (0, .ref (q 0))] := hl
            refine lv_iinc (k := 6) (v := (nI (t + 1))) hx hb dR_cycle_136 hl rfl (by exact nI_1 _) (by decide) rfl (fun ls hl => ?_)
            replace hl : lv_has ls 9 [(6, .int (nI (t + 1))), (5, .int (nI (m9 ||| 2 ^ pp))), (4, .int (nI pp)), (1, .long (eL n (va_up x last pp))), (3, .int (nI f9)), (8, .int (nI pp)), (7, .int (nI cc)), (0, .ref (q 0))] := hl
            refine lv_goto (tgt := 19) hx hb dR_cycle_139 rfl ?_
            refine ih (d - 1) (t + 1, pr_cp (x, some f9, last, seen) pp, m9 ||| 2 ^ pp, f9) _ _ ls (by omega) ⟨by show d - 1 + (t + 1) = n + 1; omega, hcok2, ?_, hbit2, fun f e9 => (by cases e9; rfl), hP, hD, hS, lv_sub hl [0, 1, 2, 4, 3, 7] rfl⟩
            show _ = pr_cyc tx len n (n + 1 - (t + 1)) (a + (t + 1)) _
            rw [hcy, show n + 1 - (t + 1) = f' by omega]
            rfl
          exact absurd (nI_pos' (by omega)) h107
        exact absurd (nI_pos' (by omega)) h95
    have hsp : seen pp = true := by
      rw [← hbit]; exact pe_bit1.mp h87
    refine lv_goto (tgt := 142) hx hb dR_cycle_90 rfl ?_
    exact jn () _ _ ls ⟨rfl, rfl, by rw [hcy, if_neg (fun r9 => by have r8 : seen pp = false := r9.2.2; rw [hsp] at r8; cases r8)], lv_sub hl [7] rfl⟩
  have h41 : cc = 41 := (nI_eq (a := cc) (b := 41) (by omega) (by omega)).mp h38
  rw [if_pos h41] at hcy
  refine lv_iload hx hb dR_cycle_41 (lv_at hl 3 rfl) ?_
  cases fo with
  | none =>
    replace hl : lv_has ls 9 [(7, .int (nI cc)), (6, .int (nI t)), (5, .int (nI m9)), (4, .int (-1)), (3, .int (-1)), (1, .long (eL n x)), (0, .ref (q 0))] := hl
    refine lv_if_ge (tgt := 50) hx hb dR_cycle_43 rfl (fun h43 => ?_) (fun h43 => ?_)
    · exact absurd h43 (show ¬ (0 : Int32) ≤ -1 by decide)
    refine lv_lload_n hx hb dR_cycle_46 rfl (lv_at hl 5 rfl) ?_
    refine lv_goto (tgt := 57) hx hb dR_cycle_47 rfl ?_
    exact W.lret hx hb hr (fun t9 ht hW => ⟨⟨_, (a + t + 1, false), rfl, by rw [hcy]; exact ⟨rfl, rfl⟩, by rw [ht]; exact hP, hD⟩, hS.F ht⟩) hS.2.2 dR_cycle_57
  | some f =>
    have hf9 : f9 = f := hff f rfl
    subst hf9
    obtain ⟨hfn, hln, -⟩ := hcok.2.2.2.2.1
    have hfn : f9 < n := hfn
    have hln : last < n := hln
    replace hl : lv_has ls 9 [(7, .int (nI cc)), (6, .int (nI t)), (5, .int (nI m9)), (4, .int (nI last)), (3, .int (nI f9)), (1, .long (eL n x)), (0, .ref (q 0))] := hl
    refine lv_if_ge (tgt := 50) hx hb dR_cycle_43 rfl (fun h43 => ?_) (fun h43 => ?_)
    · skip
      refine lv_lload_n hx hb dR_cycle_50 rfl (lv_at hl 5 rfl) ?_
      refine lv_iload hx hb dR_cycle_51 (lv_at hl 3 rfl) ?_
      refine lv_iload_n hx hb dR_cycle_53 rfl (lv_at hl 4 rfl) ?_
      refine qS_l (As := [.long (eL n x), .int (nI last), .int (nI f9)]) (rest := []) ⟨hx, hb, hml, hown, ht⟩ (c_E_with l n last f9 x (by omega) hx9 hln (by omega)) (cB 3 ht gE_with rfl tw_62 tw_235 (by decide +kernel) ⟨by decide, by decide⟩) tw_236 rfl hl.1 rfl (Nat.le_of_ble_eq_true rfl) dR_cycle_54 ⟨by decide, by decide⟩ (fun r54 h54 => ?_)
      subst h54
      exact W.lret hx hb hr (fun t9 ht hW => ⟨⟨_, (a + t + 1, false), rfl, by rw [hcy]; exact ⟨rfl, rfl⟩, by rw [ht]; exact hP, hD⟩, hS.F ht⟩) hS.2.2 dR_cycle_57
    exact absurd (nI_pos' (by omega)) h43
