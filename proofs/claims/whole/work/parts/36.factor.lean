/-! Reader: factors, expressions, the whole text. -/
def rGo (n len : Nat) (o : Option (pg_F × Nat)) : Prop := ∀ x a1, o = some (x, a1) → pg_P n x ∧ a1 ≤ len
theorem rInn.P {l : Launch} {D : va_G} {z : Nat → ClassId} {q : Nat → Nat} {n len gc : Nat} {ft : Nat → Int32} {fg : Nat → Int64} {E : Option (Nat → Option (pg_F × Nat))} {e9 b9 bd : Nat} (h : rInn l D z q n len gc ft fg E e9 b9 bd) : ∀ F, E = some F → ∀ a x a1, F a = some (x, a1) → pg_P n x := by
  intro F e
  subst e
  exact h.2.1
theorem rInn.L {l : Launch} {D : va_G} {z : Nat → ClassId} {q : Nat → Nat} {n len gc : Nat} {ft : Nat → Int32} {fg : Nat → Int64} {E : Option (Nat → Option (pg_F × Nat))} {e9 b9 bd : Nat} (h : rInn l D z q n len gc ft fg E e9 b9 bd) : ∀ F, E = some F → pr_inb len F := by
  intro F e
  subst e
  exact h.2.2.1
def rSig (tx : Nat → Nat) (len n t : Nat) (o : Option (pg_F × Nat)) : Option (pg_F × Nat) := match o with
  | some (x, a1) => pr_sig tx len n t x a1
  | none => none
set_option maxHeartbeats 2000000 in
set_option maxRecDepth 100000 in
theorem c_R_factor_of (l : Launch) (D : va_G) (z : Nat → ClassId) (q : Nat → Nat) (n len gc : Nat) (ft : Nat → Int32) (fg : Nat → Int64) (tx : Nat → Nat) (g : Nat → pg_F) (hok : rOK tx len n gc g ft fg) (E : Option (Nat → Option (pg_F × Nat))) (e9 b9 bd : Nat) (he9 : 1 ≤ e9) (hb9 : b9 ≤ 4) (hbd : bd < 900) (hbd2 : 40 ≤ bd) (hE : rInn l D z q n len gc ft fg E e9 b9 bd) (sz a : Nat) (ha : a ≤ len) : Met l yR_factor wR_factor (rmF (e9 + 3)) (va_Pc [.ref (q 0), .int (nI b9)] (fun U => U.heap.size = sz ∧ va_P D vC (rW z q n len gc ft fg a false) U.heap ∧ va_K D vC (tyL z) U ∧ va_D (fun _ => True) (rW z q n len gc ft fg a false))) (va_Ql (fun r (u : Nat × Bool) => rAns n (pr_fac tx len n gc g E a) (bd + 2) r u) (fun u t => va_P D vC (rWu z q n len gc ft fg u) t.heap ∧ va_D (va_A (rW z q n len gc ft fg a false) sz) (rWu z q n len gc ft fg u)) (va_A (rW z q n len gc ft fg a false) sz)) 0 0 (va_A (rW z q n len gc ft fg a false) sz) := by
  have hn7 := hok.2.2.1
  have hlen := hok.1
  have hRES : pr_fac tx len n gc g E a = rSig tx len n (24 - 0) (pr_pri tx len n gc g E a) := by
    unfold pr_fac rSig
    cases pr_pri tx len n gc g E a <;> rfl
  generalize pr_fac tx len n gc g E a = RES at hRES ⊢
  have hgo : rGo n len (pr_pri tx len n gc g E a) := fun x a1 h => ⟨pr_pri_P (fun i hi => (hok.2.2.2.2 i hi).1) hE.P h, (pr_pri_le hE.L a x a1 ha h).2⟩
  refine Met.ofW (cc := prog_7_method_5_code) (maxL := 6) (ret := (some .long)) (by decide) rfl ?_
  intro p e s m args below meth c s₁ B hml hv
  have hx := B.exec
  have hb := B.bytes
  have hr := B.returns
  have ht : ∀ w ∈ TB, w.before args s = true := fun w h => atoms_spec (ws := wR_factor) B.pre w (List.mem_cons_of_mem _ h)
  have hown : s.vm.findClass "PermutationDesk$Reader" = some m.cls := findClass_of_methodNamed B.named
  have hlocks := B.notSynchronized
  obtain ⟨rfl, hsz, hP, hK, hD0⟩ := hv
  subst hsz
  have hD := hD0.self (sz := s.heap.size)
  generalize hAe : va_A (rW z q n len gc ft fg a false) s.heap.size = A at hD ⊢
  have hA : ∀ q : Nat, s.heap.size ≤ q → A q := fun q h => by rw [← hAe]; exact Or.inr h
  have hS : va_S A s.heap s.heap [] := va_S.rf
  have hl := lv_entry ([.ref (q 0), .int (nI b9)]) (n := 6) (Nat.le_of_ble_eq_true rfl)
  rw [lg_entry_eq]
  generalize (lg_sl ([.ref (q 0), .int (nI b9)]) ++ List.replicate (6 - (lg_sl ([.ref (q 0), .int (nI b9)])).length) Slot.unset).toArray = ls at hl ⊢
  have hl : lv_has ls 6 [(0, .ref (q 0)), (1, .int (nI b9))] := hl
  refine lv_aload_n hx hb dR_factor_0 rfl (lv_at hl 0 rfl) ?_
  refine lv_iload_n hx hb dR_factor_1 rfl (lv_at hl 1 rfl) ?_
  refine qW_l (ci := 1) (q0 := 0) (wr := []) (As := [.int (nI b9)]) (rest := []) ⟨hx, hb, hml, hown, ht⟩ (c_R_primary_of l D z q n len gc ft fg tx g hok E e9 b9 bd he9 hb9 hbd hbd2 hE s.heap.size a ha) (cB 1 ht gR_primary rfl tw_65 tw_218 (by decide +kernel) ⟨by show e9 + 2 + 1 ≤ e9 + 3; omega, by show 8 + (5 + 11) + 40 * (e9 + 2) ≤ 40 * (e9 + 3); omega⟩) tw_220 tw_3 hK hP hD hS hA [0, 1, 2] [] rfl rfl rfl rfl (by decide) rfl rfl rfl rfl hl.1 rfl (Nat.le_of_ble_eq_true rfl) dR_factor_2 ⟨Nat.le_refl _, Nat.le_refl _⟩ (fun r2 u2 H locs h2 hP hD hS => ?_)
  generalize pr_pri tx len n gc g E a = o at h2 hRES hgo
  refine lv_lstore_n hx hb dR_factor_5 rfl hl (by decide) rfl (fun ls hl => ?_)
  replace hl : lv_has ls 6 [(2, .long r2), (0, .ref (q 0)), (1, .int (nI b9))] := hl
  refine lv_iconst (v := 0) hx hb dR_factor_6 (by decide) ?_
  refine lv_istore hx hb dR_factor_7 hl (by decide) rfl (fun ls hl => ?_)
  replace hl : lv_has ls 6 [(4, .int (nI 0)), (2, .long r2), (0, .ref (q 0)), (1, .int (nI b9))] := hl
  refine wl (σ := Nat × Int64 × (Nat × Bool) × Option (pg_F × Nat)) (I := fun d st H locs ls => d + st.1 = 24 ∧ rAns n st.2.2.2 (bd + 2) st.2.1 st.2.2.1 ∧ rGo n len st.2.2.2 ∧ RES = rSig tx len n (24 - st.1) st.2.2.2 ∧ va_P D vC (rWu z q n len gc ft fg st.2.2.1) H ∧ va_D A (rWu z q n len gc ft fg st.2.2.1) ∧ va_S A s.heap H locs ∧ lv_has ls 6 [(4, .int (nI st.1)), (2, .long st.2.1), (0, .ref (q 0))]) ?_ 24 (0, r2, u2, o) _ _ ls ⟨rfl, h2, hgo, hRES, hP, hD, hS, lv_sub hl [0, 1, 2] rfl⟩
  clear hP hD hS hl hgo hRES h2
  rintro d ⟨t, r, ⟨a1, bk⟩, o⟩ H locs ls ⟨hdt, hans, hgo, hres, hP, hD, hS, hl⟩ ih
  replace hdt : d + t = 24 := hdt
  replace hans : rAns n o (bd + 2) r (a1, bk) := hans
  replace hgo : rGo n len o := hgo
  replace hres : RES = rSig tx len n (24 - t) o := hres
  replace hP : va_P D vC (rW z q n len gc ft fg a1 bk) H := hP
  replace hD : va_D A (rW z q n len gc ft fg a1 bk) := hD
  replace hl : lv_has ls 6 [(4, .int (nI t)), (2, .long r), (0, .ref (q 0))] := hl
  refine lv_iload hx hb dR_factor_9 (lv_at hl 0 rfl) ?_
  refine lv_bipush (v := 24) hx hb dR_factor_11 (by decide) ?_
  refine lv_icmp_ge (tgt := 92) hx hb dR_factor_13 rfl (fun h13 => ?_) (fun h13 => ?_)
  · have h14 : 24 ≤ t := (nI_leI (a := 24) (b := t) (by omega) (by omega)).mp h13
    refine lv_lload_n hx hb dR_factor_92 rfl (lv_at hl 1 rfl) ?_
    refine W.lret hx hb hr (fun t9 ht hW => ⟨⟨_, (a1, bk), rfl, ?_, by rw [ht]; exact hP, hD⟩, hS.F ht⟩) hS.2.2 dR_factor_93
    rw [hres, show 24 - t = 0 by omega]
    cases o with
    | none => exact hans
    | some y => exact hans
  have h14 : t < 24 := by
    have : ¬ 24 ≤ t := fun e9 => h13 ((nI_leI (a := 24) (b := t) (by omega) (by omega)).mpr e9)
    omega
  refine lv_aload_n hx hb dR_factor_16 rfl (lv_at hl 2 rfl) ?_
  refine va_get (ci := 1) (C := RR) (T := TR) (N := 7) hx hb ht inR hown hK hP 0 rfl rfl 6 (by decide) (ht _ tw_194) (fun _ h9 => h9) rfl dR_factor_17 ?_
  refine lv_if_ne (tgt := 92) hx hb dR_factor_20 rfl (fun h20 => ?_) (fun h20 => ?_)
  · have hbk : bk = true := by
      cases bk with
      | true => rfl
      | false => exact absurd rfl h20
    subst hbk
    refine lv_lload_n hx hb dR_factor_92 rfl (lv_at hl 1 rfl) ?_
    refine W.lret hx hb hr (fun t9 ht hW => ⟨⟨_, (a1, true), rfl, ?_, by rw [ht]; exact hP, hD⟩, hS.F ht⟩) hS.2.2 dR_factor_93
    cases o with
    | none => rw [hres]; exact hans
    | some y => obtain ⟨y, b0⟩ := y; have := hans.2; cases this
  have hbk : bk = false := bI_0.mp h20
  subst hbk
  cases o with
  | none => have : false = true := hans.1; cases this
  | some y =>
    obtain ⟨x, b0⟩ := y
    obtain ⟨rfl, e8⟩ := hans
    cases e8
    obtain ⟨hxP, ha1⟩ := hgo x a1 rfl
    obtain ⟨f', hf'⟩ : ∃ f', 24 - t = f' + 1 := ⟨23 - t, by omega⟩
    rw [hf'] at hres
    replace hres : RES = pr_sig tx len n (f' + 1) x a1 := hres
    unfold pr_sig at hres
    refine lv_aload_n hx hb dR_factor_23 rfl (lv_at hl 2 rfl) ?_
    refine qV_i (ci := 1) (q0 := 0) (As := []) (rest := []) ⟨hx, hb, hml, hown, ht⟩ (c_R_look l D z q H.size n len gc ft fg tx g hok a1 (by omega) false) (cB 0 ht gR_look rfl tw_65 tw_226 (by decide +kernel) ⟨by show 0 + 1 ≤ e9 + 3; omega, by show 8 + (1 + 11) + 40 * (0) ≤ 40 * (e9 + 3); omega⟩) tw_228 tw_5 hK (hP) rfl rfl rfl hl.1 rfl (Nat.le_of_ble_eq_true rfl) dR_factor_24 ⟨Nat.le_refl _, Nat.le_refl _⟩ (fun r24 h24 => ?_)
    subst h24
    have hc := hok.lk a1
    generalize hcc : pr_look tx len a1 = cc at hc hres ⊢
    have hin : cc ≠ 0 → a1 < len := fun h9 => Classical.byContradiction (fun r => h9 (by rw [← hcc]; exact pr_look_out (by omega)))
    refine lv_istore hx hb dR_factor_27 hl (by decide) rfl (fun ls hl => ?_)
    replace hl : lv_has ls 6 [(5, .int (nI cc)), (4, .int (nI t)), (2, .long (eL n x)), (0, .ref (q 0))] := hl
    refine lv_iload hx hb dR_factor_29 (lv_at hl 0 rfl) ?_
    refine lv_bipush (v := 39) hx hb dR_factor_31 (by decide) ?_
    refine wj (σ := Unit) (pc := 45) (I := fun _ H1 locs1 ls1 => H1 = H ∧ locs1 = locs ∧ (cc = 39 ∨ cc = 94) ∧ ls1 = ls) ?_ (fun jn => ?_)
    · rintro - H1 locs1 ls1 ⟨rfl, rfl, hsg, rfl⟩
      have hal := hin (by omega)
      refine lv_aload_n hx hb dR_factor_45 rfl (lv_at hl 3 rfl) ?_
      refine lv_dup hx hb dR_factor_46 rfl ?_
      refine va_get (ci := 1) (C := RR) (T := TR) (N := 7) hx hb ht inR hown hK hP 0 rfl rfl 5 (by decide) (ht _ tw_193) (fun _ h9 => h9) rfl dR_factor_47 ?_
      refine lv_iconst (v := 1) hx hb dR_factor_50 (by decide) ?_
      refine lv_iadd hx hb dR_factor_51 ?_
      refine wti (x' := nI (a1 + 1)) (nI_1 a1) ?_
      refine va_put (ci := 1) (ty := .int) (C := RR) (T := TR) (N := 7) hx hb ht inR tyR tyR_ok nmR hown hK hP hD hS 0 rfl rfl 5 (by decide) (ht _ tw_193) (fun _ h9 => h9) rfl (by decide +kernel) rfl rfl (Nat.le_of_ble_eq_true rfl) dR_factor_52 (fun H locs hP hD hS => ?_)
      have hP : va_P D vC (rW z q n len gc ft fg (a1 + 1) false) H := hP
      have hD : va_D A (rW z q n len gc ft fg (a1 + 1) false) := hD
      refine lv_iload hx hb dR_factor_55 (lv_at hl 0 rfl) ?_
      refine lv_bipush (v := 94) hx hb dR_factor_57 (by decide) ?_
      refine lv_icmp_ne (tgt := 77) hx hb dR_factor_59 rfl (fun h59 => ?_) (fun h59 => ?_)
      · have n94 : cc ≠ 94 := fun e9 => h59 (by rw [e9]; rfl)
        have h39 : cc = 39 := by omega
        rw [if_pos h39] at hres
        refine lv_lload_n hx hb dR_factor_77 rfl (lv_at hl 2 rfl) ?_
        refine lv_aload_n hx hb dR_factor_78 rfl (lv_at hl 3 rfl) ?_
        refine va_get (ci := 1) (C := RR) (T := TR) (N := 7) hx hb ht inR hown hK hP 0 rfl rfl 4 (by decide) (ht _ tw_192) (fun _ h9 => h9) rfl dR_factor_79 ?_
        refine qS_l (As := [.long (eL n x), .int (nI n)]) (rest := []) ⟨hx, hb, hml, hown, ht⟩ (c_E_inverse l n x (by omega) hxP) (cB 2 ht gE_inverse rfl tw_62 tw_267 (by decide +kernel) ⟨by show 0 + 1 ≤ e9 + 3; omega, by show 8 + (6 + 11) + 40 * (0) ≤ 40 * (e9 + 3); omega⟩) tw_268 rfl hl.1 rfl (Nat.le_of_ble_eq_true rfl) dR_factor_82 ⟨Nat.le_refl _, Nat.le_refl _⟩ (fun r82 h82 => ?_)
        subst h82
        refine lv_lstore_n hx hb dR_factor_85 rfl hl (by decide) rfl (fun ls hl => ?_)
        replace hl : lv_has ls 6 [(2, .long (eL n (pg_inv n x))), (5, .int (nI cc)), (4, .int (nI t)), (0, .ref (q 0))] := hl
        refine lv_iinc (k := 2) (v := (nI (t + 1))) hx hb dR_factor_86 hl rfl (by exact nI_1 _) (by decide) rfl (fun ls hl => ?_)
        replace hl : lv_has ls 6 [(4, .int (nI (t + 1))), (2, .long (eL n (pg_inv n x))), (5, .int (nI cc)), (0, .ref (q 0))] := hl
        refine lv_goto (tgt := 9) hx hb dR_factor_89 rfl ?_
        exact ih (d - 1) (t + 1, eL n (pg_inv n x), (a1 + 1, false), some (pg_inv n x, a1 + 1)) _ _ ls (by omega) ⟨by show d - 1 + (t + 1) = 24; omega, ⟨rfl, rfl⟩, fun x9 a9 h9 => (by cases h9; exact ⟨pg_P_inv hxP, by omega⟩), by show RES = pr_sig tx len n (24 - (t + 1)) _ _; rw [hres, show 24 - (t + 1) = f' by omega], hP, hD, hS, lv_sub hl [0, 1, 3] rfl⟩
      have h94 : cc = 94 := (nI_eq (a := cc) (b := 94) (by omega) (by omega)).mp h59
      rw [if_neg (by omega), if_pos h94] at hres
      refine lv_lload_n hx hb dR_factor_62 rfl (lv_at hl 2 rfl) ?_
      refine lv_aload_n hx hb dR_factor_63 rfl (lv_at hl 3 rfl) ?_
      refine qW_i (ci := 1) (q0 := 0) (wr := []) (As := []) (rest := [.long (eL n x)]) ⟨hx, hb, hml, hown, ht⟩ (c_R_exponent l D z q H.size n len gc ft fg tx g hok (a1 + 1) (by omega) false) (cB 0 ht gR_exponent rfl tw_65 tw_256 (by decide +kernel) ⟨by show 2 + 1 ≤ e9 + 3; omega, by show 8 + (2 + 11) + 40 * (2) ≤ 40 * (e9 + 3); omega⟩) tw_258 tw_9 hK hP hD hS hA [0, 1, 2] [] rfl rfl rfl rfl (by decide) rfl rfl rfl rfl hl.1 rfl (Nat.le_of_ble_eq_true rfl) dR_factor_64 ⟨Nat.le_refl _, Nat.le_refl _⟩ (fun r64 u64 H locs h64 hP hD hS => ?_)
      have hc2 := hok.lk (a1 + 1)
      generalize hcd : pr_look tx len (a1 + 1) = cd at hc2 hres h64
      by_cases hdg : 48 ≤ cd ∧ cd ≤ 57
      · rw [if_pos hdg] at h64 hres
        obtain ⟨rfl, rfl⟩ := h64
        have hal2 : a1 + 1 < len := Classical.byContradiction (fun r => by rw [pr_look_out (by omega)] at hcd; omega)
        replace hP : va_P D vC (rW z q n len gc ft fg (a1 + 1 + 1) false) H := hP
        replace hD : va_D A (rW z q n len gc ft fg (a1 + 1 + 1) false) := hD
        refine lv_aload_n hx hb dR_factor_67 rfl (lv_at hl 3 rfl) ?_
        refine va_get (ci := 1) (C := RR) (T := TR) (N := 7) hx hb ht inR hown hK hP 0 rfl rfl 4 (by decide) (ht _ tw_192) (fun _ h9 => h9) rfl dR_factor_68 ?_
        refine qS_l (As := [.long (eL n x), .int (nI (cd - 48)), .int (nI n)]) (rest := []) ⟨hx, hb, hml, hown, ht⟩ (c_E_power l n (cd - 48) x (by omega) (by omega) hxP) (cB 3 ht gE_power rfl tw_62 tw_260 (by decide +kernel) ⟨by show 1 + 1 ≤ e9 + 3; omega, by show 8 + (7 + 11) + 40 * (1) ≤ 40 * (e9 + 3); omega⟩) tw_261 rfl hl.1 rfl (Nat.le_of_ble_eq_true rfl) dR_factor_71 ⟨Nat.le_refl _, Nat.le_refl _⟩ (fun r71 h71 => ?_)
        subst h71
        refine lv_goto (tgt := 85) hx hb dR_factor_74 rfl ?_
        refine lv_lstore_n hx hb dR_factor_85 rfl hl (by decide) rfl (fun ls hl => ?_)
        replace hl : lv_has ls 6 [(2, .long (eL n (pg_pow x (cd - 48)))), (5, .int (nI cc)), (4, .int (nI t)), (0, .ref (q 0))] := hl
        refine lv_iinc (k := 2) (v := (nI (t + 1))) hx hb dR_factor_86 hl rfl (by exact nI_1 _) (by decide) rfl (fun ls hl => ?_)
        replace hl : lv_has ls 6 [(4, .int (nI (t + 1))), (2, .long (eL n (pg_pow x (cd - 48)))), (5, .int (nI cc)), (0, .ref (q 0))] := hl
        refine lv_goto (tgt := 9) hx hb dR_factor_89 rfl ?_
        exact ih (d - 1) (t + 1, eL n (pg_pow x (cd - 48)), (a1 + 1 + 1, false), some (pg_pow x (cd - 48), a1 + 1 + 1)) _ _ ls (by omega) ⟨by show d - 1 + (t + 1) = 24; omega, ⟨rfl, rfl⟩, fun x9 a9 h9 => (by cases h9; exact ⟨pg_P_pow hxP _, by omega⟩), by show RES = pr_sig tx len n (24 - (t + 1)) _ _; rw [hres, show 24 - (t + 1) = f' by omega], hP, hD, hS, lv_sub hl [0, 1, 3] rfl⟩
      · rw [if_neg hdg] at h64 hres
        obtain ⟨rfl, rfl⟩ := h64
        replace hP : va_P D vC (rW z q n len gc ft fg (a1 + 1 + 1) true) H := hP
        replace hD : va_D A (rW z q n len gc ft fg (a1 + 1 + 1) true) := hD
        refine lv_aload_n hx hb dR_factor_67 rfl (lv_at hl 3 rfl) ?_
        refine va_get (ci := 1) (C := RR) (T := TR) (N := 7) hx hb ht inR hown hK hP 0 rfl rfl 4 (by decide) (ht _ tw_192) (fun _ h9 => h9) rfl dR_factor_68 ?_
        refine qS_l (As := [.long (eL n x), .int (nI 0), .int (nI n)]) (rest := []) ⟨hx, hb, hml, hown, ht⟩ (c_E_power l n 0 x (by omega) (by omega) hxP) (cB 3 ht gE_power rfl tw_62 tw_260 (by decide +kernel) ⟨by show 1 + 1 ≤ e9 + 3; omega, by show 8 + (7 + 11) + 40 * (1) ≤ 40 * (e9 + 3); omega⟩) tw_261 rfl hl.1 rfl (Nat.le_of_ble_eq_true rfl) dR_factor_71 ⟨Nat.le_refl _, Nat.le_refl _⟩ (fun r71 h71 => ?_)
        refine lv_goto (tgt := 85) hx hb dR_factor_74 rfl ?_
        refine lv_lstore_n hx hb dR_factor_85 rfl hl (by decide) rfl (fun ls hl => ?_)
        replace hl : lv_has ls 6 [(2, .long r71), (5, .int (nI cc)), (4, .int (nI t)), (0, .ref (q 0))] := hl
        refine lv_iinc (k := 2) (v := (nI (t + 1))) hx hb dR_factor_86 hl rfl (by exact nI_1 _) (by decide) rfl (fun ls hl => ?_)
        replace hl : lv_has ls 6 [(4, .int (nI (t + 1))), (2, .long r71), (5, .int (nI cc)), (0, .ref (q 0))] := hl
        refine lv_goto (tgt := 9) hx hb dR_factor_89 rfl ?_
        exact ih (d - 1) (t + 1, r71, (a1 + 1 + 1, true), none) _ _ ls (by omega) ⟨by show d - 1 + (t + 1) = 24; omega, ⟨rfl, by show a1 + 1 + 1 ≤ bd + 2; omega⟩, fun x9 a9 h9 => (by cases h9), hres, hP, hD, hS, lv_sub hl [0, 1, 3] rfl⟩
    refine lv_icmp_eq (tgt := 45) hx hb dR_factor_33 rfl (fun h33 => ?_) (fun h33 => ?_)
    · exact jn () _ _ ls ⟨rfl, rfl, Or.inl ((nI_eq (a := cc) (b := 39) (by omega) (by omega)).mp h33), rfl⟩
    have n39 : cc ≠ 39 := fun e9 => h33 (by rw [e9]; rfl)
    refine lv_iload hx hb dR_factor_36 (lv_at hl 0 rfl) ?_
    refine lv_bipush (v := 94) hx hb dR_factor_38 (by decide) ?_
    refine lv_icmp_eq (tgt := 45) hx hb dR_factor_40 rfl (fun h40 => ?_) (fun h40 => ?_)
    · exact jn () _ _ ls ⟨rfl, rfl, Or.inr ((nI_eq (a := cc) (b := 94) (by omega) (by omega)).mp h40), rfl⟩
    have n94 : cc ≠ 94 := fun e9 => h40 (by rw [e9]; rfl)
    rw [if_neg n39, if_neg n94] at hres
    refine lv_lload_n hx hb dR_factor_43 rfl (lv_at hl 2 rfl) ?_
    exact W.lret hx hb hr (fun t9 ht hW => ⟨⟨_, (a1, false), rfl, by rw [hres]; exact ⟨rfl, rfl⟩, by rw [ht]; exact hP, hD⟩, hS.F ht⟩) hS.2.2 dR_factor_44
def rMore (tx : Nat → Nat) (len n gc : Nat) (g : Nat → pg_F) (E : Option (Nat → Option (pg_F × Nat))) (t : Nat) (o : Option (pg_F × Nat)) : Option (pg_F × Nat) := match o with
  | some (x, a1) => pr_more tx len n gc g E t x a1
  | none => none
set_option maxHeartbeats 2000000 in
set_option maxRecDepth 100000 in
theorem c_R_expression_of (l : Launch) (D : va_G) (z : Nat → ClassId) (q : Nat → Nat) (n len gc : Nat) (ft : Nat → Int32) (fg : Nat → Int64) (tx : Nat → Nat) (g : Nat → pg_F) (hok : rOK tx len n gc g ft fg) (E : Option (Nat → Option (pg_F × Nat))) (e9 b9 bd : Nat) (he9 : 1 ≤ e9) (hb9 : b9 ≤ 4) (hbd : bd < 900) (hbd2 : 40 ≤ bd) (hE : rInn l D z q n len gc ft fg E e9 b9 bd) (sz a : Nat) (ha : a ≤ len) : Met l yR_expression wR_expression (rmF (e9 + 4)) (va_Pc [.ref (q 0), .int (nI b9)] (fun U => U.heap.size = sz ∧ va_P D vC (rW z q n len gc ft fg a false) U.heap ∧ va_K D vC (tyL z) U ∧ va_D (fun _ => True) (rW z q n len gc ft fg a false))) (va_Ql (fun r (u : Nat × Bool) => rAns n (pr_ex1 tx len n gc g E a) (bd + 2) r u) (fun u t => va_P D vC (rWu z q n len gc ft fg u) t.heap ∧ va_D (va_A (rW z q n len gc ft fg a false) sz) (rWu z q n len gc ft fg u)) (va_A (rW z q n len gc ft fg a false) sz)) 0 0 (va_A (rW z q n len gc ft fg a false) sz) := by
  have hn7 := hok.2.2.1
  have hlen := hok.1
  have hRES : pr_ex1 tx len n gc g E a = rMore tx len n gc g E (24 - 1) (pr_fac tx len n gc g E a) := by
    unfold pr_ex1 rMore
    cases pr_fac tx len n gc g E a <;> rfl
  generalize pr_ex1 tx len n gc g E a = RES at hRES ⊢
  have hgo0 : ∀ a, a ≤ len → rGo n len (pr_fac tx len n gc g E a) := fun a ha x a1 h => ⟨pr_fac_P (fun i hi => (hok.2.2.2.2 i hi).1) hE.P h, (pr_fac_le hE.L a x a1 ha h).2⟩
  have hgo := hgo0 a ha
  refine Met.ofW (cc := prog_7_method_3_code) (maxL := 5) (ret := (some .long)) (by decide) rfl ?_
  intro p e s m args below meth c s₁ B hml hv
  have hx := B.exec
  have hb := B.bytes
  have hr := B.returns
  have ht : ∀ w ∈ TB, w.before args s = true := fun w h => atoms_spec (ws := wR_expression) B.pre w (List.mem_cons_of_mem _ h)
  have hown : s.vm.findClass "PermutationDesk$Reader" = some m.cls := findClass_of_methodNamed B.named
  have hlocks := B.notSynchronized
  obtain ⟨rfl, hsz, hP, hK, hD0⟩ := hv
  subst hsz
  have hD := hD0.self (sz := s.heap.size)
  generalize hAe : va_A (rW z q n len gc ft fg a false) s.heap.size = A at hD ⊢
  have hA : ∀ q : Nat, s.heap.size ≤ q → A q := fun q h => by rw [← hAe]; exact Or.inr h
  have hS : va_S A s.heap s.heap [] := va_S.rf
  have hl := lv_entry ([.ref (q 0), .int (nI b9)]) (n := 5) (Nat.le_of_ble_eq_true rfl)
  rw [lg_entry_eq]
  generalize (lg_sl ([.ref (q 0), .int (nI b9)]) ++ List.replicate (5 - (lg_sl ([.ref (q 0), .int (nI b9)])).length) Slot.unset).toArray = ls at hl ⊢
  have hl : lv_has ls 5 [(0, .ref (q 0)), (1, .int (nI b9))] := hl
  refine lv_aload_n hx hb dR_expression_0 rfl (lv_at hl 0 rfl) ?_
  refine lv_iload_n hx hb dR_expression_1 rfl (lv_at hl 1 rfl) ?_
  refine qW_l (ci := 1) (q0 := 0) (wr := []) (As := [.int (nI b9)]) (rest := []) ⟨hx, hb, hml, hown, ht⟩ (c_R_factor_of l D z q n len gc ft fg tx g hok E e9 b9 bd he9 hb9 hbd hbd2 hE s.heap.size a ha) (cB 1 ht gR_factor rfl tw_65 tw_214 (by decide +kernel) ⟨by show e9 + 3 + 1 ≤ e9 + 4; omega, by show 8 + (6 + 11) + 40 * (e9 + 3) ≤ 40 * (e9 + 4); omega⟩) tw_216 tw_2 hK hP hD hS hA [0, 1, 2] [] rfl rfl rfl rfl (by decide) rfl rfl rfl rfl hl.1 rfl (Nat.le_of_ble_eq_true rfl) dR_expression_2 ⟨Nat.le_refl _, Nat.le_refl _⟩ (fun r2 u2 H locs h2 hP hD hS => ?_)
  generalize pr_fac tx len n gc g E a = o at h2 hRES hgo
  refine lv_lstore_n hx hb dR_expression_5 rfl hl (by decide) rfl (fun ls hl => ?_)
  replace hl : lv_has ls 5 [(2, .long r2), (0, .ref (q 0)), (1, .int (nI b9))] := hl
  refine lv_iconst (v := 1) hx hb dR_expression_6 (by decide) ?_
  refine lv_istore hx hb dR_expression_7 hl (by decide) rfl (fun ls hl => ?_)
  replace hl : lv_has ls 5 [(4, .int (nI 1)), (2, .long r2), (0, .ref (q 0)), (1, .int (nI b9))] := hl
  refine wl (σ := Nat × Int64 × (Nat × Bool) × Option (pg_F × Nat)) (I := fun d st H locs ls => d + st.1 = 24 ∧ rAns n st.2.2.2 (bd + 2) st.2.1 st.2.2.1 ∧ rGo n len st.2.2.2 ∧ RES = rMore tx len n gc g E (24 - st.1) st.2.2.2 ∧ va_P D vC (rWu z q n len gc ft fg st.2.2.1) H ∧ va_D A (rWu z q n len gc ft fg st.2.2.1) ∧ va_S A s.heap H locs ∧ lv_has ls 5 [(4, .int (nI st.1)), (2, .long st.2.1), (0, .ref (q 0)), (1, .int (nI b9))]) ?_ 23 (1, r2, u2, o) _ _ ls ⟨rfl, h2, hgo, hRES, hP, hD, hS, lv_sub hl [0, 1, 2, 3] rfl⟩
  clear hP hD hS hl hgo hRES h2
  rintro d ⟨t, r, ⟨a1, bk⟩, o⟩ H locs ls ⟨hdt, hans, hgo, hres, hP, hD, hS, hl⟩ ih
  replace hdt : d + t = 24 := hdt
  replace hans : rAns n o (bd + 2) r (a1, bk) := hans
  replace hgo : rGo n len o := hgo
  replace hres : RES = rMore tx len n gc g E (24 - t) o := hres
  replace hP : va_P D vC (rW z q n len gc ft fg a1 bk) H := hP
  replace hD : va_D A (rW z q n len gc ft fg a1 bk) := hD
  replace hl : lv_has ls 5 [(4, .int (nI t)), (2, .long r), (0, .ref (q 0)), (1, .int (nI b9))] := hl
  refine lv_iload hx hb dR_expression_9 (lv_at hl 0 rfl) ?_
  refine lv_bipush (v := 24) hx hb dR_expression_11 (by decide) ?_
  refine lv_icmp_ge (tgt := 50) hx hb dR_expression_13 rfl (fun h13 => ?_) (fun h13 => ?_)
  · have h14 : 24 ≤ t := (nI_leI (a := 24) (b := t) (by omega) (by omega)).mp h13
    refine lv_lload_n hx hb dR_expression_50 rfl (lv_at hl 1 rfl) ?_
    refine W.lret hx hb hr (fun t9 ht hW => ⟨⟨_, (a1, bk), rfl, ?_, by rw [ht]; exact hP, hD⟩, hS.F ht⟩) hS.2.2 dR_expression_51
    rw [hres, show 24 - t = 0 by omega]
    cases o with
    | none => exact hans
    | some y => exact hans
  have h14 : t < 24 := by
    have : ¬ 24 ≤ t := fun e9 => h13 ((nI_leI (a := 24) (b := t) (by omega) (by omega)).mpr e9)
    omega
  refine lv_aload_n hx hb dR_expression_16 rfl (lv_at hl 2 rfl) ?_
  refine va_get (ci := 1) (C := RR) (T := TR) (N := 7) hx hb ht inR hown hK hP 0 rfl rfl 6 (by decide) (ht _ tw_194) (fun _ h9 => h9) rfl dR_expression_17 ?_
  refine lv_if_ne (tgt := 50) hx hb dR_expression_20 rfl (fun h20 => ?_) (fun h20 => ?_)
  · have hbk : bk = true := by
      cases bk with
      | true => rfl
      | false => exact absurd rfl h20
    subst hbk
    refine lv_lload_n hx hb dR_expression_50 rfl (lv_at hl 1 rfl) ?_
    refine W.lret hx hb hr (fun t9 ht hW => ⟨⟨_, (a1, true), rfl, ?_, by rw [ht]; exact hP, hD⟩, hS.F ht⟩) hS.2.2 dR_expression_51
    cases o with
    | none => rw [hres]; exact hans
    | some y => obtain ⟨y, b0⟩ := y; have := hans.2; cases this
  have hbk : bk = false := bI_0.mp h20
  subst hbk
  cases o with
  | none => have : false = true := hans.1; cases this
  | some y =>
    obtain ⟨x, b0⟩ := y
    obtain ⟨rfl, e8⟩ := hans
    cases e8
    obtain ⟨hxP, ha1⟩ := hgo x a1 rfl
    obtain ⟨f', hf'⟩ : ∃ f', 24 - t = f' + 1 := ⟨23 - t, by omega⟩
    rw [hf'] at hres
    replace hres : RES = pr_more tx len n gc g E (f' + 1) x a1 := hres
    unfold pr_more at hres
    refine lv_aload_n hx hb dR_expression_23 rfl (lv_at hl 2 rfl) ?_
    refine qV_i (ci := 1) (q0 := 0) (As := []) (rest := []) ⟨hx, hb, hml, hown, ht⟩ (c_R_isExpressionOver l D z q H.size n len gc ft fg tx g hok a1 (by omega) false) (cB 0 ht gR_isExpressionOver rfl tw_65 tw_270 (by decide +kernel) ⟨by show 1 + 1 ≤ e9 + 4; omega, by show 8 + (2 + 11) + 40 * (1) ≤ 40 * (e9 + 4); omega⟩) tw_272 tw_10 hK (hP) rfl rfl rfl hl.1 rfl (Nat.le_of_ble_eq_true rfl) dR_expression_24 ⟨Nat.le_refl _, Nat.le_refl _⟩ (fun r24 h24 => ?_)
    subst h24
    refine lv_if_ne (tgt := 50) hx hb dR_expression_27 rfl (fun h27 => ?_) (fun h27 => ?_)
    · have hov : pr_ovb (pr_look tx len a1) = true := by
        cases e8 : pr_ovb (pr_look tx len a1) with
        | true => rfl
        | false => rw [e8] at h27; exact absurd rfl h27
      rw [if_pos hov] at hres
      refine lv_lload_n hx hb dR_expression_50 rfl (lv_at hl 1 rfl) ?_
      exact W.lret hx hb hr (fun t9 ht hW => ⟨⟨_, (a1, false), rfl, by rw [hres]; exact ⟨rfl, rfl⟩, by rw [ht]; exact hP, hD⟩, hS.F ht⟩) hS.2.2 dR_expression_51
    have hov : pr_ovb (pr_look tx len a1) = false := bI_0.mp h27
    rw [if_neg (by rw [hov]; decide)] at hres
    refine lv_lload_n hx hb dR_expression_30 rfl (lv_at hl 1 rfl) ?_
    refine lv_aload_n hx hb dR_expression_31 rfl (lv_at hl 2 rfl) ?_
    refine lv_iload_n hx hb dR_expression_32 rfl (lv_at hl 3 rfl) ?_
    refine qW_l (ci := 1) (q0 := 0) (wr := []) (As := [.int (nI b9)]) (rest := [.long (eL n x)]) ⟨hx, hb, hml, hown, ht⟩ (c_R_factor_of l D z q n len gc ft fg tx g hok E e9 b9 bd he9 hb9 hbd hbd2 hE H.size a1 ha1) (cB 1 ht gR_factor rfl tw_65 tw_214 (by decide +kernel) ⟨by show e9 + 3 + 1 ≤ e9 + 4; omega, by show 8 + (6 + 11) + 40 * (e9 + 3) ≤ 40 * (e9 + 4); omega⟩) tw_216 tw_2 hK hP hD hS hA [0, 1, 2] [] rfl rfl rfl rfl (by decide) rfl rfl rfl rfl hl.1 rfl (Nat.le_of_ble_eq_true rfl) dR_expression_33 ⟨Nat.le_refl _, Nat.le_refl _⟩ (fun r33 u33 H locs h33 hP hD hS => ?_)
    obtain ⟨a2, bk2⟩ := u33
    replace hP : va_P D vC (rW z q n len gc ft fg a2 bk2) H := hP
    replace hD : va_D A (rW z q n len gc ft fg a2 bk2) := hD
    have hgo2 := hgo0 a1 ha1
    refine lv_aload_n hx hb dR_expression_36 rfl (lv_at hl 2 rfl) ?_
    refine va_get (ci := 1) (C := RR) (T := TR) (N := 7) hx hb ht inR hown hK hP 0 rfl rfl 4 (by decide) (ht _ tw_192) (fun _ h9 => h9) rfl dR_expression_37 ?_
    cases eF : pr_fac tx len n gc g E a1 with
    | none =>
      rw [eF] at h33 hres
      simp only at hres
      have e8 : bk2 = true := h33.1
      have e7 : a2 ≤ bd + 2 := h33.2
      subst e8
      refine qS_l (As := [.long (eL n x), .long r33, .int (nI n)]) (rest := []) ⟨hx, hb, hml, hown, ht⟩ (c_E_productG l n (eL n x) r33 (by omega)) (cB 3 ht gE_product rfl tw_62 tw_274 (by decide +kernel) ⟨by show 0 + 1 ≤ e9 + 4; omega, by show 8 + (9 + 11) + 40 * (0) ≤ 40 * (e9 + 4); omega⟩) tw_265 rfl hl.1 rfl (Nat.le_of_ble_eq_true rfl) dR_expression_40 ⟨Nat.le_refl _, Nat.le_refl _⟩ (fun r40 h40 => ?_)
      refine lv_lstore_n hx hb dR_expression_43 rfl hl (by decide) rfl (fun ls hl => ?_)
      replace hl : lv_has ls 5 [(2, .long r40), (4, .int (nI t)), (0, .ref (q 0)), (1, .int (nI b9))] := hl
      refine lv_iinc (k := 1) (v := (nI (t + 1))) hx hb dR_expression_44 hl rfl (by exact nI_1 _) (by decide) rfl (fun ls hl => ?_)
      replace hl : lv_has ls 5 [(4, .int (nI (t + 1))), (2, .long r40), (0, .ref (q 0)), (1, .int (nI b9))] := hl
      refine lv_goto (tgt := 9) hx hb dR_expression_47 rfl ?_
      exact ih (d - 1) (t + 1, r40, (a2, true), none) _ _ ls (by omega) ⟨by show d - 1 + (t + 1) = 24; omega, ⟨rfl, e7⟩, fun x9 a9 h9 => (by cases h9), hres, hP, hD, hS, lv_sub hl [0, 1, 2, 3] rfl⟩
    | some y =>
      obtain ⟨y, b0⟩ := y
      rw [eF] at h33 hres hgo2
      obtain ⟨rfl, e8⟩ := h33
      cases e8
      obtain ⟨hyP, ha2⟩ := hgo2 y a2 rfl
      simp only at hres
      refine qS_l (As := [.long (eL n x), .long (eL n y), .int (nI n)]) (rest := []) ⟨hx, hb, hml, hown, ht⟩ (c_E_product l n x y (by omega) hxP hyP) (cB 3 ht gE_product rfl tw_62 tw_274 (by decide +kernel) ⟨by show 0 + 1 ≤ e9 + 4; omega, by show 8 + (9 + 11) + 40 * (0) ≤ 40 * (e9 + 4); omega⟩) tw_265 rfl hl.1 rfl (Nat.le_of_ble_eq_true rfl) dR_expression_40 ⟨Nat.le_refl _, Nat.le_refl _⟩ (fun r40 h40 => ?_)
      subst h40
      refine lv_lstore_n hx hb dR_expression_43 rfl hl (by decide) rfl (fun ls hl => ?_)
      replace hl : lv_has ls 5 [(2, .long (eL n (pg_mul x y))), (4, .int (nI t)), (0, .ref (q 0)), (1, .int (nI b9))] := hl
      refine lv_iinc (k := 1) (v := (nI (t + 1))) hx hb dR_expression_44 hl rfl (by exact nI_1 _) (by decide) rfl (fun ls hl => ?_)
      replace hl : lv_has ls 5 [(4, .int (nI (t + 1))), (2, .long (eL n (pg_mul x y))), (0, .ref (q 0)), (1, .int (nI b9))] := hl
      refine lv_goto (tgt := 9) hx hb dR_expression_47 rfl ?_
      exact ih (d - 1) (t + 1, eL n (pg_mul x y), (a2, false), some (pg_mul x y, a2)) _ _ ls (by omega) ⟨by show d - 1 + (t + 1) = 24; omega, ⟨rfl, rfl⟩, fun x9 a9 h9 => (by cases h9; exact ⟨pg_P_mul hxP hyP, ha2⟩), by show RES = pr_more tx len n gc g E (24 - (t + 1)) _ _; rw [hres, show 24 - (t + 1) = f' by omega], hP, hD, hS, lv_sub hl [0, 1, 2, 3] rfl⟩
/-- every level -/
theorem c_R_exp (l : Launch) (D : va_G) (z : Nat → ClassId) (q : Nat → Nat) (n len gc : Nat) (ft : Nat → Int32) (fg : Nat → Int64) (tx : Nat → Nat) (g : Nat → pg_F) (hok : rOK tx len n gc g ft fg) : ∀ (k : Nat), k ≤ 4 → ∀ (sz a : Nat), a ≤ len → Met l yR_expression wR_expression (rmF (4 * k + 5)) (va_Pc [.ref (q 0), .int (nI (4 - k))] (fun U => U.heap.size = sz ∧ va_P D vC (rW z q n len gc ft fg a false) U.heap ∧ va_K D vC (tyL z) U ∧ va_D (fun _ => True) (rW z q n len gc ft fg a false))) (va_Ql (fun r (u : Nat × Bool) => rAns n (pr_exp tx len n gc g k a) (42 + 2 * k) r u) (fun u t => va_P D vC (rWu z q n len gc ft fg u) t.heap ∧ va_D (va_A (rW z q n len gc ft fg a false) sz) (rWu z q n len gc ft fg u)) (va_A (rW z q n len gc ft fg a false) sz)) 0 0 (va_A (rW z q n len gc ft fg a false) sz) := by
  intro k
  induction k with
  | zero =>
    intro hk sz a ha
    exact c_R_expression_of l D z q n len gc ft fg tx g hok none 1 4 40 (by omega) (by omega) (by omega) (by omega) rfl sz a ha
  | succ k ih =>
    intro hk sz a ha
    refine c_R_expression_of l D z q n len gc ft fg tx g hok (some (pr_exp tx len n gc g k)) (4 * k + 5) (4 - (k + 1)) (42 + 2 * k) (by omega) (by omega) (by omega) (by omega) ⟨by omega, pr_exp_P (fun i hi => (hok.2.2.2.2 i hi).1) k, pr_exp_le k, fun sz a ha => ?_⟩ sz a ha
    rw [show 4 - (k + 1) + 1 = 4 - k by omega]
    exact ih (by omega) sz a ha
