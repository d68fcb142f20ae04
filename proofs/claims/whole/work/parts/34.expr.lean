/-! Reader: expressions. -/
theorem pr_sig_le {tx : Nat → Nat} {len n : Nat} : ∀ (f : Nat) (x : pg_F) (a : Nat) (y : pg_F) (a1 : Nat), a ≤ len → pr_sig tx len n f x a = some (y, a1) → a ≤ a1 ∧ a1 ≤ len := by
  intro f
  induction f with
  | zero => intro x a y a1 ha h; cases h; exact ⟨Nat.le_refl _, ha⟩
  | succ f ih =>
    intro x a y a1 ha h
    unfold pr_sig at h
    have hin : ∀ b, pr_look tx len b ≠ 0 → b < len := fun b q => Classical.byContradiction (fun r => q (pr_look_out (by omega)))
    split at h
    · rename_i h1
      have := hin a (by omega)
      have := ih _ _ _ _ (by omega) h
      omega
    · split at h
      · split at h
        · rename_i h1 h2
          have := hin (a + 1) (by omega)
          have := ih _ _ _ _ (by omega) h
          omega
        · cases h
      · cases h; exact ⟨Nat.le_refl _, ha⟩
def pr_inb (len : Nat) (F : Nat → Option (pg_F × Nat)) : Prop := ∀ a x a1, a ≤ len → F a = some (x, a1) → a < a1 ∧ a1 ≤ len
theorem pr_pri_le {tx : Nat → Nat} {len n gc : Nat} {g : Nat → pg_F} {E : Option (Nat → Option (pg_F × Nat))} (hE : ∀ F, E = some F → pr_inb len F) : pr_inb len (pr_pri tx len n gc g E) := by
  intro a x a1 ha h
  have hin : ∀ b, pr_look tx len b ≠ 0 → b < len := fun b q => Classical.byContradiction (fun r => q (pr_look_out (by omega)))
  have hlet : (if 97 ≤ pr_look tx len a ∧ pr_look tx len a < 97 + gc then some (g (pr_look tx len a - 97), a + 1) else none) = some (x, a1) → a < a1 ∧ a1 ≤ len := by
    intro h
    split at h
    · rename_i h1
      cases h
      have := hin a (by omega)
      omega
    · cases h
  unfold pr_pri at h
  split at h
  · have := pr_cyc_gt _ _ _ _ _ h
    omega
  · cases E with
    | none => exact hlet h
    | some E =>
      simp only at h
      split at h
      · rename_i h91
        have l0 := hin a (by omega)
        split at h
        · rename_i x1 b1 e1
          have l1 := hE E rfl _ _ _ (by omega) e1
          split at h
          · rename_i h44
            have l2 := hin b1 (by omega)
            split at h
            · rename_i y1 b2 e2
              have l3 := hE E rfl _ _ _ (by omega) e2
              split at h
              · rename_i h93
                have l4 := hin b2 (by omega)
                cases h
                omega
              · cases h
            · cases h
          · cases h
        · cases h
      · split at h
        · rename_i h123
          have l0 := hin a (by omega)
          split at h
          · rename_i x1 b1 e1
            have l1 := hE E rfl _ _ _ (by omega) e1
            split at h
            · rename_i h125
              have l2 := hin b1 (by omega)
              cases h
              omega
            · cases h
          · cases h
        · exact hlet h
theorem pr_fac_le {tx : Nat → Nat} {len n gc : Nat} {g : Nat → pg_F} {E : Option (Nat → Option (pg_F × Nat))} (hE : ∀ F, E = some F → pr_inb len F) : pr_inb len (pr_fac tx len n gc g E) := by
  intro a x a1 ha h
  unfold pr_fac at h
  split at h
  · rename_i y b e
    have l1 := pr_pri_le hE a y b ha e
    have l2 := pr_sig_le _ _ _ _ _ l1.2 h
    omega
  · cases h
theorem pr_more_le {tx : Nat → Nat} {len n gc : Nat} {g : Nat → pg_F} {E : Option (Nat → Option (pg_F × Nat))} (hE : ∀ F, E = some F → pr_inb len F) : ∀ (f : Nat) (x : pg_F) (a : Nat) (y : pg_F) (a1 : Nat), a ≤ len → pr_more tx len n gc g E f x a = some (y, a1) → a ≤ a1 ∧ a1 ≤ len := by
  intro f
  induction f with
  | zero => intro x a y a1 ha h; cases h; exact ⟨Nat.le_refl _, ha⟩
  | succ f ih =>
    intro x a y a1 ha h
    unfold pr_more at h
    split at h
    · cases h; exact ⟨Nat.le_refl _, ha⟩
    · split at h
      · rename_i z b e
        have l1 := pr_fac_le hE a z b ha e
        have l2 := ih _ _ _ _ l1.2 h
        omega
      · cases h
theorem pr_exp_le {tx : Nat → Nat} {len n gc : Nat} {g : Nat → pg_F} : ∀ (k : Nat), pr_inb len (pr_exp tx len n gc g k) := by
  have one : ∀ {E : Option (Nat → Option (pg_F × Nat))}, (∀ F, E = some F → pr_inb len F) → pr_inb len (pr_ex1 tx len n gc g E) := by
    intro E hE a x a1 ha h
    unfold pr_ex1 at h
    split at h
    · rename_i y b e
      have l1 := pr_fac_le hE a y b ha e
      have l2 := pr_more_le hE _ _ _ _ _ l1.2 h
      omega
    · cases h
  intro k
  induction k with
  | zero => exact one (E := none) (fun F hF => by cases hF)
  | succ k ih => exact one (E := some (pr_exp tx len n gc g k)) (fun F hF => by cases hF; exact ih)
/-- behind '[' -/
def pr_com (tx : Nat → Nat) (len n : Nat) (E : Nat → Option (pg_F × Nat)) (a : Nat) : Option (pg_F × Nat) := match E a with
  | some (x, a1) => if pr_look tx len a1 = 44 then (match E (a1 + 1) with
      | some (y, a2) => if pr_look tx len a2 = 93 then some (pg_comm n x y, a2 + 1) else none
      | none => none) else none
  | none => none
set_option maxHeartbeats 2000000 in
set_option maxRecDepth 100000 in
theorem c_R_commutator_of (l : Launch) (D : va_G) (z : Nat → ClassId) (q : Nat → Nat) (n len gc : Nat) (ft : Nat → Int32) (fg : Nat → Int64) (tx : Nat → Nat) (g : Nat → pg_F) (hok : rOK tx len n gc g ft fg) (E : Nat → Option (pg_F × Nat)) (hEP : ∀ a x a1, E a = some (x, a1) → pg_P n x) (hEl : pr_inb len E) (e9 b9 bd : Nat) (he9 : 1 ≤ e9) (hb9 : b9 < 100) (hbd : bd < 900) (hbd2 : 40 ≤ bd) (hexp : ∀ (sz a : Nat), a ≤ len → Met l yR_expression wR_expression (rmF e9) (va_Pc [.ref (q 0), .int (nI b9)] (fun U => U.heap.size = sz ∧ va_P D vC (rW z q n len gc ft fg a false) U.heap ∧ va_K D vC (tyL z) U ∧ va_D (fun _ => True) (rW z q n len gc ft fg a false))) (va_Ql (fun r (u : Nat × Bool) => rAns n (E a) bd r u) (fun u t => va_P D vC (rWu z q n len gc ft fg u) t.heap ∧ va_D (va_A (rW z q n len gc ft fg a false) sz) (rWu z q n len gc ft fg u)) (va_A (rW z q n len gc ft fg a false) sz)) 0 0 (va_A (rW z q n len gc ft fg a false) sz)) (sz a : Nat) (ha : a ≤ len) : Met l yR_commutator wR_commutator (rmF (e9 + 1)) (va_Pc [.ref (q 0), .int (nI b9)] (fun U => U.heap.size = sz ∧ va_P D vC (rW z q n len gc ft fg a false) U.heap ∧ va_K D vC (tyL z) U ∧ va_D (fun _ => True) (rW z q n len gc ft fg a false))) (va_Ql (fun r (u : Nat × Bool) => rAns n (pr_com tx len n E a) (bd + 2) r u) (fun u t => va_P D vC (rWu z q n len gc ft fg u) t.heap ∧ va_D (va_A (rW z q n len gc ft fg a false) sz) (rWu z q n len gc ft fg u)) (va_A (rW z q n len gc ft fg a false) sz)) 0 0 (va_A (rW z q n len gc ft fg a false) sz) := by
  have hn7 := hok.2.2.1
  have hlen := hok.1
  generalize hRES : pr_com tx len n E a = RES
  unfold pr_com at hRES
  refine Met.ofW (cc := prog_7_method_9_code) (maxL := 6) (ret := (some .long)) (by decide) rfl ?_
  intro p e s m args below meth c s₁ B hml hv
  have hx := B.exec
  have hb := B.bytes
  have hr := B.returns
  have ht : ∀ w ∈ TB, w.before args s = true := fun w h => atoms_spec (ws := wR_commutator) B.pre w (List.mem_cons_of_mem _ h)
  have hown : s.vm.findClass "PermutationDesk$Reader" = some m.cls := findClass_of_methodNamed B.named
  have hlocks := B.notSynchronized
  obtain ⟨rfl, hsz, hP, hK, hD0⟩ := hv
  subst hsz
  have hD := hD0.self (sz := s.heap.size)
  generalize hAe : va_A (rW z q n len gc ft fg a false) s.heap.size = A at hD ⊢
  have hA : ∀ q : Nat, s.heap.size ≤ q → A q := fun q h => by rw [← hAe]; exact Or.inr h
  have hS : va_S A s.heap s.heap [] := va_S.rf
  have hl := lv_entry ([.ref (q 0), .int (nI b9)]) (n := 6) (Nat.le_of_ble_eq_true rfl)
  rw [lg_entry_eq]
  generalize (lg_sl ([.ref (q 0), .int (nI b9)]) ++ List.replicate (6 - (lg_sl ([.ref (q 0), .int (nI b9)])).length) Slot.unset).toArray = ls at hl ⊢
  have hl : lv_has ls 6 [(0, .ref (q 0)), (1, .int (nI b9))] := hl
  refine lv_aload_n hx hb dR_commutator_0 rfl (lv_at hl 0 rfl) ?_
  refine lv_iload_n hx hb dR_commutator_1 rfl (lv_at hl 1 rfl) ?_
  refine qW_l (ci := 1) (q0 := 0) (wr := []) (As := [.int (nI b9)]) (rest := []) ⟨hx, hb, hml, hown, ht⟩ (hexp s.heap.size a ha) (cB 1 ht gR_expression rfl tw_65 tw_245 (by decide +kernel) ⟨by show e9 + 1 ≤ e9 + 1; omega, by show 8 + (5 + 11) + 40 * (e9) ≤ 40 * (e9 + 1); omega⟩) tw_212 tw_1 hK hP hD hS hA [0, 1, 2] [] rfl rfl rfl rfl (by decide) rfl rfl rfl rfl hl.1 rfl (Nat.le_of_ble_eq_true rfl) dR_commutator_2 ⟨Nat.le_refl _, Nat.le_refl _⟩ (fun r2 u2 H locs h2 hP hD hS => ?_)
  obtain ⟨a1, bk1⟩ := u2
  replace hP : va_P D vC (rW z q n len gc ft fg a1 bk1) H := hP
  replace hD : va_D A (rW z q n len gc ft fg a1 bk1) := hD
  have ha1 : a1 < 1000 := by
    cases eE : E a with
    | none => rw [eE] at h2; have := h2.2; have : a1 ≤ bd := this; omega
    | some r0 =>
      obtain ⟨x0, b0⟩ := r0
      rw [eE] at h2
      have := hEl a x0 b0 ha eE
      have e8 := h2.2
      cases e8
      omega
  refine lv_lstore_n hx hb dR_commutator_5 rfl hl (by decide) rfl (fun ls hl => ?_)
  replace hl : lv_has ls 6 [(2, .long r2), (0, .ref (q 0)), (1, .int (nI b9))] := hl
  refine lv_aload_n hx hb dR_commutator_6 rfl (lv_at hl 1 rfl) ?_
  refine lv_bipush (v := 44) hx hb dR_commutator_7 (by decide) ?_
  refine qW_v (ci := 1) (q0 := 0) (wr := []) (As := [.int (nI 44)]) (rest := []) ⟨hx, hb, hml, hown, ht⟩ (c_R_expect l D z q H.size n len gc ft fg tx g hok a1 ha1 bk1 44 (by decide)) (cB 1 ht gR_expect rfl tw_65 tw_246 (by decide +kernel) ⟨by show 1 + 1 ≤ e9 + 1; omega, by show 8 + (2 + 11) + 40 * (1) ≤ 40 * (e9 + 1); omega⟩) tw_248 tw_8 hK hP hD hS hA [0, 1, 2] [] rfl rfl rfl rfl (by decide) rfl rfl rfl rfl hl.1 rfl (Nat.le_of_ble_eq_true rfl) dR_commutator_9 ⟨Nat.le_refl _, Nat.le_refl _⟩ (fun u9 H locs h9 hP hD hS => ?_)
  subst h9
  replace hP : va_P D vC (rW z q n len gc ft fg (a1 + 1) (bk1 || !(decide (pr_look tx len a1 = 44)))) H := hP
  replace hD : va_D A (rW z q n len gc ft fg (a1 + 1) (bk1 || !(decide (pr_look tx len a1 = 44)))) := hD
  refine wj (σ := Unit) (pc := 45) (I := fun _ H1 locs1 ls1 => RES = none ∧ (∃ a3, a3 ≤ bd + 2 ∧ va_P D vC (rW z q n len gc ft fg a3 true) H1 ∧ va_D A (rW z q n len gc ft fg a3 true)) ∧ va_S A s.heap H1 locs1) ?_ (fun jn => ?_)
  · rintro - H1 locs1 ls1 ⟨hno, ⟨a3, ha3, hP, hD⟩, hS⟩
    refine W.ldc2 hx hb hown (ht _ tw_240) rfl dR_commutator_45 ?_
    refine lv_goto (tgt := 61) hx hb dR_commutator_48 rfl ?_
    exact W.lret hx hb hr (fun t9 ht hW => ⟨⟨_, (a3, true), rfl, by rw [hno]; exact ⟨rfl, ha3⟩, by rw [ht]; exact hP, hD⟩, hS.F ht⟩) hS.2.2 dR_commutator_61
  refine lv_aload_n hx hb dR_commutator_12 rfl (lv_at hl 1 rfl) ?_
  refine va_get (ci := 1) (C := RR) (T := TR) (N := 7) hx hb ht inR hown hK hP 0 rfl rfl 6 (by decide) (ht _ tw_194) (fun _ h9 => h9) rfl dR_commutator_13 ?_
  refine lv_if_eq (tgt := 25) hx hb dR_commutator_16 rfl (fun h16 => ?_) (fun h16 => ?_)
  · have hbk := bI_0.mp h16
    cases eE : E a with
    | none =>
      rw [eE] at h2
      have e8 : bk1 = true := h2.1
      rw [e8] at hbk
      cases hbk
    | some r0 =>
      obtain ⟨x, b0⟩ := r0
      rw [eE] at h2 hRES
      obtain ⟨rfl, e8⟩ := h2
      cases e8
      have hl1 := hEl a x a1 ha eE
      have h44 : pr_look tx len a1 = 44 := by
        have h8 : (false || !(decide (pr_look tx len a1 = 44))) = false := hbk
        cases h7 : decide (pr_look tx len a1 = 44) with
        | true => exact of_decide_eq_true h7
        | false => rw [h7] at h8; cases h8
      have hl2 : a1 < len := Classical.byContradiction (fun r => by rw [pr_look_out (by omega)] at h44; omega)
      have hxP := hEP a x a1 eE
      rw [hbk] at hP hD
      simp only at hRES
      rw [if_pos h44] at hRES
      refine lv_aload_n hx hb dR_commutator_25 rfl (lv_at hl 1 rfl) ?_
      refine lv_iload_n hx hb dR_commutator_26 rfl (lv_at hl 2 rfl) ?_
      refine qW_l (ci := 1) (q0 := 0) (wr := []) (As := [.int (nI b9)]) (rest := []) ⟨hx, hb, hml, hown, ht⟩ (hexp H.size (a1 + 1) (by omega)) (cB 1 ht gR_expression rfl tw_65 tw_245 (by decide +kernel) ⟨by show e9 + 1 ≤ e9 + 1; omega, by show 8 + (5 + 11) + 40 * (e9) ≤ 40 * (e9 + 1); omega⟩) tw_212 tw_1 hK hP hD hS hA [0, 1, 2] [] rfl rfl rfl rfl (by decide) rfl rfl rfl rfl hl.1 rfl (Nat.le_of_ble_eq_true rfl) dR_commutator_27 ⟨Nat.le_refl _, Nat.le_refl _⟩ (fun r27 u27 H locs h27 hP hD hS => ?_)
      obtain ⟨a2, bk2⟩ := u27
      replace hP : va_P D vC (rW z q n len gc ft fg a2 bk2) H := hP
      replace hD : va_D A (rW z q n len gc ft fg a2 bk2) := hD
      have ha2 : a2 < 1000 ∧ a2 ≤ bd := by
        cases eE2 : E (a1 + 1) with
        | none => rw [eE2] at h27; have := h27.2; have : a2 ≤ bd := this; omega
        | some r0 =>
          obtain ⟨x0, b0⟩ := r0
          rw [eE2] at h27
          have := hEl (a1 + 1) x0 b0 (by omega) eE2
          have e8 := h27.2
          cases e8
          omega
      refine lv_lstore hx hb dR_commutator_30 hl (by decide) rfl (fun ls hl => ?_)
      replace hl : lv_has ls 6 [(4, .long r27), (2, .long (eL n x)), (0, .ref (q 0)), (1, .int (nI b9))] := hl
      refine lv_aload_n hx hb dR_commutator_32 rfl (lv_at hl 2 rfl) ?_
      refine lv_bipush (v := 93) hx hb dR_commutator_33 (by decide) ?_
      refine qW_v (ci := 1) (q0 := 0) (wr := []) (As := [.int (nI 93)]) (rest := []) ⟨hx, hb, hml, hown, ht⟩ (c_R_expect l D z q H.size n len gc ft fg tx g hok a2 ha2.1 bk2 93 (by decide)) (cB 1 ht gR_expect rfl tw_65 tw_246 (by decide +kernel) ⟨by show 1 + 1 ≤ e9 + 1; omega, by show 8 + (2 + 11) + 40 * (1) ≤ 40 * (e9 + 1); omega⟩) tw_248 tw_8 hK hP hD hS hA [0, 1, 2] [] rfl rfl rfl rfl (by decide) rfl rfl rfl rfl hl.1 rfl (Nat.le_of_ble_eq_true rfl) dR_commutator_35 ⟨Nat.le_refl _, Nat.le_refl _⟩ (fun u35 H locs h35 hP hD hS => ?_)
      subst h35
      replace hP : va_P D vC (rW z q n len gc ft fg (a2 + 1) (bk2 || !(decide (pr_look tx len a2 = 93)))) H := hP
      replace hD : va_D A (rW z q n len gc ft fg (a2 + 1) (bk2 || !(decide (pr_look tx len a2 = 93)))) := hD
      refine lv_aload_n hx hb dR_commutator_38 rfl (lv_at hl 2 rfl) ?_
      refine va_get (ci := 1) (C := RR) (T := TR) (N := 7) hx hb ht inR hown hK hP 0 rfl rfl 6 (by decide) (ht _ tw_194) (fun _ h9 => h9) rfl dR_commutator_39 ?_
      refine lv_if_eq (tgt := 51) hx hb dR_commutator_42 rfl (fun h42 => ?_) (fun h42 => ?_)
      · have hbk2 := bI_0.mp h42
        cases eE2 : E (a1 + 1) with
        | none =>
          rw [eE2] at h27
          have e8 : bk2 = true := h27.1
          rw [e8] at hbk2
          cases hbk2
        | some r0 =>
          obtain ⟨y, b0⟩ := r0
          rw [eE2] at h27 hRES
          obtain ⟨rfl, e8⟩ := h27
          cases e8
          have h93 : pr_look tx len a2 = 93 := by
            have h8 : (false || !(decide (pr_look tx len a2 = 93))) = false := hbk2
            cases h7 : decide (pr_look tx len a2 = 93) with
            | true => exact of_decide_eq_true h7
            | false => rw [h7] at h8; cases h8
          have hyP := hEP (a1 + 1) y a2 eE2
          rw [hbk2] at hP hD
          simp only at hRES
          rw [if_pos h93] at hRES
          refine lv_lload_n hx hb dR_commutator_51 rfl (lv_at hl 1 rfl) ?_
          refine lv_lload hx hb dR_commutator_52 (lv_at hl 0 rfl) ?_
          refine lv_aload_n hx hb dR_commutator_54 rfl (lv_at hl 2 rfl) ?_
          refine va_get (ci := 1) (C := RR) (T := TR) (N := 7) hx hb ht inR hown hK hP 0 rfl rfl 4 (by decide) (ht _ tw_192) (fun _ h9 => h9) rfl dR_commutator_55 ?_
          refine qS_l (As := [.long (eL n x), .long (eL n y), .int (nI n)]) (rest := []) ⟨hx, hb, hml, hown, ht⟩ (c_E_commutator l n x y (by omega) hxP hyP) (cB 3 ht gE_commutator rfl tw_62 tw_250 (by decide +kernel) ⟨by show 1 + 1 ≤ e9 + 1; omega, by show 8 + (8 + 11) + 40 * (1) ≤ 40 * (e9 + 1); omega⟩) tw_251 rfl hl.1 rfl (Nat.le_of_ble_eq_true rfl) dR_commutator_58 ⟨Nat.le_refl _, Nat.le_refl _⟩ (fun r58 h58 => ?_)
          subst h58
          exact W.lret hx hb hr (fun t9 ht hW => ⟨⟨_, (a2 + 1, false), rfl, by rw [← hRES]; exact ⟨rfl, rfl⟩, by rw [ht]; exact hP, hD⟩, hS.F ht⟩) hS.2.2 dR_commutator_61
      have hbk2 : (bk2 || !(decide (pr_look tx len a2 = 93))) = true := by
        cases e8 : (bk2 || !(decide (pr_look tx len a2 = 93))) with
        | true => rfl
        | false => exact absurd (bI_0.mpr e8) h42
      have hno : RES = none := by
        rw [← hRES]
        cases eE2 : E (a1 + 1) with
        | none => rfl
        | some r0 =>
          obtain ⟨y, b0⟩ := r0
          rw [eE2] at h27
          obtain ⟨-, e8⟩ := h27
          cases e8
          simp only
          have h93 : pr_look tx len a2 ≠ 93 := fun e8 => by rw [decide_eq_true e8] at hbk2; cases hbk2
          rw [if_neg h93]
      rw [hbk2] at hP hD
      exact jn () _ _ ls ⟨hno, ⟨a2 + 1, by omega, hP, hD⟩, hS⟩
  have hbk : (bk1 || !(decide (pr_look tx len a1 = 44))) = true := by
    cases e8 : (bk1 || !(decide (pr_look tx len a1 = 44))) with
    | true => rfl
    | false => exact absurd (bI_0.mpr e8) h16
  have hno : RES = none := by
    rw [← hRES]
    cases eE : E a with
    | none => rfl
    | some r0 =>
      obtain ⟨y, b0⟩ := r0
      rw [eE] at h2
      obtain ⟨-, e8⟩ := h2
      cases e8
      simp only
      have h44 : pr_look tx len a1 ≠ 44 := fun e8 => by rw [decide_eq_true e8] at hbk; cases hbk
      rw [if_neg h44]
  have ha1b : a1 ≤ bd := by
    cases eE : E a with
    | none => rw [eE] at h2; exact h2.2
    | some r0 =>
      obtain ⟨x0, b0⟩ := r0
      rw [eE] at h2
      have := hEl a x0 b0 ha eE
      have e8 := h2.2
      cases e8
      omega
  rw [hbk] at hP hD
  refine W.ldc2 hx hb hown (ht _ tw_240) rfl dR_commutator_19 ?_
  refine lv_goto (tgt := 30) hx hb dR_commutator_22 rfl ?_
  refine lv_lstore hx hb dR_commutator_30 hl (by decide) rfl (fun ls hl => ?_)
  replace hl : lv_has ls 6 [(4, .long (-1)), (2, .long r2), (0, .ref (q 0)), (1, .int (nI b9))] := hl
  refine lv_aload_n hx hb dR_commutator_32 rfl (lv_at hl 2 rfl) ?_
  refine lv_bipush (v := 93) hx hb dR_commutator_33 (by decide) ?_
  refine qW_v (ci := 1) (q0 := 0) (wr := []) (As := [.int (nI 93)]) (rest := []) ⟨hx, hb, hml, hown, ht⟩ (c_R_expect l D z q H.size n len gc ft fg tx g hok (a1 + 1) (by omega) true 93 (by decide)) (cB 1 ht gR_expect rfl tw_65 tw_246 (by decide +kernel) ⟨by show 1 + 1 ≤ e9 + 1; omega, by show 8 + (2 + 11) + 40 * (1) ≤ 40 * (e9 + 1); omega⟩) tw_248 tw_8 hK hP hD hS hA [0, 1, 2] [] rfl rfl rfl rfl (by decide) rfl rfl rfl rfl hl.1 rfl (Nat.le_of_ble_eq_true rfl) dR_commutator_35 ⟨Nat.le_refl _, Nat.le_refl _⟩ (fun u35 H locs h35 hP hD hS => ?_)
  subst h35
  replace hP : va_P D vC (rW z q n len gc ft fg (a1 + 1 + 1) true) H := hP
  replace hD : va_D A (rW z q n len gc ft fg (a1 + 1 + 1) true) := hD
  refine lv_aload_n hx hb dR_commutator_38 rfl (lv_at hl 2 rfl) ?_
  refine va_get (ci := 1) (C := RR) (T := TR) (N := 7) hx hb ht inR hown hK hP 0 rfl rfl 6 (by decide) (ht _ tw_194) (fun _ h9 => h9) rfl dR_commutator_39 ?_
  refine lv_if_eq (tgt := 51) hx hb dR_commutator_42 rfl (fun h42 => ?_) (fun h42 => ?_)
  · exact absurd h42 (by decide)
  exact jn () _ _ ls ⟨hno, ⟨a1 + 1 + 1, by omega, hP, hD⟩, hS⟩
