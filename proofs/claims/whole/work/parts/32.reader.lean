/-! Reader: signs of the text, cycles. -/
abbrev rW (z : Nat → ClassId) (q : Nat → Nat) (n len gc : Nat) (ft : Nat → Int32) (fg : Nat → Int64) (a : Nat) (bk : Bool) : va_W := [(q 0, .inr (1, [.ref (q 1), .int (nI len), .ref (q 2), .int (nI gc), .int (nI n), .int (nI a), .int (bI bk)])), (q 1, .inl (z 2, 24, .inl ft)), (q 2, .inl (z 0, 6, .inr (.inl fg)))]
abbrev rWu (z : Nat → ClassId) (q : Nat → Nat) (n len gc : Nat) (ft : Nat → Int32) (fg : Nat → Int64) (u : Nat × Bool) : va_W := rW z q n len gc ft fg u.1 u.2
def rOK (tx : Nat → Nat) (len n gc : Nat) (g : Nat → pg_F) (ft : Nat → Int32) (fg : Nat → Int64) : Prop := len ≤ 24 ∧ gc ≤ 6 ∧ n ≤ 7 ∧ (∀ j, j < len → tx j < 128 ∧ ft j = nI (tx j)) ∧ ∀ i, i < gc → pg_P n (g i) ∧ fg i = eL n (g i)
theorem rOK.lk {tx : Nat → Nat} {len n gc : Nat} {g : Nat → pg_F} {ft : Nat → Int32} {fg : Nat → Int64} (h : rOK tx len n gc g ft fg) (a : Nat) : pr_look tx len a < 128 := by
  by_cases q : a < len
  · rw [pr_look_in q]; exact (h.2.2.2.1 a q).1
  · rw [pr_look_out (by omega)]; decide
set_option maxHeartbeats 1000000 in
set_option maxRecDepth 100000 in
theorem c_R_look (l : Launch) (D : va_G) (z : Nat → ClassId) (q : Nat → Nat) (sz n len gc : Nat) (ft : Nat → Int32) (fg : Nat → Int64) (tx : Nat → Nat) (g : Nat → pg_F) (hok : rOK tx len n gc g ft fg) (a : Nat) (ha : a < 1000) (bk : Bool) : Met l yR_look wR_look (rmF 0) (va_Pc [.ref (q 0)] (fun U => va_P D vC (rW z q n len gc ft fg a bk) U.heap ∧ va_K D vC (tyL z) U)) (vp_Si (fun r => r = nI (pr_look tx len a))) 0 0 (fun _ => False) := by
  have hlen := hok.1
  have hc := hok.lk a
  refine Met.ofW (cc := prog_7_method_11_code) (maxL := 1) (ret := (some .char)) (by decide) rfl ?_
  intro p e s m args below meth c s₁ B hml hv
  have hx := B.exec
  have hb := B.bytes
  have hr := B.returns
  have ht : ∀ w ∈ TB, w.before args s = true := fun w h => atoms_spec (ws := wR_look) B.pre w (List.mem_cons_of_mem _ h)
  have hown : s.vm.findClass "PermutationDesk$Reader" = some m.cls := findClass_of_methodNamed B.named
  have hlocks := B.notSynchronized
  obtain ⟨rfl, hP, hK⟩ := hv
  have hl := lv_entry ([.ref (q 0)]) (n := 1) (Nat.le_of_ble_eq_true rfl)
  rw [lg_entry_eq]
  generalize (lg_sl ([.ref (q 0)]) ++ List.replicate (1 - (lg_sl ([.ref (q 0)])).length) Slot.unset).toArray = ls at hl ⊢
  have hl : lv_has ls 1 [(0, .ref (q 0))] := hl
  refine lv_aload_n hx hb dR_look_0 rfl (lv_at hl 0 rfl) ?_
  refine va_get (ci := 1) (C := RR) (T := TR) (N := 7) hx hb ht inR hown hK hP 0 rfl rfl 5 (by decide) (ht _ tw_193) (fun _ h9 => h9) rfl dR_look_1 ?_
  refine lv_aload_n hx hb dR_look_4 rfl (lv_at hl 0 rfl) ?_
  refine va_get (ci := 1) (C := RR) (T := TR) (N := 7) hx hb ht inR hown hK hP 0 rfl rfl 1 (by decide) (ht _ tw_189) (fun _ h9 => h9) rfl dR_look_5 ?_
  refine lv_icmp_ge (tgt := 35) hx hb dR_look_8 rfl (fun h => ?_) (fun h => ?_)
  · have h2 := (nI_leI (by omega) (by omega)).mp h
    refine lv_iconst (v := 0) hx hb dR_look_35 (by decide) ?_
    exact W.zret (v := 0) hx hb hr rfl (fun t h _ => ⟨_, rfl, by rw [pr_look_out h2]; rfl, h⟩) (fun q h => by cases h) dR_look_36
  have h2 : a < len := by
    rw [nI_leI (by omega) (by omega)] at h
    omega
  refine lv_aload_n hx hb dR_look_11 rfl (lv_at hl 0 rfl) ?_
  refine va_get (ci := 1) (C := RR) (T := TR) (N := 7) hx hb ht inR hown hK hP 0 rfl rfl 5 (by decide) (ht _ tw_193) (fun _ h9 => h9) rfl dR_look_12 ?_
  refine lv_aload_n hx hb dR_look_15 rfl (lv_at hl 0 rfl) ?_
  refine va_get (ci := 1) (C := RR) (T := TR) (N := 7) hx hb ht inR hown hK hP 0 rfl rfl 0 (by decide) (ht _ tw_188) (fun _ h9 => h9) rfl dR_look_16 ?_
  refine va_alen hx hb hK hP 1 2 rfl rfl rfl dR_look_19 ?_
  refine wti (x' := nI 24) rfl ?_
  refine lv_icmp_ge (tgt := 35) hx hb dR_look_20 rfl (fun h3 => ?_) (fun h3 => ?_)
  · have h4 := (nI_leI (by omega) (by omega)).mp h3
    omega
  refine lv_aload_n hx hb dR_look_23 rfl (lv_at hl 0 rfl) ?_
  refine va_get (ci := 1) (C := RR) (T := TR) (N := 7) hx hb ht inR hown hK hP 0 rfl rfl 0 (by decide) (ht _ tw_188) (fun _ h9 => h9) rfl dR_look_24 ?_
  refine lv_aload_n hx hb dR_look_27 rfl (lv_at hl 0 rfl) ?_
  refine va_get (ci := 1) (C := RR) (T := TR) (N := 7) hx hb ht inR hown hK hP 0 rfl rfl 5 (by decide) (ht _ tw_193) (fun _ h9 => h9) rfl dR_look_28 ?_
  refine va_cald hx hb hK hP 1 2 rfl rfl (vp_in_nI (N := 24) (by omega) (by decide)) dR_look_31 ?_
  refine wti (x' := nI (pr_look tx len a)) (by rw [nI_clamp (by omega), pr_look_in h2]; exact (hok.2.2.2.1 a h2).2) ?_
  refine lv_goto (tgt := 36) hx hb dR_look_32 rfl ?_
  exact W.zret (v := nI (pr_look tx len a)) hx hb hr (pk_charN (by omega)).1 (fun t h _ => ⟨_, rfl, rfl, h⟩) (fun q h => by cases h) dR_look_36
set_option maxHeartbeats 1000000 in
set_option maxRecDepth 100000 in
theorem c_R_isExpressionOver (l : Launch) (D : va_G) (z : Nat → ClassId) (q : Nat → Nat) (sz n len gc : Nat) (ft : Nat → Int32) (fg : Nat → Int64) (tx : Nat → Nat) (g : Nat → pg_F) (hok : rOK tx len n gc g ft fg) (a : Nat) (ha : a < 1000) (bk : Bool) : Met l yR_isExpressionOver wR_isExpressionOver (rmF 1) (va_Pc [.ref (q 0)] (fun U => va_P D vC (rW z q n len gc ft fg a bk) U.heap ∧ va_K D vC (tyL z) U)) (vp_Si (fun r => r = bI (pr_ovb (pr_look tx len a)))) 0 0 (fun _ => False) := by
  have hc := hok.lk a
  refine Met.ofW (cc := prog_7_method_4_code) (maxL := 2) (ret := (some .boolean)) (by decide) rfl ?_
  intro p e s m args below meth c s₁ B hml hv
  have hx := B.exec
  have hb := B.bytes
  have hr := B.returns
  have ht : ∀ w ∈ TB, w.before args s = true := fun w h => atoms_spec (ws := wR_isExpressionOver) B.pre w (List.mem_cons_of_mem _ h)
  have hown : s.vm.findClass "PermutationDesk$Reader" = some m.cls := findClass_of_methodNamed B.named
  have hlocks := B.notSynchronized
  obtain ⟨rfl, hP, hK⟩ := hv
  have hl := lv_entry ([.ref (q 0)]) (n := 2) (Nat.le_of_ble_eq_true rfl)
  rw [lg_entry_eq]
  generalize (lg_sl ([.ref (q 0)]) ++ List.replicate (2 - (lg_sl ([.ref (q 0)])).length) Slot.unset).toArray = ls at hl ⊢
  have hl : lv_has ls 2 [(0, .ref (q 0))] := hl
  refine lv_aload_n hx hb dR_isExpressionOver_0 rfl (lv_at hl 0 rfl) ?_
  refine qV_i (ci := 1) (q0 := 0) (As := []) (rest := []) ⟨hx, hb, hml, hown, ht⟩ (c_R_look l D z q sz n len gc ft fg tx g hok a ha bk) (cB 0 ht gR_look rfl tw_65 tw_226 (by decide +kernel) ⟨by decide, by decide⟩) tw_228 tw_5 hK (hP) rfl rfl rfl hl.1 rfl (Nat.le_of_ble_eq_true rfl) dR_isExpressionOver_1 ⟨by decide, by decide⟩ (fun r1 h1 => ?_)
  subst h1
  refine lv_istore_n hx hb dR_isExpressionOver_4 rfl hl (by decide) rfl (fun ls hl => ?_)
  replace hl : lv_has ls 2 [(1, .int (nI (pr_look tx len a))), (0, .ref (q 0))] := hl
  refine lv_iload_n hx hb dR_isExpressionOver_5 rfl (lv_at hl 0 rfl) ?_
  have yes : pr_over (pr_look tx len a) → ∀ t : State, t.heap = s.heap → vp_Si (fun r => r = bI (pr_ovb (pr_look tx len a))) #[Value.ref (q 0)] s (.returned (some (.int 1))) t := fun ho t h => ⟨_, rfl, by rw [(pr_ovb_iff _).mpr ho]; rfl, h⟩
  refine lv_if_eq (tgt := 27) hx hb dR_isExpressionOver_6 rfl (fun h => ?_) (fun h => ?_)
  · have h2 : pr_look tx len a = 0 := (nI_eq (a := pr_look tx len a) (b := 0) (by omega) (by omega)).mp h
    refine lv_iconst (v := 1) hx hb dR_isExpressionOver_27 (by decide) ?_
    refine lv_goto (tgt := 32) hx hb dR_isExpressionOver_28 rfl ?_
    exact W.zret (v := 1) hx hb hr rfl (fun t h _ => yes (Or.inl h2) t h) (fun q h => by cases h) dR_isExpressionOver_32
  have n0 : pr_look tx len a ≠ 0 := fun e9 => h (by rw [e9]; rfl)
  refine lv_iload_n hx hb dR_isExpressionOver_9 rfl (lv_at hl 0 rfl) ?_
  refine lv_bipush (v := 44) hx hb dR_isExpressionOver_10 (by decide) ?_
  refine lv_icmp_eq (tgt := 27) hx hb dR_isExpressionOver_12 rfl (fun h3 => ?_) (fun h3 => ?_)
  · have h2 : pr_look tx len a = 44 := (nI_eq (a := pr_look tx len a) (b := 44) (by omega) (by omega)).mp h3
    refine lv_iconst (v := 1) hx hb dR_isExpressionOver_27 (by decide) ?_
    refine lv_goto (tgt := 32) hx hb dR_isExpressionOver_28 rfl ?_
    exact W.zret (v := 1) hx hb hr rfl (fun t h _ => yes (Or.inr (Or.inl h2)) t h) (fun q h => by cases h) dR_isExpressionOver_32
  have n1 : pr_look tx len a ≠ 44 := fun e9 => h3 (by rw [e9]; rfl)
  refine lv_iload_n hx hb dR_isExpressionOver_15 rfl (lv_at hl 0 rfl) ?_
  refine lv_bipush (v := 93) hx hb dR_isExpressionOver_16 (by decide) ?_
  refine lv_icmp_eq (tgt := 27) hx hb dR_isExpressionOver_18 rfl (fun h4 => ?_) (fun h4 => ?_)
  · have h2 : pr_look tx len a = 93 := (nI_eq (a := pr_look tx len a) (b := 93) (by omega) (by omega)).mp h4
    refine lv_iconst (v := 1) hx hb dR_isExpressionOver_27 (by decide) ?_
    refine lv_goto (tgt := 32) hx hb dR_isExpressionOver_28 rfl ?_
    exact W.zret (v := 1) hx hb hr rfl (fun t h _ => yes (Or.inr (Or.inr (Or.inl h2))) t h) (fun q h => by cases h) dR_isExpressionOver_32
  have n2 : pr_look tx len a ≠ 93 := fun e9 => h4 (by rw [e9]; rfl)
  refine lv_iload_n hx hb dR_isExpressionOver_21 rfl (lv_at hl 0 rfl) ?_
  refine lv_bipush (v := 125) hx hb dR_isExpressionOver_22 (by decide) ?_
  refine lv_icmp_ne (tgt := 31) hx hb dR_isExpressionOver_24 rfl (fun h5 => ?_) (fun h5 => ?_)
  · have n3 : pr_look tx len a ≠ 125 := fun e9 => h5 (by rw [e9]; rfl)
    refine lv_iconst (v := 0) hx hb dR_isExpressionOver_31 (by decide) ?_
    exact W.zret (v := 0) hx hb hr rfl (fun t h _ => ⟨_, rfl, by
      rw [show pr_ovb (pr_look tx len a) = false from by
        cases e9 : pr_ovb (pr_look tx len a) with
        | false => rfl
        | true =>
          have h9 := (pr_ovb_iff _).mp e9
          unfold pr_over at h9
          omega]
      rfl, h⟩) (fun q h => by cases h) dR_isExpressionOver_32
  · have h2 : pr_look tx len a = 125 := (nI_eq (a := pr_look tx len a) (b := 125) (by omega) (by omega)).mp h5
    refine lv_iconst (v := 1) hx hb dR_isExpressionOver_27 (by decide) ?_
    refine lv_goto (tgt := 32) hx hb dR_isExpressionOver_28 rfl ?_
    exact W.zret (v := 1) hx hb hr rfl (fun t h _ => yes (Or.inr (Or.inr (Or.inr h2))) t h) (fun q h => by cases h) dR_isExpressionOver_32
set_option maxHeartbeats 1000000 in
set_option maxRecDepth 100000 in
theorem c_R_hasReadAll (l : Launch) (D : va_G) (z : Nat → ClassId) (q : Nat → Nat) (sz n len gc : Nat) (ft : Nat → Int32) (fg : Nat → Int64) (tx : Nat → Nat) (g : Nat → pg_F) (hok : rOK tx len n gc g ft fg) (a : Nat) (ha : a < 1000) (bk : Bool) : Met l yR_hasReadAll wR_hasReadAll (rmF 0) (va_Pc [.ref (q 0)] (fun U => va_P D vC (rW z q n len gc ft fg a bk) U.heap ∧ va_K D vC (tyL z) U)) (vp_Si (fun r => r = bI (!bk && decide (a = len)))) 0 0 (fun _ => False) := by
  have hlen := hok.1
  refine Met.ofW (cc := prog_7_method_2_code) (maxL := 1) (ret := (some .boolean)) (by decide) rfl ?_
  intro p e s m args below meth c s₁ B hml hv
  have hx := B.exec
  have hb := B.bytes
  have hr := B.returns
  have ht : ∀ w ∈ TB, w.before args s = true := fun w h => atoms_spec (ws := wR_hasReadAll) B.pre w (List.mem_cons_of_mem _ h)
  have hown : s.vm.findClass "PermutationDesk$Reader" = some m.cls := findClass_of_methodNamed B.named
  have hlocks := B.notSynchronized
  obtain ⟨rfl, hP, hK⟩ := hv
  have hl := lv_entry ([.ref (q 0)]) (n := 1) (Nat.le_of_ble_eq_true rfl)
  rw [lg_entry_eq]
  generalize (lg_sl ([.ref (q 0)]) ++ List.replicate (1 - (lg_sl ([.ref (q 0)])).length) Slot.unset).toArray = ls at hl ⊢
  have hl : lv_has ls 1 [(0, .ref (q 0))] := hl
  refine lv_aload_n hx hb dR_hasReadAll_0 rfl (lv_at hl 0 rfl) ?_
  refine va_get (ci := 1) (C := RR) (T := TR) (N := 7) hx hb ht inR hown hK hP 0 rfl rfl 6 (by decide) (ht _ tw_194) (fun _ h9 => h9) rfl dR_hasReadAll_1 ?_
  refine lv_if_ne (tgt := 22) hx hb dR_hasReadAll_4 rfl (fun h => ?_) (fun h => ?_)
  · have h2 : bk = true := by
      cases bk with
      | true => rfl
      | false => exact absurd rfl h
    subst h2
    refine lv_iconst (v := 0) hx hb dR_hasReadAll_22 (by decide) ?_
    exact W.zret (v := 0) hx hb hr rfl (fun t h _ => ⟨_, rfl, rfl, h⟩) (fun q h => by cases h) dR_hasReadAll_23
  have h2 : bk = false := bI_0.mp h
  subst h2
  refine lv_aload_n hx hb dR_hasReadAll_7 rfl (lv_at hl 0 rfl) ?_
  refine va_get (ci := 1) (C := RR) (T := TR) (N := 7) hx hb ht inR hown hK hP 0 rfl rfl 5 (by decide) (ht _ tw_193) (fun _ h9 => h9) rfl dR_hasReadAll_8 ?_
  refine lv_aload_n hx hb dR_hasReadAll_11 rfl (lv_at hl 0 rfl) ?_
  refine va_get (ci := 1) (C := RR) (T := TR) (N := 7) hx hb ht inR hown hK hP 0 rfl rfl 1 (by decide) (ht _ tw_189) (fun _ h9 => h9) rfl dR_hasReadAll_12 ?_
  refine lv_icmp_ne (tgt := 22) hx hb dR_hasReadAll_15 rfl (fun h3 => ?_) (fun h3 => ?_)
  · have h4 : a ≠ len := fun e9 => h3 (by rw [e9])
    refine lv_iconst (v := 0) hx hb dR_hasReadAll_22 (by decide) ?_
    exact W.zret (v := 0) hx hb hr rfl (fun t h _ => ⟨_, rfl, by rw [decide_eq_false h4]; rfl, h⟩) (fun q h => by cases h) dR_hasReadAll_23
  · have h4 : a = len := (nI_eq (by omega) (by omega)).mp h3
    refine lv_iconst (v := 1) hx hb dR_hasReadAll_18 (by decide) ?_
    refine lv_goto (tgt := 23) hx hb dR_hasReadAll_19 rfl ?_
    exact W.zret (v := 1) hx hb hr rfl (fun t h _ => ⟨_, rfl, by rw [decide_eq_true h4]; rfl, h⟩) (fun q h => by cases h) dR_hasReadAll_23
set_option maxHeartbeats 1000000 in
set_option maxRecDepth 100000 in
theorem c_R_take (l : Launch) (D : va_G) (z : Nat → ClassId) (q : Nat → Nat) (sz n len gc : Nat) (ft : Nat → Int32) (fg : Nat → Int64) (tx : Nat → Nat) (g : Nat → pg_F) (hok : rOK tx len n gc g ft fg) (a : Nat) (ha : a < 1000) (bk : Bool) : Met l yR_take wR_take (rmF 1) (va_Pc [.ref (q 0)] (fun U => U.heap.size = sz ∧ va_P D vC (rW z q n len gc ft fg a bk) U.heap ∧ va_K D vC (tyL z) U ∧ va_D (fun _ => True) (rW z q n len gc ft fg a bk))) (va_Qi (fun r (u : Nat × Bool) => r = nI (pr_look tx len a) ∧ u = (a + 1, bk)) (fun u t => va_P D vC (rWu z q n len gc ft fg u) t.heap ∧ va_D (va_A (rW z q n len gc ft fg a bk) sz) (rWu z q n len gc ft fg u)) (va_A (rW z q n len gc ft fg a bk) sz)) 0 0 (va_A (rW z q n len gc ft fg a bk) sz) := by
  have hc := hok.lk a
  refine Met.ofW (cc := prog_7_method_12_code) (maxL := 2) (ret := (some .char)) (by decide) rfl ?_
  intro p e s m args below meth c s₁ B hml hv
  have hx := B.exec
  have hb := B.bytes
  have hr := B.returns
  have ht : ∀ w ∈ TB, w.before args s = true := fun w h => atoms_spec (ws := wR_take) B.pre w (List.mem_cons_of_mem _ h)
  have hown : s.vm.findClass "PermutationDesk$Reader" = some m.cls := findClass_of_methodNamed B.named
  have hlocks := B.notSynchronized
  obtain ⟨rfl, hsz, hP, hK, hD0⟩ := hv
  subst hsz
  have hD := hD0.self (sz := s.heap.size)
  generalize hAe : va_A (rW z q n len gc ft fg a bk) s.heap.size = A at hD ⊢
  have hA : ∀ q : Nat, s.heap.size ≤ q → A q := fun q h => by rw [← hAe]; exact Or.inr h
  have hS : va_S A s.heap s.heap [] := va_S.rf
  have hl := lv_entry ([.ref (q 0)]) (n := 2) (Nat.le_of_ble_eq_true rfl)
  rw [lg_entry_eq]
  generalize (lg_sl ([.ref (q 0)]) ++ List.replicate (2 - (lg_sl ([.ref (q 0)])).length) Slot.unset).toArray = ls at hl ⊢
  have hl : lv_has ls 2 [(0, .ref (q 0))] := hl
  refine lv_aload_n hx hb dR_take_0 rfl (lv_at hl 0 rfl) ?_
  refine qV_i (ci := 1) (q0 := 0) (As := []) (rest := []) ⟨hx, hb, hml, hown, ht⟩ (c_R_look l D z q 0 n len gc ft fg tx g hok a ha bk) (cB 0 ht gR_look rfl tw_65 tw_226 (by decide +kernel) ⟨by decide, by decide⟩) tw_228 tw_5 hK (hP) rfl rfl rfl hl.1 rfl (Nat.le_of_ble_eq_true rfl) dR_take_1 ⟨by decide, by decide⟩ (fun r1 h1 => ?_)
  subst h1
  refine lv_istore_n hx hb dR_take_4 rfl hl (by decide) rfl (fun ls hl => ?_)
  replace hl : lv_has ls 2 [(1, .int (nI (pr_look tx len a))), (0, .ref (q 0))] := hl
  refine lv_aload_n hx hb dR_take_5 rfl (lv_at hl 1 rfl) ?_
  refine lv_dup hx hb dR_take_6 rfl ?_
  refine va_get (ci := 1) (C := RR) (T := TR) (N := 7) hx hb ht inR hown hK hP 0 rfl rfl 5 (by decide) (ht _ tw_193) (fun _ h9 => h9) rfl dR_take_7 ?_
  refine lv_iconst (v := 1) hx hb dR_take_10 (by decide) ?_
  refine lv_iadd hx hb dR_take_11 ?_
  refine wti (x' := nI (a + 1)) (nI_1 a) ?_
  refine va_put (ci := 1) (ty := .int) (C := RR) (T := TR) (N := 7) hx hb ht inR tyR tyR_ok nmR hown hK hP hD hS 0 rfl rfl 5 (by decide) (ht _ tw_193) (fun _ h9 => h9) rfl (by decide +kernel) rfl rfl (Nat.le_of_ble_eq_true rfl) dR_take_12 (fun H locs hP hD hS => ?_)
  have hP : va_P D vC (rW z q n len gc ft fg (a + 1) bk) H := hP
  have hD : va_D A (rW z q n len gc ft fg (a + 1) bk) := hD
  refine lv_iload_n hx hb dR_take_15 rfl (lv_at hl 0 rfl) ?_
  exact W.zret (v := nI (pr_look tx len a)) hx hb hr (pk_charN (by omega)).1 (fun t ht hW => ⟨⟨_, (a + 1, bk), rfl, ⟨rfl, rfl⟩, by rw [ht]; exact hP, hD⟩, hS.F ht⟩) hS.2.2 dR_take_16
set_option maxHeartbeats 1000000 in
set_option maxRecDepth 100000 in
theorem c_R_expect (l : Launch) (D : va_G) (z : Nat → ClassId) (q : Nat → Nat) (sz n len gc : Nat) (ft : Nat → Int32) (fg : Nat → Int64) (tx : Nat → Nat) (g : Nat → pg_F) (hok : rOK tx len n gc g ft fg) (a : Nat) (ha : a < 1000) (bk : Bool) (cv : Nat) (hcv : cv < 128) : Met l yR_expect wR_expect (rmF 1) (va_Pc [.ref (q 0), .int (nI cv)] (fun U => U.heap.size = sz ∧ va_P D vC (rW z q n len gc ft fg a bk) U.heap ∧ va_K D vC (tyL z) U ∧ va_D (fun _ => True) (rW z q n len gc ft fg a bk))) (va_Qv (fun u : Nat × Bool => u = (a + 1, bk || !(decide (pr_look tx len a = cv)))) (fun u t => va_P D vC (rWu z q n len gc ft fg u) t.heap ∧ va_D (va_A (rW z q n len gc ft fg a bk) sz) (rWu z q n len gc ft fg u)) (va_A (rW z q n len gc ft fg a bk) sz)) 0 0 (va_A (rW z q n len gc ft fg a bk) sz) := by
  have hc := hok.lk a
  refine Met.ofW (cc := prog_7_method_10_code) (maxL := 2) (ret := none) (by decide) rfl ?_
  intro p e s m args below meth c s₁ B hml hv
  have hx := B.exec
  have hb := B.bytes
  have hr := B.returns
  have ht : ∀ w ∈ TB, w.before args s = true := fun w h => atoms_spec (ws := wR_expect) B.pre w (List.mem_cons_of_mem _ h)
  have hown : s.vm.findClass "PermutationDesk$Reader" = some m.cls := findClass_of_methodNamed B.named
  have hlocks := B.notSynchronized
  obtain ⟨rfl, hsz, hP, hK, hD0⟩ := hv
  subst hsz
  have hD := hD0.self (sz := s.heap.size)
  generalize hAe : va_A (rW z q n len gc ft fg a bk) s.heap.size = A at hD ⊢
  have hA : ∀ q : Nat, s.heap.size ≤ q → A q := fun q h => by rw [← hAe]; exact Or.inr h
  have hS : va_S A s.heap s.heap [] := va_S.rf
  have hl := lv_entry ([.ref (q 0), .int (nI cv)]) (n := 2) (Nat.le_of_ble_eq_true rfl)
  rw [lg_entry_eq]
  generalize (lg_sl ([.ref (q 0), .int (nI cv)]) ++ List.replicate (2 - (lg_sl ([.ref (q 0), .int (nI cv)])).length) Slot.unset).toArray = ls at hl ⊢
  have hl : lv_has ls 2 [(0, .ref (q 0)), (1, .int (nI cv))] := hl
  refine lv_aload_n hx hb dR_expect_0 rfl (lv_at hl 0 rfl) ?_
  refine qV_i (ci := 1) (q0 := 0) (As := []) (rest := []) ⟨hx, hb, hml, hown, ht⟩ (c_R_look l D z q 0 n len gc ft fg tx g hok a ha bk) (cB 0 ht gR_look rfl tw_65 tw_226 (by decide +kernel) ⟨by decide, by decide⟩) tw_228 tw_5 hK (hP) rfl rfl rfl hl.1 rfl (Nat.le_of_ble_eq_true rfl) dR_expect_1 ⟨by decide, by decide⟩ (fun r1 h1 => ?_)
  subst h1
  refine lv_iload_n hx hb dR_expect_4 rfl (lv_at hl 1 rfl) ?_
  refine lv_icmp_eq (tgt := 13) hx hb dR_expect_5 rfl (fun h => ?_) (fun h => ?_)
  · have h2 : pr_look tx len a = cv := (nI_eq (by omega) (by omega)).mp h
    refine lv_aload_n hx hb dR_expect_13 rfl (lv_at hl 0 rfl) ?_
    refine lv_dup hx hb dR_expect_14 rfl ?_
    refine va_get (ci := 1) (C := RR) (T := TR) (N := 7) hx hb ht inR hown hK hP 0 rfl rfl 5 (by decide) (ht _ tw_193) (fun _ h9 => h9) rfl dR_expect_15 ?_
    refine lv_iconst (v := 1) hx hb dR_expect_18 (by decide) ?_
    refine lv_iadd hx hb dR_expect_19 ?_
    refine wti (x' := nI (a + 1)) (nI_1 a) ?_
    refine va_put (ci := 1) (ty := .int) (C := RR) (T := TR) (N := 7) hx hb ht inR tyR tyR_ok nmR hown hK hP hD hS 0 rfl rfl 5 (by decide) (ht _ tw_193) (fun _ h9 => h9) rfl (by decide +kernel) rfl rfl (Nat.le_of_ble_eq_true rfl) dR_expect_20 (fun H locs hP hD hS => ?_)
    have hP : va_P D vC (rW z q n len gc ft fg (a + 1) bk) H := hP
    have hD : va_D A (rW z q n len gc ft fg (a + 1) bk) := hD
    exact W.vret hx hb hr (fun t ht hW => ⟨⟨(a + 1, bk), rfl, by rw [decide_eq_true h2]; simp, by rw [ht]; exact hP, hD⟩, hS.F ht⟩) hS.2.2 dR_expect_23
  have h2 : pr_look tx len a ≠ cv := fun e9 => h (by rw [e9])
  refine lv_aload_n hx hb dR_expect_8 rfl (lv_at hl 0 rfl) ?_
  refine lv_iconst (v := 1) hx hb dR_expect_9 (by decide) ?_
  refine va_put (ci := 1) (ty := .boolean) (C := RR) (T := TR) (N := 7) hx hb ht inR tyR tyR_ok nmR hown hK hP hD hS 0 rfl rfl 6 (by decide) (ht _ tw_194) (fun _ h9 => h9) rfl (by decide +kernel) rfl rfl (Nat.le_of_ble_eq_true rfl) dR_expect_10 (fun H locs hP hD hS => ?_)
  have hP : va_P D vC (rW z q n len gc ft fg a true) H := hP
  have hD : va_D A (rW z q n len gc ft fg a true) := hD
  refine lv_aload_n hx hb dR_expect_13 rfl (lv_at hl 0 rfl) ?_
  refine lv_dup hx hb dR_expect_14 rfl ?_
  refine va_get (ci := 1) (C := RR) (T := TR) (N := 7) hx hb ht inR hown hK hP 0 rfl rfl 5 (by decide) (ht _ tw_193) (fun _ h9 => h9) rfl dR_expect_15 ?_
  refine lv_iconst (v := 1) hx hb dR_expect_18 (by decide) ?_
  refine lv_iadd hx hb dR_expect_19 ?_
  refine wti (x' := nI (a + 1)) (nI_1 a) ?_
  refine va_put (ci := 1) (ty := .int) (C := RR) (T := TR) (N := 7) hx hb ht inR tyR tyR_ok nmR hown hK hP hD hS 0 rfl rfl 5 (by decide) (ht _ tw_193) (fun _ h9 => h9) rfl (by decide +kernel) rfl rfl (Nat.le_of_ble_eq_true rfl) dR_expect_20 (fun H locs hP hD hS => ?_)
  have hP : va_P D vC (rW z q n len gc ft fg (a + 1) true) H := hP
  have hD : va_D A (rW z q n len gc ft fg (a + 1) true) := hD
  exact W.vret hx hb hr (fun t ht hW => ⟨⟨(a + 1, true), rfl, by rw [decide_eq_false h2]; simp, by rw [ht]; exact hP, hD⟩, hS.F ht⟩) hS.2.2 dR_expect_23
set_option maxHeartbeats 1000000 in
set_option maxRecDepth 100000 in
theorem c_R_exponent (l : Launch) (D : va_G) (z : Nat → ClassId) (q : Nat → Nat) (sz n len gc : Nat) (ft : Nat → Int32) (fg : Nat → Int64) (tx : Nat → Nat) (g : Nat → pg_F) (hok : rOK tx len n gc g ft fg) (a : Nat) (ha : a < 1000) (bk : Bool) : Met l yR_exponent wR_exponent (rmF 2) (va_Pc [.ref (q 0)] (fun U => U.heap.size = sz ∧ va_P D vC (rW z q n len gc ft fg a bk) U.heap ∧ va_K D vC (tyL z) U ∧ va_D (fun _ => True) (rW z q n len gc ft fg a bk))) (va_Qi (fun r (u : Nat × Bool) => if 48 ≤ pr_look tx len a ∧ pr_look tx len a ≤ 57 then r = nI (pr_look tx len a - 48) ∧ u = (a + 1, bk) else r = nI 0 ∧ u = (a + 1, true)) (fun u t => va_P D vC (rWu z q n len gc ft fg u) t.heap ∧ va_D (va_A (rW z q n len gc ft fg a bk) sz) (rWu z q n len gc ft fg u)) (va_A (rW z q n len gc ft fg a bk) sz)) 0 0 (va_A (rW z q n len gc ft fg a bk) sz) := by
  have hc := hok.lk a
  refine Met.ofW (cc := prog_7_method_6_code) (maxL := 2) (ret := (some .int)) (by decide) rfl ?_
  intro p e s m args below meth c s₁ B hml hv
  have hx := B.exec
  have hb := B.bytes
  have hr := B.returns
  have ht : ∀ w ∈ TB, w.before args s = true := fun w h => atoms_spec (ws := wR_exponent) B.pre w (List.mem_cons_of_mem _ h)
  have hown : s.vm.findClass "PermutationDesk$Reader" = some m.cls := findClass_of_methodNamed B.named
  have hlocks := B.notSynchronized
  obtain ⟨rfl, hsz, hP, hK, hD0⟩ := hv
  subst hsz
  have hD := hD0.self (sz := s.heap.size)
  generalize hAe : va_A (rW z q n len gc ft fg a bk) s.heap.size = A at hD ⊢
  have hA : ∀ q : Nat, s.heap.size ≤ q → A q := fun q h => by rw [← hAe]; exact Or.inr h
  have hS : va_S A s.heap s.heap [] := va_S.rf
  have hl := lv_entry ([.ref (q 0)]) (n := 2) (Nat.le_of_ble_eq_true rfl)
  rw [lg_entry_eq]
  generalize (lg_sl ([.ref (q 0)]) ++ List.replicate (2 - (lg_sl ([.ref (q 0)])).length) Slot.unset).toArray = ls at hl ⊢
  have hl : lv_has ls 2 [(0, .ref (q 0))] := hl
  refine lv_aload_n hx hb dR_exponent_0 rfl (lv_at hl 0 rfl) ?_
  refine qW_i (ci := 1) (q0 := 0) (wr := []) (As := []) (rest := []) ⟨hx, hb, hml, hown, ht⟩ (c_R_take l D z q s.heap.size n len gc ft fg tx g hok a ha bk) (cB 0 ht gR_take rfl tw_65 tw_222 (by decide +kernel) ⟨by decide, by decide⟩) tw_224 tw_4 hK hP hD hS hA [0, 1, 2] [] rfl rfl rfl rfl (by decide) rfl rfl rfl rfl hl.1 rfl (Nat.le_of_ble_eq_true rfl) dR_exponent_1 ⟨by decide, by decide⟩ (fun r1 u1 H locs h1 hP hD hS => ?_)
  obtain ⟨rfl, rfl⟩ := h1
  have hP : va_P D vC (rW z q n len gc ft fg (a + 1) bk) H := hP
  have hD : va_D A (rW z q n len gc ft fg (a + 1) bk) := hD
  refine lv_istore_n hx hb dR_exponent_4 rfl hl (by decide) rfl (fun ls hl => ?_)
  replace hl : lv_has ls 2 [(1, .int (nI (pr_look tx len a))), (0, .ref (q 0))] := hl
  refine lv_iload_n hx hb dR_exponent_5 rfl (lv_at hl 0 rfl) ?_
  refine lv_bipush (v := 48) hx hb dR_exponent_6 (by decide) ?_
  refine lv_icmp_lt (tgt := 17) hx hb dR_exponent_8 rfl (fun h => ?_) (fun h => ?_)
  · have h2 : pr_look tx len a < 48 := (nI_ltI (a := pr_look tx len a) (b := 48) (by omega) (by omega)).mp h
    refine lv_aload_n hx hb dR_exponent_17 rfl (lv_at hl 1 rfl) ?_
    refine lv_iconst (v := 1) hx hb dR_exponent_18 (by decide) ?_
    refine va_put (ci := 1) (ty := .boolean) (C := RR) (T := TR) (N := 7) hx hb ht inR tyR tyR_ok nmR hown hK hP hD hS 0 rfl rfl 6 (by decide) (ht _ tw_194) (fun _ h9 => h9) rfl (by decide +kernel) rfl rfl (Nat.le_of_ble_eq_true rfl) dR_exponent_19 (fun H locs hP hD hS => ?_)
    have hP : va_P D vC (rW z q n len gc ft fg (a + 1) true) H := hP
    have hD : va_D A (rW z q n len gc ft fg (a + 1) true) := hD
    refine lv_iconst (v := 0) hx hb dR_exponent_22 (by decide) ?_
    exact W.iret hx hb hr (fun t ht hW => ⟨⟨_, (a + 1, true), rfl, by dsimp only; rw [if_neg (by omega)]; exact ⟨rfl, rfl⟩, by rw [ht]; exact hP, hD⟩, hS.F ht⟩) hS.2.2 dR_exponent_23
  have h2 : 48 ≤ pr_look tx len a := by
    have h9 : ¬ pr_look tx len a < 48 := fun e9 => h ((nI_ltI (a := pr_look tx len a) (b := 48) (by omega) (by omega)).mpr e9)
    omega
  refine lv_iload_n hx hb dR_exponent_11 rfl (lv_at hl 0 rfl) ?_
  refine lv_bipush (v := 57) hx hb dR_exponent_12 (by decide) ?_
  refine lv_icmp_le (tgt := 24) hx hb dR_exponent_14 rfl (fun h3 => ?_) (fun h3 => ?_)
  · have h4 : pr_look tx len a ≤ 57 := (nI_leI (a := pr_look tx len a) (b := 57) (by omega) (by omega)).mp h3
    refine lv_iload_n hx hb dR_exponent_24 rfl (lv_at hl 0 rfl) ?_
    refine lv_bipush (v := 48) hx hb dR_exponent_25 (by decide) ?_
    refine lv_isub hx hb dR_exponent_27 ?_
    refine wti (x' := nI (pr_look tx len a - 48)) (pk_sub (b := 48) h2) ?_
    exact W.iret hx hb hr (fun t ht hW => ⟨⟨_, (a + 1, bk), rfl, by dsimp only; rw [if_pos ⟨h2, h4⟩]; exact ⟨rfl, rfl⟩, by rw [ht]; exact hP, hD⟩, hS.F ht⟩) hS.2.2 dR_exponent_28
  have h4 : ¬ pr_look tx len a ≤ 57 := fun e9 => h3 ((nI_leI (a := pr_look tx len a) (b := 57) (by omega) (by omega)).mpr e9)
  refine lv_aload_n hx hb dR_exponent_17 rfl (lv_at hl 1 rfl) ?_
  refine lv_iconst (v := 1) hx hb dR_exponent_18 (by decide) ?_
  refine va_put (ci := 1) (ty := .boolean) (C := RR) (T := TR) (N := 7) hx hb ht inR tyR tyR_ok nmR hown hK hP hD hS 0 rfl rfl 6 (by decide) (ht _ tw_194) (fun _ h9 => h9) rfl (by decide +kernel) rfl rfl (Nat.le_of_ble_eq_true rfl) dR_exponent_19 (fun H locs hP hD hS => ?_)
  have hP : va_P D vC (rW z q n len gc ft fg (a + 1) true) H := hP
  have hD : va_D A (rW z q n len gc ft fg (a + 1) true) := hD
  refine lv_iconst (v := 0) hx hb dR_exponent_22 (by decide) ?_
  exact W.iret hx hb hr (fun t ht hW => ⟨⟨_, (a + 1, true), rfl, by dsimp only; rw [if_neg (by omega)]; exact ⟨rfl, rfl⟩, by rw [ht]; exact hP, hD⟩, hS.F ht⟩) hS.2.2 dR_exponent_23
