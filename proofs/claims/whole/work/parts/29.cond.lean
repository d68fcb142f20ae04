/-! KeepsSet, CommutesWith: the conditions. -/
def bI (b : Bool) : Int32 := if b then 1 else 0
theorem bI_n (b : Bool) : narrow .boolean (.int (bI b)) = .int (bI b) := by cases b <;> rfl
theorem bI_0 {b : Bool} : bI b = 0 ↔ b = false := by cases b <;> decide
theorem bI_1 {b : Bool} : bI b = 1 ↔ b = true := by cases b <;> decide
abbrev kW (q0 m9 : Nat) (wh : Bool) : va_W := [(q0, .inr (3, [.int (nI m9), .int (bI wh)]))]
abbrev cmW (q0 n : Nat) (y : pg_F) : va_W := [(q0, .inr (4, [.long (eL n y)]))]
set_option maxHeartbeats 1000000 in
set_option maxRecDepth 100000 in
theorem c_K_isInSet (l : Launch) (D : va_G) (z : Nat → ClassId) (q0 m9 k : Nat) (wh : Bool) (hm : m9 < 2 ^ 31) (hk : k < 32) : Met l yK_isInSet wK_isInSet (rmF 0) (va_Pc [.ref q0, .int (nI k)] (fun U => va_P D vC (kW q0 m9 wh) U.heap ∧ va_K D vC (tyL z) U)) (vp_Si (fun r => r = bI (m9.testBit k))) 0 0 (fun _ => False) := by
  refine Met.ofW (cc := prog_6_method_4_code) (maxL := 2) (ret := (some .boolean)) (by decide) rfl ?_
  intro p e s m args below meth c s₁ B hml hv
  have hx := B.exec
  have hb := B.bytes
  have hr := B.returns
  have ht : ∀ w ∈ TB, w.before args s = true := fun w h => atoms_spec (ws := wK_isInSet) B.pre w (List.mem_cons_of_mem _ h)
  have hown : s.vm.findClass "PermutationDesk$KeepsSet" = some m.cls := findClass_of_methodNamed B.named
  have hlocks := B.notSynchronized
  obtain ⟨rfl, hP, hK⟩ := hv
  have hl := lv_entry ([.ref q0, .int (nI k)]) (n := 2) (Nat.le_of_ble_eq_true rfl)
  rw [lg_entry_eq]
  generalize (lg_sl ([.ref q0, .int (nI k)]) ++ List.replicate (2 - (lg_sl ([.ref q0, .int (nI k)])).length) Slot.unset).toArray = ls at hl ⊢
  have hl : lv_has ls 2 [(0, .ref q0), (1, .int (nI k))] := hl
  refine lv_aload_n hx hb dK_isInSet_0 rfl (lv_at hl 0 rfl) ?_
  refine va_get (ci := 3) (C := RK) (T := TK) (N := 2) hx hb ht inK hown hK hP 0 rfl rfl 0 (by decide) (ht _ tw_505) (fun _ h9 => h9) rfl dK_isInSet_1 ?_
  refine lv_iload_n hx hb dK_isInSet_4 rfl (lv_at hl 1 rfl) ?_
  refine lv_iushr hx hb dK_isInSet_5 rfl ?_
  refine lv_iconst (v := 1) hx hb dK_isInSet_6 (by decide) ?_
  refine lv_iand hx hb dK_isInSet_7 ?_
  refine wti (x' := nI (m9 / 2 ^ k % 2)) (pe_bit hm hk) ?_
  refine lv_iconst (v := 1) hx hb dK_isInSet_8 (by decide) ?_
  refine lv_icmp_ne (tgt := 16) hx hb dK_isInSet_9 rfl (fun h => ?_) (fun h => ?_)
  · have h2 : m9.testBit k = false := by
      cases e : m9.testBit k with
      | false => rfl
      | true => exact absurd (pe_bit1.mpr e) h
    refine lv_iconst (v := 0) hx hb dK_isInSet_16 (by decide) ?_
    exact W.zret (v := bI false) hx hb hr (bI_n _) (fun t h _ => ⟨_, rfl, by rw [h2], h⟩) (fun q h => by cases h) dK_isInSet_17
  · have h2 : m9.testBit k = true := pe_bit1.mp h
    refine lv_iconst (v := 1) hx hb dK_isInSet_12 (by decide) ?_
    refine lv_goto (tgt := 17) hx hb dK_isInSet_13 rfl ?_
    exact W.zret (v := bI true) hx hb hr (bI_n _) (fun t h _ => ⟨_, rfl, by rw [h2], h⟩) (fun q h => by cases h) dK_isInSet_17
/-- may a point go there -/
def kMay (m9 : Nat) (wh : Bool) (k v : Nat) : Bool := if wh then m9.testBit v else decide (v = k)
set_option maxHeartbeats 1000000 in
set_option maxRecDepth 100000 in
theorem c_K_mayGo (l : Launch) (D : va_G) (z : Nat → ClassId) (q0 m9 k v : Nat) (wh : Bool) (hm : m9 < 2 ^ 31) (hk : k < 32) (hv9 : v < 32) : Met l yK_mayGo wK_mayGo (rmF 1) (va_Pc [.ref q0, .int (nI k), .int (nI v)] (fun U => va_P D vC (kW q0 m9 wh) U.heap ∧ va_K D vC (tyL z) U)) (vp_Si (fun r => r = bI (kMay m9 wh k v))) 0 0 (fun _ => False) := by
  refine Met.ofW (cc := prog_6_method_3_code) (maxL := 3) (ret := (some .boolean)) (by decide) rfl ?_
  intro p e s m args below meth c s₁ B hml hv
  have hx := B.exec
  have hb := B.bytes
  have hr := B.returns
  have ht : ∀ w ∈ TB, w.before args s = true := fun w h => atoms_spec (ws := wK_mayGo) B.pre w (List.mem_cons_of_mem _ h)
  have hown : s.vm.findClass "PermutationDesk$KeepsSet" = some m.cls := findClass_of_methodNamed B.named
  have hlocks := B.notSynchronized
  obtain ⟨rfl, hP, hK⟩ := hv
  have hl := lv_entry ([.ref q0, .int (nI k), .int (nI v)]) (n := 3) (Nat.le_of_ble_eq_true rfl)
  rw [lg_entry_eq]
  generalize (lg_sl ([.ref q0, .int (nI k), .int (nI v)]) ++ List.replicate (3 - (lg_sl ([.ref q0, .int (nI k), .int (nI v)])).length) Slot.unset).toArray = ls at hl ⊢
  have hl : lv_has ls 3 [(0, .ref q0), (1, .int (nI k)), (2, .int (nI v))] := hl
  refine lv_aload_n hx hb dK_mayGo_0 rfl (lv_at hl 0 rfl) ?_
  refine va_get (ci := 3) (C := RK) (T := TK) (N := 2) hx hb ht inK hown hK hP 0 rfl rfl 1 (by decide) (ht _ tw_506) (fun _ h9 => h9) rfl dK_mayGo_1 ?_
  refine lv_if_eq (tgt := 15) hx hb dK_mayGo_4 rfl (fun h => ?_) (fun h => ?_)
  · have hw := bI_0.mp h
    subst hw
    refine lv_iload_n hx hb dK_mayGo_15 rfl (lv_at hl 2 rfl) ?_
    refine lv_iload_n hx hb dK_mayGo_16 rfl (lv_at hl 1 rfl) ?_
    refine lv_icmp_ne (tgt := 24) hx hb dK_mayGo_17 rfl (fun h2 => ?_) (fun h2 => ?_)
    · have h3 : v ≠ k := fun e => h2 (by rw [e])
      refine lv_iconst (v := 0) hx hb dK_mayGo_24 (by decide) ?_
      exact W.zret (v := bI false) hx hb hr (bI_n _) (fun t h _ => ⟨_, rfl, congrArg bI (show false = decide (v = k) from (decide_eq_false h3).symm), h⟩) (fun q h => by cases h) dK_mayGo_25
    · have h3 : v = k := (nI_eq (by omega) (by omega)).mp h2
      refine lv_iconst (v := 1) hx hb dK_mayGo_20 (by decide) ?_
      refine lv_goto (tgt := 25) hx hb dK_mayGo_21 rfl ?_
      exact W.zret (v := bI true) hx hb hr (bI_n _) (fun t h _ => ⟨_, rfl, congrArg bI (show true = decide (v = k) from (decide_eq_true h3).symm), h⟩) (fun q h => by cases h) dK_mayGo_25
  · have hw : wh = true := by
      cases wh with
      | true => rfl
      | false => exact absurd rfl h
    subst hw
    refine lv_aload_n hx hb dK_mayGo_7 rfl (lv_at hl 0 rfl) ?_
    refine lv_iload_n hx hb dK_mayGo_8 rfl (lv_at hl 2 rfl) ?_
    refine qV_i (ci := 3) (q0 := 0) (As := [.int (nI v)]) (rest := []) ⟨hx, hb, hml, hown, ht⟩ (c_K_isInSet l D z q0 m9 v true hm hv9) (cB 1 ht gK_isInSet rfl tw_72 tw_537 (by decide +kernel) ⟨by decide, by decide⟩) tw_539 tw_25 hK (hP) rfl rfl rfl hl.1 rfl (Nat.le_of_ble_eq_true rfl) dK_mayGo_9 ⟨by decide, by decide⟩ (fun r9 h9 => ?_)
    subst h9
    refine lv_goto (tgt := 25) hx hb dK_mayGo_12 rfl ?_
    exact W.zret hx hb hr (bI_n _) (fun t h _ => ⟨_, rfl, rfl, h⟩) (fun q h => by cases h) dK_mayGo_25
/-- the first k images keep the set -/
def kAll (m9 : Nat) (wh : Bool) (x : pg_F) (k : Nat) : Bool := (List.range k).all (fun p => !(m9.testBit p) || kMay m9 wh p (x p))
theorem kAll_s (m9 : Nat) (wh : Bool) (x : pg_F) (k : Nat) : kAll m9 wh x (k + 1) = (kAll m9 wh x k && (!(m9.testBit k) || kMay m9 wh k (x k))) := by
  unfold kAll
  rw [List.range_succ, List.all_append]
  simp
theorem kAll_le {m9 : Nat} {wh : Bool} {x : pg_F} {k j : Nat} (hkj : k ≤ j) (h : kAll m9 wh x k = false) : kAll m9 wh x j = false := by
  induction j with
  | zero => rw [show k = 0 by omega] at h; exact h
  | succ j ih =>
    by_cases q : k = j + 1
    · rw [← q]; exact h
    · rw [kAll_s, ih (by omega), Bool.false_and]
set_option maxHeartbeats 1000000 in
set_option maxRecDepth 100000 in
theorem c_K_allows (l : Launch) (D : va_G) (z : Nat → ClassId) (q0 m9 n k : Nat) (wh : Bool) (x : pg_F) (hm : m9 < 2 ^ 31) (hn : n ≤ 14) (hk : k ≤ n) (hxP : pg_P n x) : Met l yK_allows wK_allows (rmF 2) (va_Pc [.ref q0, .long (eL n x), .int (nI k)] (fun U => va_P D vC (kW q0 m9 wh) U.heap ∧ va_K D vC (tyL z) U)) (vp_Si (fun r => r = bI (kAll m9 wh x k))) 0 0 (fun _ => False) := by
  have hx9 := hxP.d4 (by omega : n ≤ 16)
  refine Met.ofW (cc := prog_6_method_2_code) (maxL := 5) (ret := (some .boolean)) (by decide) rfl ?_
  intro p e s m args below meth c s₁ B hml hv
  have hx := B.exec
  have hb := B.bytes
  have hr := B.returns
  have ht : ∀ w ∈ TB, w.before args s = true := fun w h => atoms_spec (ws := wK_allows) B.pre w (List.mem_cons_of_mem _ h)
  have hown : s.vm.findClass "PermutationDesk$KeepsSet" = some m.cls := findClass_of_methodNamed B.named
  have hlocks := B.notSynchronized
  obtain ⟨rfl, hP, hK⟩ := hv
  have hl := lv_entry ([.ref q0, .long (eL n x), .int (nI k)]) (n := 5) (Nat.le_of_ble_eq_true rfl)
  rw [lg_entry_eq]
  generalize (lg_sl ([.ref q0, .long (eL n x), .int (nI k)]) ++ List.replicate (5 - (lg_sl ([.ref q0, .long (eL n x), .int (nI k)])).length) Slot.unset).toArray = ls at hl ⊢
  have hl : lv_has ls 5 [(0, .ref q0), (1, .long (eL n x)), (3, .int (nI k))] := hl
  refine lv_iconst (v := 0) hx hb dK_allows_0 (by decide) ?_
  refine lv_istore hx hb dK_allows_1 hl (by decide) rfl (fun ls hl => ?_)
  replace hl : lv_has ls 5 [(4, .int (nI 0)), (0, .ref q0), (1, .long (eL n x)), (3, .int (nI k))] := hl
  refine wl0 (σ := Nat) (I := fun d i ls => d + i = k ∧ kAll m9 wh x i = true ∧ lv_has ls 5 [(4, .int (nI i)), (0, .ref q0), (1, .long (eL n x)), (3, .int (nI k))]) ?_ k 0 ls ⟨rfl, rfl, hl⟩
  rintro d i ls ⟨hdi, hall, hl⟩ ih
  refine lv_iload hx hb dK_allows_3 (lv_at hl 0 rfl) ?_
  refine lv_iload_n hx hb dK_allows_5 rfl (lv_at hl 3 rfl) ?_
  refine lv_icmp_ge (tgt := 41) hx hb dK_allows_6 rfl (fun h => ?_) (fun h => ?_)
  · have hi : i = k := by have := (nI_leI (by omega) (by omega)).mp h; omega
    subst hi
    refine lv_iconst (v := 1) hx hb dK_allows_41 (by decide) ?_
    exact W.zret (v := bI true) hx hb hr (bI_n _) (fun t h _ => ⟨_, rfl, by rw [hall], h⟩) (fun q h => by cases h) dK_allows_42
  have hi : i < k := by
    rw [nI_leI (by omega) (by omega)] at h
    omega
  have hxi := hxP.1 i (by omega)
  refine lv_aload_n hx hb dK_allows_9 rfl (lv_at hl 1 rfl) ?_
  refine lv_iload hx hb dK_allows_10 (lv_at hl 0 rfl) ?_
  refine qV_i (ci := 3) (q0 := 0) (As := [.int (nI i)]) (rest := []) ⟨hx, hb, hml, hown, ht⟩ (c_K_isInSet l D z q0 m9 i wh hm (by omega)) (cB 1 ht gK_isInSet rfl tw_72 tw_537 (by decide +kernel) ⟨by decide, by decide⟩) tw_539 tw_25 hK (hP) rfl rfl rfl hl.1 rfl (Nat.le_of_ble_eq_true rfl) dK_allows_12 ⟨by decide, by decide⟩ (fun r12 h12 => ?_)
  subst h12
  refine lv_if_eq (tgt := 35) hx hb dK_allows_15 rfl (fun h2 => ?_) (fun h2 => ?_)
  · have h3 := bI_0.mp h2
    refine lv_iinc (k := 0) (v := (nI (i + 1))) hx hb dK_allows_35 hl rfl (by exact nI_1 _) (by decide) rfl (fun ls hl => ?_)
    replace hl : lv_has ls 5 [(4, .int (nI (i + 1))), (0, .ref q0), (1, .long (eL n x)), (3, .int (nI k))] := hl
    refine lv_goto (tgt := 3) hx hb dK_allows_38 rfl ?_
    refine ih (d - 1) (i + 1) ls (by omega) ⟨by omega, by rw [kAll_s, hall, h3]; rfl, lv_sub hl [0, 1, 2, 3] rfl⟩
  have h3 : m9.testBit i = true := by
    cases e : m9.testBit i with
    | true => rfl
    | false => exact absurd (bI_0.mpr e) h2
  refine lv_aload_n hx hb dK_allows_18 rfl (lv_at hl 1 rfl) ?_
  refine lv_iload hx hb dK_allows_19 (lv_at hl 0 rfl) ?_
  refine lv_lload_n hx hb dK_allows_21 rfl (lv_at hl 2 rfl) ?_
  refine lv_iload hx hb dK_allows_22 (lv_at hl 0 rfl) ?_
  refine qS_i (As := [.long (eL n x), .int (nI i)]) (rest := [.int (nI i), .ref q0]) ⟨hx, hb, hml, hown, ht⟩ (c_E_at l n i x hn hx9 (by omega)) (cB 2 ht gE_at rfl tw_62 tw_541 (by decide +kernel) ⟨by decide, by decide⟩) tw_254 rfl hl.1 rfl (Nat.le_of_ble_eq_true rfl) dK_allows_24 ⟨by decide, by decide⟩ (fun r24 h24 => ?_)
  subst h24
  refine qV_i (ci := 3) (q0 := 0) (As := [.int (nI i), .int (nI (x i))]) (rest := []) ⟨hx, hb, hml, hown, ht⟩ (c_K_mayGo l D z q0 m9 i (x i) wh hm (by omega) (by omega)) (cB 2 ht gK_mayGo rfl tw_72 tw_542 (by decide +kernel) ⟨by decide, by decide⟩) tw_544 tw_26 hK (hP) rfl rfl rfl hl.1 rfl (Nat.le_of_ble_eq_true rfl) dK_allows_27 ⟨by decide, by decide⟩ (fun r27 h27 => ?_)
  subst h27
  refine lv_if_ne (tgt := 35) hx hb dK_allows_30 rfl (fun h4 => ?_) (fun h4 => ?_)
  · have h5 : kMay m9 wh i (x i) = true := by
      cases e : kMay m9 wh i (x i) with
      | true => rfl
      | false => exact absurd (bI_0.mpr e) h4
    refine lv_iinc (k := 0) (v := (nI (i + 1))) hx hb dK_allows_35 hl rfl (by exact nI_1 _) (by decide) rfl (fun ls hl => ?_)
    replace hl : lv_has ls 5 [(4, .int (nI (i + 1))), (0, .ref q0), (1, .long (eL n x)), (3, .int (nI k))] := hl
    refine lv_goto (tgt := 3) hx hb dK_allows_38 rfl ?_
    refine ih (d - 1) (i + 1) ls (by omega) ⟨by omega, by rw [kAll_s, hall, h5, Bool.or_true]; rfl, lv_sub hl [0, 1, 2, 3] rfl⟩
  have h5 := bI_0.mp h4
  refine lv_iconst (v := 0) hx hb dK_allows_33 (by decide) ?_
  exact W.zret (v := bI false) hx hb hr (bI_n _) (fun t h _ => ⟨_, rfl, by
    rw [kAll_le (k := i + 1) (by omega) (by rw [kAll_s, h3, h5]; simp)], h⟩) (fun q h => by cases h) dK_allows_34
/-- the first k images commute as far as they tell -/
def cAll (y x : pg_F) (k j : Nat) : Bool := (List.range j).all (fun p => !(decide (y p < k)) || decide (x (y p) = y (x p)))
theorem cAll_s (y x : pg_F) (k j : Nat) : cAll y x k (j + 1) = (cAll y x k j && (!(decide (y j < k)) || decide (x (y j) = y (x j)))) := by
  unfold cAll
  rw [List.range_succ, List.all_append]
  simp
theorem cAll_le {y x : pg_F} {k i j : Nat} (hij : i ≤ j) (h : cAll y x k i = false) : cAll y x k j = false := by
  induction j with
  | zero => rw [show i = 0 by omega] at h; exact h
  | succ j ih =>
    by_cases q : i = j + 1
    · rw [← q]; exact h
    · rw [cAll_s, ih (by omega), Bool.false_and]
set_option maxHeartbeats 1000000 in
set_option maxRecDepth 100000 in
theorem c_C_allows (l : Launch) (D : va_G) (z : Nat → ClassId) (q0 n k : Nat) (y x : pg_F) (hn : n ≤ 14) (hk : k ≤ n) (hyP : pg_P n y) (hxP : pg_P n x) : Met l yC_allows wC_allows (rmF 1) (va_Pc [.ref q0, .long (eL n x), .int (nI k)] (fun U => va_P D vC (cmW q0 n y) U.heap ∧ va_K D vC (tyL z) U)) (vp_Si (fun r => r = bI (cAll y x k k))) 0 0 (fun _ => False) := by
  have hx9 := hxP.d4 (by omega : n ≤ 16)
  have hy9 := hyP.d4 (by omega : n ≤ 16)
  refine Met.ofW (cc := prog_2_method_2_code) (maxL := 6) (ret := (some .boolean)) (by decide) rfl ?_
  intro p e s m args below meth c s₁ B hml hv
  have hx := B.exec
  have hb := B.bytes
  have hr := B.returns
  have ht : ∀ w ∈ TB, w.before args s = true := fun w h => atoms_spec (ws := wC_allows) B.pre w (List.mem_cons_of_mem _ h)
  have hown : s.vm.findClass "PermutationDesk$CommutesWith" = some m.cls := findClass_of_methodNamed B.named
  have hlocks := B.notSynchronized
  obtain ⟨rfl, hP, hK⟩ := hv
  have hl := lv_entry ([.ref q0, .long (eL n x), .int (nI k)]) (n := 6) (Nat.le_of_ble_eq_true rfl)
  rw [lg_entry_eq]
  generalize (lg_sl ([.ref q0, .long (eL n x), .int (nI k)]) ++ List.replicate (6 - (lg_sl ([.ref q0, .long (eL n x), .int (nI k)])).length) Slot.unset).toArray = ls at hl ⊢
  have hl : lv_has ls 6 [(0, .ref q0), (1, .long (eL n x)), (3, .int (nI k))] := hl
  refine lv_iconst (v := 0) hx hb dC_allows_0 (by decide) ?_
  refine lv_istore hx hb dC_allows_1 hl (by decide) rfl (fun ls hl => ?_)
  replace hl : lv_has ls 6 [(4, .int (nI 0)), (0, .ref q0), (1, .long (eL n x)), (3, .int (nI k))] := hl
  refine wl0 (σ := Nat) (I := fun d i ls => d + i = k ∧ cAll y x k i = true ∧ lv_has ls 6 [(4, .int (nI i)), (0, .ref q0), (1, .long (eL n x)), (3, .int (nI k))]) ?_ k 0 ls ⟨rfl, rfl, hl⟩
  rintro d i ls ⟨hdi, hall, hl⟩ ih
  refine lv_iload hx hb dC_allows_3 (lv_at hl 0 rfl) ?_
  refine lv_iload_n hx hb dC_allows_5 rfl (lv_at hl 3 rfl) ?_
  refine lv_icmp_ge (tgt := 56) hx hb dC_allows_6 rfl (fun h => ?_) (fun h => ?_)
  · have hi : i = k := by have := (nI_leI (by omega) (by omega)).mp h; omega
    subst hi
    refine lv_iconst (v := 1) hx hb dC_allows_56 (by decide) ?_
    exact W.zret (v := bI true) hx hb hr (bI_n _) (fun t h _ => ⟨_, rfl, by rw [hall], h⟩) (fun q h => by cases h) dC_allows_57
  have hi : i < k := by
    rw [nI_leI (by omega) (by omega)] at h
    omega
  have hyi := hyP.1 i (by omega)
  have hxi := hxP.1 i (by omega)
  refine lv_aload_n hx hb dC_allows_9 rfl (lv_at hl 1 rfl) ?_
  refine va_get (ci := 4) (C := RC) (T := TC) (N := 1) hx hb ht inC hown hK hP 0 rfl rfl 0 (by decide) (ht _ tw_559) (fun _ h9 => h9) rfl dC_allows_10 ?_
  refine lv_iload hx hb dC_allows_13 (lv_at hl 0 rfl) ?_
  refine qS_i (As := [.long (eL n y), .int (nI i)]) (rest := []) ⟨hx, hb, hml, hown, ht⟩ (c_E_at l n i y hn hy9 (by omega)) (cB 2 ht gE_at rfl tw_62 tw_530 (by decide +kernel) ⟨by decide, by decide⟩) tw_254 rfl hl.1 rfl (Nat.le_of_ble_eq_true rfl) dC_allows_15 ⟨by decide, by decide⟩ (fun r15 h15 => ?_)
  subst h15
  refine lv_istore hx hb dC_allows_18 hl (by decide) rfl (fun ls hl => ?_)
  replace hl : lv_has ls 6 [(5, .int (nI (y i))), (4, .int (nI i)), (0, .ref q0), (1, .long (eL n x)), (3, .int (nI k))] := hl
  refine lv_iload hx hb dC_allows_20 (lv_at hl 0 rfl) ?_
  refine lv_iload_n hx hb dC_allows_22 rfl (lv_at hl 4 rfl) ?_
  refine lv_icmp_ge (tgt := 50) hx hb dC_allows_23 rfl (fun h2 => ?_) (fun h2 => ?_)
  · have h3 := (nI_leI (by omega) (by omega)).mp h2
    refine lv_iinc (k := 1) (v := (nI (i + 1))) hx hb dC_allows_50 hl rfl (by exact nI_1 _) (by decide) rfl (fun ls hl => ?_)
    replace hl : lv_has ls 6 [(4, .int (nI (i + 1))), (5, .int (nI (y i))), (0, .ref q0), (1, .long (eL n x)), (3, .int (nI k))] := hl
    refine lv_goto (tgt := 3) hx hb dC_allows_53 rfl ?_
    refine ih (d - 1) (i + 1) ls (by omega) ⟨by omega, by rw [cAll_s, hall, decide_eq_false (show ¬ y i < k by omega)]; rfl, lv_sub hl [0, 2, 3, 4] rfl⟩
  have h3 : y i < k := by
    rw [nI_leI (by omega) (by omega)] at h2
    omega
  refine lv_lload_n hx hb dC_allows_26 rfl (lv_at hl 3 rfl) ?_
  refine lv_iload hx hb dC_allows_27 (lv_at hl 0 rfl) ?_
  refine qS_i (As := [.long (eL n x), .int (nI (y i))]) (rest := []) ⟨hx, hb, hml, hown, ht⟩ (c_E_at l n (y i) x hn hx9 hyi) (cB 2 ht gE_at rfl tw_62 tw_530 (by decide +kernel) ⟨by decide, by decide⟩) tw_254 rfl hl.1 rfl (Nat.le_of_ble_eq_true rfl) dC_allows_29 ⟨by decide, by decide⟩ (fun r29 h29 => ?_)
  subst h29
  refine lv_aload_n hx hb dC_allows_32 rfl (lv_at hl 2 rfl) ?_
  refine va_get (ci := 4) (C := RC) (T := TC) (N := 1) hx hb ht inC hown hK hP 0 rfl rfl 0 (by decide) (ht _ tw_559) (fun _ h9 => h9) rfl dC_allows_33 ?_
  refine lv_lload_n hx hb dC_allows_36 rfl (lv_at hl 3 rfl) ?_
  refine lv_iload hx hb dC_allows_37 (lv_at hl 1 rfl) ?_
  refine qS_i (As := [.long (eL n x), .int (nI i)]) (rest := [.long (eL n y), .int (nI (x (y i)))]) ⟨hx, hb, hml, hown, ht⟩ (c_E_at l n i x hn hx9 (by omega)) (cB 2 ht gE_at rfl tw_62 tw_530 (by decide +kernel) ⟨by decide, by decide⟩) tw_254 rfl hl.1 rfl (Nat.le_of_ble_eq_true rfl) dC_allows_39 ⟨by decide, by decide⟩ (fun r39 h39 => ?_)
  subst h39
  refine qS_i (As := [.long (eL n y), .int (nI (x i))]) (rest := [.int (nI (x (y i)))]) ⟨hx, hb, hml, hown, ht⟩ (c_E_at l n (x i) y hn hy9 hxi) (cB 2 ht gE_at rfl tw_62 tw_530 (by decide +kernel) ⟨by decide, by decide⟩) tw_254 rfl hl.1 rfl (Nat.le_of_ble_eq_true rfl) dC_allows_42 ⟨by decide, by decide⟩ (fun r42 h42 => ?_)
  subst h42
  have b1 := hxP.1 _ hyi
  have b2 := hyP.1 _ hxi
  refine lv_icmp_eq (tgt := 50) hx hb dC_allows_45 rfl (fun h4 => ?_) (fun h4 => ?_)
  · have h5 := (nI_eq (by omega) (by omega)).mp h4
    refine lv_iinc (k := 1) (v := (nI (i + 1))) hx hb dC_allows_50 hl rfl (by exact nI_1 _) (by decide) rfl (fun ls hl => ?_)
    replace hl : lv_has ls 6 [(4, .int (nI (i + 1))), (5, .int (nI (y i))), (0, .ref q0), (1, .long (eL n x)), (3, .int (nI k))] := hl
    refine lv_goto (tgt := 3) hx hb dC_allows_53 rfl ?_
    refine ih (d - 1) (i + 1) ls (by omega) ⟨by omega, by rw [cAll_s, hall, decide_eq_true h5, Bool.or_true]; rfl, lv_sub hl [0, 2, 3, 4] rfl⟩
  have h5 : x (y i) ≠ y (x i) := fun e => h4 (by rw [e])
  refine lv_iconst (v := 0) hx hb dC_allows_48 (by decide) ?_
  exact W.zret (v := bI false) hx hb hr (bI_n _) (fun t h _ => ⟨_, rfl, by
    rw [cAll_le (i := i + 1) (by omega) (by rw [cAll_s, decide_eq_true h3, decide_eq_false h5]; simp)], h⟩) (fun q h => by cases h) dC_allows_49
/-- both are conditions of a group's elements -/
theorem kAll_cnd {n m9 : Nat} {wh : Bool} : pg_cnd n (fun x => kAll m9 wh x n = true) (fun x k => kAll m9 wh x k) := by
  refine ⟨fun x _ => Iff.rfl, fun x y k hx hy hk hyx h hc => ?_⟩
  have e : kAll m9 wh y k = kAll m9 wh x k := by
    unfold kAll
    rw [Bool.eq_iff_iff, List.all_eq_true, List.all_eq_true]
    constructor
    · intro h1 p hp
      have := h1 p hp
      rw [hyx p (List.mem_range.mp hp)] at this
      exact this
    · intro h1 p hp
      rw [hyx p (List.mem_range.mp hp)]
      exact h1 p hp
  have h : kAll m9 wh x k = false := h
  have hc : kAll m9 wh y n = true := hc
  rw [← e] at h
  have := kAll_le hk h
  rw [hc] at this
  cases this
theorem kAll_iff {n m9 : Nat} {wh : Bool} {x : pg_F} : kAll m9 wh x n = true ↔ ∀ p, p < n → m9.testBit p = true → (if wh then m9.testBit (x p) = true else x p = p) := by
  unfold kAll
  rw [List.all_eq_true]
  constructor
  · intro h p hp hb
    have := h p (List.mem_range.mpr hp)
    rw [hb] at this
    have this : kMay m9 wh p (x p) = true := this
    unfold kMay at this
    cases wh with
    | true => exact this
    | false => exact of_decide_eq_true this
  · intro h p hp
    rw [List.mem_range] at hp
    cases hb : m9.testBit p with
    | false => rfl
    | true =>
      have := h p hp hb
      show kMay m9 wh p (x p) = true
      unfold kMay
      cases wh with
      | true => exact this
      | false => exact decide_eq_true this
theorem kAll_G {n m9 : Nat} {wh : Bool} {G : pg_F → Prop} (hG : pg_G n G) (hm : ∀ q, m9.testBit q = true → q < n) : pg_G n (fun x => G x ∧ kAll m9 wh x n = true) := by
  refine ⟨fun x h => hG.1 x h.1, ⟨hG.2.1, kAll_iff.mpr (fun p _ hb => ?_)⟩, fun x y hx hy => ⟨hG.2.2 _ _ hx.1 hy.1, kAll_iff.mpr (fun p hp hb => ?_)⟩⟩
  · cases wh with
    | true => exact hb
    | false => rfl
  · have h1 := kAll_iff.mp hx.2 p hp hb
    cases wh with
    | true => exact kAll_iff.mp hy.2 (x p) (hm _ h1) h1
    | false =>
      have h1 : x p = p := h1
      have h2 : y p = p := kAll_iff.mp hy.2 p hp hb
      show y (x p) = p
      rw [h1, h2]
theorem cAll_iff {n : Nat} {y x : pg_F} (hy : pg_P n y) (hx : pg_P n x) : cAll y x n n = true ↔ pg_mul x y = pg_mul y x := by
  unfold cAll
  rw [List.all_eq_true]
  constructor
  · intro h
    refine pg_ext (pg_P_mul hx hy) (pg_P_mul hy hx) (fun p hp => ?_)
    have := h p (List.mem_range.mpr hp)
    rw [decide_eq_true (hy.1 p hp)] at this
    have this : decide (x (y p) = y (x p)) = true := this
    exact (of_decide_eq_true this).symm
  · intro h p hp
    have := congrFun h p
    have this : y (x p) = x (y p) := this
    rw [decide_eq_true this.symm, Bool.or_true]
theorem cAll_cnd {n : Nat} {y : pg_F} (hy : pg_P n y) : pg_cnd n (fun x => pg_mul x y = pg_mul y x) (fun x k => cAll y x k k) := by
  refine ⟨fun x hx => cAll_iff hy hx, fun x w k hx hw hk hwx h hc => ?_⟩
  have : cAll y x k k = true := by
    unfold cAll
    rw [List.all_eq_true]
    intro p hp
    rw [List.mem_range] at hp
    by_cases q : y p < k
    · have h1 := congrFun hc p
      have h1 : y (w p) = w (y p) := h1
      rw [hwx p hp, hwx _ q] at h1
      rw [decide_eq_true h1.symm, Bool.or_true]
    · rw [decide_eq_false q]; rfl
  have h : cAll y x k k = false := h
  rw [this] at h
  cases h
theorem cAll_G {n : Nat} {y : pg_F} {G : pg_F → Prop} (hG : pg_G n G) : pg_G n (fun x => G x ∧ pg_mul x y = pg_mul y x) := by
  refine ⟨fun x h => hG.1 x h.1, ⟨hG.2.1, rfl⟩, fun x w hx hw => ⟨hG.2.2 _ _ hx.1 hw.1, ?_⟩⟩
  show pg_mul x (pg_mul w y) = pg_mul y (pg_mul x w)
  rw [hw.2]
  show pg_mul (pg_mul x y) w = _
  rw [hx.2]
  rfl
