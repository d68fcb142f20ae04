/-! Elements: elements as longs. -/
/-- the first k images alone -/
def pg_cut (x : pg_F) (k : Nat) : pg_F := fun j => if j < k then x j else 0
theorem pg_cut_0 (x : pg_F) : pg_cut x 0 = fun _ => 0 := by
  funext j
  exact if_neg (by omega)
theorem pg_cut_s (x : pg_F) (k : Nat) : va_up (pg_cut x k) k (x k) = pg_cut x (k + 1) := by
  funext j
  by_cases q : j = k
  · rw [q, va_up_self]; exact (if_pos (by omega)).symm
  · rw [va_up_ne _ _ q]
    unfold pg_cut
    by_cases r : j < k
    · rw [if_pos r, if_pos (by omega)]
    · rw [if_neg r, if_neg (by omega)]
theorem pg_cut_k (x : pg_F) (k : Nat) : pg_cut x k k = 0 := if_neg (by omega)
theorem pg_cut_d {n : Nat} {x : pg_F} (h : ∀ p, p < n → x p < 2 ^ 4) (k : Nat) : ∀ p, p < n → pg_cut x k p < 2 ^ 4 := by
  intro p hp
  unfold pg_cut
  split
  · exact h p hp
  · exact Nat.two_pow_pos 4
theorem eL_congr {n : Nat} {x y : pg_F} (h : ∀ j, j < n → x j = y j) : eL n x = eL n y := congrArg lN (pg_e_congr n h)
theorem pg_cut_n (n : Nat) (x : pg_F) : eL n (pg_cut x n) = eL n x := eL_congr (fun j hj => if_pos hj)
theorem pe_zeros {b : Nat} {x y : pg_F} {n : Nat} (h : ∀ j, j < n → x j = y j) (h0 : ∀ j, n ≤ j → y j = 0) : ∀ m, pg_e b x n = pg_e b y (n + m) := by
  intro m
  induction m with
  | zero => exact pg_e_congr n h
  | succ m ih =>
    show pg_e b x n = pg_e b y (n + m) + y (n + m) * 2 ^ (b * (n + m))
    rw [← ih, h0 (n + m) (by omega), Nat.zero_mul, Nat.add_zero]
/-- the places u 0 .. u (k - 1) filled, with what w has there -/
def pg_sc (n : Nat) (u w : pg_F) (k : Nat) : pg_F := fun j => if pg_inv n u j < k then w j else 0
theorem pg_sc_0 (n : Nat) (u w : pg_F) : pg_sc n u w 0 = fun _ => 0 := by
  funext j
  exact if_neg (by omega)
theorem pg_sc_k {n : Nat} {u w : pg_F} (hu : pg_P n u) (k : Nat) : pg_sc n u w k (u k) = 0 := by
  unfold pg_sc
  rw [pg_inv_at hu rfl, if_neg (by omega)]
theorem pg_sc_s {n : Nat} {u w : pg_F} (hu : pg_P n u) {k : Nat} (hk : k < n) {v : Nat} (hv : w (u k) = v) : eL n (va_up (pg_sc n u w k) (u k) v) = eL n (pg_sc n u w (k + 1)) := by
  refine eL_congr (fun j hj => ?_)
  by_cases q : j = u k
  · rw [q, va_up_self]
    unfold pg_sc
    rw [pg_inv_at hu rfl, if_pos (by omega), hv]
  · rw [va_up_ne _ _ q]
    unfold pg_sc
    have : pg_inv n u j ≠ k := fun r => q (by rw [← r, (pg_inv_lt hu hj).1])
    by_cases r : pg_inv n u j < k
    · rw [if_pos r, if_pos (by omega)]
    · rw [if_neg r, if_neg (by omega)]
theorem pg_sc_d {n : Nat} {u w : pg_F} (h : ∀ p, p < n → w p < 2 ^ 4) (k : Nat) : ∀ p, p < n → pg_sc n u w k p < 2 ^ 4 := by
  intro p hp
  unfold pg_sc
  split
  · exact h p hp
  · exact Nat.two_pow_pos 4
theorem pg_sc_n {n : Nat} {u w : pg_F} (hu : pg_P n u) : eL n (pg_sc n u w n) = eL n w := eL_congr (fun _ hj => if_pos (pg_inv_lt hu hj).2)
abbrev rmZ : Room := { frames := 0, cells := 0, slots := 0, locals := 0 }
set_option maxHeartbeats 1000000 in
set_option maxRecDepth 100000 in
/-- Elements.at: the image of a point -/
theorem c_E_at (l : Launch) (n q : Nat) (x : pg_F) (hn : n ≤ 14) (hx9 : ∀ p, p < n → x p < 2 ^ 4) (hq : q < n) : Met l yE_at wE_at rmZ (va_Pc [.long (eL n x), .int (nI q)] (fun _ => True)) (vp_Si (fun r => r = nI (x q))) 0 0 (fun _ => False) := by
  refine Met.ofW (cc := prog_4_method_3_code) (maxL := 3) (ret := (some .int)) (by decide) rfl ?_
  intro p e s m args below meth c s₁ B hml hv
  have hx := B.exec
  have hb := B.bytes
  have hr := B.returns
  have ht : ∀ w ∈ TB, w.before args s = true := fun w h => atoms_spec (ws := wE_at) B.pre w (List.mem_cons_of_mem _ h)
  have hown : s.vm.findClass "PermutationDesk$Elements" = some m.cls := findClass_of_methodNamed B.named
  have hlocks := B.notSynchronized
  obtain ⟨rfl, -⟩ := hv
  have hl := lv_entry ([.long (eL n x), .int (nI q)]) (n := 3) (Nat.le_of_ble_eq_true rfl)
  rw [lg_entry_eq]
  generalize (lg_sl ([.long (eL n x), .int (nI q)]) ++ List.replicate (3 - (lg_sl ([.long (eL n x), .int (nI q)])).length) Slot.unset).toArray = ls at hl ⊢
  have hl : lv_has ls 3 [(0, .long (eL n x)), (2, .int (nI q))] := hl
  refine lv_lload_n hx hb dE_at_0 rfl (lv_at hl 0 rfl) ?_
  refine lv_iconst (v := 4) hx hb dE_at_1 (by decide) ?_
  refine lv_iload_n hx hb dE_at_2 rfl (lv_at hl 1 rfl) ?_
  refine lv_imul hx hb dE_at_3 ?_
  refine lv_lushr hx hb dE_at_4 rfl ?_
  refine lv_l2i hx hb dE_at_5 rfl ?_
  refine lv_bipush (v := 15) hx hb dE_at_6 (by decide) ?_
  refine lv_iand hx hb dE_at_8 ?_
  refine wti (x' := nI (x q)) (by rw [show (4 : Int32) * nI q = nI (4 * q) from pk_mul 4 q]; exact eL_at hn hx9 hq) ?_
  exact W.iret (v := nI (x q)) hx hb hr (fun t h _ => ⟨_, rfl, rfl, h⟩) (fun q h => by cases h) dE_at_9
set_option maxHeartbeats 1000000 in
set_option maxRecDepth 100000 in
/-- Elements.with: a place set -/
theorem c_E_with (l : Launch) (n q v : Nat) (x : pg_F) (hn : n ≤ 14) (hx9 : ∀ p, p < n → x p < 2 ^ 4) (hq : q < n) (hv9 : v < 2 ^ 4) : Met l yE_with wE_with rmZ (va_Pc [.long (eL n x), .int (nI q), .int (nI v)] (fun _ => True)) (vp_Sl (fun r => r = eL n (va_up x q v))) 0 0 (fun _ => False) := by
  refine Met.ofW (cc := prog_4_method_4_code) (maxL := 4) (ret := (some .long)) (by decide) rfl ?_
  intro p e s m args below meth c s₁ B hml hv
  have hx := B.exec
  have hb := B.bytes
  have hr := B.returns
  have ht : ∀ w ∈ TB, w.before args s = true := fun w h => atoms_spec (ws := wE_with) B.pre w (List.mem_cons_of_mem _ h)
  have hown : s.vm.findClass "PermutationDesk$Elements" = some m.cls := findClass_of_methodNamed B.named
  have hlocks := B.notSynchronized
  obtain ⟨rfl, -⟩ := hv
  have hl := lv_entry ([.long (eL n x), .int (nI q), .int (nI v)]) (n := 4) (Nat.le_of_ble_eq_true rfl)
  rw [lg_entry_eq]
  generalize (lg_sl ([.long (eL n x), .int (nI q), .int (nI v)]) ++ List.replicate (4 - (lg_sl ([.long (eL n x), .int (nI q), .int (nI v)])).length) Slot.unset).toArray = ls at hl ⊢
  have hl : lv_has ls 4 [(0, .long (eL n x)), (2, .int (nI q)), (3, .int (nI v))] := hl
  refine lv_lload_n hx hb dE_with_0 rfl (lv_at hl 0 rfl) ?_
  refine W.ldc2 hx hb hown (ht _ tw_238) rfl dE_with_1 ?_
  refine lv_iconst (v := 4) hx hb dE_with_4 (by decide) ?_
  refine lv_iload_n hx hb dE_with_5 rfl (lv_at hl 1 rfl) ?_
  refine lv_imul hx hb dE_with_6 ?_
  refine lv_lshl hx hb dE_with_7 rfl ?_
  refine W.ldc2 hx hb hown (ht _ tw_239) rfl dE_with_8 ?_
  refine lv_lxor hx hb dE_with_11 ?_
  refine lv_land hx hb dE_with_12 ?_
  refine lv_iload_n hx hb dE_with_13 rfl (lv_at hl 2 rfl) ?_
  refine lv_i2l hx hb dE_with_14 rfl ?_
  refine lv_iconst (v := 4) hx hb dE_with_15 (by decide) ?_
  refine lv_iload_n hx hb dE_with_16 rfl (lv_at hl 1 rfl) ?_
  refine lv_imul hx hb dE_with_17 ?_
  refine lv_lshl hx hb dE_with_18 rfl ?_
  refine lv_lor hx hb dE_with_19 ?_
  refine wtl (x' := eL n (va_up x q v)) (by rw [show (4 : Int32) * nI q = nI (4 * q) from pk_mul 4 q, nI_l (n := v) (by omega)]; exact eL_with hn hx9 hq hv9) ?_
  exact W.lret (v := eL n (va_up x q v)) hx hb hr (fun t h _ => ⟨_, rfl, rfl, h⟩) (fun q h => by cases h) dE_with_20
set_option maxHeartbeats 1000000 in
set_option maxRecDepth 100000 in
/-- Elements.identity -/
theorem c_E_identity (l : Launch) (n : Nat) (hn : n ≤ 14) : Met l yE_identity wE_identity rmZ (va_Pc [.int (nI n)] (fun _ => True)) (vp_Sl (fun r => r = eL n pg_id)) 0 0 (fun _ => False) := by
  have hd : ∀ p, p < n → pg_id p < 2 ^ 4 := fun p hp => by show p < 16; omega
  refine Met.ofW (cc := prog_4_method_2_code) (maxL := 4) (ret := (some .long)) (by decide) rfl ?_
  intro p e s m args below meth c s₁ B hml hv
  have hx := B.exec
  have hb := B.bytes
  have hr := B.returns
  have ht : ∀ w ∈ TB, w.before args s = true := fun w h => atoms_spec (ws := wE_identity) B.pre w (List.mem_cons_of_mem _ h)
  have hown : s.vm.findClass "PermutationDesk$Elements" = some m.cls := findClass_of_methodNamed B.named
  have hlocks := B.notSynchronized
  obtain ⟨rfl, -⟩ := hv
  have hl := lv_entry ([.int (nI n)]) (n := 4) (Nat.le_of_ble_eq_true rfl)
  rw [lg_entry_eq]
  generalize (lg_sl ([.int (nI n)]) ++ List.replicate (4 - (lg_sl ([.int (nI n)])).length) Slot.unset).toArray = ls at hl ⊢
  have hl : lv_has ls 4 [(0, .int (nI n))] := hl
  refine lv_lconst (v := 0) hx hb dE_identity_0 (by decide) ?_
  refine lv_topl (fun v1 e1 => ?_)
  refine lv_lstore_n hx hb dE_identity_1 rfl hl (by decide) rfl (fun ls hl => ?_)
  replace hl : lv_has ls 4 [(1, .long v1), (0, .int (nI n))] := hl
  refine lv_iconst (v := 0) hx hb dE_identity_2 (by decide) ?_
  refine lv_topi (fun v3 e3 => ?_)
  refine lv_istore_n hx hb dE_identity_3 rfl hl (by decide) rfl (fun ls hl => ?_)
  replace hl : lv_has ls 4 [(3, .int v3), (1, .long v1), (0, .int (nI n))] := hl
  refine wl0 (σ := Nat) (I := fun d k ls => d + k = n ∧ lv_has ls 4 [(3, .int (nI k)), (1, .long (eL n (pg_cut pg_id k))), (0, .int (nI n))]) ?_ n 0 ls ⟨rfl, by rw [pg_cut_0, ← eL_0]; rw [e1, e3] at hl; exact hl⟩
  rintro d k ls ⟨hdk, hl⟩ ih
  refine lv_iload_n hx hb dE_identity_4 rfl (lv_at hl 0 rfl) ?_
  refine lv_iload_n hx hb dE_identity_5 rfl (lv_at hl 2 rfl) ?_
  refine lv_icmp_ge (tgt := 24) hx hb dE_identity_6 rfl (fun h => ?_) (fun h => ?_)
  · have hk : k = n := by have := (nI_leI (by omega) (by omega)).mp h; omega
    subst hk
    refine lv_lload_n hx hb dE_identity_24 rfl (lv_at hl 1 rfl) ?_
    exact W.lret hx hb hr (fun t h _ => ⟨_, rfl, pg_cut_n k pg_id, h⟩) (fun q h => by cases h) dE_identity_25
  · have hk : k < n := by
      rw [nI_leI (by omega) (by omega)] at h
      omega
    refine lv_lload_n hx hb dE_identity_9 rfl (lv_at hl 1 rfl) ?_
    refine lv_iload_n hx hb dE_identity_10 rfl (lv_at hl 0 rfl) ?_
    refine lv_i2l hx hb dE_identity_11 rfl ?_
    refine lv_iconst (v := 4) hx hb dE_identity_12 (by decide) ?_
    refine lv_iload_n hx hb dE_identity_13 rfl (lv_at hl 0 rfl) ?_
    refine lv_imul hx hb dE_identity_14 ?_
    refine lv_lshl hx hb dE_identity_15 rfl ?_
    refine lv_lor hx hb dE_identity_16 ?_
    refine wtl (x' := eL n (pg_cut pg_id (k + 1))) (by rw [show (4 : Int32) * nI k = nI (4 * k) from pk_mul 4 k, nI_l (n := k) (by omega), ← pg_cut_s]; exact eL_or hn (pg_cut_d hd k) hk (pg_cut_k _ _) (by omega)) ?_
    refine lv_lstore_n hx hb dE_identity_17 rfl hl (by decide) rfl (fun ls hl => ?_)
    replace hl : lv_has ls 4 [(1, .long (eL n (pg_cut pg_id (k + 1)))), (3, .int (nI k)), (0, .int (nI n))] := hl
    refine lv_iinc (k := 1) (v := (nI (k + 1))) hx hb dE_identity_18 hl rfl (by exact nI_1 _) (by decide) rfl (fun ls hl => ?_)
    replace hl : lv_has ls 4 [(3, .int (nI (k + 1))), (1, .long (eL n (pg_cut pg_id (k + 1)))), (0, .int (nI n))] := hl
    refine lv_goto (tgt := 4) hx hb dE_identity_21 rfl ?_
    exact ih (d - 1) (k + 1) ls (by omega) ⟨by omega, lv_sub hl [0, 1, 2] rfl⟩
set_option maxHeartbeats 1000000 in
set_option maxRecDepth 100000 in
/-- Elements.product: first x, then y -/
theorem c_E_product (l : Launch) (n : Nat) (x y : pg_F) (hn : n ≤ 14) (hxP : pg_P n x) (hyP : pg_P n y) : Met l yE_product wE_product rmZ (va_Pc [.long (eL n x), .long (eL n y), .int (nI n)] (fun _ => True)) (vp_Sl (fun r => r = eL n (pg_mul x y))) 0 0 (fun _ => False) := by
  have hx9 := hxP.d4 (by omega : n ≤ 16)
  have hy9 := hyP.d4 (by omega : n ≤ 16)
  have hd := (pg_P_mul hxP hyP).d4 (by omega : n ≤ 16)
  refine Met.ofW (cc := prog_4_method_5_code) (maxL := 9) (ret := (some .long)) (by decide) rfl ?_
  intro p e s m args below meth c s₁ B hml hv
  have hx := B.exec
  have hb := B.bytes
  have hr := B.returns
  have ht : ∀ w ∈ TB, w.before args s = true := fun w h => atoms_spec (ws := wE_product) B.pre w (List.mem_cons_of_mem _ h)
  have hown : s.vm.findClass "PermutationDesk$Elements" = some m.cls := findClass_of_methodNamed B.named
  have hlocks := B.notSynchronized
  obtain ⟨rfl, -⟩ := hv
  have hl := lv_entry ([.long (eL n x), .long (eL n y), .int (nI n)]) (n := 9) (Nat.le_of_ble_eq_true rfl)
  rw [lg_entry_eq]
  generalize (lg_sl ([.long (eL n x), .long (eL n y), .int (nI n)]) ++ List.replicate (9 - (lg_sl ([.long (eL n x), .long (eL n y), .int (nI n)])).length) Slot.unset).toArray = ls at hl ⊢
  have hl : lv_has ls 9 [(0, .long (eL n x)), (2, .long (eL n y)), (4, .int (nI n))] := hl
  refine lv_lconst (v := 0) hx hb dE_product_0 (by decide) ?_
  refine lv_topl (fun v1 e1 => ?_)
  refine lv_lstore hx hb dE_product_1 hl (by decide) rfl (fun ls hl => ?_)
  replace hl : lv_has ls 9 [(5, .long v1), (0, .long (eL n x)), (2, .long (eL n y)), (4, .int (nI n))] := hl
  refine lv_iconst (v := 0) hx hb dE_product_3 (by decide) ?_
  refine lv_topi (fun v4 e4 => ?_)
  refine lv_istore hx hb dE_product_4 hl (by decide) rfl (fun ls hl => ?_)
  replace hl : lv_has ls 9 [(7, .int v4), (5, .long v1), (0, .long (eL n x)), (2, .long (eL n y)), (4, .int (nI n))] := hl
  refine wl0 (σ := Nat) (I := fun d k ls => d + k = n ∧ lv_has ls 9 [(7, .int (nI (4 * k))), (5, .long (eL n (pg_cut (pg_mul x y) k))), (0, .long (eL n x)), (2, .long (eL n y)), (4, .int (nI n))]) ?_ n 0 ls ⟨rfl, by rw [pg_cut_0, ← eL_0]; rw [e1, e4] at hl; exact hl⟩
  rintro d k ls ⟨hdk, hl⟩ ih
  refine lv_iload hx hb dE_product_6 (lv_at hl 0 rfl) ?_
  refine lv_iconst (v := 4) hx hb dE_product_8 (by decide) ?_
  refine lv_iload hx hb dE_product_9 (lv_at hl 4 rfl) ?_
  refine lv_imul hx hb dE_product_11 ?_
  refine wti (x' := nI (4 * n)) (pk_mul 4 n) ?_
  refine lv_icmp_ge (tgt := 49) hx hb dE_product_12 rfl (fun h => ?_) (fun h => ?_)
  · have hk : k = n := by have := (nI_leI (by omega) (by omega)).mp h; omega
    subst hk
    refine lv_lload hx hb dE_product_49 (lv_at hl 1 rfl) ?_
    exact W.lret hx hb hr (fun t h _ => ⟨_, rfl, pg_cut_n k _, h⟩) (fun q h => by cases h) dE_product_51
  · have hk : k < n := by
      rw [nI_leI (by omega) (by omega)] at h
      omega
    refine lv_lload_n hx hb dE_product_15 rfl (lv_at hl 2 rfl) ?_
    refine lv_iload hx hb dE_product_16 (lv_at hl 0 rfl) ?_
    refine lv_lushr hx hb dE_product_18 rfl ?_
    refine lv_l2i hx hb dE_product_19 rfl ?_
    refine lv_bipush (v := 15) hx hb dE_product_20 (by decide) ?_
    refine lv_iand hx hb dE_product_22 ?_
    refine wti (x' := nI (x k)) (eL_at hn hx9 hk) ?_
    refine lv_istore hx hb dE_product_23 hl (by decide) rfl (fun ls hl => ?_)
    replace hl : lv_has ls 9 [(8, .int (nI (x k))), (7, .int (nI (4 * k))), (5, .long (eL n (pg_cut (pg_mul x y) k))), (0, .long (eL n x)), (2, .long (eL n y)), (4, .int (nI n))] := hl
    refine lv_lload hx hb dE_product_25 (lv_at hl 2 rfl) ?_
    refine lv_lload_n hx hb dE_product_27 rfl (lv_at hl 4 rfl) ?_
    refine lv_iconst (v := 4) hx hb dE_product_28 (by decide) ?_
    refine lv_iload hx hb dE_product_29 (lv_at hl 0 rfl) ?_
    refine lv_imul hx hb dE_product_31 ?_
    refine lv_lushr hx hb dE_product_32 rfl ?_
    refine W.ldc2 hx hb hown (ht _ tw_238) rfl dE_product_33 ?_
    refine lv_land hx hb dE_product_36 ?_
    refine lv_iload hx hb dE_product_37 (lv_at hl 1 rfl) ?_
    refine lv_lshl hx hb dE_product_39 rfl ?_
    refine lv_lor hx hb dE_product_40 ?_
    refine wtl (x' := eL n (pg_cut (pg_mul x y) (k + 1))) (by rw [show (4 : Int32) * nI (x k) = nI (4 * x k) from pk_mul 4 (x k), eL_atL hn hy9 (hxP.1 k hk), ← pg_cut_s]; exact eL_or hn (pg_cut_d hd k) hk (pg_cut_k _ _) (hy9 _ (hxP.1 k hk))) ?_
    refine lv_lstore hx hb dE_product_41 hl (by decide) rfl (fun ls hl => ?_)
    replace hl : lv_has ls 9 [(5, .long (eL n (pg_cut (pg_mul x y) (k + 1)))), (8, .int (nI (x k))), (7, .int (nI (4 * k))), (0, .long (eL n x)), (2, .long (eL n y)), (4, .int (nI n))] := hl
    refine lv_iinc (k := 2) (v := (nI (4 * (k + 1)))) hx hb dE_product_43 hl rfl (by exact nI_add (4 * k) 4) (by decide) rfl (fun ls hl => ?_)
    replace hl : lv_has ls 9 [(7, .int (nI (4 * (k + 1)))), (5, .long (eL n (pg_cut (pg_mul x y) (k + 1)))), (8, .int (nI (x k))), (0, .long (eL n x)), (2, .long (eL n y)), (4, .int (nI n))] := hl
    refine lv_goto (tgt := 6) hx hb dE_product_46 rfl ?_
    exact ih (d - 1) (k + 1) ls (by omega) ⟨by omega, lv_sub hl [0, 1, 3, 4, 5] rfl⟩
set_option maxHeartbeats 1000000 in
set_option maxRecDepth 100000 in
/-- .. of any two longs: it answers something -/
theorem c_E_productG (l : Launch) (n : Nat) (a b : Int64) (hn : n ≤ 14) : Met l yE_product wE_product rmZ (va_Pc [.long a, .long b, .int (nI n)] (fun _ => True)) (vp_Sl (fun _ => True)) 0 0 (fun _ => False) := by
  refine Met.ofW (cc := prog_4_method_5_code) (maxL := 9) (ret := (some .long)) (by decide) rfl ?_
  intro p e s m args below meth c s₁ B hml hv
  have hx := B.exec
  have hb := B.bytes
  have hr := B.returns
  have ht : ∀ w ∈ TB, w.before args s = true := fun w h => atoms_spec (ws := wE_product) B.pre w (List.mem_cons_of_mem _ h)
  have hown : s.vm.findClass "PermutationDesk$Elements" = some m.cls := findClass_of_methodNamed B.named
  have hlocks := B.notSynchronized
  obtain ⟨rfl, -⟩ := hv
  have hl := lv_entry ([.long a, .long b, .int (nI n)]) (n := 9) (Nat.le_of_ble_eq_true rfl)
  rw [lg_entry_eq]
  generalize (lg_sl ([.long a, .long b, .int (nI n)]) ++ List.replicate (9 - (lg_sl ([.long a, .long b, .int (nI n)])).length) Slot.unset).toArray = ls at hl ⊢
  have hl : lv_has ls 9 [(0, .long a), (2, .long b), (4, .int (nI n))] := hl
  refine lv_lconst (v := 0) hx hb dE_product_0 (by decide) ?_
  refine lv_topl (fun v1 e1 => ?_)
  refine lv_lstore hx hb dE_product_1 hl (by decide) rfl (fun ls hl => ?_)
  replace hl : lv_has ls 9 [(5, .long v1), (0, .long a), (2, .long b), (4, .int (nI n))] := hl
  refine lv_iconst (v := 0) hx hb dE_product_3 (by decide) ?_
  refine lv_topi (fun v4 e4 => ?_)
  refine lv_istore hx hb dE_product_4 hl (by decide) rfl (fun ls hl => ?_)
  replace hl : lv_has ls 9 [(7, .int v4), (5, .long v1), (0, .long a), (2, .long b), (4, .int (nI n))] := hl
  refine wl0 (σ := Nat × Int64) (I := fun d st ls => d + st.1 = n ∧ lv_has ls 9 [(7, .int (nI (4 * st.1))), (5, .long st.2), (0, .long a), (2, .long b), (4, .int (nI n))]) ?_ n (0, 0) ls ⟨rfl, by rw [e1, e4] at hl; exact hl⟩
  rintro d ⟨k, z⟩ ls ⟨hdk, hl⟩ ih
  have hdk : d + k = n := hdk
  refine lv_iload hx hb dE_product_6 (lv_at hl 0 rfl) ?_
  refine lv_iconst (v := 4) hx hb dE_product_8 (by decide) ?_
  refine lv_iload hx hb dE_product_9 (lv_at hl 4 rfl) ?_
  refine lv_imul hx hb dE_product_11 ?_
  refine wti (x' := nI (4 * n)) (pk_mul 4 n) ?_
  refine lv_icmp_ge (tgt := 49) hx hb dE_product_12 rfl (fun h => ?_) (fun h => ?_)
  · skip
    refine lv_lload hx hb dE_product_49 (lv_at hl 1 rfl) ?_
    exact W.lret hx hb hr (fun t h _ => ⟨_, rfl, trivial, h⟩) (fun q h => by cases h) dE_product_51
  · have hk : k < n := by
      rw [nI_leI (by omega) (by omega)] at h
      omega
    refine lv_lload_n hx hb dE_product_15 rfl (lv_at hl 2 rfl) ?_
    refine lv_iload hx hb dE_product_16 (lv_at hl 0 rfl) ?_
    refine lv_lushr hx hb dE_product_18 rfl ?_
    refine lv_l2i hx hb dE_product_19 rfl ?_
    refine lv_bipush (v := 15) hx hb dE_product_20 (by decide) ?_
    refine lv_iand hx hb dE_product_22 ?_
    refine lv_topi (fun v23 e23 => ?_)
    refine lv_istore hx hb dE_product_23 hl (by decide) rfl (fun ls hl => ?_)
    replace hl : lv_has ls 9 [(8, .int v23), (7, .int (nI (4 * k))), (5, .long z), (0, .long a), (2, .long b), (4, .int (nI n))] := hl
    refine lv_lload hx hb dE_product_25 (lv_at hl 2 rfl) ?_
    refine lv_lload_n hx hb dE_product_27 rfl (lv_at hl 4 rfl) ?_
    refine lv_iconst (v := 4) hx hb dE_product_28 (by decide) ?_
    refine lv_iload hx hb dE_product_29 (lv_at hl 0 rfl) ?_
    refine lv_imul hx hb dE_product_31 ?_
    refine lv_lushr hx hb dE_product_32 rfl ?_
    refine W.ldc2 hx hb hown (ht _ tw_238) rfl dE_product_33 ?_
    refine lv_land hx hb dE_product_36 ?_
    refine lv_iload hx hb dE_product_37 (lv_at hl 1 rfl) ?_
    refine lv_lshl hx hb dE_product_39 rfl ?_
    refine lv_lor hx hb dE_product_40 ?_
    refine lv_topl (fun v41 e41 => ?_)
    refine lv_lstore hx hb dE_product_41 hl (by decide) rfl (fun ls hl => ?_)
    replace hl : lv_has ls 9 [(5, .long v41), (8, .int v23), (7, .int (nI (4 * k))), (0, .long a), (2, .long b), (4, .int (nI n))] := hl
    refine lv_iinc (k := 2) (v := (nI (4 * (k + 1)))) hx hb dE_product_43 hl rfl (by exact nI_add (4 * k) 4) (by decide) rfl (fun ls hl => ?_)
    replace hl : lv_has ls 9 [(7, .int (nI (4 * (k + 1)))), (5, .long v41), (8, .int v23), (0, .long a), (2, .long b), (4, .int (nI n))] := hl
    refine lv_goto (tgt := 6) hx hb dE_product_46 rfl ?_
    exact ih (d - 1) (k + 1, v41) ls (by omega) ⟨by show d - 1 + (k + 1) = n; omega, lv_sub hl [0, 1, 3, 4, 5] rfl⟩
set_option maxHeartbeats 1000000 in
set_option maxRecDepth 100000 in
/-- Elements.inverse -/
theorem c_E_inverse (l : Launch) (n : Nat) (x : pg_F) (hn : n ≤ 14) (hxP : pg_P n x) : Met l yE_inverse wE_inverse rmZ (va_Pc [.long (eL n x), .int (nI n)] (fun _ => True)) (vp_Sl (fun r => r = eL n (pg_inv n x))) 0 0 (fun _ => False) := by
  have hx9 := hxP.d4 (by omega : n ≤ 16)
  have hd := (pg_P_inv hxP).d4 (by omega : n ≤ 16)
  refine Met.ofW (cc := prog_4_method_6_code) (maxL := 6) (ret := (some .long)) (by decide) rfl ?_
  intro p e s m args below meth c s₁ B hml hv
  have hx := B.exec
  have hb := B.bytes
  have hr := B.returns
  have ht : ∀ w ∈ TB, w.before args s = true := fun w h => atoms_spec (ws := wE_inverse) B.pre w (List.mem_cons_of_mem _ h)
  have hown : s.vm.findClass "PermutationDesk$Elements" = some m.cls := findClass_of_methodNamed B.named
  have hlocks := B.notSynchronized
  obtain ⟨rfl, -⟩ := hv
  have hl := lv_entry ([.long (eL n x), .int (nI n)]) (n := 6) (Nat.le_of_ble_eq_true rfl)
  rw [lg_entry_eq]
  generalize (lg_sl ([.long (eL n x), .int (nI n)]) ++ List.replicate (6 - (lg_sl ([.long (eL n x), .int (nI n)])).length) Slot.unset).toArray = ls at hl ⊢
  have hl : lv_has ls 6 [(0, .long (eL n x)), (2, .int (nI n))] := hl
  refine lv_lconst (v := 0) hx hb dE_inverse_0 (by decide) ?_
  refine lv_topl (fun v1 e1 => ?_)
  refine lv_lstore_n hx hb dE_inverse_1 rfl hl (by decide) rfl (fun ls hl => ?_)
  replace hl : lv_has ls 6 [(3, .long v1), (0, .long (eL n x)), (2, .int (nI n))] := hl
  refine lv_iconst (v := 0) hx hb dE_inverse_2 (by decide) ?_
  refine lv_topi (fun v3 e3 => ?_)
  refine lv_istore hx hb dE_inverse_3 hl (by decide) rfl (fun ls hl => ?_)
  replace hl : lv_has ls 6 [(5, .int v3), (3, .long v1), (0, .long (eL n x)), (2, .int (nI n))] := hl
  refine wl0 (σ := Nat) (I := fun d k ls => d + k = n ∧ lv_has ls 6 [(5, .int (nI k)), (3, .long (eL n (pg_sc n x (pg_inv n x) k))), (0, .long (eL n x)), (2, .int (nI n))]) ?_ n 0 ls ⟨rfl, by rw [pg_sc_0, ← eL_0]; rw [e1, e3] at hl; exact hl⟩
  rintro d k ls ⟨hdk, hl⟩ ih
  refine lv_iload hx hb dE_inverse_5 (lv_at hl 0 rfl) ?_
  refine lv_iload_n hx hb dE_inverse_7 rfl (lv_at hl 3 rfl) ?_
  refine lv_icmp_ge (tgt := 36) hx hb dE_inverse_8 rfl (fun h => ?_) (fun h => ?_)
  · have hk : k = n := by have := (nI_leI (by omega) (by omega)).mp h; omega
    subst hk
    refine lv_lload_n hx hb dE_inverse_36 rfl (lv_at hl 1 rfl) ?_
    exact W.lret hx hb hr (fun t h _ => ⟨_, rfl, pg_sc_n hxP, h⟩) (fun q h => by cases h) dE_inverse_37
  · have hk : k < n := by
      rw [nI_leI (by omega) (by omega)] at h
      omega
    refine lv_lload_n hx hb dE_inverse_11 rfl (lv_at hl 1 rfl) ?_
    refine lv_iload hx hb dE_inverse_12 (lv_at hl 0 rfl) ?_
    refine lv_i2l hx hb dE_inverse_14 rfl ?_
    refine lv_iconst (v := 4) hx hb dE_inverse_15 (by decide) ?_
    refine lv_lload_n hx hb dE_inverse_16 rfl (lv_at hl 2 rfl) ?_
    refine lv_iconst (v := 4) hx hb dE_inverse_17 (by decide) ?_
    refine lv_iload hx hb dE_inverse_18 (lv_at hl 0 rfl) ?_
    refine lv_imul hx hb dE_inverse_20 ?_
    refine lv_lushr hx hb dE_inverse_21 rfl ?_
    refine lv_l2i hx hb dE_inverse_22 rfl ?_
    refine lv_bipush (v := 15) hx hb dE_inverse_23 (by decide) ?_
    refine lv_iand hx hb dE_inverse_25 ?_
    refine wti (x' := nI (x k)) (by rw [show (4 : Int32) * nI k = nI (4 * k) from pk_mul 4 k]; exact eL_at hn hx9 hk) ?_
    refine lv_imul hx hb dE_inverse_26 ?_
    refine lv_lshl hx hb dE_inverse_27 rfl ?_
    refine lv_lor hx hb dE_inverse_28 ?_
    refine wtl (x' := eL n (pg_sc n x (pg_inv n x) (k + 1))) (by rw [show (4 : Int32) * nI (x k) = nI (4 * x k) from pk_mul 4 (x k), nI_l (n := k) (by omega), ← pg_sc_s hxP hk (pg_inv_at hxP rfl)]; exact eL_or hn (pg_sc_d hd k) (hxP.1 k hk) (pg_sc_k hxP k) (by omega)) ?_
    refine lv_lstore_n hx hb dE_inverse_29 rfl hl (by decide) rfl (fun ls hl => ?_)
    replace hl : lv_has ls 6 [(3, .long (eL n (pg_sc n x (pg_inv n x) (k + 1)))), (5, .int (nI k)), (0, .long (eL n x)), (2, .int (nI n))] := hl
    refine lv_iinc (k := 1) (v := (nI (k + 1))) hx hb dE_inverse_30 hl rfl (by exact nI_1 _) (by decide) rfl (fun ls hl => ?_)
    replace hl : lv_has ls 6 [(5, .int (nI (k + 1))), (3, .long (eL n (pg_sc n x (pg_inv n x) (k + 1)))), (0, .long (eL n x)), (2, .int (nI n))] := hl
    refine lv_goto (tgt := 5) hx hb dE_inverse_33 rfl ?_
    exact ih (d - 1) (k + 1) ls (by omega) ⟨by omega, lv_sub hl [0, 1, 2, 3] rfl⟩
abbrev rmE : Room := { frames := 1, cells := 0, slots := 0, locals := 40 }
set_option maxHeartbeats 1000000 in
set_option maxRecDepth 100000 in
/-- Elements.power -/
theorem c_E_power (l : Launch) (n t : Nat) (x : pg_F) (hn : n ≤ 14) (ht9 : t < 2 ^ 31) (hxP : pg_P n x) : Met l yE_power wE_power rmE (va_Pc [.long (eL n x), .int (nI t), .int (nI n)] (fun _ => True)) (vp_Sl (fun r => r = eL n (pg_pow x t))) 0 0 (fun _ => False) := by
  refine Met.ofW (cc := prog_4_method_7_code) (maxL := 7) (ret := (some .long)) (by decide) rfl ?_
  intro p e s m args below meth c s₁ B hml hv
  have hx := B.exec
  have hb := B.bytes
  have hr := B.returns
  have ht : ∀ w ∈ TB, w.before args s = true := fun w h => atoms_spec (ws := wE_power) B.pre w (List.mem_cons_of_mem _ h)
  have hown : s.vm.findClass "PermutationDesk$Elements" = some m.cls := findClass_of_methodNamed B.named
  have hlocks := B.notSynchronized
  obtain ⟨rfl, -⟩ := hv
  have hl := lv_entry ([.long (eL n x), .int (nI t), .int (nI n)]) (n := 7) (Nat.le_of_ble_eq_true rfl)
  rw [lg_entry_eq]
  generalize (lg_sl ([.long (eL n x), .int (nI t), .int (nI n)]) ++ List.replicate (7 - (lg_sl ([.long (eL n x), .int (nI t), .int (nI n)])).length) Slot.unset).toArray = ls at hl ⊢
  have hl : lv_has ls 7 [(0, .long (eL n x)), (2, .int (nI t)), (3, .int (nI n))] := hl
  refine lv_iload_n hx hb dE_power_0 rfl (lv_at hl 2 rfl) ?_
  refine qS_l (As := [.int (nI n)]) (rest := []) ⟨hx, hb, hml, hown, ht⟩ (c_E_identity l n hn) (cB 1 ht gE_identity rfl tw_62 tw_263 (by decide +kernel) ⟨by decide, by decide⟩) tw_93 rfl hl.1 rfl (Nat.le_of_ble_eq_true rfl) dE_power_1 ⟨by decide, by decide⟩ (fun r1 h1 => ?_)
  subst h1
  refine lv_lstore hx hb dE_power_4 hl (by decide) rfl (fun ls hl => ?_)
  replace hl : lv_has ls 7 [(4, .long (eL n pg_id)), (0, .long (eL n x)), (2, .int (nI t)), (3, .int (nI n))] := hl
  refine lv_iconst (v := 0) hx hb dE_power_6 (by decide) ?_
  refine lv_topi (fun v7 e7 => ?_)
  refine lv_istore hx hb dE_power_7 hl (by decide) rfl (fun ls hl => ?_)
  replace hl : lv_has ls 7 [(6, .int v7), (4, .long (eL n pg_id)), (0, .long (eL n x)), (2, .int (nI t)), (3, .int (nI n))] := hl
  refine wl0 (σ := Nat) (I := fun d k ls => d + k = t ∧ lv_has ls 7 [(6, .int (nI k)), (4, .long (eL n (pg_pow x k))), (0, .long (eL n x)), (2, .int (nI t)), (3, .int (nI n))]) ?_ t 0 ls ⟨rfl, by rw [e7] at hl; exact hl⟩
  rintro d k ls ⟨hdk, hl⟩ ih
  refine lv_iload hx hb dE_power_9 (lv_at hl 0 rfl) ?_
  refine lv_iload_n hx hb dE_power_11 rfl (lv_at hl 3 rfl) ?_
  refine lv_icmp_ge (tgt := 30) hx hb dE_power_12 rfl (fun h => ?_) (fun h => ?_)
  · have hk : k = t := by have := (nI_leI (by omega) (by omega)).mp h; omega
    subst hk
    refine lv_lload hx hb dE_power_30 (lv_at hl 1 rfl) ?_
    exact W.lret hx hb hr (fun t h _ => ⟨_, rfl, rfl, h⟩) (fun q h => by cases h) dE_power_32
  · have hk : k < t := by
      rw [nI_leI (by omega) (by omega)] at h
      omega
    refine lv_lload hx hb dE_power_15 (lv_at hl 1 rfl) ?_
    refine lv_lload_n hx hb dE_power_17 rfl (lv_at hl 2 rfl) ?_
    refine lv_iload_n hx hb dE_power_18 rfl (lv_at hl 4 rfl) ?_
    refine qS_l (As := [.long (eL n (pg_pow x k)), .long (eL n x), .int (nI n)]) (rest := []) ⟨hx, hb, hml, hown, ht⟩ (c_E_product l n (pg_pow x k) x hn (pg_P_pow hxP k) hxP) (cB 3 ht gE_product rfl tw_62 tw_264 (by decide +kernel) ⟨by decide, by decide⟩) tw_265 rfl hl.1 rfl (Nat.le_of_ble_eq_true rfl) dE_power_19 ⟨by decide, by decide⟩ (fun r19 h19 => ?_)
    subst h19
    refine lv_lstore hx hb dE_power_22 hl (by decide) rfl (fun ls hl => ?_)
    replace hl : lv_has ls 7 [(4, .long (eL n (pg_mul (pg_pow x k) x))), (6, .int (nI k)), (0, .long (eL n x)), (2, .int (nI t)), (3, .int (nI n))] := hl
    refine lv_iinc (k := 1) (v := (nI (k + 1))) hx hb dE_power_24 hl rfl (by exact nI_1 _) (by decide) rfl (fun ls hl => ?_)
    replace hl : lv_has ls 7 [(6, .int (nI (k + 1))), (4, .long (eL n (pg_mul (pg_pow x k) x))), (0, .long (eL n x)), (2, .int (nI t)), (3, .int (nI n))] := hl
    refine lv_goto (tgt := 9) hx hb dE_power_27 rfl ?_
    exact ih (d - 1) (k + 1) ls (by omega) ⟨by omega, lv_sub hl [0, 1, 2, 3, 4] rfl⟩
set_option maxHeartbeats 1000000 in
set_option maxRecDepth 100000 in
/-- Elements.conjugate: x' y x -/
theorem c_E_conjugate (l : Launch) (n : Nat) (y x : pg_F) (hn : n ≤ 14) (hyP : pg_P n y) (hxP : pg_P n x) : Met l yE_conjugate wE_conjugate rmE (va_Pc [.long (eL n y), .long (eL n x), .int (nI n)] (fun _ => True)) (vp_Sl (fun r => r = eL n (pg_conj n y x))) 0 0 (fun _ => False) := by
  have hx9 := hxP.d4 (by omega : n ≤ 16)
  have hy9 := hyP.d4 (by omega : n ≤ 16)
  have hd := (pg_P_conj hyP hxP).d4 (by omega : n ≤ 16)
  refine Met.ofW (cc := prog_4_method_8_code) (maxL := 8) (ret := (some .long)) (by decide) rfl ?_
  intro p e s m args below meth c s₁ B hml hv
  have hx := B.exec
  have hb := B.bytes
  have hr := B.returns
  have ht : ∀ w ∈ TB, w.before args s = true := fun w h => atoms_spec (ws := wE_conjugate) B.pre w (List.mem_cons_of_mem _ h)
  have hown : s.vm.findClass "PermutationDesk$Elements" = some m.cls := findClass_of_methodNamed B.named
  have hlocks := B.notSynchronized
  obtain ⟨rfl, -⟩ := hv
  have hl := lv_entry ([.long (eL n y), .long (eL n x), .int (nI n)]) (n := 8) (Nat.le_of_ble_eq_true rfl)
  rw [lg_entry_eq]
  generalize (lg_sl ([.long (eL n y), .long (eL n x), .int (nI n)]) ++ List.replicate (8 - (lg_sl ([.long (eL n y), .long (eL n x), .int (nI n)])).length) Slot.unset).toArray = ls at hl ⊢
  have hl : lv_has ls 8 [(0, .long (eL n y)), (2, .long (eL n x)), (4, .int (nI n))] := hl
  refine lv_lconst (v := 0) hx hb dE_conjugate_0 (by decide) ?_
  refine lv_topl (fun v1 e1 => ?_)
  refine lv_lstore hx hb dE_conjugate_1 hl (by decide) rfl (fun ls hl => ?_)
  replace hl : lv_has ls 8 [(5, .long v1), (0, .long (eL n y)), (2, .long (eL n x)), (4, .int (nI n))] := hl
  refine lv_iconst (v := 0) hx hb dE_conjugate_3 (by decide) ?_
  refine lv_topi (fun v4 e4 => ?_)
  refine lv_istore hx hb dE_conjugate_4 hl (by decide) rfl (fun ls hl => ?_)
  replace hl : lv_has ls 8 [(7, .int v4), (5, .long v1), (0, .long (eL n y)), (2, .long (eL n x)), (4, .int (nI n))] := hl
  refine wl0 (σ := Nat) (I := fun d k ls => d + k = n ∧ lv_has ls 8 [(7, .int (nI k)), (5, .long (eL n (pg_sc n x (pg_conj n y x) k))), (0, .long (eL n y)), (2, .long (eL n x)), (4, .int (nI n))]) ?_ n 0 ls ⟨rfl, by rw [pg_sc_0, ← eL_0]; rw [e1, e4] at hl; exact hl⟩
  rintro d k ls ⟨hdk, hl⟩ ih
  refine lv_iload hx hb dE_conjugate_6 (lv_at hl 0 rfl) ?_
  refine lv_iload hx hb dE_conjugate_8 (lv_at hl 4 rfl) ?_
  refine lv_icmp_ge (tgt := 44) hx hb dE_conjugate_10 rfl (fun h => ?_) (fun h => ?_)
  · have hk : k = n := by have := (nI_leI (by omega) (by omega)).mp h; omega
    subst hk
    refine lv_lload hx hb dE_conjugate_44 (lv_at hl 1 rfl) ?_
    exact W.lret hx hb hr (fun t h _ => ⟨_, rfl, pg_sc_n hxP, h⟩) (fun q h => by cases h) dE_conjugate_46
  · have hk : k < n := by
      rw [nI_leI (by omega) (by omega)] at h
      omega
    refine lv_lload hx hb dE_conjugate_13 (lv_at hl 1 rfl) ?_
    refine lv_lload_n hx hb dE_conjugate_15 rfl (lv_at hl 3 rfl) ?_
    refine lv_lload_n hx hb dE_conjugate_16 rfl (lv_at hl 2 rfl) ?_
    refine lv_iload hx hb dE_conjugate_17 (lv_at hl 0 rfl) ?_
    refine qS_i (As := [.long (eL n y), .int (nI k)]) (rest := [.long (eL n x), .long (eL n (pg_sc n x (pg_conj n y x) k))]) ⟨hx, hb, hml, hown, ht⟩ (c_E_at l n k y hn hy9 hk) (cB 2 ht gE_at rfl tw_62 tw_253 (by decide +kernel) ⟨by decide, by decide⟩) tw_254 rfl hl.1 rfl (Nat.le_of_ble_eq_true rfl) dE_conjugate_19 ⟨by decide, by decide⟩ (fun r19 h19 => ?_)
    subst h19
    refine qS_i (As := [.long (eL n x), .int (nI (y k))]) (rest := [.long (eL n (pg_sc n x (pg_conj n y x) k))]) ⟨hx, hb, hml, hown, ht⟩ (c_E_at l n (y k) x hn hx9 (hyP.1 k hk)) (cB 2 ht gE_at rfl tw_62 tw_253 (by decide +kernel) ⟨by decide, by decide⟩) tw_254 rfl hl.1 rfl (Nat.le_of_ble_eq_true rfl) dE_conjugate_22 ⟨by decide, by decide⟩ (fun r22 h22 => ?_)
    subst h22
    refine lv_i2l hx hb dE_conjugate_25 rfl ?_
    refine lv_iconst (v := 4) hx hb dE_conjugate_26 (by decide) ?_
    refine lv_lload_n hx hb dE_conjugate_27 rfl (lv_at hl 3 rfl) ?_
    refine lv_iload hx hb dE_conjugate_28 (lv_at hl 0 rfl) ?_
    refine qS_i (As := [.long (eL n x), .int (nI k)]) (rest := [.int 4, .long (nI (x (y k))).toInt64, .long (eL n (pg_sc n x (pg_conj n y x) k))]) ⟨hx, hb, hml, hown, ht⟩ (c_E_at l n k x hn hx9 hk) (cB 2 ht gE_at rfl tw_62 tw_253 (by decide +kernel) ⟨by decide, by decide⟩) tw_254 rfl hl.1 rfl (Nat.le_of_ble_eq_true rfl) dE_conjugate_30 ⟨by decide, by decide⟩ (fun r30 h30 => ?_)
    subst h30
    refine lv_imul hx hb dE_conjugate_33 ?_
    refine lv_lshl hx hb dE_conjugate_34 rfl ?_
    refine lv_lor hx hb dE_conjugate_35 ?_
    refine wtl (x' := eL n (pg_sc n x (pg_conj n y x) (k + 1))) (by rw [show (4 : Int32) * nI (x k) = nI (4 * x k) from pk_mul 4 (x k), nI_l (n := x (y k)) (by have := hx9 _ (hyP.1 k hk); omega), ← pg_sc_s hxP hk (pg_conj_at hxP k)]; exact eL_or hn (pg_sc_d hd k) (hxP.1 k hk) (pg_sc_k hxP k) (hx9 _ (hyP.1 k hk))) ?_
    refine lv_lstore hx hb dE_conjugate_36 hl (by decide) rfl (fun ls hl => ?_)
    replace hl : lv_has ls 8 [(5, .long (eL n (pg_sc n x (pg_conj n y x) (k + 1)))), (7, .int (nI k)), (0, .long (eL n y)), (2, .long (eL n x)), (4, .int (nI n))] := hl
    refine lv_iinc (k := 1) (v := (nI (k + 1))) hx hb dE_conjugate_38 hl rfl (by exact nI_1 _) (by decide) rfl (fun ls hl => ?_)
    replace hl : lv_has ls 8 [(7, .int (nI (k + 1))), (5, .long (eL n (pg_sc n x (pg_conj n y x) (k + 1)))), (0, .long (eL n y)), (2, .long (eL n x)), (4, .int (nI n))] := hl
    refine lv_goto (tgt := 6) hx hb dE_conjugate_41 rfl ?_
    exact ih (d - 1) (k + 1) ls (by omega) ⟨by omega, lv_sub hl [0, 1, 2, 3, 4] rfl⟩
set_option maxHeartbeats 1000000 in
set_option maxRecDepth 100000 in
/-- Elements.commutator: x' y' x y -/
theorem c_E_commutator (l : Launch) (n : Nat) (x y : pg_F) (hn : n ≤ 14) (hxP : pg_P n x) (hyP : pg_P n y) : Met l yE_commutator wE_commutator rmE (va_Pc [.long (eL n x), .long (eL n y), .int (nI n)] (fun _ => True)) (vp_Sl (fun r => r = eL n (pg_comm n x y))) 0 0 (fun _ => False) := by
  have hx9 := hxP.d4 (by omega : n ≤ 16)
  have hy9 := hyP.d4 (by omega : n ≤ 16)
  have hd := (pg_P_comm hxP hyP).d4 (by omega : n ≤ 16)
  have huP : pg_P n (pg_mul y x) := pg_P_mul hyP hxP
  have hcm : ∀ k, pg_comm n x y (pg_mul y x k) = y (x k) := fun k => pg_comm_at hxP hyP k
  refine Met.ofW (cc := prog_4_method_9_code) (maxL := 8) (ret := (some .long)) (by decide) rfl ?_
  intro p e s m args below meth c s₁ B hml hv
  have hx := B.exec
  have hb := B.bytes
  have hr := B.returns
  have ht : ∀ w ∈ TB, w.before args s = true := fun w h => atoms_spec (ws := wE_commutator) B.pre w (List.mem_cons_of_mem _ h)
  have hown : s.vm.findClass "PermutationDesk$Elements" = some m.cls := findClass_of_methodNamed B.named
  have hlocks := B.notSynchronized
  obtain ⟨rfl, -⟩ := hv
  have hl := lv_entry ([.long (eL n x), .long (eL n y), .int (nI n)]) (n := 8) (Nat.le_of_ble_eq_true rfl)
  rw [lg_entry_eq]
  generalize (lg_sl ([.long (eL n x), .long (eL n y), .int (nI n)]) ++ List.replicate (8 - (lg_sl ([.long (eL n x), .long (eL n y), .int (nI n)])).length) Slot.unset).toArray = ls at hl ⊢
  have hl : lv_has ls 8 [(0, .long (eL n x)), (2, .long (eL n y)), (4, .int (nI n))] := hl
  refine lv_lconst (v := 0) hx hb dE_commutator_0 (by decide) ?_
  refine lv_topl (fun v1 e1 => ?_)
  refine lv_lstore hx hb dE_commutator_1 hl (by decide) rfl (fun ls hl => ?_)
  replace hl : lv_has ls 8 [(5, .long v1), (0, .long (eL n x)), (2, .long (eL n y)), (4, .int (nI n))] := hl
  refine lv_iconst (v := 0) hx hb dE_commutator_3 (by decide) ?_
  refine lv_topi (fun v4 e4 => ?_)
  refine lv_istore hx hb dE_commutator_4 hl (by decide) rfl (fun ls hl => ?_)
  replace hl : lv_has ls 8 [(7, .int v4), (5, .long v1), (0, .long (eL n x)), (2, .long (eL n y)), (4, .int (nI n))] := hl
  refine wl0 (σ := Nat) (I := fun d k ls => d + k = n ∧ lv_has ls 8 [(7, .int (nI k)), (5, .long (eL n (pg_sc n (pg_mul y x) (pg_comm n x y) k))), (0, .long (eL n x)), (2, .long (eL n y)), (4, .int (nI n))]) ?_ n 0 ls ⟨rfl, by rw [pg_sc_0, ← eL_0]; rw [e1, e4] at hl; exact hl⟩
  rintro d k ls ⟨hdk, hl⟩ ih
  refine lv_iload hx hb dE_commutator_6 (lv_at hl 0 rfl) ?_
  refine lv_iload hx hb dE_commutator_8 (lv_at hl 4 rfl) ?_
  refine lv_icmp_ge (tgt := 48) hx hb dE_commutator_10 rfl (fun h => ?_) (fun h => ?_)
  · have hk : k = n := by have := (nI_leI (by omega) (by omega)).mp h; omega
    subst hk
    refine lv_lload hx hb dE_commutator_48 (lv_at hl 1 rfl) ?_
    exact W.lret hx hb hr (fun t h _ => ⟨_, rfl, pg_sc_n huP, h⟩) (fun q h => by cases h) dE_commutator_50
  · have hk : k < n := by
      rw [nI_leI (by omega) (by omega)] at h
      omega
    refine lv_lload hx hb dE_commutator_13 (lv_at hl 1 rfl) ?_
    refine lv_lload_n hx hb dE_commutator_15 rfl (lv_at hl 3 rfl) ?_
    refine lv_lload_n hx hb dE_commutator_16 rfl (lv_at hl 2 rfl) ?_
    refine lv_iload hx hb dE_commutator_17 (lv_at hl 0 rfl) ?_
    refine qS_i (As := [.long (eL n x), .int (nI k)]) (rest := [.long (eL n y), .long (eL n (pg_sc n (pg_mul y x) (pg_comm n x y) k))]) ⟨hx, hb, hml, hown, ht⟩ (c_E_at l n k x hn hx9 hk) (cB 2 ht gE_at rfl tw_62 tw_253 (by decide +kernel) ⟨by decide, by decide⟩) tw_254 rfl hl.1 rfl (Nat.le_of_ble_eq_true rfl) dE_commutator_19 ⟨by decide, by decide⟩ (fun r19 h19 => ?_)
    subst h19
    refine qS_i (As := [.long (eL n y), .int (nI (x k))]) (rest := [.long (eL n (pg_sc n (pg_mul y x) (pg_comm n x y) k))]) ⟨hx, hb, hml, hown, ht⟩ (c_E_at l n (x k) y hn hy9 (hxP.1 k hk)) (cB 2 ht gE_at rfl tw_62 tw_253 (by decide +kernel) ⟨by decide, by decide⟩) tw_254 rfl hl.1 rfl (Nat.le_of_ble_eq_true rfl) dE_commutator_22 ⟨by decide, by decide⟩ (fun r22 h22 => ?_)
    subst h22
    refine lv_i2l hx hb dE_commutator_25 rfl ?_
    refine lv_iconst (v := 4) hx hb dE_commutator_26 (by decide) ?_
    refine lv_lload_n hx hb dE_commutator_27 rfl (lv_at hl 2 rfl) ?_
    refine lv_lload_n hx hb dE_commutator_28 rfl (lv_at hl 3 rfl) ?_
    refine lv_iload hx hb dE_commutator_29 (lv_at hl 0 rfl) ?_
    refine qS_i (As := [.long (eL n y), .int (nI k)]) (rest := [.long (eL n x), .int 4, .long (nI (y (x k))).toInt64, .long (eL n (pg_sc n (pg_mul y x) (pg_comm n x y) k))]) ⟨hx, hb, hml, hown, ht⟩ (c_E_at l n k y hn hy9 hk) (cB 2 ht gE_at rfl tw_62 tw_253 (by decide +kernel) ⟨by decide, by decide⟩) tw_254 rfl hl.1 rfl (Nat.le_of_ble_eq_true rfl) dE_commutator_31 ⟨by decide, by decide⟩ (fun r31 h31 => ?_)
    subst h31
    refine qS_i (As := [.long (eL n x), .int (nI (y k))]) (rest := [.int 4, .long (nI (y (x k))).toInt64, .long (eL n (pg_sc n (pg_mul y x) (pg_comm n x y) k))]) ⟨hx, hb, hml, hown, ht⟩ (c_E_at l n (y k) x hn hx9 (hyP.1 k hk)) (cB 2 ht gE_at rfl tw_62 tw_253 (by decide +kernel) ⟨by decide, by decide⟩) tw_254 rfl hl.1 rfl (Nat.le_of_ble_eq_true rfl) dE_commutator_34 ⟨by decide, by decide⟩ (fun r34 h34 => ?_)
    subst h34
    refine lv_imul hx hb dE_commutator_37 ?_
    refine lv_lshl hx hb dE_commutator_38 rfl ?_
    refine lv_lor hx hb dE_commutator_39 ?_
    refine wtl (x' := eL n (pg_sc n (pg_mul y x) (pg_comm n x y) (k + 1))) (by rw [show (4 : Int32) * nI (x (y k)) = nI (4 * pg_mul y x k) from pk_mul 4 (x (y k)), nI_l (n := y (x k)) (by have := hy9 _ (hxP.1 k hk); omega), ← pg_sc_s huP hk (hcm k)]; exact eL_or hn (pg_sc_d hd k) (huP.1 k hk) (pg_sc_k huP k) (hy9 _ (hxP.1 k hk))) ?_
    refine lv_lstore hx hb dE_commutator_40 hl (by decide) rfl (fun ls hl => ?_)
    replace hl : lv_has ls 8 [(5, .long (eL n (pg_sc n (pg_mul y x) (pg_comm n x y) (k + 1)))), (7, .int (nI k)), (0, .long (eL n x)), (2, .long (eL n y)), (4, .int (nI n))] := hl
    refine lv_iinc (k := 1) (v := (nI (k + 1))) hx hb dE_commutator_42 hl rfl (by exact nI_1 _) (by decide) rfl (fun ls hl => ?_)
    replace hl : lv_has ls 8 [(7, .int (nI (k + 1))), (5, .long (eL n (pg_sc n (pg_mul y x) (pg_comm n x y) (k + 1)))), (0, .long (eL n x)), (2, .long (eL n y)), (4, .int (nI n))] := hl
    refine lv_goto (tgt := 6) hx hb dE_commutator_45 rfl ?_
    exact ih (d - 1) (k + 1) ls (by omega) ⟨by omega, lv_sub hl [0, 1, 2, 3, 4] rfl⟩
set_option maxHeartbeats 1000000 in
set_option maxRecDepth 100000 in
/-- Elements.pair: two elements side by side -/
theorem c_E_pair (l : Launch) (n : Nat) (t g : pg_F) (hn : n ≤ 7) (htP : pg_P n t) (hgP : pg_P n g) : Met l yE_pair wE_pair rmE (va_Pc [.long (eL n t), .long (eL n g), .int (nI n)] (fun _ => True)) (vp_Sl (fun r => r = eL (n + n) (pg_pair n t g))) 0 0 (fun _ => False) := by
  have hg9 := hgP.d4 (by omega : n ≤ 16)
  have hpP := pg_P_pair htP hgP
  have hd := hpP.d4 (by omega : n + n ≤ 16)
  refine Met.ofW (cc := prog_4_method_10_code) (maxL := 8) (ret := (some .long)) (by decide) rfl ?_
  intro p e s m args below meth c s₁ B hml hv
  have hx := B.exec
  have hb := B.bytes
  have hr := B.returns
  have ht : ∀ w ∈ TB, w.before args s = true := fun w h => atoms_spec (ws := wE_pair) B.pre w (List.mem_cons_of_mem _ h)
  have hown : s.vm.findClass "PermutationDesk$Elements" = some m.cls := findClass_of_methodNamed B.named
  have hlocks := B.notSynchronized
  obtain ⟨rfl, -⟩ := hv
  have hl := lv_entry ([.long (eL n t), .long (eL n g), .int (nI n)]) (n := 8) (Nat.le_of_ble_eq_true rfl)
  rw [lg_entry_eq]
  generalize (lg_sl ([.long (eL n t), .long (eL n g), .int (nI n)]) ++ List.replicate (8 - (lg_sl ([.long (eL n t), .long (eL n g), .int (nI n)])).length) Slot.unset).toArray = ls at hl ⊢
  have hl : lv_has ls 8 [(0, .long (eL n t)), (2, .long (eL n g)), (4, .int (nI n))] := hl
  refine lv_lload_n hx hb dE_pair_0 rfl (lv_at hl 0 rfl) ?_
  refine lv_lstore hx hb dE_pair_1 hl (by decide) rfl (fun ls hl => ?_)
  replace hl : lv_has ls 8 [(5, .long (eL n t)), (0, .long (eL n t)), (2, .long (eL n g)), (4, .int (nI n))] := hl
  refine lv_iconst (v := 0) hx hb dE_pair_3 (by decide) ?_
  refine lv_topi (fun v4 e4 => ?_)
  refine lv_istore hx hb dE_pair_4 hl (by decide) rfl (fun ls hl => ?_)
  replace hl : lv_has ls 8 [(7, .int v4), (5, .long (eL n t)), (0, .long (eL n t)), (2, .long (eL n g)), (4, .int (nI n))] := hl
  refine wl0 (σ := Nat) (I := fun d k ls => d + k = n ∧ lv_has ls 8 [(7, .int (nI k)), (5, .long (eL (n + n) (pg_cut (pg_pair n t g) (n + k)))), (2, .long (eL n g)), (4, .int (nI n))]) ?_ n 0 ls ⟨rfl, by
    have e0 : eL n t = eL (n + n) (pg_cut (pg_pair n t g) (n + 0)) := congrArg lN (pe_zeros (fun j hj => by
      show t j = if j < n + 0 then pg_pair n t g j else 0
      rw [if_pos (by omega), pg_pair_lo hj]) (fun j hj => if_neg (by omega)) n)
    rw [e4, e0] at hl
    exact lv_sub hl [0, 1, 3, 4] rfl⟩
  rintro d k ls ⟨hdk, hl⟩ ih
  refine lv_iload hx hb dE_pair_6 (lv_at hl 0 rfl) ?_
  refine lv_iload hx hb dE_pair_8 (lv_at hl 3 rfl) ?_
  refine lv_icmp_ge (tgt := 42) hx hb dE_pair_10 rfl (fun h => ?_) (fun h => ?_)
  · have hk : k = n := by have := (nI_leI (by omega) (by omega)).mp h; omega
    subst hk
    refine lv_lload hx hb dE_pair_42 (lv_at hl 1 rfl) ?_
    exact W.lret hx hb hr (fun t h _ => ⟨_, rfl, pg_cut_n _ _, h⟩) (fun q h => by cases h) dE_pair_44
  · have hk : k < n := by
      rw [nI_leI (by omega) (by omega)] at h
      omega
    refine lv_lload hx hb dE_pair_13 (lv_at hl 1 rfl) ?_
    refine lv_iload hx hb dE_pair_15 (lv_at hl 3 rfl) ?_
    refine lv_lload_n hx hb dE_pair_17 rfl (lv_at hl 2 rfl) ?_
    refine lv_iload hx hb dE_pair_18 (lv_at hl 0 rfl) ?_
    refine qS_i (As := [.long (eL n g), .int (nI k)]) (rest := [.int (nI n), .long (eL (n + n) (pg_cut (pg_pair n t g) (n + k)))]) ⟨hx, hb, hml, hown, ht⟩ (c_E_at l n k g (by omega) hg9 hk) (cB 2 ht gE_at rfl tw_62 tw_253 (by decide +kernel) ⟨by decide, by decide⟩) tw_254 rfl hl.1 rfl (Nat.le_of_ble_eq_true rfl) dE_pair_20 ⟨by decide, by decide⟩ (fun r20 h20 => ?_)
    subst h20
    refine lv_iadd hx hb dE_pair_23 ?_
    refine lv_i2l hx hb dE_pair_24 rfl ?_
    refine lv_iconst (v := 4) hx hb dE_pair_25 (by decide) ?_
    refine lv_iload hx hb dE_pair_26 (lv_at hl 3 rfl) ?_
    refine lv_iload hx hb dE_pair_28 (lv_at hl 0 rfl) ?_
    refine lv_iadd hx hb dE_pair_30 ?_
    refine lv_imul hx hb dE_pair_31 ?_
    refine lv_lshl hx hb dE_pair_32 rfl ?_
    refine lv_lor hx hb dE_pair_33 ?_
    have hgk := hgP.1 k hk
    refine wtl (x' := eL (n + n) (pg_cut (pg_pair n t g) (n + (k + 1)))) (by
      rw [nI_add, nI_add, show (4 : Int32) * nI (n + k) = nI (4 * (n + k)) from pk_mul 4 (n + k), nI_l (n := n + g k) (by omega), show n + (k + 1) = (n + k) + 1 by omega, ← pg_cut_s, pg_pair_hi hk]
      exact eL_or (by omega) (pg_cut_d hd _) (by omega) (pg_cut_k _ _) (by omega)) ?_
    refine lv_lstore hx hb dE_pair_34 hl (by decide) rfl (fun ls hl => ?_)
    replace hl : lv_has ls 8 [(5, .long (eL (n + n) (pg_cut (pg_pair n t g) (n + (k + 1))))), (7, .int (nI k)), (2, .long (eL n g)), (4, .int (nI n))] := hl
    refine lv_iinc (k := 1) (v := (nI (k + 1))) hx hb dE_pair_36 hl rfl (by exact nI_1 _) (by decide) rfl (fun ls hl => ?_)
    replace hl : lv_has ls 8 [(7, .int (nI (k + 1))), (5, .long (eL (n + n) (pg_cut (pg_pair n t g) (n + (k + 1))))), (2, .long (eL n g)), (4, .int (nI n))] := hl
    refine lv_goto (tgt := 6) hx hb dE_pair_39 rfl ?_
    exact ih (d - 1) (k + 1) ls (by omega) ⟨by omega, lv_sub hl [0, 1, 2, 3] rfl⟩
set_option maxHeartbeats 1000000 in
set_option maxRecDepth 100000 in
/-- Elements.secondOf -/
theorem c_E_secondOf (l : Launch) (n : Nat) (t g : pg_F) (hn : n ≤ 7) (htP : pg_P n t) (hgP : pg_P n g) : Met l yE_secondOf wE_secondOf rmE (va_Pc [.long (eL (n + n) (pg_pair n t g)), .int (nI n)] (fun _ => True)) (vp_Sl (fun r => r = eL n g)) 0 0 (fun _ => False) := by
  have hd := hgP.d4 (by omega : n ≤ 16)
  have hpP := pg_P_pair htP hgP
  have hp9 := hpP.d4 (by omega : n + n ≤ 16)
  refine Met.ofW (cc := prog_4_method_11_code) (maxL := 6) (ret := (some .long)) (by decide) rfl ?_
  intro p e s m args below meth c s₁ B hml hv
  have hx := B.exec
  have hb := B.bytes
  have hr := B.returns
  have ht : ∀ w ∈ TB, w.before args s = true := fun w h => atoms_spec (ws := wE_secondOf) B.pre w (List.mem_cons_of_mem _ h)
  have hown : s.vm.findClass "PermutationDesk$Elements" = some m.cls := findClass_of_methodNamed B.named
  have hlocks := B.notSynchronized
  obtain ⟨rfl, -⟩ := hv
  have hl := lv_entry ([.long (eL (n + n) (pg_pair n t g)), .int (nI n)]) (n := 6) (Nat.le_of_ble_eq_true rfl)
  rw [lg_entry_eq]
  generalize (lg_sl ([.long (eL (n + n) (pg_pair n t g)), .int (nI n)]) ++ List.replicate (6 - (lg_sl ([.long (eL (n + n) (pg_pair n t g)), .int (nI n)])).length) Slot.unset).toArray = ls at hl ⊢
  have hl : lv_has ls 6 [(0, .long (eL (n + n) (pg_pair n t g))), (2, .int (nI n))] := hl
  refine lv_lconst (v := 0) hx hb dE_secondOf_0 (by decide) ?_
  refine lv_topl (fun v1 e1 => ?_)
  refine lv_lstore_n hx hb dE_secondOf_1 rfl hl (by decide) rfl (fun ls hl => ?_)
  replace hl : lv_has ls 6 [(3, .long v1), (0, .long (eL (n + n) (pg_pair n t g))), (2, .int (nI n))] := hl
  refine lv_iconst (v := 0) hx hb dE_secondOf_2 (by decide) ?_
  refine lv_topi (fun v3 e3 => ?_)
  refine lv_istore hx hb dE_secondOf_3 hl (by decide) rfl (fun ls hl => ?_)
  replace hl : lv_has ls 6 [(5, .int v3), (3, .long v1), (0, .long (eL (n + n) (pg_pair n t g))), (2, .int (nI n))] := hl
  refine wl0 (σ := Nat) (I := fun d k ls => d + k = n ∧ lv_has ls 6 [(5, .int (nI k)), (3, .long (eL n (pg_cut g k))), (0, .long (eL (n + n) (pg_pair n t g))), (2, .int (nI n))]) ?_ n 0 ls ⟨rfl, by rw [pg_cut_0, ← eL_0]; rw [e1, e3] at hl; exact hl⟩
  rintro d k ls ⟨hdk, hl⟩ ih
  refine lv_iload hx hb dE_secondOf_5 (lv_at hl 0 rfl) ?_
  refine lv_iload_n hx hb dE_secondOf_7 rfl (lv_at hl 3 rfl) ?_
  refine lv_icmp_ge (tgt := 36) hx hb dE_secondOf_8 rfl (fun h => ?_) (fun h => ?_)
  · have hk : k = n := by have := (nI_leI (by omega) (by omega)).mp h; omega
    subst hk
    refine lv_lload_n hx hb dE_secondOf_36 rfl (lv_at hl 1 rfl) ?_
    exact W.lret hx hb hr (fun t h _ => ⟨_, rfl, pg_cut_n k g, h⟩) (fun q h => by cases h) dE_secondOf_37
  · have hk : k < n := by
      rw [nI_leI (by omega) (by omega)] at h
      omega
    refine lv_lload_n hx hb dE_secondOf_11 rfl (lv_at hl 1 rfl) ?_
    refine lv_lload_n hx hb dE_secondOf_12 rfl (lv_at hl 2 rfl) ?_
    refine lv_iload_n hx hb dE_secondOf_13 rfl (lv_at hl 3 rfl) ?_
    refine lv_iload hx hb dE_secondOf_14 (lv_at hl 0 rfl) ?_
    refine lv_iadd hx hb dE_secondOf_16 ?_
    refine wti (x' := nI (n + k)) (nI_add n k) ?_
    refine qS_i (As := [.long (eL (n + n) (pg_pair n t g)), .int (nI (n + k))]) (rest := [.long (eL n (pg_cut g k))]) ⟨hx, hb, hml, hown, ht⟩ (c_E_at l (n + n) (n + k) (pg_pair n t g) (by omega) hp9 (by omega)) (cB 2 ht gE_at rfl tw_62 tw_253 (by decide +kernel) ⟨by decide, by decide⟩) tw_254 rfl hl.1 rfl (Nat.le_of_ble_eq_true rfl) dE_secondOf_17 ⟨by decide, by decide⟩ (fun r17 h17 => ?_)
    rw [pg_pair_hi hk] at h17
    subst h17
    have hgk := hgP.1 k hk
    refine lv_iload_n hx hb dE_secondOf_20 rfl (lv_at hl 3 rfl) ?_
    refine lv_isub hx hb dE_secondOf_21 ?_
    refine lv_i2l hx hb dE_secondOf_22 rfl ?_
    refine lv_iconst (v := 4) hx hb dE_secondOf_23 (by decide) ?_
    refine lv_iload hx hb dE_secondOf_24 (lv_at hl 0 rfl) ?_
    refine lv_imul hx hb dE_secondOf_26 ?_
    refine lv_lshl hx hb dE_secondOf_27 rfl ?_
    refine lv_lor hx hb dE_secondOf_28 ?_
    refine wtl (x' := eL n (pg_cut g (k + 1))) (by
      rw [pk_sub (by omega), show (4 : Int32) * nI k = nI (4 * k) from pk_mul 4 k, show n + g k - n = g k by omega, nI_l (n := g k) (by omega), ← pg_cut_s]
      exact eL_or (by omega) (pg_cut_d hd _) hk (pg_cut_k _ _) (by omega)) ?_
    refine lv_lstore_n hx hb dE_secondOf_29 rfl hl (by decide) rfl (fun ls hl => ?_)
    replace hl : lv_has ls 6 [(3, .long (eL n (pg_cut g (k + 1)))), (5, .int (nI k)), (0, .long (eL (n + n) (pg_pair n t g))), (2, .int (nI n))] := hl
    refine lv_iinc (k := 1) (v := (nI (k + 1))) hx hb dE_secondOf_30 hl rfl (by exact nI_1 _) (by decide) rfl (fun ls hl => ?_)
    replace hl : lv_has ls 6 [(5, .int (nI (k + 1))), (3, .long (eL n (pg_cut g (k + 1)))), (0, .long (eL (n + n) (pg_pair n t g))), (2, .int (nI n))] := hl
    refine lv_goto (tgt := 5) hx hb dE_secondOf_33 rfl ?_
    exact ih (d - 1) (k + 1) ls (by omega) ⟨by omega, lv_sub hl [0, 1, 2, 3] rfl⟩
