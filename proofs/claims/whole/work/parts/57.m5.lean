/-! The reference: homomorphisms. -/
/-- images of ranks, as far as they are spread: those below k have met all c generators, the k-th one those below m -/
def pg_spr (n c : Nat) (t g : Nat → pg_F) (many k m : Nat) (ag : Bool) (I : Nat → Option pg_F) (qr : Nat → Nat) (X : Nat → pg_F) : Prop :=
  (0 < many ∧ X 0 = pg_id ∧ qr 0 = 0 ∧ I 0 = some pg_id) ∧ many = (List.range (pg_fac n)).countP (fun r => (I r).isSome) ∧ (∀ j, j < many → (pg_all n)[qr j]? = some (X j) ∧ ∃ y, I (qr j) = some y ∧ pg_P n y ∧ pg_Gen (pg_PS n c t g) (pg_pair n y (X j))) ∧ (∀ r y, r < pg_fac n → I r = some y → ∃ j, j < many ∧ qr j = r) ∧ (ag = true → ∀ j i, i < c → (j < k ∨ (j = k ∧ i < m)) → j < many → ∃ r, (pg_all n)[r]? = some (pg_mul (X j) (g i)) ∧ I r = (I (qr j)).map (fun y => pg_mul y (t i))) ∧ (ag = false → ¬ pg_hom n c t g)
theorem pg_spr_0 {n c : Nat} {t g : Nat → pg_F} {I : Nat → Option pg_F} {qr : Nat → Nat} {X : Nat → pg_F} (hI : ∀ r, I r = if r = 0 then some pg_id else none) (hq : qr 0 = 0) (hX : X 0 = pg_id) : pg_spr n c t g 1 0 0 true I qr X := by
  have hI0 : I 0 = some pg_id := by rw [hI, if_pos rfl]
  refine ⟨⟨by decide, hX, hq, hI0⟩, ?_, fun j hj => ?_, fun r y hr h => ?_, fun _ j i _ h => by omega, fun h => by cases h⟩
  · rw [← pg_count_one (pg_fac_pos n)]
    refine List.countP_congr (fun r _ => ?_)
    rw [hI]
    by_cases e : r = 0
    · rw [if_pos e, decide_eq_true e]; exact ⟨fun _ => rfl, fun _ => rfl⟩
    · rw [if_neg e, decide_eq_false e]; exact ⟨fun h => (by cases h), fun h => (by cases h)⟩
  · rw [show j = 0 by omega, hq, hX]
    refine ⟨pg_all_0 n, pg_id, hI0, pg_P_id n, ?_⟩
    rw [pg_pair_id]
    exact pg_Gen.one
  · rw [hI] at h
    by_cases e : r = 0
    · exact ⟨0, by decide, by rw [hq, e]⟩
    · rw [if_neg e] at h; cases h
theorem pg_spr.many {n c : Nat} {t g : Nat → pg_F} {many k m : Nat} {ag : Bool} {I : Nat → Option pg_F} {qr : Nat → Nat} {X : Nat → pg_F} (h : pg_spr n c t g many k m ag I qr X) : many ≤ pg_fac n := by
  rw [h.2.1]
  have := List.countP_le_length (p := fun r => (I r).isSome) (l := List.range (pg_fac n))
  rw [List.length_range] at this
  exact this
/-- the pair that the k-th element and the m-th generator make -/
theorem pg_spr.pair {n c : Nat} {t g : Nat → pg_F} {many k m : Nat} {ag : Bool} {I : Nat → Option pg_F} {qr : Nat → Nat} {X : Nat → pg_F} (h : pg_spr n c t g many k m ag I qr X) (ht : ∀ k, k < c → pg_P n (t k)) (hg : ∀ k, k < c → pg_P n (g k)) (hk : k < many) (hm : m < c) {y : pg_F} (hy : I (qr k) = some y) : pg_P n y ∧ pg_P n (X k) ∧ pg_Gen (pg_PS n c t g) (pg_pair n (pg_mul y (t m)) (pg_mul (X k) (g m))) := by
  obtain ⟨h1, y', h2, h3, h4⟩ := h.2.2.1 k hk
  rw [hy] at h2
  cases h2
  have hX := (pg_all_P h1).1
  refine ⟨h3, hX, ?_⟩
  rw [← pg_pair_mul h3 hX (ht m hm) (hg m hm)]
  exact pg_Gen.step h4 ⟨m, hm, rfl⟩
theorem pg_spr_old {n c : Nat} {t g : Nat → pg_F} {many k m : Nat} {ag ag' : Bool} {I : Nat → Option pg_F} {qr : Nat → Nat} {X : Nat → pg_F} (h : pg_spr n c t g many k m ag I qr X) (ht : ∀ k, k < c → pg_P n (t k)) (hg : ∀ k, k < c → pg_P n (g k)) (hk : k < many) (hm : m < c) {r : Nat} {y y' : pg_F} (hr : (pg_all n)[r]? = some (pg_mul (X k) (g m))) (hy : I (qr k) = some y) (hy' : I r = some y') (ha1 : ag' = true → ag = true ∧ y' = pg_mul y (t m)) (ha0 : ag' = false → ag = false ∨ y' ≠ pg_mul y (t m)) : pg_spr n c t g many k (m + 1) ag' I qr X := by
  obtain ⟨p1, p2, p3⟩ := h.pair ht hg hk hm hy
  obtain ⟨a1, a2, a3, a4, a5, a6⟩ := h
  refine ⟨a1, a2, a3, a4, fun e j i hi hji hj => ?_, fun e hh => ?_⟩
  · obtain ⟨e1, e2⟩ := ha1 e
    by_cases q : j = k ∧ i = m
    · obtain ⟨rfl, rfl⟩ := q
      exact ⟨r, hr, by rw [hy', hy, e2]; rfl⟩
    · exact a5 e1 j i hi (by omega) hj
  · rcases ha0 e with e1 | e1
    · exact a6 e1 hh
    · obtain ⟨j, hj, hq⟩ := a4 r y' (pg_all_P hr).2 hy'
      obtain ⟨b1, y2, b2, b3, b4⟩ := a3 j hj
      rw [hq, hr] at b1
      rw [hq, hy'] at b2
      cases b2
      rw [← Option.some.inj b1] at b4
      exact e1 (hh _ _ _ b3 (pg_P_mul p1 (ht m hm)) (pg_P_mul p2 (hg m hm)) b4 p3)
theorem pg_spr_new {n c : Nat} {t g : Nat → pg_F} {many k m : Nat} {ag : Bool} {I : Nat → Option pg_F} {qr qr' : Nat → Nat} {X X' : Nat → pg_F} (h : pg_spr n c t g many k m ag I qr X) (ht : ∀ k, k < c → pg_P n (t k)) (hg : ∀ k, k < c → pg_P n (g k)) (hk : k < many) (hm : m < c) {r : Nat} {y : pg_F} (hr : (pg_all n)[r]? = some (pg_mul (X k) (g m))) (hy : I (qr k) = some y) (hn : I r = none) (hq : ∀ j, j < many → qr' j = qr j) (hq2 : qr' many = r) (hX : ∀ j, j < many → X' j = X j) (hX2 : X' many = pg_mul (X k) (g m)) : pg_spr n c t g (many + 1) k (m + 1) ag (va_up I r (some (pg_mul y (t m)))) qr' X' ∧ many < pg_fac n := by
  obtain ⟨p1, p2, p3⟩ := h.pair ht hg hk hm hy
  have hm0 := h
  obtain ⟨⟨a0, a01, a02, a03⟩, a2, a3, a4, a5, a6⟩ := h
  have hrl := (pg_all_P hr).2
  have hcnt : (List.range (pg_fac n)).countP (fun q => (va_up I r (some (pg_mul y (t m))) q).isSome) = (List.range (pg_fac n)).countP (fun q => (I q).isSome) + 1 :=
    pg_count1 (List.range (pg_fac n)) r List.nodup_range (List.mem_range.mpr hrl) (by rw [hn]; rfl) (by rw [va_up_self]; rfl) (fun b hne => by rw [va_up_ne _ _ hne])
  have hlt : many < pg_fac n := by
    have := List.countP_le_length (p := fun q => (va_up I r (some (pg_mul y (t m))) q).isSome) (l := List.range (pg_fac n))
    rw [List.length_range] at this
    omega
  have hup : ∀ q w, I q = some w → va_up I r (some (pg_mul y (t m))) q = some w := by
    intro q w hw
    rw [va_up_ne _ _ (fun e => by rw [e, hn] at hw; cases hw)]
    exact hw
  refine ⟨⟨⟨by omega, by rw [hX 0 a0]; exact a01, by rw [hq 0 a0]; exact a02, hup _ _ a03⟩, by rw [hcnt, a2], fun j hj => ?_, fun q w hq9 hw => ?_, fun e j i hi hji hj => ?_, a6⟩, hlt⟩
  · by_cases e : j = many
    · rw [e, hq2, hX2]
      exact ⟨hr, _, va_up_self _ _ _, pg_P_mul p1 (ht m hm), p3⟩
    · obtain ⟨b1, w, b2, b3, b4⟩ := a3 j (by omega)
      rw [hq j (by omega), hX j (by omega)]
      exact ⟨b1, w, hup _ _ b2, b3, b4⟩
  · by_cases e : q = r
    · exact ⟨many, by omega, by rw [hq2, e]⟩
    · rw [va_up_ne _ _ e] at hw
      obtain ⟨j, hj, e2⟩ := a4 q w hq9 hw
      exact ⟨j, by omega, by rw [hq j hj, e2]⟩
  · have hjm : j < many := by omega
    rw [hX j hjm, hq j hjm]
    by_cases q : j = k ∧ i = m
    · obtain ⟨rfl, rfl⟩ := q
      refine ⟨r, hr, ?_⟩
      rw [va_up_self, hup _ _ hy]
      rfl
    · obtain ⟨r2, c1, c2⟩ := a5 e j i hi (by omega) hjm
      obtain ⟨b1, w, b2, b3, b4⟩ := a3 j hjm
      refine ⟨r2, c1, ?_⟩
      rw [b2] at c2
      rw [hup _ _ b2]
      exact hup _ _ c2
theorem pg_spr_next {n c : Nat} {t g : Nat → pg_F} {many k : Nat} {ag : Bool} {I : Nat → Option pg_F} {qr : Nat → Nat} {X : Nat → pg_F} (h : pg_spr n c t g many k c ag I qr X) : pg_spr n c t g many (k + 1) 0 ag I qr X := by
  obtain ⟨a1, a2, a3, a4, a5, a6⟩ := h
  exact ⟨a1, a2, a3, a4, fun e j i hi hji hj => a5 e j i hi (by omega) hj, a6⟩
theorem pg_spr_done {n c : Nat} {t g : Nat → pg_F} {many k m : Nat} {I : Nat → Option pg_F} {qr : Nat → Nat} {X : Nat → pg_F} (h : pg_spr n c t g many k m true I qr X) (hk : many ≤ k) (ht : ∀ k, k < c → pg_P n (t k)) (hg : ∀ k, k < c → pg_P n (g k)) : pg_hom n c t g ∧ ∀ r x, (pg_all n)[r]? = some x → (I r = some pg_id ↔ aKer n c t g x) := by
  obtain ⟨⟨a0, a01, a02, a03⟩, a2, a3, a4, a5, a6⟩ := h
  have hat : ∀ r x y, (pg_all n)[r]? = some x → I r = some y → ∃ j, j < many ∧ qr j = r ∧ X j = x := by
    intro r x y h1 h2
    obtain ⟨j, hj, e⟩ := a4 r y (pg_all_P h1).2 h2
    obtain ⟨b1, -⟩ := a3 j hj
    rw [e, h1] at b1
    exact ⟨j, hj, e, (Option.some.inj b1).symm⟩
  have hstep : ∀ r x y i, (pg_all n)[r]? = some x → I r = some y → i < c → ∃ r', (pg_all n)[r']? = some (pg_mul x (g i)) ∧ I r' = some (pg_mul y (t i)) := by
    intro r x y i h1 h2 hi
    obtain ⟨j, hj, e, rfl⟩ := hat r x y h1 h2
    obtain ⟨r', c1, c2⟩ := a5 rfl j i hi (by omega) hj
    rw [e, h2] at c2
    exact ⟨r', c1, c2⟩
  have hdom : ∀ x, pg_Gen (pg_GS c g) x → ∃ r y, (pg_all n)[r]? = some x ∧ I r = some y := by
    intro x hx
    refine hx (fun x => ∃ r y, (pg_all n)[r]? = some x ∧ I r = some y) ⟨0, pg_id, pg_all_0 n, a03⟩ ?_
    rintro a s ⟨r, y, h1, h2⟩ ⟨i, hi, rfl⟩
    obtain ⟨r', c1, c2⟩ := hstep r a y i h1 h2 hi
    exact ⟨r', _, c1, c2⟩
  obtain ⟨φ, hφ⟩ : ∃ φ : pg_F → pg_F, ∀ r x y, (pg_all n)[r]? = some x → I r = some y → φ x = y := by
    refine ⟨fun x => (I (Classical.epsilon (fun r => (pg_all n)[r]? = some x))).getD pg_id, fun r x y h1 h2 => ?_⟩
    have h3 := Classical.epsilon_spec (p := fun r => (pg_all n)[r]? = some x) ⟨r, h1⟩
    have h4 := pg_all_inj h1 h3
    show (I (Classical.epsilon (fun r => (pg_all n)[r]? = some x))).getD pg_id = y
    rw [← h4, h2]
    rfl
  obtain ⟨e1, e2⟩ := pg_hom_of ht hg (φ := φ) (hφ 0 pg_id pg_id (pg_all_0 n) a03) (fun x i hx hi => by
    obtain ⟨r, y, h1, h2⟩ := hdom x hx
    obtain ⟨r', c1, c2⟩ := hstep r x y i h1 h2 hi
    rw [hφ r' _ _ c1 c2, hφ r x y h1 h2])
  refine ⟨e1, fun r x hr => ⟨fun h => ?_, fun h => ?_⟩⟩
  · obtain ⟨j, hj, e, rfl⟩ := hat r x _ hr h
    obtain ⟨-, y, b2, -, b4⟩ := a3 j hj
    rw [e, h] at b2
    cases b2
    exact ⟨(pg_all_P hr).1, b4⟩
  · obtain ⟨c1, c2⟩ := (e2 x h.1).mp h.2
    obtain ⟨r', y, h1, h2⟩ := hdom x c1
    have := pg_all_inj hr h1
    rw [this, h2, ← c2, hφ r' x y h1 h2]
set_option maxHeartbeats 1000000 in
set_option maxRecDepth 100000 in
theorem c_M_hasAll (l : Launch) (D : va_G) (z : Nat → ClassId) (d : Nat → Nat) (n : Nat) {cd : Int32} {ty : Nat} {ft : Nat → Int32} {gc : Nat} {fg fo fh : Nat → Int32} {fs ff : Nat → Int64} {fq : Nat → Int32} {mk : Nat} {fm fi : Nat → Int32} {de ps : Nat} {re : Int32} {go : Bool} {kd pr fa fr : Nat → Int32} (hgc : gc ≤ 6) (tg : Nat → Option pg_F) (hfh : ∀ i, i < gc → fh i = bI (tg i).isSome) : Met l yM_hasAll wM_hasAll (rmF 0) (va_Pc [.ref (d 0)] (fun U => va_P D vC (mW z d n cd ty ft gc fg fo fh fs ff fq mk fm fi de ps re go kd pr fa fr) U.heap ∧ va_K D vC (tyL z) U)) (vp_Si (fun r => ∃ b : Bool, r = bI b ∧ (b = true ↔ ∀ k, k < gc → tg k ≠ none))) 0 0 (fun _ => False) := by
  refine Met.ofW (cc := prog_9_method_35_code) (maxL := 3) (ret := (some .boolean)) (by decide) rfl ?_
  intro p e s m args below meth c s₁ B hml hv
  have hx := B.exec
  have hb := B.bytes
  have hr := B.returns
  have ht : ∀ w ∈ TB, w.before args s = true := fun w h => atoms_spec (ws := wM_hasAll) B.pre w (List.mem_cons_of_mem _ h)
  have hown : s.vm.findClass "PermutationDeskModel" = some m.cls := findClass_of_methodNamed B.named
  have hlocks := B.notSynchronized
  obtain ⟨rfl, hP, hK⟩ := hv
  have hl := lv_entry ([.ref (d 0)]) (n := 3) (Nat.le_of_ble_eq_true rfl)
  rw [lg_entry_eq]
  generalize (lg_sl ([.ref (d 0)]) ++ List.replicate (3 - (lg_sl ([.ref (d 0)])).length) Slot.unset).toArray = ls at hl ⊢
  have hl : lv_has ls 3 [(0, .ref (d 0))] := hl
  refine lv_iconst (v := 1) hx hb dM_hasAll_0 (by decide) ?_
  refine lv_istore_n hx hb dM_hasAll_1 rfl hl (by decide) rfl (fun ls hl => ?_)
  replace hl : lv_has ls 3 [(1, .int (bI true)), (0, .ref (d 0))] := hl
  refine lv_iconst (v := 0) hx hb dM_hasAll_2 (by decide) ?_
  refine lv_istore_n hx hb dM_hasAll_3 rfl hl (by decide) rfl (fun ls hl => ?_)
  replace hl : lv_has ls 3 [(2, .int (nI 0)), (1, .int (bI true)), (0, .ref (d 0))] := hl
  refine wl0 (σ := Nat × Bool) (I := fun q st ls => q + st.1 = gc ∧ (st.2 = true ↔ ∀ k, k < st.1 → tg k ≠ none) ∧ lv_has ls 3 [(2, .int (nI st.1)), (1, .int (bI st.2)), (0, .ref (d 0))]) ?_ gc (0, true) ls ⟨rfl, ⟨fun _ k hk => absurd hk (Nat.not_lt_zero k), fun _ => rfl⟩, hl⟩
  rintro q ⟨k, b⟩ ls ⟨hdk, hb9, hl⟩ ih
  replace hdk : q + k = gc := hdk
  replace hb9 : b = true ↔ ∀ j, j < k → tg j ≠ none := hb9
  replace hl : lv_has ls 3 [(2, .int (nI k)), (1, .int (bI b)), (0, .ref (d 0))] := hl
  refine lv_iload_n hx hb dM_hasAll_4 rfl (lv_at hl 0 rfl) ?_
  refine lv_aload_n hx hb dM_hasAll_5 rfl (lv_at hl 2 rfl) ?_
  refine va_get (ci := 5) (C := RM) (T := TM) (N := 26) hx hb ht inM hown hK hP 0 rfl rfl 8 (by decide) (ht _ tw_657) (fun _ h9 => h9) rfl dM_hasAll_6 ?_
  refine lv_icmp_ge (tgt := 37) hx hb dM_hasAll_9 rfl (fun h => ?_) (fun h => ?_)
  · have hk : k = gc := by have := (nI_leI (by omega) (by omega)).mp h; omega
    subst hk
    refine lv_iload_n hx hb dM_hasAll_37 rfl (lv_at hl 1 rfl) ?_
    cases b with
    | false => exact W.zret (v := 0) hx hb hr rfl (fun t h _ => ⟨_, rfl, ⟨false, rfl, hb9⟩, h⟩) (fun q h => by cases h) dM_hasAll_38
    | true => exact W.zret (v := 1) hx hb hr rfl (fun t h _ => ⟨_, rfl, ⟨true, rfl, hb9⟩, h⟩) (fun q h => by cases h) dM_hasAll_38
  have hk : k < gc := by
    rw [nI_leI (by omega) (by omega)] at h
    omega
  refine wj (σ := Unit) (pc := 29) (I := fun _ H1 locs1 ls1 => H1 = s.heap ∧ locs1 = [] ∧ ls = ls1 ∧ ¬ ∀ j, j < k + 1 → tg j ≠ none) ?_ (fun jn => ?_)
  · rintro - H1 locs1 ls1 ⟨rfl, rfl, rfl, hno⟩
    refine lv_iconst (v := 0) hx hb dM_hasAll_29 (by decide) ?_
    refine lv_istore_n hx hb dM_hasAll_30 rfl hl (by decide) rfl (fun ls hl => ?_)
    replace hl : lv_has ls 3 [(1, .int (bI false)), (2, .int (nI k)), (0, .ref (d 0))] := hl
    refine lv_iinc (k := 1) (v := (nI (k + 1))) hx hb dM_hasAll_31 hl rfl (by exact nI_1 _) (by decide) rfl (fun ls hl => ?_)
    replace hl : lv_has ls 3 [(2, .int (nI (k + 1))), (1, .int (bI false)), (0, .ref (d 0))] := hl
    refine lv_goto (tgt := 4) hx hb dM_hasAll_34 rfl ?_
    exact ih (q - 1) (k + 1, false) ls (by omega) ⟨by show q - 1 + (k + 1) = gc; omega, ⟨fun e9 => (by cases e9), fun e9 => absurd e9 hno⟩, lv_sub hl [0, 1, 2] rfl⟩
  refine lv_iload_n hx hb dM_hasAll_12 rfl (lv_at hl 1 rfl) ?_
  refine lv_if_eq (tgt := 29) hx hb dM_hasAll_13 rfl (fun h13 => ?_) (fun h13 => ?_)
  · refine jn () _ _ ls ⟨rfl, rfl, rfl, fun q9 => ?_⟩
    have : b = true := hb9.mpr (fun j hj => q9 j (by omega))
    rw [this] at h13
    exact absurd h13 (by decide)
  have hbt : b = true := by
    cases b with
    | true => rfl
    | false => exact absurd rfl h13
  refine lv_aload_n hx hb dM_hasAll_16 rfl (lv_at hl 2 rfl) ?_
  refine va_get (ci := 5) (C := RM) (T := TM) (N := 26) hx hb ht inM hown hK hP 0 rfl rfl 11 (by decide) (ht _ tw_660) (fun _ h9 => h9) rfl dM_hasAll_17 ?_
  refine lv_iload_n hx hb dM_hasAll_20 rfl (lv_at hl 0 rfl) ?_
  refine va_zald hx hb hK hP 7 4 rfl rfl (vp_in_nI (N := 6) (by omega) (by decide)) dM_hasAll_21 ?_
  refine wti (x' := bI (tg k).isSome) (by rw [nI_clamp (by omega)]; exact hfh k hk) ?_
  refine lv_if_eq (tgt := 29) hx hb dM_hasAll_22 rfl (fun h22 => ?_) (fun h22 => ?_)
  · refine jn () _ _ ls ⟨rfl, rfl, rfl, fun q9 => ?_⟩
    cases e9 : tg k with
    | none => exact q9 k (by omega) e9
    | some x => rw [e9] at h22; exact absurd h22 (show ¬ bI true = 0 by decide)
  refine lv_iconst (v := 1) hx hb dM_hasAll_25 (by decide) ?_
  refine lv_goto (tgt := 30) hx hb dM_hasAll_26 rfl ?_
  refine lv_istore_n hx hb dM_hasAll_30 rfl hl (by decide) rfl (fun ls hl => ?_)
  replace hl : lv_has ls 3 [(1, .int (bI true)), (2, .int (nI k)), (0, .ref (d 0))] := hl
  refine lv_iinc (k := 1) (v := (nI (k + 1))) hx hb dM_hasAll_31 hl rfl (by exact nI_1 _) (by decide) rfl (fun ls hl => ?_)
  replace hl : lv_has ls 3 [(2, .int (nI (k + 1))), (1, .int (bI true)), (0, .ref (d 0))] := hl
  refine lv_goto (tgt := 4) hx hb dM_hasAll_34 rfl ?_
  refine ih (q - 1) (k + 1, true) ls (by omega) ⟨by show q - 1 + (k + 1) = gc; omega, ⟨fun _ j hj => ?_, fun _ => rfl⟩, lv_sub hl [0, 1, 2] rfl⟩
  replace hj : j < k + 1 := hj
  by_cases e8 : j = k
  · rw [e8]
    intro e9
    rw [e9] at h22
    exact h22 rfl
  · exact hb9.mp hbt j (by omega)
theorem oI_P {n c : Nat} {t g : Nat → pg_F} {many k m : Nat} {ag : Bool} {I : Nat → Option pg_F} {qr : Nat → Nat} {X : Nat → pg_F} (h : pg_spr n c t g many k m ag I qr X) {r : Nat} (hr : r < pg_fac n) : ∀ x, I r = some x → pg_P n x := by
  intro x hx
  obtain ⟨j, hj, e⟩ := h.2.2.2.1 r x hr hx
  obtain ⟨-, y, b2, b3, -⟩ := h.2.2.1 j hj
  rw [e, hx] at b2
  cases b2
  exact b3
set_option maxHeartbeats 4000000 in
set_option maxRecDepth 100000 in
theorem c_M_spread (l : Launch) (D : va_G) (z : Nat → ClassId) (d : Nat → Nat) (n : Nat) {cd : Int32} {ty : Nat} {ft : Nat → Int32} {gc : Nat} {fg fo fh : Nat → Int32} {fs ff : Nat → Int64} {fq : Nat → Int32} {mk : Nat} {fm fi : Nat → Int32} {de ps : Nat} {re : Int32} {go : Bool} {kd pr fa fr : Nat → Int32} (sz : Nat) (hn : n ≤ 7) (hgc : gc ≤ 6) (g t : Nat → pg_F) (hg : ∀ i, i < gc → pg_P n (g i) ∧ fg i = eI n (g i)) (ht : ∀ i, i < gc → pg_P n (t i) ∧ fo i = eI n (t i)) : Met l yM_spread wM_spread (rmF 2) (va_Pc [.ref (d 0)] (fun U => U.heap.size = sz ∧ va_P D vC (mW z d n cd ty ft gc fg fo fh fs ff fq mk fm fi de ps re go kd pr fa fr) U.heap ∧ va_K D vC (tyL z) U ∧ va_D (fun _ => True) (mW z d n cd ty ft gc fg fo fh fs ff fq mk fm fi de ps re go kd pr fa fr))) (va_Qi (fun r (u : (Nat → Int32) × (Nat → Int32)) => ∃ b : Bool, r = bI b ∧ (b = true ↔ pg_hom n gc t g) ∧ (b = true → ∀ r x, (pg_all n)[r]? = some x → (u.2 r = eI n pg_id ↔ aKer n gc t g x))) (fun u t => va_P D vC (mW z d n cd ty ft gc fg fo fh fs ff u.1 mk fm u.2 de ps re go kd pr fa fr) t.heap ∧ va_D (va_A (mW z d n cd ty ft gc fg fo fh fs ff fq mk fm fi de ps re go kd pr fa fr) sz) (mW z d n cd ty ft gc fg fo fh fs ff u.1 mk fm u.2 de ps re go kd pr fa fr)) (va_A (mW z d n cd ty ft gc fg fo fh fs ff fq mk fm fi de ps re go kd pr fa fr) sz)) 0 0 (va_A (mW z d n cd ty ft gc fg fo fh fs ff fq mk fm fi de ps re go kd pr fa fr) sz) := by
  have hfac := pg_fac_le n hn
  have hgP : ∀ i, i < gc → pg_P n (g i) := fun i hi => (hg i hi).1
  have htP : ∀ i, i < gc → pg_P n (t i) := fun i hi => (ht i hi).1
  have hT9 := ht
  refine Met.ofW (cc := prog_9_method_36_code) (maxL := 8) (ret := (some .boolean)) (by decide) rfl ?_
  intro p e s m args below meth c s₁ B hml hv
  have hx := B.exec
  have hb := B.bytes
  have hr := B.returns
  have ht : ∀ w ∈ TB, w.before args s = true := fun w h => atoms_spec (ws := wM_spread) B.pre w (List.mem_cons_of_mem _ h)
  have hown : s.vm.findClass "PermutationDeskModel" = some m.cls := findClass_of_methodNamed B.named
  have hlocks := B.notSynchronized
  obtain ⟨rfl, hsz, hP, hK, hD0⟩ := hv
  subst hsz
  have hD := hD0.self (sz := s.heap.size)
  generalize hAe : va_A (mW z d n cd ty ft gc fg fo fh fs ff fq mk fm fi de ps re go kd pr fa fr) s.heap.size = A at hD ⊢
  have hA : ∀ q : Nat, s.heap.size ≤ q → A q := fun q h => by rw [← hAe]; exact Or.inr h
  have hS : va_S A s.heap s.heap [] := va_S.rf
  have hl := lv_entry ([.ref (d 0)]) (n := 8) (Nat.le_of_ble_eq_true rfl)
  rw [lg_entry_eq]
  generalize (lg_sl ([.ref (d 0)]) ++ List.replicate (8 - (lg_sl ([.ref (d 0)])).length) Slot.unset).toArray = ls at hl ⊢
  have hl : lv_has ls 8 [(0, .ref (d 0))] := hl
  refine lv_iconst (v := 0) hx hb dM_spread_0 (by decide) ?_
  refine lv_istore_n hx hb dM_spread_1 rfl hl (by decide) rfl (fun ls hl => ?_)
  replace hl : lv_has ls 8 [(1, .int (nI 0)), (0, .ref (d 0))] := hl
  -- no image yet
  refine wl (σ := Nat × (Nat → Int32)) (I := fun q st H locs ls => q + st.1 = pg_fac n ∧ (∀ j, j < st.1 → st.2 j = -1) ∧ va_P D vC (mW z d n cd ty ft gc fg fo fh fs ff fq mk fm st.2 de ps re go kd pr fa fr) H ∧ va_D A (mW z d n cd ty ft gc fg fo fh fs ff fq mk fm st.2 de ps re go kd pr fa fr) ∧ va_S A s.heap H locs ∧ lv_has ls 8 [(1, .int (nI st.1)), (0, .ref (d 0))]) ?_ (pg_fac n) (0, fi) _ _ ls ⟨rfl, fun j hj => absurd hj (Nat.not_lt_zero j), hP, hD, hS, hl⟩
  clear hP hD hS hl
  rintro q ⟨k, i9⟩ H locs ls ⟨hdk, hz, hP, hD, hS, hl⟩ ih
  replace hdk : q + k = pg_fac n := hdk
  replace hz : ∀ j, j < k → i9 j = -1 := hz
  replace hP : va_P D vC (mW z d n cd ty ft gc fg fo fh fs ff fq mk fm i9 de ps re go kd pr fa fr) H := hP
  replace hD : va_D A (mW z d n cd ty ft gc fg fo fh fs ff fq mk fm i9 de ps re go kd pr fa fr) := hD
  replace hl : lv_has ls 8 [(1, .int (nI k)), (0, .ref (d 0))] := hl
  refine lv_iload_n hx hb dM_spread_2 rfl (lv_at hl 0 rfl) ?_
  refine lv_aload_n hx hb dM_spread_3 rfl (lv_at hl 1 rfl) ?_
  refine va_get (ci := 5) (C := RM) (T := TM) (N := 26) hx hb ht inM hown hK hP 0 rfl rfl 1 (by decide) (ht _ tw_650) (fun _ h9 => h9) rfl dM_spread_4 ?_
  refine lv_icmp_ge (tgt := 23) hx hb dM_spread_7 rfl (fun h => ?_) (fun h => ?_)
  rotate_left
  · have hk : k < pg_fac n := by
      rw [nI_leI (by omega) (by omega)] at h
      omega
    refine lv_aload_n hx hb dM_spread_10 rfl (lv_at hl 1 rfl) ?_
    refine va_get (ci := 5) (C := RM) (T := TM) (N := 26) hx hb ht inM hown hK hP 0 rfl rfl 17 (by decide) (ht _ tw_666) (fun _ h9 => h9) rfl dM_spread_11 ?_
    refine lv_iload_n hx hb dM_spread_14 rfl (lv_at hl 0 rfl) ?_
    refine lv_iconst (v := (-1)) hx hb dM_spread_15 (by decide) ?_
    refine va_iast hx hb hK hP hD hS 12 1 rfl rfl (vp_in_nI (N := 5040) (by omega) (by decide)) dM_spread_16 (fun H locs hP hD hS => ?_)
    rw [nI_clamp (by omega)] at hP hD
    refine lv_iinc (k := 0) (v := (nI (k + 1))) hx hb dM_spread_17 hl rfl (by exact nI_1 _) (by decide) rfl (fun ls hl => ?_)
    replace hl : lv_has ls 8 [(1, .int (nI (k + 1))), (0, .ref (d 0))] := hl
    refine lv_goto (tgt := 2) hx hb dM_spread_20 rfl ?_
    refine ih (q - 1) (k + 1, upd i9 k (-1)) _ _ ls (by omega) ⟨by show q - 1 + (k + 1) = pg_fac n; omega, fun j hj => ?_, hP, hD, hS, lv_sub hl [0, 1] rfl⟩
    replace hj : j < k + 1 := hj
    show upd i9 k (-1) j = -1
    by_cases e : j = k
    · rw [e]; exact pk_us
    · rw [pk_un e]; exact hz j (by omega)
  have hk : k = pg_fac n := by have := (nI_leI (by omega) (by omega)).mp h; omega
  subst hk
  clear ih h
  refine lv_aload_n hx hb dM_spread_23 rfl (lv_at hl 1 rfl) ?_
  refine va_get (ci := 5) (C := RM) (T := TM) (N := 26) hx hb ht inM hown hK hP 0 rfl rfl 17 (by decide) (ht _ tw_666) (fun _ h9 => h9) rfl dM_spread_24 ?_
  refine lv_iconst (v := 0) hx hb dM_spread_27 (by decide) ?_
  refine lv_aload_n hx hb dM_spread_28 rfl (lv_at hl 1 rfl) ?_
  refine va_get (ci := 5) (C := RM) (T := TM) (N := 26) hx hb ht inM hown hK hP 0 rfl rfl 3 (by decide) (ht _ tw_652) (fun _ h9 => h9) rfl dM_spread_29 ?_
  refine lv_iconst (v := 0) hx hb dM_spread_32 (by decide) ?_
  refine va_iald hx hb hK hP 1 1 rfl rfl (vp_in_nI (n := 0) (N := 5040) (by decide) (by decide)) dM_spread_33 ?_
  refine wti (x' := eI n pg_id) (mL_0 n) ?_
  refine va_iast hx hb hK hP hD hS 12 1 rfl rfl (vp_in_nI (n := 0) (N := 5040) (by decide) (by decide)) dM_spread_34 (fun H locs hP hD hS => ?_)
  have hP : va_P D vC (mW z d n cd ty ft gc fg fo fh fs ff fq mk fm (upd i9 0 (eI n pg_id)) de ps re go kd pr fa fr) H := hP
  have hD : va_D A (mW z d n cd ty ft gc fg fo fh fs ff fq mk fm (upd i9 0 (eI n pg_id)) de ps re go kd pr fa fr) := hD
  refine lv_aload_n hx hb dM_spread_35 rfl (lv_at hl 1 rfl) ?_
  refine va_get (ci := 5) (C := RM) (T := TM) (N := 26) hx hb ht inM hown hK hP 0 rfl rfl 14 (by decide) (ht _ tw_663) (fun _ h9 => h9) rfl dM_spread_36 ?_
  refine lv_iconst (v := 0) hx hb dM_spread_39 (by decide) ?_
  refine lv_iconst (v := 0) hx hb dM_spread_40 (by decide) ?_
  refine va_iast hx hb hK hP hD hS 10 1 rfl rfl (vp_in_nI (n := 0) (N := 5040) (by decide) (by decide)) dM_spread_41 (fun H locs hP hD hS => ?_)
  have hP : va_P D vC (mW z d n cd ty ft gc fg fo fh fs ff (upd fq 0 (nI 0)) mk fm (upd i9 0 (eI n pg_id)) de ps re go kd pr fa fr) H := hP
  have hD : va_D A (mW z d n cd ty ft gc fg fo fh fs ff (upd fq 0 (nI 0)) mk fm (upd i9 0 (eI n pg_id)) de ps re go kd pr fa fr) := hD
  refine lv_iconst (v := 1) hx hb dM_spread_42 (by decide) ?_
  refine lv_istore_n hx hb dM_spread_43 rfl hl (by decide) rfl (fun ls hl => ?_)
  replace hl : lv_has ls 8 [(1, .int (nI 1)), (0, .ref (d 0))] := hl
  refine lv_iconst (v := 1) hx hb dM_spread_44 (by decide) ?_
  refine lv_istore_n hx hb dM_spread_45 rfl hl (by decide) rfl (fun ls hl => ?_)
  replace hl : lv_has ls 8 [(2, .int (bI true)), (1, .int (nI 1)), (0, .ref (d 0))] := hl
  refine lv_iconst (v := 0) hx hb dM_spread_46 (by decide) ?_
  refine lv_istore_n hx hb dM_spread_47 rfl hl (by decide) rfl (fun ls hl => ?_)
  replace hl : lv_has ls 8 [(3, .int (nI 0)), (2, .int (bI true)), (1, .int (nI 1)), (0, .ref (d 0))] := hl
  refine wl (σ := Nat × Nat × Bool × (Nat → Option pg_F) × (Nat → Nat) × (Nat → pg_F) × (Nat → Int32) × (Nat → Int32)) (I := fun q st H locs ls => q + st.2.1 = pg_fac n ∧ st.2.1 ≤ st.1 ∧ pg_spr n gc t g st.1 st.2.1 0 st.2.2.1 st.2.2.2.1 st.2.2.2.2.1 st.2.2.2.2.2.1 ∧ (∀ j, j < st.1 → st.2.2.2.2.2.2.1 j = nI (st.2.2.2.2.1 j)) ∧ (∀ r, r < pg_fac n → st.2.2.2.2.2.2.2 r = oI n (st.2.2.2.1 r)) ∧ va_P D vC (mW z d n cd ty ft gc fg fo fh fs ff st.2.2.2.2.2.2.1 mk fm st.2.2.2.2.2.2.2 de ps re go kd pr fa fr) H ∧ va_D A (mW z d n cd ty ft gc fg fo fh fs ff st.2.2.2.2.2.2.1 mk fm st.2.2.2.2.2.2.2 de ps re go kd pr fa fr) ∧ va_S A s.heap H locs ∧ lv_has ls 8 [(3, .int (nI st.2.1)), (2, .int (bI st.2.2.1)), (1, .int (nI st.1)), (0, .ref (d 0))]) ?_ (pg_fac n) (1, 0, true, (fun r => if r = 0 then some pg_id else none), (fun _ => 0), (fun _ => pg_id), upd fq 0 (nI 0), upd i9 0 (eI n pg_id)) _ _ ls ⟨rfl, Nat.zero_le _, pg_spr_0 (fun _ => rfl) rfl rfl, (fun j hj => by
    replace hj : j < 1 := hj
    show upd fq 0 (nI 0) j = nI 0
    rw [show j = 0 by omega]; exact pk_us), (fun r hr9 => by
    show upd i9 0 (eI n pg_id) r = oI n (if r = 0 then some pg_id else none)
    by_cases e : r = 0
    · rw [e, if_pos rfl]; exact pk_us
    · rw [if_neg e, pk_un e]; exact hz r hr9), hP, hD, hS, hl⟩
  clear hP hD hS hl hz hdk
  rintro q ⟨many, k, ag, I, qr, X, q9, i9⟩ H locs ls ⟨hdk, hkm, hsp, hq9, hi9, hP, hD, hS, hl⟩ ih
  replace hdk : q + k = pg_fac n := hdk
  replace hkm : k ≤ many := hkm
  replace hsp : pg_spr n gc t g many k 0 ag I qr X := hsp
  replace hq9 : ∀ j, j < many → q9 j = nI (qr j) := hq9
  replace hi9 : ∀ r, r < pg_fac n → i9 r = oI n (I r) := hi9
  replace hP : va_P D vC (mW z d n cd ty ft gc fg fo fh fs ff q9 mk fm i9 de ps re go kd pr fa fr) H := hP
  replace hD : va_D A (mW z d n cd ty ft gc fg fo fh fs ff q9 mk fm i9 de ps re go kd pr fa fr) := hD
  replace hl : lv_has ls 8 [(3, .int (nI k)), (2, .int (bI ag)), (1, .int (nI many)), (0, .ref (d 0))] := hl
  have hm9 := hsp.many
  refine wj (σ := Unit) (pc := 204) (I := fun _ H1 locs1 ls1 => H = H1 ∧ locs = locs1 ∧ ls = ls1 ∧ (ag = false ∨ many ≤ k)) ?_ (fun jn => ?_)
  · rintro - H1 locs1 ls1 ⟨rfl, rfl, rfl, hend⟩
    refine lv_iload_n hx hb dM_spread_204 rfl (lv_at hl 1 rfl) ?_
    cases ag with
    | false => exact W.zret (v := 0) hx hb hr rfl (fun t9 ht hW => ⟨⟨_, (q9, i9), rfl, ⟨false, rfl, ⟨fun e9 => (by cases e9), fun e9 => absurd e9 (hsp.2.2.2.2.2 rfl)⟩, fun e9 => (by cases e9)⟩, by rw [ht]; exact hP, hD⟩, hS.F ht⟩) hS.2.2 dM_spread_205
    | true =>
      obtain ⟨b1, b2⟩ := pg_spr_done hsp (hend.resolve_left (by decide)) htP hgP
      refine W.zret (v := 1) hx hb hr rfl (fun t9 ht hW => ⟨⟨_, (q9, i9), rfl, ⟨true, rfl, ⟨fun _ => b1, fun _ => rfl⟩, fun _ r x hr9 => ?_⟩, by rw [ht]; exact hP, hD⟩, hS.F ht⟩) hS.2.2 dM_spread_205
      have hrl := (pg_all_P hr9).2
      rw [← b2 r x hr9]
      show i9 r = eI n pg_id ↔ I r = some pg_id
      rw [hi9 r hrl]
      have hIP := oI_P hsp hrl
      cases e9 : I r with
      | none => exact ⟨fun e8 => absurd e8.symm (eI_ne hn ((pg_P_id n).d3 (by omega))), fun e8 => by cases e8⟩
      | some y => exact ⟨fun e8 => by rw [eI_inj hn (hIP y e9) (pg_P_id n) e8], fun e8 => by rw [Option.some.inj e8]; rfl⟩
  refine lv_iload_n hx hb dM_spread_48 rfl (lv_at hl 0 rfl) ?_
  refine lv_iload_n hx hb dM_spread_49 rfl (lv_at hl 2 rfl) ?_
  refine lv_icmp_ge (tgt := 204) hx hb dM_spread_50 rfl (fun h50 => ?_) (fun h50 => ?_)
  · have := (nI_leI (by omega) (by omega)).mp h50
    exact jn () _ _ ls ⟨rfl, rfl, rfl, Or.inr this⟩
  have hk : k < many := by
    rw [nI_leI (by omega) (by omega)] at h50
    omega
  refine lv_iload_n hx hb dM_spread_53 rfl (lv_at hl 1 rfl) ?_
  refine lv_if_eq (tgt := 204) hx hb dM_spread_54 rfl (fun h54 => ?_) (fun h54 => ?_)
  · refine jn () _ _ ls ⟨rfl, rfl, rfl, Or.inl ?_⟩
    cases ag with
    | false => rfl
    | true => exact absurd h54 (by decide)
  clear jn
  refine lv_iconst (v := 0) hx hb dM_spread_57 (by decide) ?_
  refine lv_istore hx hb dM_spread_58 hl (by decide) rfl (fun ls hl => ?_)
  replace hl : lv_has ls 8 [(4, .int (nI 0)), (3, .int (nI k)), (2, .int (bI ag)), (1, .int (nI many)), (0, .ref (d 0))] := hl
  refine wl (σ := Nat × Nat × Bool × (Nat → Option pg_F) × (Nat → Nat) × (Nat → pg_F) × (Nat → Int32) × (Nat → Int32)) (pc := 60) (I := fun q st H locs ls => q + st.2.1 = gc ∧ k < st.1 ∧ pg_spr n gc t g st.1 k st.2.1 st.2.2.1 st.2.2.2.1 st.2.2.2.2.1 st.2.2.2.2.2.1 ∧ (∀ j, j < st.1 → st.2.2.2.2.2.2.1 j = nI (st.2.2.2.2.1 j)) ∧ (∀ r, r < pg_fac n → st.2.2.2.2.2.2.2 r = oI n (st.2.2.2.1 r)) ∧ va_P D vC (mW z d n cd ty ft gc fg fo fh fs ff st.2.2.2.2.2.2.1 mk fm st.2.2.2.2.2.2.2 de ps re go kd pr fa fr) H ∧ va_D A (mW z d n cd ty ft gc fg fo fh fs ff st.2.2.2.2.2.2.1 mk fm st.2.2.2.2.2.2.2 de ps re go kd pr fa fr) ∧ va_S A s.heap H locs ∧ lv_has ls 8 [(4, .int (nI st.2.1)), (3, .int (nI k)), (2, .int (bI st.2.2.1)), (1, .int (nI st.1)), (0, .ref (d 0))]) ?_ gc (many, 0, ag, I, qr, X, q9, i9) _ _ ls ⟨rfl, hk, hsp, hq9, hi9, hP, hD, hS, hl⟩
  clear hP hD hS hl hsp hq9 hi9 hm9 hk hkm h50 h54
  rintro q2 ⟨many, i, ag, I, qr, X, q9, i9⟩ H locs ls ⟨hdi, hk, hsp, hq9, hi9, hP, hD, hS, hl⟩ ih2
  replace hdi : q2 + i = gc := hdi
  replace hk : k < many := hk
  replace hsp : pg_spr n gc t g many k i ag I qr X := hsp
  replace hq9 : ∀ j, j < many → q9 j = nI (qr j) := hq9
  replace hi9 : ∀ r, r < pg_fac n → i9 r = oI n (I r) := hi9
  replace hP : va_P D vC (mW z d n cd ty ft gc fg fo fh fs ff q9 mk fm i9 de ps re go kd pr fa fr) H := hP
  replace hD : va_D A (mW z d n cd ty ft gc fg fo fh fs ff q9 mk fm i9 de ps re go kd pr fa fr) := hD
  replace hl : lv_has ls 8 [(4, .int (nI i)), (3, .int (nI k)), (2, .int (bI ag)), (1, .int (nI many)), (0, .ref (d 0))] := hl
  have hm9 := hsp.many
  refine lv_iload hx hb dM_spread_60 (lv_at hl 0 rfl) ?_
  refine lv_aload_n hx hb dM_spread_62 rfl (lv_at hl 4 rfl) ?_
  refine va_get (ci := 5) (C := RM) (T := TM) (N := 26) hx hb ht inM hown hK hP 0 rfl rfl 8 (by decide) (ht _ tw_657) (fun _ h9 => h9) rfl dM_spread_63 ?_
  refine lv_icmp_ge (tgt := 198) hx hb dM_spread_66 rfl (fun h => ?_) (fun h => ?_)
  · have hk9 : i = gc := by have := (nI_leI (by omega) (by omega)).mp h; omega
    rw [hk9] at hsp
    refine lv_iinc (k := 1) (v := (nI (k + 1))) hx hb dM_spread_198 hl rfl (by exact nI_1 _) (by decide) rfl (fun ls hl => ?_)
    replace hl : lv_has ls 8 [(3, .int (nI (k + 1))), (4, .int (nI i)), (2, .int (bI ag)), (1, .int (nI many)), (0, .ref (d 0))] := hl
    refine lv_goto (tgt := 48) hx hb dM_spread_201 rfl ?_
    exact ih (q - 1) (many, k + 1, ag, I, qr, X, q9, i9) _ _ ls (by omega) ⟨by show q - 1 + (k + 1) = pg_fac n; omega, hk, pg_spr_next hsp, hq9, hi9, hP, hD, hS, lv_sub hl [0, 2, 3, 4] rfl⟩
  have hi8 : i < gc := by
    rw [nI_leI (by omega) (by omega)] at h
    omega
  obtain ⟨hXr, y, hIy, hyP, -⟩ := hsp.2.2.1 k hk
  obtain ⟨hXP, hqk⟩ := pg_all_P hXr
  obtain ⟨-, -, hpair⟩ := hsp.pair htP hgP hk hi8 hIy
  refine lv_aload_n hx hb dM_spread_69 rfl (lv_at hl 4 rfl) ?_
  refine lv_aload_n hx hb dM_spread_70 rfl (lv_at hl 4 rfl) ?_
  refine va_get (ci := 5) (C := RM) (T := TM) (N := 26) hx hb ht inM hown hK hP 0 rfl rfl 3 (by decide) (ht _ tw_652) (fun _ h9 => h9) rfl dM_spread_71 ?_
  refine lv_aload_n hx hb dM_spread_74 rfl (lv_at hl 4 rfl) ?_
  refine va_get (ci := 5) (C := RM) (T := TM) (N := 26) hx hb ht inM hown hK hP 0 rfl rfl 14 (by decide) (ht _ tw_663) (fun _ h9 => h9) rfl dM_spread_75 ?_
  refine lv_iload_n hx hb dM_spread_78 rfl (lv_at hl 1 rfl) ?_
  refine va_iald hx hb hK hP 10 1 rfl rfl (vp_in_nI (N := 5040) (by omega) (by decide)) dM_spread_79 ?_
  refine wti (x' := nI (qr k)) (by rw [nI_clamp (by omega)]; exact hq9 k hk) ?_
  refine va_iald hx hb hK hP 1 1 rfl rfl (vp_in_nI (N := 5040) (by omega) (by decide)) dM_spread_80 ?_
  refine wti (x' := eI n (X k)) (by rw [nI_clamp (by omega)]; exact mL_at hXr) ?_
  refine lv_aload_n hx hb dM_spread_81 rfl (lv_at hl 4 rfl) ?_
  refine va_get (ci := 5) (C := RM) (T := TM) (N := 26) hx hb ht inM hown hK hP 0 rfl rfl 9 (by decide) (ht _ tw_658) (fun _ h9 => h9) rfl dM_spread_82 ?_
  refine lv_iload hx hb dM_spread_85 (lv_at hl 0 rfl) ?_
  refine va_iald hx hb hK hP 5 1 rfl rfl (vp_in_nI (N := 6) (by omega) (by decide)) dM_spread_87 ?_
  refine wti (x' := eI n (g i)) (by rw [nI_clamp (by omega)]; exact (hg i hi8).2) ?_
  refine qV_i (ci := 5) (q0 := 0) (As := [.int (eI n (X k)), .int (eI n (g i))]) (rest := []) ⟨hx, hb, hml, hown, ht⟩ (c_M_times l D z d n (X k) (g i) hn hXP (hgP i hi8)) (cB 2 ht gM_times rfl tw_64 tw_761 (by decide +kernel) ⟨by decide, by decide⟩) tw_763 tw_34 hK (hP) rfl rfl rfl hl.1 rfl (Nat.le_of_ble_eq_true rfl) dM_spread_88 ⟨by decide, by decide⟩ (fun r88 h88 => ?_)
  subst h88
  refine lv_istore hx hb dM_spread_91 hl (by decide) rfl (fun ls hl => ?_)
  replace hl : lv_has ls 8 [(5, .int (eI n (pg_mul (X k) (g i)))), (4, .int (nI i)), (3, .int (nI k)), (2, .int (bI ag)), (1, .int (nI many)), (0, .ref (d 0))] := hl
  refine lv_aload_n hx hb dM_spread_93 rfl (lv_at hl 5 rfl) ?_
  refine lv_iload hx hb dM_spread_94 (lv_at hl 0 rfl) ?_
  refine qV_i (ci := 5) (q0 := 0) (As := [.int (eI n (pg_mul (X k) (g i)))]) (rest := []) ⟨hx, hb, hml, hown, ht⟩ (c_M_rankOf l D z d n (pg_mul (X k) (g i)) hn (pg_P_mul hXP (hgP i hi8))) (cB 1 ht gM_rankOf rfl tw_64 tw_824 (by decide +kernel) ⟨by decide, by decide⟩) tw_826 tw_48 hK (hP) rfl rfl rfl hl.1 rfl (Nat.le_of_ble_eq_true rfl) dM_spread_96 ⟨by decide, by decide⟩ (fun r96 h96 => ?_)
  obtain ⟨r, rfl, hr9⟩ := h96
  have hrl := (pg_all_P hr9).2
  refine lv_istore hx hb dM_spread_99 hl (by decide) rfl (fun ls hl => ?_)
  replace hl : lv_has ls 8 [(6, .int (nI r)), (5, .int (eI n (pg_mul (X k) (g i)))), (4, .int (nI i)), (3, .int (nI k)), (2, .int (bI ag)), (1, .int (nI many)), (0, .ref (d 0))] := hl
  refine lv_aload_n hx hb dM_spread_101 rfl (lv_at hl 6 rfl) ?_
  refine lv_aload_n hx hb dM_spread_102 rfl (lv_at hl 6 rfl) ?_
  refine va_get (ci := 5) (C := RM) (T := TM) (N := 26) hx hb ht inM hown hK hP 0 rfl rfl 17 (by decide) (ht _ tw_666) (fun _ h9 => h9) rfl dM_spread_103 ?_
  refine lv_aload_n hx hb dM_spread_106 rfl (lv_at hl 6 rfl) ?_
  refine va_get (ci := 5) (C := RM) (T := TM) (N := 26) hx hb ht inM hown hK hP 0 rfl rfl 14 (by decide) (ht _ tw_663) (fun _ h9 => h9) rfl dM_spread_107 ?_
  refine lv_iload_n hx hb dM_spread_110 rfl (lv_at hl 3 rfl) ?_
  refine va_iald hx hb hK hP 10 1 rfl rfl (vp_in_nI (N := 5040) (by omega) (by decide)) dM_spread_111 ?_
  refine wti (x' := nI (qr k)) (by rw [nI_clamp (by omega)]; exact hq9 k hk) ?_
  refine va_iald hx hb hK hP 12 1 rfl rfl (vp_in_nI (N := 5040) (by omega) (by decide)) dM_spread_112 ?_
  refine wti (x' := eI n y) (by rw [nI_clamp (by omega), hi9 _ hqk, hIy]; rfl) ?_
  refine lv_aload_n hx hb dM_spread_113 rfl (lv_at hl 6 rfl) ?_
  refine va_get (ci := 5) (C := RM) (T := TM) (N := 26) hx hb ht inM hown hK hP 0 rfl rfl 10 (by decide) (ht _ tw_659) (fun _ h9 => h9) rfl dM_spread_114 ?_
  refine lv_iload hx hb dM_spread_117 (lv_at hl 2 rfl) ?_
  refine va_iald hx hb hK hP 6 1 rfl rfl (vp_in_nI (N := 6) (by omega) (by decide)) dM_spread_119 ?_
  refine wti (x' := eI n (t i)) (by rw [nI_clamp (by omega)]; exact (hT9 i hi8).2) ?_
  refine qV_i (ci := 5) (q0 := 0) (As := [.int (eI n y), .int (eI n (t i))]) (rest := []) ⟨hx, hb, hml, hown, ht⟩ (c_M_times l D z d n y (t i) hn hyP (htP i hi8)) (cB 2 ht gM_times rfl tw_64 tw_761 (by decide +kernel) ⟨by decide, by decide⟩) tw_763 tw_34 hK (hP) rfl rfl rfl hl.1 rfl (Nat.le_of_ble_eq_true rfl) dM_spread_120 ⟨by decide, by decide⟩ (fun r120 h120 => ?_)
  subst h120
  have hytP := pg_P_mul hyP (htP i hi8)
  have hIrP := oI_P hsp hrl
  refine lv_istore hx hb dM_spread_123 hl (by decide) rfl (fun ls hl => ?_)
  replace hl : lv_has ls 8 [(7, .int (eI n (pg_mul y (t i)))), (6, .int (nI r)), (5, .int (eI n (pg_mul (X k) (g i)))), (4, .int (nI i)), (3, .int (nI k)), (2, .int (bI ag)), (1, .int (nI many)), (0, .ref (d 0))] := hl
  obtain ⟨ag', hag'⟩ : ∃ ag', ag' = (ag && (decide (oI n (I r) = -1) || decide (oI n (I r) = eI n (pg_mul y (t i))))) := ⟨_, rfl⟩
  -- do they agree
  refine wj (σ := Unit) (pc := 158) (I := fun _ H1 locs1 ls1 => H = H1 ∧ locs = locs1 ∧ lv_has ls1 8 [(2, .int (bI ag')), (7, .int (eI n (pg_mul y (t i)))), (6, .int (nI r)), (4, .int (nI i)), (3, .int (nI k)), (1, .int (nI many)), (0, .ref (d 0))]) ?_ (fun jn => ?_)
  · clear hl
    rintro - H1 locs1 ls1 ⟨rfl, rfl, hl⟩
    refine lv_aload_n hx hb dM_spread_158 rfl (lv_at hl 6 rfl) ?_
    refine va_get (ci := 5) (C := RM) (T := TM) (N := 26) hx hb ht inM hown hK hP 0 rfl rfl 17 (by decide) (ht _ tw_666) (fun _ h9 => h9) rfl dM_spread_159 ?_
    refine lv_iload hx hb dM_spread_162 (lv_at hl 2 rfl) ?_
    refine va_iald hx hb hK hP 12 1 rfl rfl (vp_in_nI (N := 5040) (by omega) (by decide)) dM_spread_164 ?_
    refine wti (x' := oI n (I r)) (by rw [nI_clamp (by omega)]; exact hi9 r hrl) ?_
    refine lv_iconst (v := (-1)) hx hb dM_spread_165 (by decide) ?_
    refine lv_icmp_eq (tgt := 172) hx hb dM_spread_166 rfl (fun h166 => ?_) (fun h166 => ?_)
    · have hIr := (oI_none hn hIrP).mp h166
      have hagg : ag' = ag := by rw [hag', decide_eq_true h166, Bool.true_or, Bool.and_true]
      rw [hagg] at hl
      obtain ⟨hnew, hlt⟩ := pg_spr_new (qr' := va_up qr many r) (X' := va_up X many (pg_mul (X k) (g i))) hsp htP hgP hk hi8 hr9 hIy hIr (fun j hj => va_up_ne _ _ (by omega)) (va_up_self _ _ _) (fun j hj => va_up_ne _ _ (by omega)) (va_up_self _ _ _)
      refine lv_aload_n hx hb dM_spread_172 rfl (lv_at hl 6 rfl) ?_
      refine va_get (ci := 5) (C := RM) (T := TM) (N := 26) hx hb ht inM hown hK hP 0 rfl rfl 17 (by decide) (ht _ tw_666) (fun _ h9 => h9) rfl dM_spread_173 ?_
      refine lv_iload hx hb dM_spread_176 (lv_at hl 2 rfl) ?_
      refine lv_iload hx hb dM_spread_178 (lv_at hl 1 rfl) ?_
      refine va_iast hx hb hK hP hD hS 12 1 rfl rfl (vp_in_nI (N := 5040) (by omega) (by decide)) dM_spread_180 (fun H locs hP hD hS => ?_)
      rw [nI_clamp (by omega)] at hP hD
      replace hP : va_P D vC (mW z d n cd ty ft gc fg fo fh fs ff q9 mk fm (upd i9 r (eI n (pg_mul y (t i)))) de ps re go kd pr fa fr) H := hP
      replace hD : va_D A (mW z d n cd ty ft gc fg fo fh fs ff q9 mk fm (upd i9 r (eI n (pg_mul y (t i)))) de ps re go kd pr fa fr) := hD
      refine lv_aload_n hx hb dM_spread_181 rfl (lv_at hl 6 rfl) ?_
      refine va_get (ci := 5) (C := RM) (T := TM) (N := 26) hx hb ht inM hown hK hP 0 rfl rfl 14 (by decide) (ht _ tw_663) (fun _ h9 => h9) rfl dM_spread_182 ?_
      refine lv_iload_n hx hb dM_spread_185 rfl (lv_at hl 5 rfl) ?_
      refine lv_iload hx hb dM_spread_186 (lv_at hl 2 rfl) ?_
      refine va_iast hx hb hK hP hD hS 10 1 rfl rfl (vp_in_nI (N := 5040) (by omega) (by decide)) dM_spread_188 (fun H locs hP hD hS => ?_)
      rw [nI_clamp (by omega)] at hP hD
      refine lv_iinc (k := 5) (v := (nI (many + 1))) hx hb dM_spread_189 hl rfl (by exact nI_1 _) (by decide) rfl (fun ls hl => ?_)
      replace hl : lv_has ls 8 [(1, .int (nI (many + 1))), (2, .int (bI ag)), (7, .int (eI n (pg_mul y (t i)))), (6, .int (nI r)), (4, .int (nI i)), (3, .int (nI k)), (0, .ref (d 0))] := hl
      refine lv_iinc (k := 4) (v := (nI (i + 1))) hx hb dM_spread_192 hl rfl (by exact nI_1 _) (by decide) rfl (fun ls hl => ?_)
      replace hl : lv_has ls 8 [(4, .int (nI (i + 1))), (1, .int (nI (many + 1))), (2, .int (bI ag)), (7, .int (eI n (pg_mul y (t i)))), (6, .int (nI r)), (3, .int (nI k)), (0, .ref (d 0))] := hl
      refine lv_goto (tgt := 60) hx hb dM_spread_195 rfl ?_
      refine ih2 (q2 - 1) (many + 1, i + 1, ag, va_up I r (some (pg_mul y (t i))), va_up qr many r, va_up X many (pg_mul (X k) (g i)), upd q9 many (nI r), upd i9 r (eI n (pg_mul y (t i)))) _ _ ls (by omega) ⟨by show q2 - 1 + (i + 1) = gc; omega, by show k < many + 1; omega, hnew, fun j hj => ?_, fun r2 hr2 => ?_, hP, hD, hS, lv_sub hl [0, 5, 2, 1, 6] rfl⟩
      · replace hj : j < many + 1 := hj
        show upd q9 many (nI r) j = nI (va_up qr many r j)
        by_cases e : j = many
        · rw [e, pk_us, va_up_self]
        · rw [pk_un e, va_up_ne _ _ e]; exact hq9 j (by omega)
      · show upd i9 r (eI n (pg_mul y (t i))) r2 = oI n (va_up I r (some (pg_mul y (t i))) r2)
        by_cases e : r2 = r
        · rw [e, pk_us, va_up_self]; rfl
        · rw [pk_un e, va_up_ne _ _ e]; exact hi9 r2 hr2
    cases hIr : I r with
    | none => rw [hIr] at h166; exact absurd rfl h166
    | some y' =>
      have hy'P := hIrP y' hIr
      have hold := pg_spr_old (ag' := ag') hsp htP hgP hk hi8 hr9 hIy hIr (fun e9 => by
        rw [hag', decide_eq_false h166, Bool.false_or, Bool.and_eq_true, hIr] at e9
        exact ⟨e9.1, eI_inj hn hy'P hytP (of_decide_eq_true e9.2)⟩) (fun e9 => by
        rw [hag', decide_eq_false h166, Bool.false_or, Bool.and_eq_false_iff, hIr] at e9
        rcases e9 with e9 | e9
        · exact Or.inl e9
        · exact Or.inr (fun e8 => (of_decide_eq_false e9) (by rw [e8]; rfl)))
      refine lv_goto (tgt := 192) hx hb dM_spread_169 rfl ?_
      refine lv_iinc (k := 3) (v := (nI (i + 1))) hx hb dM_spread_192 hl rfl (by exact nI_1 _) (by decide) rfl (fun ls hl => ?_)
      replace hl : lv_has ls 8 [(4, .int (nI (i + 1))), (2, .int (bI ag')), (7, .int (eI n (pg_mul y (t i)))), (6, .int (nI r)), (3, .int (nI k)), (1, .int (nI many)), (0, .ref (d 0))] := hl
      refine lv_goto (tgt := 60) hx hb dM_spread_195 rfl ?_
      exact ih2 (q2 - 1) (many, i + 1, ag', I, qr, X, q9, i9) _ _ ls (by omega) ⟨by show q2 - 1 + (i + 1) = gc; omega, hk, hold, hq9, hi9, hP, hD, hS, lv_sub hl [0, 4, 1, 5, 6] rfl⟩
  -- no
  refine wj (σ := Unit) (pc := 156) (I := fun _ H1 locs1 ls1 => H = H1 ∧ locs = locs1 ∧ ls = ls1 ∧ ag' = false) ?_ (fun jn2 => ?_)
  · rintro - H1 locs1 ls1 ⟨rfl, rfl, rfl, hno⟩
    refine lv_iconst (v := 0) hx hb dM_spread_156 (by decide) ?_
    refine lv_istore_n hx hb dM_spread_157 rfl hl (by decide) rfl (fun ls hl => ?_)
    replace hl : lv_has ls 8 [(2, .int (bI false)), (7, .int (eI n (pg_mul y (t i)))), (6, .int (nI r)), (5, .int (eI n (pg_mul (X k) (g i)))), (4, .int (nI i)), (3, .int (nI k)), (1, .int (nI many)), (0, .ref (d 0))] := hl
    exact jn () _ _ ls ⟨rfl, rfl, by rw [hno]; exact lv_sub hl [0, 1, 2, 4, 5, 6, 7] rfl⟩
  -- yes
  refine wj (σ := Unit) (pc := 152) (I := fun _ H1 locs1 ls1 => H = H1 ∧ locs = locs1 ∧ ls = ls1 ∧ ag' = true) ?_ (fun jn3 => ?_)
  · rintro - H1 locs1 ls1 ⟨rfl, rfl, rfl, hyes⟩
    refine lv_iconst (v := 1) hx hb dM_spread_152 (by decide) ?_
    refine lv_goto (tgt := 157) hx hb dM_spread_153 rfl ?_
    refine lv_istore_n hx hb dM_spread_157 rfl hl (by decide) rfl (fun ls hl => ?_)
    replace hl : lv_has ls 8 [(2, .int (bI true)), (7, .int (eI n (pg_mul y (t i)))), (6, .int (nI r)), (5, .int (eI n (pg_mul (X k) (g i)))), (4, .int (nI i)), (3, .int (nI k)), (1, .int (nI many)), (0, .ref (d 0))] := hl
    exact jn () _ _ ls ⟨rfl, rfl, by rw [hyes]; exact lv_sub hl [0, 1, 2, 4, 5, 6, 7] rfl⟩
  refine lv_iload_n hx hb dM_spread_125 rfl (lv_at hl 5 rfl) ?_
  refine lv_if_eq (tgt := 156) hx hb dM_spread_126 rfl (fun h126 => ?_) (fun h126 => ?_)
  · have hagf : ag = false := by
      cases ag with
      | false => rfl
      | true => exact absurd h126 (by decide)
    exact jn2 () _ _ ls ⟨rfl, rfl, rfl, by rw [hag', hagf]; rfl⟩
  have hagt : ag = true := by
    cases ag with
    | true => rfl
    | false => exact absurd rfl h126
  refine lv_aload_n hx hb dM_spread_129 rfl (lv_at hl 7 rfl) ?_
  refine va_get (ci := 5) (C := RM) (T := TM) (N := 26) hx hb ht inM hown hK hP 0 rfl rfl 17 (by decide) (ht _ tw_666) (fun _ h9 => h9) rfl dM_spread_130 ?_
  refine lv_iload hx hb dM_spread_133 (lv_at hl 1 rfl) ?_
  refine va_iald hx hb hK hP 12 1 rfl rfl (vp_in_nI (N := 5040) (by omega) (by decide)) dM_spread_135 ?_
  refine wti (x' := oI n (I r)) (by rw [nI_clamp (by omega)]; exact hi9 r hrl) ?_
  refine lv_iconst (v := (-1)) hx hb dM_spread_136 (by decide) ?_
  refine lv_icmp_eq (tgt := 152) hx hb dM_spread_137 rfl (fun h137 => ?_) (fun h137 => ?_)
  · exact jn3 () _ _ ls ⟨rfl, rfl, rfl, by rw [hag', hagt, decide_eq_true h137]; rfl⟩
  refine lv_aload_n hx hb dM_spread_140 rfl (lv_at hl 7 rfl) ?_
  refine va_get (ci := 5) (C := RM) (T := TM) (N := 26) hx hb ht inM hown hK hP 0 rfl rfl 17 (by decide) (ht _ tw_666) (fun _ h9 => h9) rfl dM_spread_141 ?_
  refine lv_iload hx hb dM_spread_144 (lv_at hl 1 rfl) ?_
  refine va_iald hx hb hK hP 12 1 rfl rfl (vp_in_nI (N := 5040) (by omega) (by decide)) dM_spread_146 ?_
  refine wti (x' := oI n (I r)) (by rw [nI_clamp (by omega)]; exact hi9 r hrl) ?_
  refine lv_iload hx hb dM_spread_147 (lv_at hl 0 rfl) ?_
  refine lv_icmp_ne (tgt := 156) hx hb dM_spread_149 rfl (fun h149 => ?_) (fun h149 => ?_)
  · exact jn2 () _ _ ls ⟨rfl, rfl, rfl, by rw [hag', hagt, decide_eq_false h137, decide_eq_false h149]; rfl⟩
  exact jn3 () _ _ ls ⟨rfl, rfl, rfl, by rw [hag', hagt, decide_eq_true h149, Bool.or_true]; rfl⟩
