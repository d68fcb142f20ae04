/-! Group: takenFrom, reach. -/
theorem pe_bit {m k : Nat} (hm : m < 2 ^ 31) (hk : k < 32) : ((nI m).toUInt32 >>> ((nI k).toUInt32 &&& Int32.toUInt32 31)).toInt32 &&& 1 = nI (m / 2 ^ k % 2) := by
  rw [pe_ushr hk (by omega)]
  exact pe_mask32 _ 1 (by decide)
theorem pe_bit1 {m k : Nat} : nI (m / 2 ^ k % 2) = 1 ↔ m.testBit k = true := by
  rw [Nat.testBit_eq_decide_div_mod_eq, decide_eq_true_iff]
  have h := Nat.mod_lt (m / 2 ^ k) (by decide : 2 > 0)
  constructor
  · intro e
    have e : nI (m / 2 ^ k % 2) = nI 1 := e
    exact (nI_eq (by omega) (by omega)).mp e
  · intro e; rw [e]; rfl
theorem pe_shl1 {v : Nat} (hv : v < 31) : (1 : Int32) <<< (nI v &&& 31) = nI (2 ^ v) := by
  have h1 : 2 ^ v < 2 ^ 31 := Nat.pow_lt_pow_right (by decide) hv
  have := pe_shl (n := 1) (k := v) (by omega) (by omega)
  rw [Nat.one_mul] at this
  exact this
theorem pe_lt {m n : Nat} (h : ∀ q, m.testBit q = true → q < n) : m < 2 ^ n := Nat.lt_pow_two_of_testBit m (fun i hi => by
  cases e : m.testBit i with
  | false => rfl
  | true => have := h i e; omega)
theorem pe_lt31 {m n : Nat} (hn : n ≤ 14) (h : ∀ q, m.testBit q = true → q < n) : m < 2 ^ 31 := Nat.lt_of_lt_of_le (pe_lt h) (Nat.pow_le_pow_right (by decide) (by omega))
/-- a bit more -/
theorem pe_set {t v q : Nat} : (t ||| 2 ^ v).testBit q = true ↔ t.testBit q = true ∨ v = q := by
  rw [Nat.testBit_or, Nat.testBit_two_pow, Bool.or_eq_true, decide_eq_true_iff]
set_option maxHeartbeats 1000000 in
set_option maxRecDepth 100000 in
/-- takenFrom: where x takes the points of a set -/
theorem c_G_takenFrom (l : Launch) (D : va_G) (z : Nat → ClassId) (g : Nat → Nat) (n nc : Nat) (fS fM : Nat → Int64) (fL : Nat → Int32) (hn : n ≤ 14) (m9 : Nat) (x : pg_F) (hm9 : m9 < 2 ^ 31) (hxP : pg_P n x) : Met l yG_takenFrom wG_takenFrom (rmF 1) (va_Pc [.ref (g 0), .int (nI m9), .long (eL n x)] (fun U => va_P D vC (gW z g n nc fS fM fL) U.heap ∧ va_K D vC (tyL z) U)) (vp_Si (fun r => ∃ t : Nat, r = nI t ∧ (∀ q, t.testBit q = true ↔ ∃ p, p < n ∧ m9.testBit p = true ∧ x p = q))) 0 0 (fun _ => False) := by
  have hx9 := hxP.d4 (by omega : n ≤ 16)
  refine Met.ofW (cc := prog_5_method_20_code) (maxL := 6) (ret := (some .int)) (by decide) rfl ?_
  intro p e s m args below meth c s₁ B hml hv
  have hx := B.exec
  have hb := B.bytes
  have hr := B.returns
  have ht : ∀ w ∈ TB, w.before args s = true := fun w h => atoms_spec (ws := wG_takenFrom) B.pre w (List.mem_cons_of_mem _ h)
  have hown : s.vm.findClass "PermutationDesk$Group" = some m.cls := findClass_of_methodNamed B.named
  have hlocks := B.notSynchronized
  obtain ⟨rfl, hP, hK⟩ := hv
  have hl := lv_entry ([.ref (g 0), .int (nI m9), .long (eL n x)]) (n := 6) (Nat.le_of_ble_eq_true rfl)
  rw [lg_entry_eq]
  generalize (lg_sl ([.ref (g 0), .int (nI m9), .long (eL n x)]) ++ List.replicate (6 - (lg_sl ([.ref (g 0), .int (nI m9), .long (eL n x)])).length) Slot.unset).toArray = ls at hl ⊢
  have hl : lv_has ls 6 [(0, .ref (g 0)), (1, .int (nI m9)), (2, .long (eL n x))] := hl
  refine lv_iconst (v := 0) hx hb dG_takenFrom_0 (by decide) ?_
  refine lv_istore hx hb dG_takenFrom_1 hl (by decide) rfl (fun ls hl => ?_)
  replace hl : lv_has ls 6 [(4, .int (nI 0)), (0, .ref (g 0)), (1, .int (nI m9)), (2, .long (eL n x))] := hl
  refine lv_iconst (v := 0) hx hb dG_takenFrom_3 (by decide) ?_
  refine lv_istore hx hb dG_takenFrom_4 hl (by decide) rfl (fun ls hl => ?_)
  replace hl : lv_has ls 6 [(5, .int (nI 0)), (4, .int (nI 0)), (0, .ref (g 0)), (1, .int (nI m9)), (2, .long (eL n x))] := hl
  refine wl0 (σ := Nat × Nat) (I := fun d st ls => d + st.1 = n ∧ (∀ q, st.2.testBit q = true ↔ ∃ p, p < st.1 ∧ m9.testBit p = true ∧ x p = q) ∧ lv_has ls 6 [(5, .int (nI st.1)), (4, .int (nI st.2)), (0, .ref (g 0)), (1, .int (nI m9)), (2, .long (eL n x))]) ?_ n (0, 0) ls ⟨rfl, fun q => ⟨fun e => (by rw [Nat.zero_testBit] at e; cases e), fun ⟨p, hp, _⟩ => absurd hp (Nat.not_lt_zero p)⟩, hl⟩
  rintro d ⟨k, t⟩ ls ⟨hdk, htb, hl⟩ ih
  have hdk : d + k = n := hdk
  have htb : ∀ q, t.testBit q = true ↔ ∃ p, p < k ∧ m9.testBit p = true ∧ x p = q := htb
  have hl : lv_has ls 6 [(5, .int (nI k)), (4, .int (nI t)), (0, .ref (g 0)), (1, .int (nI m9)), (2, .long (eL n x))] := hl
  refine lv_iload hx hb dG_takenFrom_6 (lv_at hl 0 rfl) ?_
  refine lv_aload_n hx hb dG_takenFrom_8 rfl (lv_at hl 2 rfl) ?_
  refine va_get (ci := 0) (C := RG) (T := TG) (N := 6) hx hb ht inG hown hK hP 0 rfl rfl 0 (by decide) (ht _ tw_103) (fun _ h9 => h9) rfl dG_takenFrom_9 ?_
  refine lv_icmp_ge (tgt := 44) hx hb dG_takenFrom_12 rfl (fun h => ?_) (fun h => ?_)
  · have hk : k = n := by have := (nI_leI (by omega) (by omega)).mp h; omega
    subst hk
    refine lv_iload hx hb dG_takenFrom_44 (lv_at hl 1 rfl) ?_
    exact W.iret hx hb hr (fun t9 h _ => ⟨_, rfl, ⟨t, rfl, htb⟩, h⟩) (fun q h => by cases h) dG_takenFrom_46
  have hk : k < n := by
    rw [nI_leI (by omega) (by omega)] at h
    omega
  have hxk := hxP.1 k hk
  refine lv_iload_n hx hb dG_takenFrom_15 rfl (lv_at hl 3 rfl) ?_
  refine lv_iload hx hb dG_takenFrom_16 (lv_at hl 0 rfl) ?_
  refine lv_iushr hx hb dG_takenFrom_18 rfl ?_
  refine lv_iconst (v := 1) hx hb dG_takenFrom_19 (by decide) ?_
  refine lv_iand hx hb dG_takenFrom_20 ?_
  refine wti (x' := nI (m9 / 2 ^ k % 2)) (pe_bit hm9 (by omega)) ?_
  refine lv_iconst (v := 1) hx hb dG_takenFrom_21 (by decide) ?_
  refine lv_icmp_ne (tgt := 38) hx hb dG_takenFrom_22 rfl (fun h2 => ?_) (fun h2 => ?_)
  · have h3 : ¬ m9.testBit k = true := fun e => h2 (pe_bit1.mpr e)
    refine lv_iinc (k := 0) (v := (nI (k + 1))) hx hb dG_takenFrom_38 hl rfl (by exact nI_1 _) (by decide) rfl (fun ls hl => ?_)
    replace hl : lv_has ls 6 [(5, .int (nI (k + 1))), (4, .int (nI t)), (0, .ref (g 0)), (1, .int (nI m9)), (2, .long (eL n x))] := hl
    refine lv_goto (tgt := 6) hx hb dG_takenFrom_41 rfl ?_
    exact ih (d - 1) (k + 1, t) ls (by omega) ⟨by show d - 1 + (k + 1) = n; omega, fun q => by
      show t.testBit q = true ↔ ∃ p, p < k + 1 ∧ _
      rw [htb]
      constructor
      · rintro ⟨p, h4, h5⟩; exact ⟨p, by omega, h5⟩
      · rintro ⟨p, h4, h5, h6⟩
        refine ⟨p, ?_, h5, h6⟩
        have : p ≠ k := fun e => by subst e; exact h3 h5
        omega, lv_sub hl [0, 1, 2, 3, 4] rfl⟩
  have h3 : m9.testBit k = true := pe_bit1.mp h2
  refine lv_iload hx hb dG_takenFrom_25 (lv_at hl 1 rfl) ?_
  refine lv_iconst (v := 1) hx hb dG_takenFrom_27 (by decide) ?_
  refine lv_lload_n hx hb dG_takenFrom_28 rfl (lv_at hl 4 rfl) ?_
  refine lv_iload hx hb dG_takenFrom_29 (lv_at hl 0 rfl) ?_
  refine qS_i (As := [.long (eL n x), .int (nI k)]) (rest := [.int 1, .int (nI t)]) ⟨hx, hb, hml, hown, ht⟩ (c_E_at l n k x hn hx9 hk) (cB 2 ht gE_at rfl tw_62 tw_401 (by decide +kernel) ⟨by decide, by decide⟩) tw_254 rfl hl.1 rfl (Nat.le_of_ble_eq_true rfl) dG_takenFrom_31 ⟨by decide, by decide⟩ (fun r31 h31 => ?_)
  subst h31
  refine lv_ishl hx hb dG_takenFrom_34 ?_
  refine lv_ior hx hb dG_takenFrom_35 ?_
  refine wti (x' := nI (t ||| 2 ^ x k)) (by rw [pe_shl1 (by omega), pe_or]) ?_
  refine lv_istore hx hb dG_takenFrom_36 hl (by decide) rfl (fun ls hl => ?_)
  replace hl : lv_has ls 6 [(4, .int (nI (t ||| 2 ^ x k))), (5, .int (nI k)), (0, .ref (g 0)), (1, .int (nI m9)), (2, .long (eL n x))] := hl
  refine lv_iinc (k := 1) (v := (nI (k + 1))) hx hb dG_takenFrom_38 hl rfl (by exact nI_1 _) (by decide) rfl (fun ls hl => ?_)
  replace hl : lv_has ls 6 [(5, .int (nI (k + 1))), (4, .int (nI (t ||| 2 ^ x k))), (0, .ref (g 0)), (1, .int (nI m9)), (2, .long (eL n x))] := hl
  refine lv_goto (tgt := 6) hx hb dG_takenFrom_41 rfl ?_
  exact ih (d - 1) (k + 1, t ||| 2 ^ x k) ls (by omega) ⟨by show d - 1 + (k + 1) = n; omega, fun q => by
    show (t ||| 2 ^ x k).testBit q = true ↔ ∃ p, p < k + 1 ∧ _
    rw [pe_set, htb]
    constructor
    · rintro (⟨p, h4, h5⟩ | h4)
      · exact ⟨p, by omega, h5⟩
      · exact ⟨k, by omega, h3, h4⟩
    · rintro ⟨p, h4, h5, h6⟩
      by_cases q2 : p = k
      · subst q2; exact Or.inr h6
      · exact Or.inl ⟨p, by omega, h5, h6⟩, lv_sub hl [0, 1, 2, 3, 4] rfl⟩
set_option maxHeartbeats 1000000 in
set_option maxRecDepth 100000 in
/-- reach: the orbit of a point -/
theorem c_G_reach (l : Launch) (D : va_G) (z : Nat → ClassId) (g : Nat → Nat) (n nc : Nat) (fS fM : Nat → Int64) (fL : Nat → Int32) (hn : n ≤ 14) (T : pg_T) (M : Nat → pg_F) (lv : Nat → Nat) (G : pg_F → Prop) (hGp : gGp n (T, nc, M, lv, fS, fM, fL) G) (p0 : Nat) (hp0 : p0 < n) : Met l yG_reach wG_reach (rmF 2) (va_Pc [.ref (g 0), .int (nI p0)] (fun U => va_P D vC (gW z g n nc fS fM fL) U.heap ∧ va_K D vC (tyL z) U)) (vp_Si (fun r => ∃ t : Nat, r = nI t ∧ (∀ q, t.testBit q = true ↔ ∃ x, G x ∧ x p0 = q))) 0 0 (fun _ => False) := by
  have hcap := gcap_le hn
  have hroom : nc ≤ gcap n := hGp.1.room hn
  have hM : gM n nc M lv fM fL := hGp.1.2.2.2
  have hMP : ∀ a, a < nc → pg_P n (M a) := fun a ha => (hGp.1.P ha).1
  refine Met.ofW (cc := prog_5_method_19_code) (maxL := 5) (ret := (some .int)) (by decide) rfl ?_
  intro p e s m args below meth c s₁ B hml hv
  have hx := B.exec
  have hb := B.bytes
  have hr := B.returns
  have ht : ∀ w ∈ TB, w.before args s = true := fun w h => atoms_spec (ws := wG_reach) B.pre w (List.mem_cons_of_mem _ h)
  have hown : s.vm.findClass "PermutationDesk$Group" = some m.cls := findClass_of_methodNamed B.named
  have hlocks := B.notSynchronized
  obtain ⟨rfl, hP, hK⟩ := hv
  have hl := lv_entry ([.ref (g 0), .int (nI p0)]) (n := 5) (Nat.le_of_ble_eq_true rfl)
  rw [lg_entry_eq]
  generalize (lg_sl ([.ref (g 0), .int (nI p0)]) ++ List.replicate (5 - (lg_sl ([.ref (g 0), .int (nI p0)])).length) Slot.unset).toArray = ls at hl ⊢
  have hl : lv_has ls 5 [(0, .ref (g 0)), (1, .int (nI p0))] := hl
  refine lv_iconst (v := 1) hx hb dG_reach_0 (by decide) ?_
  refine lv_iload_n hx hb dG_reach_1 rfl (lv_at hl 1 rfl) ?_
  refine lv_ishl hx hb dG_reach_2 ?_
  refine wti (x' := nI (2 ^ p0)) (pe_shl1 (by omega)) ?_
  refine lv_istore_n hx hb dG_reach_3 rfl hl (by decide) rfl (fun ls hl => ?_)
  replace hl : lv_has ls 5 [(2, .int (nI (2 ^ p0))), (0, .ref (g 0)), (1, .int (nI p0))] := hl
  refine lv_iconst (v := 1) hx hb dG_reach_4 (by decide) ?_
  refine lv_istore_n hx hb dG_reach_5 rfl hl (by decide) rfl (fun ls hl => ?_)
  replace hl : lv_has ls 5 [(3, .int (nI 1)), (2, .int (nI (2 ^ p0))), (0, .ref (g 0)), (1, .int (nI p0))] := hl
  refine wl0 (σ := Nat × Nat) (I := fun d st ls => d + st.1 = n ∧ 1 ≤ st.1 ∧ pg_orb n nc M p0 (st.1 - 1) st.2 ∧ lv_has ls 5 [(3, .int (nI st.1)), (2, .int (nI st.2)), (0, .ref (g 0))]) ?_ (n - 1) (1, 2 ^ p0) ls ⟨by show n - 1 + 1 = n; omega, Nat.le_refl _, pg_orb_0 hp0, lv_sub hl [0, 1, 2] rfl⟩
  rintro d ⟨tn, m0⟩ ls ⟨hdk, htn, horb, hl⟩ ih
  have hdk : d + tn = n := hdk
  have htn : 1 ≤ tn := htn
  have horb : pg_orb n nc M p0 (tn - 1) m0 := horb
  have hl : lv_has ls 5 [(3, .int (nI tn)), (2, .int (nI m0)), (0, .ref (g 0))] := hl
  refine lv_iload_n hx hb dG_reach_6 rfl (lv_at hl 0 rfl) ?_
  refine lv_aload_n hx hb dG_reach_7 rfl (lv_at hl 2 rfl) ?_
  refine va_get (ci := 0) (C := RG) (T := TG) (N := 6) hx hb ht inG hown hK hP 0 rfl rfl 0 (by decide) (ht _ tw_103) (fun _ h9 => h9) rfl dG_reach_8 ?_
  refine lv_icmp_ge (tgt := 53) hx hb dG_reach_11 rfl (fun h => ?_) (fun h => ?_)
  · have hk : tn = n := by have := (nI_leI (by omega) (by omega)).mp h; omega
    subst hk
    refine lv_iload_n hx hb dG_reach_53 rfl (lv_at hl 1 rfl) ?_
    exact W.iret hx hb hr (fun t9 h _ => ⟨_, rfl, ⟨m0, rfl, by
      rw [hGp.gen]
      exact pg_orb_done hMP hp0 horb⟩, h⟩) (fun q h => by cases h) dG_reach_54
  have hk : tn < n := by
    rw [nI_leI (by omega) (by omega)] at h
    omega
  refine lv_iconst (v := 0) hx hb dG_reach_14 (by decide) ?_
  refine lv_istore hx hb dG_reach_15 hl (by decide) rfl (fun ls hl => ?_)
  replace hl : lv_has ls 5 [(4, .int (nI 0)), (3, .int (nI tn)), (2, .int (nI m0)), (0, .ref (g 0))] := hl
  refine wl0 (σ := Nat × Nat) (pc := 17) (I := fun d2 st ls => d2 + st.1 = nc ∧ pg_orbi n nc M p0 m0 st.1 st.2 ∧ lv_has ls 5 [(4, .int (nI st.1)), (3, .int (nI tn)), (2, .int (nI st.2)), (0, .ref (g 0))]) ?_ nc (0, m0) ls ⟨rfl, pg_orbi_0 horb, hl⟩
  clear hl
  rintro d2 ⟨k, m1⟩ ls ⟨hdk2, horbi, hl⟩ ih2
  have hdk2 : d2 + k = nc := hdk2
  have horbi : pg_orbi n nc M p0 m0 k m1 := horbi
  have hl : lv_has ls 5 [(4, .int (nI k)), (3, .int (nI tn)), (2, .int (nI m1)), (0, .ref (g 0))] := hl
  have hm1 : m1 < 2 ^ 31 := pe_lt31 hn (fun q hq => (horbi.2.1 q hq).1)
  refine lv_iload hx hb dG_reach_17 (lv_at hl 0 rfl) ?_
  refine lv_aload_n hx hb dG_reach_19 rfl (lv_at hl 3 rfl) ?_
  refine va_get (ci := 0) (C := RG) (T := TG) (N := 6) hx hb ht inG hown hK hP 0 rfl rfl 5 (by decide) (ht _ tw_108) (fun _ h9 => h9) rfl dG_reach_20 ?_
  refine lv_icmp_ge (tgt := 47) hx hb dG_reach_23 rfl (fun h2 => ?_) (fun h2 => ?_)
  · have hk2 : k = nc := by have := (nI_leI (by omega) (by omega)).mp h2; omega
    subst hk2
    refine lv_iinc (k := 1) (v := (nI (tn + 1))) hx hb dG_reach_47 hl rfl (by exact nI_1 _) (by decide) rfl (fun ls hl => ?_)
    replace hl : lv_has ls 5 [(3, .int (nI (tn + 1))), (4, .int (nI k)), (2, .int (nI m1)), (0, .ref (g 0))] := hl
    refine lv_goto (tgt := 6) hx hb dG_reach_50 rfl ?_
    refine ih (d - 1) (tn + 1, m1) ls (by omega) ⟨by show d - 1 + (tn + 1) = n; omega, by show 1 ≤ tn + 1; omega, ?_, lv_sub hl [0, 2, 3] rfl⟩
    have := pg_orb_s horb horbi
    rw [show tn - 1 + 1 = tn + 1 - 1 by omega] at this
    exact this
  have hk2 : k < nc := by
    rw [nI_leI (by omega) (by omega)] at h2
    omega
  refine lv_iload_n hx hb dG_reach_26 rfl (lv_at hl 2 rfl) ?_
  refine lv_aload_n hx hb dG_reach_27 rfl (lv_at hl 3 rfl) ?_
  refine lv_iload_n hx hb dG_reach_28 rfl (lv_at hl 2 rfl) ?_
  refine lv_aload_n hx hb dG_reach_29 rfl (lv_at hl 3 rfl) ?_
  refine va_get (ci := 0) (C := RG) (T := TG) (N := 6) hx hb ht inG hown hK hP 0 rfl rfl 3 (by decide) (ht _ tw_106) (fun _ h9 => h9) rfl dG_reach_30 ?_
  refine lv_iload hx hb dG_reach_33 (lv_at hl 0 rfl) ?_
  refine va_lald hx hb hK hP 2 0 rfl rfl (vp_in_nI (N := gcap n) (by omega) hcap) dG_reach_35 ?_
  refine wtl (x' := eL n (M k)) (by rw [nI_clamp (by omega)]; exact hM.1 k hk2) ?_
  refine qV_i (ci := 0) (q0 := 0) (As := [.int (nI m1), .long (eL n (M k))]) (rest := [.int (nI m1)]) ⟨hx, hb, hml, hown, ht⟩ (c_G_takenFrom l D z g n nc fS fM fL hn m1 (M k) hm1 (hMP k hk2)) (cB 2 ht gG_takenFrom rfl tw_61 tw_635 (by decide +kernel) ⟨by decide, by decide⟩) tw_637 tw_28 hK (hP) rfl rfl rfl hl.1 rfl (Nat.le_of_ble_eq_true rfl) dG_reach_36 ⟨by decide, by decide⟩ (fun r36 h36 => ?_)
  obtain ⟨t, rfl, htb⟩ := h36
  refine lv_ior hx hb dG_reach_39 ?_
  refine wti (x' := nI (m1 ||| t)) (pe_or _ _) ?_
  refine lv_istore_n hx hb dG_reach_40 rfl hl (by decide) rfl (fun ls hl => ?_)
  replace hl : lv_has ls 5 [(2, .int (nI (m1 ||| t))), (4, .int (nI k)), (3, .int (nI tn)), (0, .ref (g 0))] := hl
  refine lv_iinc (k := 1) (v := (nI (k + 1))) hx hb dG_reach_41 hl rfl (by exact nI_1 _) (by decide) rfl (fun ls hl => ?_)
  replace hl : lv_has ls 5 [(4, .int (nI (k + 1))), (2, .int (nI (m1 ||| t))), (3, .int (nI tn)), (0, .ref (g 0))] := hl
  refine lv_goto (tgt := 17) hx hb dG_reach_44 rfl ?_
  refine ih2 (d2 - 1) (k + 1, m1 ||| t) ls (by omega) ⟨by show d2 - 1 + (k + 1) = nc; omega, pg_orbi_s hMP hk2 horbi (fun q => ?_), lv_sub hl [0, 2, 1, 3] rfl⟩
  show (m1 ||| t).testBit q = true ↔ _
  rw [Nat.testBit_or, Bool.or_eq_true, htb]
