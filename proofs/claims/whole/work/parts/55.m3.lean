/-! The reference: the text, by a row of frames. -/
abbrev mRd : Type := Nat × Nat × Bool × (Nat → Int32) × (Nat → Int32) × (Nat → Int32) × (Nat → Int32)
def oI (n : Nat) (o : Option pg_F) : Int32 := match o with
  | some x => eI n x
  | none => -1
theorem eI_ne {n : Nat} {x : pg_F} (hn : n ≤ 7) (h : ∀ p, p < n → x p < 2 ^ 3) : eI n x ≠ -1 := by
  have h1 := eI_lt hn h
  intro e
  have h2 : ¬ eI n x < 0 := nI_pos (by omega)
  rw [e] at h2
  exact h2 (by decide)
theorem oI_none {n : Nat} {o : Option pg_F} (hn : n ≤ 7) (h : ∀ x, o = some x → pg_P n x) : oI n o = -1 ↔ o = none := by
  cases o with
  | none => exact ⟨fun _ => rfl, fun _ => rfl⟩
  | some x => exact ⟨fun e => absurd e (eI_ne hn ((h x rfl).d3 (by omega))), fun e => by cases e⟩
def mFr (n : Nat) (kd pr fa fr : Nat → Int32) (j : Nat) (f : pr_Fr) : Prop := kd j = nI f.1 ∧ f.1 < 4 ∧ pr j = eI n f.2.1 ∧ pg_P n f.2.1 ∧ fa j = oI n f.2.2.1 ∧ (∀ x, f.2.2.1 = some x → pg_P n x) ∧ (f.1 = 3 → fr j = eI n f.2.2.2 ∧ pg_P n f.2.2.2) ∧ (j = 0 → f.1 = 0)
def mSk (n : Nat) (kd pr fa fr : Nat → Int32) : List pr_Fr → Prop
  | [] => True
  | f :: S => mFr n kd pr fa fr S.length f ∧ mSk n kd pr fa fr S
theorem mSk.congr {n : Nat} {kd pr fa fr kd' pr' fa' fr' : Nat → Int32} : ∀ {S : List pr_Fr}, mSk n kd pr fa fr S → (∀ j, j < S.length → kd' j = kd j ∧ pr' j = pr j ∧ fa' j = fa j ∧ fr' j = fr j) → mSk n kd' pr' fa' fr' S := by
  intro S
  induction S with
  | nil => intro _ _; trivial
  | cons f S ih =>
    intro h e
    refine ⟨?_, ih h.2 (fun j hj => e j (by rw [List.length_cons]; omega))⟩
    obtain ⟨a, b, c, d⟩ := e S.length (by rw [List.length_cons]; omega)
    have h1 := h.1
    unfold mFr at h1 ⊢
    rw [a, b, c, d]
    exact h1
theorem wjv {p : Program} {l : Launch} {e : Env} {R : Room} {s : State} {m : MethodId} {args : Array Value} {below : List Frame} {meth : Method} {c : Code} {H : Heap} {locs : List Loc} {cells slots : Nat} {Q : State → Prop} {σ : Type} {pc : Nat} {gf : JFrame} (st : σ → List Value) (I : σ → Heap → List Loc → Array Slot → Prop) (k : ∀ (u : σ) (H : Heap) (locs : List Loc) (ls : Array Slot), I u H locs ls → W p l e R s m args below meth c H locs cells slots Q (F0 m pc ls (st u))) (u : (∀ (u : σ) (H : Heap) (locs : List Loc) (ls : Array Slot), I u H locs ls → W p l e R s m args below meth c H locs cells slots Q (F0 m pc ls (st u))) → W p l e R s m args below meth c H locs cells slots Q gf) : W p l e R s m args below meth c H locs cells slots Q gf := u k
set_option maxHeartbeats 2000000 in
set_option maxRecDepth 100000 in
theorem c_M_open (l : Launch) (D : va_G) (z : Nat → ClassId) (d : Nat → Nat) (n : Nat) {cd : Int32} {ty : Nat} {ft : Nat → Int32} {gc : Nat} {fg fo fh : Nat → Int32} {fs ff : Nat → Int64} {fq : Nat → Int32} {mk : Nat} {fm fi : Nat → Int32} {de ps : Nat} {re : Int32} {go : Bool} {kd pr fa fr : Nat → Int32} (sz k : Nat) (hk : k < 4) (w : pg_F) (S : List pr_Fr) (hS9 : mSk n kd pr fa fr S) (hde : de = S.length) (hle : S.length < 6) (hw : k = 3 → fr S.length = eI n w ∧ pg_P n w) (h0 : S.length = 0 → k = 0) : Met l yM_open wM_open (rmF 0) (va_Pc [.ref (d 0), .int (nI k)] (fun U => U.heap.size = sz ∧ va_P D vC (mW z d n cd ty ft gc fg fo fh fs ff fq mk fm fi de ps re go kd pr fa fr) U.heap ∧ va_K D vC (tyL z) U ∧ va_D (fun _ => True) (mW z d n cd ty ft gc fg fo fh fs ff fq mk fm fi de ps re go kd pr fa fr))) (va_Qv (fun u : mRd => u.1 = de ∧ u.2.1 = ps ∧ u.2.2.1 = go ∧ mSk n u.2.2.2.1 u.2.2.2.2.1 u.2.2.2.2.2.1 u.2.2.2.2.2.2 ((k, pg_id, none, w) :: S)) (fun u t => va_P D vC (mW z d n cd ty ft gc fg fo fh fs ff fq mk fm fi u.1 u.2.1 re u.2.2.1 u.2.2.2.1 u.2.2.2.2.1 u.2.2.2.2.2.1 u.2.2.2.2.2.2) t.heap ∧ va_D (va_A (mW z d n cd ty ft gc fg fo fh fs ff fq mk fm fi de ps re go kd pr fa fr) sz) (mW z d n cd ty ft gc fg fo fh fs ff fq mk fm fi u.1 u.2.1 re u.2.2.1 u.2.2.2.1 u.2.2.2.2.1 u.2.2.2.2.2.1 u.2.2.2.2.2.2)) (va_A (mW z d n cd ty ft gc fg fo fh fs ff fq mk fm fi de ps re go kd pr fa fr) sz)) 0 0 (va_A (mW z d n cd ty ft gc fg fo fh fs ff fq mk fm fi de ps re go kd pr fa fr) sz) := by
  refine Met.ofW (cc := prog_9_method_12_code) (maxL := 2) (ret := none) (by decide) rfl ?_
  intro p e s m args below meth c s₁ B hml hv
  have hx := B.exec
  have hb := B.bytes
  have hr := B.returns
  have ht : ∀ w ∈ TB, w.before args s = true := fun w h => atoms_spec (ws := wM_open) B.pre w (List.mem_cons_of_mem _ h)
  have hown : s.vm.findClass "PermutationDeskModel" = some m.cls := findClass_of_methodNamed B.named
  have hlocks := B.notSynchronized
  obtain ⟨rfl, hsz, hP, hK, hD0⟩ := hv
  subst hsz
  have hD := hD0.self (sz := s.heap.size)
  generalize hAe : va_A (mW z d n cd ty ft gc fg fo fh fs ff fq mk fm fi de ps re go kd pr fa fr) s.heap.size = A at hD ⊢
  have hA : ∀ q : Nat, s.heap.size ≤ q → A q := fun q h => by rw [← hAe]; exact Or.inr h
  have hS : va_S A s.heap s.heap [] := va_S.rf
  have hl := lv_entry ([.ref (d 0), .int (nI k)]) (n := 2) (Nat.le_of_ble_eq_true rfl)
  rw [lg_entry_eq]
  generalize (lg_sl ([.ref (d 0), .int (nI k)]) ++ List.replicate (2 - (lg_sl ([.ref (d 0), .int (nI k)])).length) Slot.unset).toArray = ls at hl ⊢
  have hl : lv_has ls 2 [(0, .ref (d 0)), (1, .int (nI k))] := hl
  refine lv_aload_n hx hb dM_open_0 rfl (lv_at hl 0 rfl) ?_
  refine va_get (ci := 5) (C := RM) (T := TM) (N := 26) hx hb ht inM hown hK hP 0 rfl rfl 22 (by decide) (ht _ tw_671) (fun _ h9 => h9) rfl dM_open_1 ?_
  refine lv_aload_n hx hb dM_open_4 rfl (lv_at hl 0 rfl) ?_
  refine va_get (ci := 5) (C := RM) (T := TM) (N := 26) hx hb ht inM hown hK hP 0 rfl rfl 18 (by decide) (ht _ tw_667) (fun _ h9 => h9) rfl dM_open_5 ?_
  refine lv_iload_n hx hb dM_open_8 rfl (lv_at hl 1 rfl) ?_
  refine va_iast hx hb hK hP hD hS 13 1 rfl rfl (vp_in_nI (N := 6) (by omega) (by decide)) dM_open_9 (fun H locs hP hD hS => ?_)
  rw [nI_clamp (by omega)] at hP hD
  replace hP : va_P D vC (mW z d n cd ty ft gc fg fo fh fs ff fq mk fm fi de ps re go (upd kd de (nI k)) pr fa fr) H := hP
  replace hD : va_D A (mW z d n cd ty ft gc fg fo fh fs ff fq mk fm fi de ps re go (upd kd de (nI k)) pr fa fr) := hD
  refine lv_aload_n hx hb dM_open_10 rfl (lv_at hl 0 rfl) ?_
  refine va_get (ci := 5) (C := RM) (T := TM) (N := 26) hx hb ht inM hown hK hP 0 rfl rfl 23 (by decide) (ht _ tw_672) (fun _ h9 => h9) rfl dM_open_11 ?_
  refine lv_aload_n hx hb dM_open_14 rfl (lv_at hl 0 rfl) ?_
  refine va_get (ci := 5) (C := RM) (T := TM) (N := 26) hx hb ht inM hown hK hP 0 rfl rfl 18 (by decide) (ht _ tw_667) (fun _ h9 => h9) rfl dM_open_15 ?_
  refine lv_aload_n hx hb dM_open_18 rfl (lv_at hl 0 rfl) ?_
  refine va_get (ci := 5) (C := RM) (T := TM) (N := 26) hx hb ht inM hown hK hP 0 rfl rfl 3 (by decide) (ht _ tw_652) (fun _ h9 => h9) rfl dM_open_19 ?_
  refine lv_iconst (v := 0) hx hb dM_open_22 (by decide) ?_
  refine va_iald hx hb hK hP 1 1 rfl rfl (vp_in_nI (n := 0) (N := 5040) (by decide) (by decide)) dM_open_23 ?_
  refine wti (x' := eI n pg_id) (mL_0 n) ?_
  refine va_iast hx hb hK hP hD hS 14 1 rfl rfl (vp_in_nI (N := 6) (by omega) (by decide)) dM_open_24 (fun H locs hP hD hS => ?_)
  rw [nI_clamp (by omega)] at hP hD
  replace hP : va_P D vC (mW z d n cd ty ft gc fg fo fh fs ff fq mk fm fi de ps re go (upd kd de (nI k)) (upd pr de (eI n pg_id)) fa fr) H := hP
  replace hD : va_D A (mW z d n cd ty ft gc fg fo fh fs ff fq mk fm fi de ps re go (upd kd de (nI k)) (upd pr de (eI n pg_id)) fa fr) := hD
  refine lv_aload_n hx hb dM_open_25 rfl (lv_at hl 0 rfl) ?_
  refine va_get (ci := 5) (C := RM) (T := TM) (N := 26) hx hb ht inM hown hK hP 0 rfl rfl 24 (by decide) (ht _ tw_673) (fun _ h9 => h9) rfl dM_open_26 ?_
  refine lv_aload_n hx hb dM_open_29 rfl (lv_at hl 0 rfl) ?_
  refine va_get (ci := 5) (C := RM) (T := TM) (N := 26) hx hb ht inM hown hK hP 0 rfl rfl 18 (by decide) (ht _ tw_667) (fun _ h9 => h9) rfl dM_open_30 ?_
  refine lv_iconst (v := (-1)) hx hb dM_open_33 (by decide) ?_
  refine va_iast hx hb hK hP hD hS 15 1 rfl rfl (vp_in_nI (N := 6) (by omega) (by decide)) dM_open_34 (fun H locs hP hD hS => ?_)
  rw [nI_clamp (by omega)] at hP hD
  refine W.vret hx hb hr (fun t ht hW => ⟨⟨(de, ps, go, upd kd de (nI k), upd pr de (eI n pg_id), upd fa de (-1), fr), rfl, ⟨rfl, rfl, rfl, ?_, ?_⟩, by rw [ht]; exact hP, hD⟩, hS.F ht⟩) hS.2.2 dM_open_35
  · show mFr n (upd kd de (nI k)) (upd pr de (eI n pg_id)) (upd fa de (-1)) fr S.length (k, pg_id, none, w)
    rw [← hde] at hw h0 ⊢
    exact ⟨pk_us, hk, pk_us, pg_P_id n, pk_us, fun x e9 => (by cases e9), hw, h0⟩
  · exact hS9.congr (fun j hj => ⟨pk_un (by omega), pk_un (by omega), pk_un (by omega), rfl⟩)
set_option maxHeartbeats 2000000 in
set_option maxRecDepth 100000 in
theorem c_M_take (l : Launch) (D : va_G) (z : Nat → ClassId) (d : Nat → Nat) (n : Nat) {cd : Int32} {ty : Nat} {ft : Nat → Int32} {gc : Nat} {fg fo fh : Nat → Int32} {fs ff : Nat → Int64} {fq : Nat → Int32} {mk : Nat} {fm fi : Nat → Int32} {de ps : Nat} {re : Int32} {go : Bool} {kd pr fa fr : Nat → Int32} (sz : Nat) (hn : n ≤ 7) (x : pg_F) (hxP : pg_P n x) (f : pr_Fr) (S : List pr_Fr) (hS9 : mSk n kd pr fa fr (f :: S)) (hde : de = S.length) (hle : S.length < 6) : Met l yM_take wM_take (rmF 2) (va_Pc [.ref (d 0), .int (eI n x)] (fun U => U.heap.size = sz ∧ va_P D vC (mW z d n cd ty ft gc fg fo fh fs ff fq mk fm fi de ps re go kd pr fa fr) U.heap ∧ va_K D vC (tyL z) U ∧ va_D (fun _ => True) (mW z d n cd ty ft gc fg fo fh fs ff fq mk fm fi de ps re go kd pr fa fr))) (va_Qv (fun u : mRd => u.1 = de ∧ u.2.1 = ps ∧ u.2.2.1 = go ∧ mSk n u.2.2.2.1 u.2.2.2.2.1 u.2.2.2.2.2.1 u.2.2.2.2.2.2 (pr_take x f :: S)) (fun u t => va_P D vC (mW z d n cd ty ft gc fg fo fh fs ff fq mk fm fi u.1 u.2.1 re u.2.2.1 u.2.2.2.1 u.2.2.2.2.1 u.2.2.2.2.2.1 u.2.2.2.2.2.2) t.heap ∧ va_D (va_A (mW z d n cd ty ft gc fg fo fh fs ff fq mk fm fi de ps re go kd pr fa fr) sz) (mW z d n cd ty ft gc fg fo fh fs ff fq mk fm fi u.1 u.2.1 re u.2.2.1 u.2.2.2.1 u.2.2.2.2.1 u.2.2.2.2.2.1 u.2.2.2.2.2.2)) (va_A (mW z d n cd ty ft gc fg fo fh fs ff fq mk fm fi de ps re go kd pr fa fr) sz)) 0 0 (va_A (mW z d n cd ty ft gc fg fo fh fs ff fq mk fm fi de ps re go kd pr fa fr) sz) := by
  obtain ⟨h1, hS9⟩ := hS9
  rw [← hde] at h1
  obtain ⟨κ, p9, fo9, fi9⟩ := f
  obtain ⟨a1, a2, a3, a4, a5, a6, a7, a8⟩ := h1
  replace a3 : pr de = eI n p9 := a3
  replace a4 : pg_P n p9 := a4
  replace a5 : fa de = oI n fo9 := a5
  replace a6 : ∀ x, fo9 = some x → pg_P n x := a6
  refine Met.ofW (cc := prog_9_method_13_code) (maxL := 2) (ret := none) (by decide) rfl ?_
  intro p e s m args below meth c s₁ B hml hv
  have hx := B.exec
  have hb := B.bytes
  have hr := B.returns
  have ht : ∀ w ∈ TB, w.before args s = true := fun w h => atoms_spec (ws := wM_take) B.pre w (List.mem_cons_of_mem _ h)
  have hown : s.vm.findClass "PermutationDeskModel" = some m.cls := findClass_of_methodNamed B.named
  have hlocks := B.notSynchronized
  obtain ⟨rfl, hsz, hP, hK, hD0⟩ := hv
  subst hsz
  have hD := hD0.self (sz := s.heap.size)
  generalize hAe : va_A (mW z d n cd ty ft gc fg fo fh fs ff fq mk fm fi de ps re go kd pr fa fr) s.heap.size = A at hD ⊢
  have hA : ∀ q : Nat, s.heap.size ≤ q → A q := fun q h => by rw [← hAe]; exact Or.inr h
  have hS : va_S A s.heap s.heap [] := va_S.rf
  have hl := lv_entry ([.ref (d 0), .int (eI n x)]) (n := 2) (Nat.le_of_ble_eq_true rfl)
  rw [lg_entry_eq]
  generalize (lg_sl ([.ref (d 0), .int (eI n x)]) ++ List.replicate (2 - (lg_sl ([.ref (d 0), .int (eI n x)])).length) Slot.unset).toArray = ls at hl ⊢
  have hl : lv_has ls 2 [(0, .ref (d 0)), (1, .int (eI n x))] := hl
  refine lv_aload_n hx hb dM_take_0 rfl (lv_at hl 0 rfl) ?_
  refine va_get (ci := 5) (C := RM) (T := TM) (N := 26) hx hb ht inM hown hK hP 0 rfl rfl 24 (by decide) (ht _ tw_673) (fun _ h9 => h9) rfl dM_take_1 ?_
  refine lv_aload_n hx hb dM_take_4 rfl (lv_at hl 0 rfl) ?_
  refine va_get (ci := 5) (C := RM) (T := TM) (N := 26) hx hb ht inM hown hK hP 0 rfl rfl 18 (by decide) (ht _ tw_667) (fun _ h9 => h9) rfl dM_take_5 ?_
  refine va_iald hx hb hK hP 15 1 rfl rfl (vp_in_nI (N := 6) (by omega) (by decide)) dM_take_8 ?_
  refine wti (x' := oI n fo9) (by rw [nI_clamp (by omega)]; exact a5) ?_
  refine lv_iconst (v := (-1)) hx hb dM_take_9 (by decide) ?_
  refine lv_icmp_eq (tgt := 44) hx hb dM_take_10 rfl (fun h => ?_) (fun h => ?_)
  · have h9 := (oI_none hn a6).mp h
    subst h9
    refine lv_aload_n hx hb dM_take_44 rfl (lv_at hl 0 rfl) ?_
    refine va_get (ci := 5) (C := RM) (T := TM) (N := 26) hx hb ht inM hown hK hP 0 rfl rfl 24 (by decide) (ht _ tw_673) (fun _ h9 => h9) rfl dM_take_45 ?_
    refine lv_aload_n hx hb dM_take_48 rfl (lv_at hl 0 rfl) ?_
    refine va_get (ci := 5) (C := RM) (T := TM) (N := 26) hx hb ht inM hown hK hP 0 rfl rfl 18 (by decide) (ht _ tw_667) (fun _ h9 => h9) rfl dM_take_49 ?_
    refine lv_iload_n hx hb dM_take_52 rfl (lv_at hl 1 rfl) ?_
    refine va_iast hx hb hK hP hD hS 15 1 rfl rfl (vp_in_nI (N := 6) (by omega) (by decide)) dM_take_53 (fun H locs hP hD hS => ?_)
    rw [nI_clamp (by omega)] at hP hD
    refine W.vret hx hb hr (fun t ht hW => ⟨⟨(de, ps, go, kd, pr, upd fa de (eI n x), fr), rfl, ⟨rfl, rfl, rfl, ?_, ?_⟩, by rw [ht]; exact hP, hD⟩, hS.F ht⟩) hS.2.2 dM_take_54
    · show mFr n kd pr (upd fa de (eI n x)) fr S.length (κ, p9, some x, fi9)
      rw [← hde]
      exact ⟨a1, a2, a3, a4, pk_us, fun y e9 => (by cases e9; exact hxP), a7, a8⟩
    · exact hS9.congr (fun j hj => ⟨rfl, rfl, pk_un (by omega), rfl⟩)
  cases fo9 with
  | none => exact absurd rfl h
  | some y =>
    have hyP := a6 y rfl
    refine lv_aload_n hx hb dM_take_13 rfl (lv_at hl 0 rfl) ?_
    refine va_get (ci := 5) (C := RM) (T := TM) (N := 26) hx hb ht inM hown hK hP 0 rfl rfl 23 (by decide) (ht _ tw_672) (fun _ h9 => h9) rfl dM_take_14 ?_
    refine lv_aload_n hx hb dM_take_17 rfl (lv_at hl 0 rfl) ?_
    refine va_get (ci := 5) (C := RM) (T := TM) (N := 26) hx hb ht inM hown hK hP 0 rfl rfl 18 (by decide) (ht _ tw_667) (fun _ h9 => h9) rfl dM_take_18 ?_
    refine lv_aload_n hx hb dM_take_21 rfl (lv_at hl 0 rfl) ?_
    refine lv_aload_n hx hb dM_take_22 rfl (lv_at hl 0 rfl) ?_
    refine va_get (ci := 5) (C := RM) (T := TM) (N := 26) hx hb ht inM hown hK hP 0 rfl rfl 23 (by decide) (ht _ tw_672) (fun _ h9 => h9) rfl dM_take_23 ?_
    refine lv_aload_n hx hb dM_take_26 rfl (lv_at hl 0 rfl) ?_
    refine va_get (ci := 5) (C := RM) (T := TM) (N := 26) hx hb ht inM hown hK hP 0 rfl rfl 18 (by decide) (ht _ tw_667) (fun _ h9 => h9) rfl dM_take_27 ?_
    refine va_iald hx hb hK hP 14 1 rfl rfl (vp_in_nI (N := 6) (by omega) (by decide)) dM_take_30 ?_
    refine wti (x' := eI n p9) (by rw [nI_clamp (by omega)]; exact a3) ?_
    refine lv_aload_n hx hb dM_take_31 rfl (lv_at hl 0 rfl) ?_
    refine va_get (ci := 5) (C := RM) (T := TM) (N := 26) hx hb ht inM hown hK hP 0 rfl rfl 24 (by decide) (ht _ tw_673) (fun _ h9 => h9) rfl dM_take_32 ?_
    refine lv_aload_n hx hb dM_take_35 rfl (lv_at hl 0 rfl) ?_
    refine va_get (ci := 5) (C := RM) (T := TM) (N := 26) hx hb ht inM hown hK hP 0 rfl rfl 18 (by decide) (ht _ tw_667) (fun _ h9 => h9) rfl dM_take_36 ?_
    refine va_iald hx hb hK hP 15 1 rfl rfl (vp_in_nI (N := 6) (by omega) (by decide)) dM_take_39 ?_
    refine wti (x' := eI n y) (by rw [nI_clamp (by omega)]; exact a5) ?_
    refine qV_i (ci := 5) (q0 := 0) (As := [.int (eI n p9), .int (eI n y)]) (rest := [.int (nI de), .ref (d 14)]) ⟨hx, hb, hml, hown, ht⟩ (c_M_times l D z d n p9 y hn a4 hyP) (cB 2 ht gM_times rfl tw_64 tw_761 (by decide +kernel) ⟨by decide, by decide⟩) tw_763 tw_34 hK (hP) rfl rfl rfl hl.1 rfl (Nat.le_of_ble_eq_true rfl) dM_take_40 ⟨by decide, by decide⟩ (fun r40 h40 => ?_)
    subst h40
    refine va_iast hx hb hK hP hD hS 14 1 rfl rfl (vp_in_nI (N := 6) (by omega) (by decide)) dM_take_43 (fun H locs hP hD hS => ?_)
    rw [nI_clamp (by omega)] at hP hD
    replace hP : va_P D vC (mW z d n cd ty ft gc fg fo fh fs ff fq mk fm fi de ps re go kd (upd pr de (eI n (pg_mul p9 y))) fa fr) H := hP
    replace hD : va_D A (mW z d n cd ty ft gc fg fo fh fs ff fq mk fm fi de ps re go kd (upd pr de (eI n (pg_mul p9 y))) fa fr) := hD
    refine lv_aload_n hx hb dM_take_44 rfl (lv_at hl 0 rfl) ?_
    refine va_get (ci := 5) (C := RM) (T := TM) (N := 26) hx hb ht inM hown hK hP 0 rfl rfl 24 (by decide) (ht _ tw_673) (fun _ h9 => h9) rfl dM_take_45 ?_
    refine lv_aload_n hx hb dM_take_48 rfl (lv_at hl 0 rfl) ?_
    refine va_get (ci := 5) (C := RM) (T := TM) (N := 26) hx hb ht inM hown hK hP 0 rfl rfl 18 (by decide) (ht _ tw_667) (fun _ h9 => h9) rfl dM_take_49 ?_
    refine lv_iload_n hx hb dM_take_52 rfl (lv_at hl 1 rfl) ?_
    refine va_iast hx hb hK hP hD hS 15 1 rfl rfl (vp_in_nI (N := 6) (by omega) (by decide)) dM_take_53 (fun H locs hP hD hS => ?_)
    rw [nI_clamp (by omega)] at hP hD
    refine W.vret hx hb hr (fun t ht hW => ⟨⟨(de, ps, go, kd, upd pr de (eI n (pg_mul p9 y)), upd fa de (eI n x), fr), rfl, ⟨rfl, rfl, rfl, ?_, ?_⟩, by rw [ht]; exact hP, hD⟩, hS.F ht⟩) hS.2.2 dM_take_54
    · show mFr n kd (upd pr de (eI n (pg_mul p9 y))) (upd fa de (eI n x)) fr S.length (κ, pg_mul p9 y, some x, fi9)
      rw [← hde]
      exact ⟨a1, a2, pk_us, (show pg_P n (pg_mul p9 y) from pg_P_mul a4 hyP), pk_us, fun y e9 => (by cases e9; exact hxP), a7, a8⟩
    · exact hS9.congr (fun j hj => ⟨rfl, pk_un (by omega), pk_un (by omega), rfl⟩)
set_option maxHeartbeats 2000000 in
set_option maxRecDepth 100000 in
theorem c_M_whole (l : Launch) (D : va_G) (z : Nat → ClassId) (d : Nat → Nat) (n : Nat) {cd : Int32} {ty : Nat} {ft : Nat → Int32} {gc : Nat} {fg fo fh : Nat → Int32} {fs ff : Nat → Int64} {fq : Nat → Int32} {mk : Nat} {fm fi : Nat → Int32} {de ps : Nat} {re : Int32} {go : Bool} {kd pr fa fr : Nat → Int32} (hn : n ≤ 7) (κ : Nat) (p9 y fi9 : pg_F) (S : List pr_Fr) (hS9 : mSk n kd pr fa fr ((κ, p9, some y, fi9) :: S)) (hde : de = S.length) (hle : S.length < 6) : Met l yM_whole wM_whole (rmF 2) (va_Pc [.ref (d 0)] (fun U => va_P D vC (mW z d n cd ty ft gc fg fo fh fs ff fq mk fm fi de ps re go kd pr fa fr) U.heap ∧ va_K D vC (tyL z) U)) (vp_Si (fun r => r = eI n (pg_mul p9 y))) 0 0 (fun _ => False) := by
  obtain ⟨h1, hS9⟩ := hS9
  rw [← hde] at h1
  obtain ⟨a1, a2, a3, a4, a5, a6, a7, a8⟩ := h1
  replace a3 : pr de = eI n p9 := a3
  replace a4 : pg_P n p9 := a4
  replace a5 : fa de = eI n y := a5
  have hyP : pg_P n y := a6 y rfl
  refine Met.ofW (cc := prog_9_method_14_code) (maxL := 1) (ret := (some .int)) (by decide) rfl ?_
  intro p e s m args below meth c s₁ B hml hv
  have hx := B.exec
  have hb := B.bytes
  have hr := B.returns
  have ht : ∀ w ∈ TB, w.before args s = true := fun w h => atoms_spec (ws := wM_whole) B.pre w (List.mem_cons_of_mem _ h)
  have hown : s.vm.findClass "PermutationDeskModel" = some m.cls := findClass_of_methodNamed B.named
  have hlocks := B.notSynchronized
  obtain ⟨rfl, hP, hK⟩ := hv
  have hl := lv_entry ([.ref (d 0)]) (n := 1) (Nat.le_of_ble_eq_true rfl)
  rw [lg_entry_eq]
  generalize (lg_sl ([.ref (d 0)]) ++ List.replicate (1 - (lg_sl ([.ref (d 0)])).length) Slot.unset).toArray = ls at hl ⊢
  have hl : lv_has ls 1 [(0, .ref (d 0))] := hl
  refine lv_aload_n hx hb dM_whole_0 rfl (lv_at hl 0 rfl) ?_
  refine lv_aload_n hx hb dM_whole_1 rfl (lv_at hl 0 rfl) ?_
  refine va_get (ci := 5) (C := RM) (T := TM) (N := 26) hx hb ht inM hown hK hP 0 rfl rfl 23 (by decide) (ht _ tw_672) (fun _ h9 => h9) rfl dM_whole_2 ?_
  refine lv_aload_n hx hb dM_whole_5 rfl (lv_at hl 0 rfl) ?_
  refine va_get (ci := 5) (C := RM) (T := TM) (N := 26) hx hb ht inM hown hK hP 0 rfl rfl 18 (by decide) (ht _ tw_667) (fun _ h9 => h9) rfl dM_whole_6 ?_
  refine va_iald hx hb hK hP 14 1 rfl rfl (vp_in_nI (N := 6) (by omega) (by decide)) dM_whole_9 ?_
  refine wti (x' := eI n p9) (by rw [nI_clamp (by omega)]; exact a3) ?_
  refine lv_aload_n hx hb dM_whole_10 rfl (lv_at hl 0 rfl) ?_
  refine va_get (ci := 5) (C := RM) (T := TM) (N := 26) hx hb ht inM hown hK hP 0 rfl rfl 24 (by decide) (ht _ tw_673) (fun _ h9 => h9) rfl dM_whole_11 ?_
  refine lv_aload_n hx hb dM_whole_14 rfl (lv_at hl 0 rfl) ?_
  refine va_get (ci := 5) (C := RM) (T := TM) (N := 26) hx hb ht inM hown hK hP 0 rfl rfl 18 (by decide) (ht _ tw_667) (fun _ h9 => h9) rfl dM_whole_15 ?_
  refine va_iald hx hb hK hP 15 1 rfl rfl (vp_in_nI (N := 6) (by omega) (by decide)) dM_whole_18 ?_
  refine wti (x' := eI n y) (by rw [nI_clamp (by omega)]; exact a5) ?_
  refine qV_i (ci := 5) (q0 := 0) (As := [.int (eI n p9), .int (eI n y)]) (rest := []) ⟨hx, hb, hml, hown, ht⟩ (c_M_times l D z d n p9 y hn a4 hyP) (cB 2 ht gM_times rfl tw_64 tw_761 (by decide +kernel) ⟨by decide, by decide⟩) tw_763 tw_34 hK (hP) rfl rfl rfl hl.1 rfl (Nat.le_of_ble_eq_true rfl) dM_whole_19 ⟨by decide, by decide⟩ (fun r19 h19 => ?_)
  subst h19
  exact W.iret hx hb hr (fun t h _ => ⟨_, rfl, rfl, h⟩) (fun q h => by cases h) dM_whole_22
/-- what a step says -/
def mAns (n : Nat) (o : Option (Nat × List pr_Fr)) (u : mRd) : Prop := match o with
  | some (a1, S1) => u.2.2.1 = true ∧ u.2.1 = a1 ∧ u.1 + 1 = S1.length ∧ S1.length ≤ 5 ∧ mSk n u.2.2.2.1 u.2.2.2.2.1 u.2.2.2.2.2.1 u.2.2.2.2.2.2 S1
  | none => u.2.2.1 = false
def mOK (tx : Nat → Nat) (len n gc : Nat) (g : Nat → pg_F) (ft fg : Nat → Int32) : Prop := len ≤ 24 ∧ gc ≤ 6 ∧ n ≤ 7 ∧ (∀ j, j < len → tx j < 128 ∧ ft j = nI (tx j)) ∧ ∀ i, i < gc → pg_P n (g i) ∧ fg i = eI n (g i)
theorem pe_bitS {m k : Nat} (hm : m < 2 ^ 31) (hk : k < 32) : (nI m >>> (nI k &&& 31)) &&& 1 = nI (m / 2 ^ k % 2) := by
  rw [pe_shr hk hm]
  exact pe_mask32 (m / 2 ^ k) 1 (by decide)
def mSig (tx : Nat → Nat) (n ty ps c9 κ : Nat) (p9 : pg_F) (fo9 : Option pg_F) (fi9 : pg_F) (S : List pr_Fr) : Option (Nat × List pr_Fr) := match fo9 with
  | none => none
  | some x => if c9 = 39 then some (ps, (κ, p9, some (pg_inv n x), fi9) :: S) else if 48 ≤ pr_look tx ty ps ∧ pr_look tx ty ps ≤ 57 then some (ps + 1, (κ, p9, some (pg_pow x (pr_look tx ty ps - 48)), fi9) :: S) else none
theorem mSk.fac {n : Nat} {kd pr fa fr : Nat → Int32} {κ : Nat} {p9 fi9 : pg_F} {fo9 : Option pg_F} {S : List pr_Fr} (h : mSk n kd pr fa fr ((κ, p9, fo9, fi9) :: S)) {y : pg_F} (hy : pg_P n y) {de : Nat} (hde : de = S.length) : mSk n kd pr (upd fa de (eI n y)) fr ((κ, p9, some y, fi9) :: S) := by
  obtain ⟨⟨a1, a2, a3, a4, a5, a6, a7, a8⟩, hS9⟩ := h
  subst hde
  exact ⟨⟨a1, a2, a3, a4, pk_us, fun z e9 => (by cases e9; exact hy), a7, a8⟩, hS9.congr (fun j hj => ⟨rfl, rfl, pk_un (by omega), rfl⟩)⟩
set_option maxHeartbeats 4000000 in
set_option maxRecDepth 100000 in
theorem c_M_sign (l : Launch) (D : va_G) (z : Nat → ClassId) (d : Nat → Nat) (n : Nat) {cd : Int32} {ty : Nat} {ft : Nat → Int32} {gc : Nat} {fg fo fh : Nat → Int32} {fs ff : Nat → Int64} {fq : Nat → Int32} {mk : Nat} {fm fi : Nat → Int32} {de ps : Nat} {re : Int32} {go : Bool} {kd pr fa fr : Nat → Int32} (sz : Nat) (tx : Nat → Nat) (g : Nat → pg_F) (hok : mOK tx ty n gc g ft fg) (hps : ps ≤ ty) (κ : Nat) (p9 fi9 : pg_F) (fo9 : Option pg_F) (S : List pr_Fr) (hS9 : mSk n kd pr fa fr ((κ, p9, fo9, fi9) :: S)) (hde : de = S.length) (hle : S.length ≤ 4) (c9 : Nat) (hc9 : c9 = 39 ∨ c9 = 94) : Met l yM_sign wM_sign (rmF 2) (va_Pc [.ref (d 0), .int (nI c9)] (fun U => U.heap.size = sz ∧ va_P D vC (mW z d n cd ty ft gc fg fo fh fs ff fq mk fm fi de ps re go kd pr fa fr) U.heap ∧ va_K D vC (tyL z) U ∧ va_D (fun _ => True) (mW z d n cd ty ft gc fg fo fh fs ff fq mk fm fi de ps re go kd pr fa fr))) (va_Qv (fun u : mRd => mAns n (mSig tx n ty ps c9 κ p9 fo9 fi9 S) u) (fun u t => va_P D vC (mW z d n cd ty ft gc fg fo fh fs ff fq mk fm fi u.1 u.2.1 re u.2.2.1 u.2.2.2.1 u.2.2.2.2.1 u.2.2.2.2.2.1 u.2.2.2.2.2.2) t.heap ∧ va_D (va_A (mW z d n cd ty ft gc fg fo fh fs ff fq mk fm fi de ps re go kd pr fa fr) sz) (mW z d n cd ty ft gc fg fo fh fs ff fq mk fm fi u.1 u.2.1 re u.2.2.1 u.2.2.2.1 u.2.2.2.2.1 u.2.2.2.2.2.1 u.2.2.2.2.2.2)) (va_A (mW z d n cd ty ft gc fg fo fh fs ff fq mk fm fi de ps re go kd pr fa fr) sz)) 0 0 (va_A (mW z d n cd ty ft gc fg fo fh fs ff fq mk fm fi de ps re go kd pr fa fr) sz) := by
  have hn := hok.2.2.1
  have hlen := hok.1
  have hS8 := hS9
  obtain ⟨h1, hS9⟩ := hS9
  rw [← hde] at h1
  obtain ⟨a1, a2, a3, a4, a5, a6, a7, a8⟩ := h1
  replace a5 : fa de = oI n fo9 := a5
  replace a6 : ∀ x, fo9 = some x → pg_P n x := a6
  refine Met.ofW (cc := prog_9_method_19_code) (maxL := 6) (ret := none) (by decide) rfl ?_
  intro p e s m args below meth c s₁ B hml hv
  have hx := B.exec
  have hb := B.bytes
  have hr := B.returns
  have ht : ∀ w ∈ TB, w.before args s = true := fun w h => atoms_spec (ws := wM_sign) B.pre w (List.mem_cons_of_mem _ h)
  have hown : s.vm.findClass "PermutationDeskModel" = some m.cls := findClass_of_methodNamed B.named
  have hlocks := B.notSynchronized
  obtain ⟨rfl, hsz, hP, hK, hD0⟩ := hv
  subst hsz
  have hD := hD0.self (sz := s.heap.size)
  generalize hAe : va_A (mW z d n cd ty ft gc fg fo fh fs ff fq mk fm fi de ps re go kd pr fa fr) s.heap.size = A at hD ⊢
  have hA : ∀ q : Nat, s.heap.size ≤ q → A q := fun q h => by rw [← hAe]; exact Or.inr h
  have hS : va_S A s.heap s.heap [] := va_S.rf
  have hl := lv_entry ([.ref (d 0), .int (nI c9)]) (n := 6) (Nat.le_of_ble_eq_true rfl)
  rw [lg_entry_eq]
  generalize (lg_sl ([.ref (d 0), .int (nI c9)]) ++ List.replicate (6 - (lg_sl ([.ref (d 0), .int (nI c9)])).length) Slot.unset).toArray = ls at hl ⊢
  have hl : lv_has ls 6 [(0, .ref (d 0)), (1, .int (nI c9))] := hl
  refine lv_aload_n hx hb dM_sign_0 rfl (lv_at hl 0 rfl) ?_
  refine va_get (ci := 5) (C := RM) (T := TM) (N := 26) hx hb ht inM hown hK hP 0 rfl rfl 24 (by decide) (ht _ tw_673) (fun _ h9 => h9) rfl dM_sign_1 ?_
  refine lv_aload_n hx hb dM_sign_4 rfl (lv_at hl 0 rfl) ?_
  refine va_get (ci := 5) (C := RM) (T := TM) (N := 26) hx hb ht inM hown hK hP 0 rfl rfl 18 (by decide) (ht _ tw_667) (fun _ h9 => h9) rfl dM_sign_5 ?_
  refine va_iald hx hb hK hP 15 1 rfl rfl (vp_in_nI (N := 6) (by omega) (by decide)) dM_sign_8 ?_
  refine wti (x' := oI n fo9) (by rw [nI_clamp (by omega)]; exact a5) ?_
  refine lv_istore_n hx hb dM_sign_9 rfl hl (by decide) rfl (fun ls hl => ?_)
  replace hl : lv_has ls 6 [(2, .int (oI n fo9)), (0, .ref (d 0)), (1, .int (nI c9))] := hl
  refine lv_aload_n hx hb dM_sign_10 rfl (lv_at hl 1 rfl) ?_
  refine lv_iload_n hx hb dM_sign_11 rfl (lv_at hl 0 rfl) ?_
  refine lv_iconst (v := (-1)) hx hb dM_sign_12 (by decide) ?_
  refine lv_icmp_eq (tgt := 20) hx hb dM_sign_13 rfl (fun h => ?_) (fun h => ?_)
  · have h9 := (oI_none hn a6).mp h
    subst h9
    refine lv_iconst (v := 0) hx hb dM_sign_20 (by decide) ?_
    refine va_put (ci := 5) (ty := .boolean) (C := RM) (T := TM) (N := 26) hx hb ht inM tyM tyM_ok nmM hown hK hP hD hS 0 rfl rfl 21 (by decide) (ht _ tw_670) (fun _ h9 => h9) rfl (by decide +kernel) rfl rfl (Nat.le_of_ble_eq_true rfl) dM_sign_21 (fun H locs hP hD hS => ?_)
    have hP : va_P D vC (mW z d n cd ty ft gc fg fo fh fs ff fq mk fm fi de ps re false kd pr fa fr) H := hP
    have hD : va_D A (mW z d n cd ty ft gc fg fo fh fs ff fq mk fm fi de ps re false kd pr fa fr) := hD
    refine lv_aload_n hx hb dM_sign_24 rfl (lv_at hl 1 rfl) ?_
    refine va_get (ci := 5) (C := RM) (T := TM) (N := 26) hx hb ht inM hown hK hP 0 rfl rfl 21 (by decide) (ht _ tw_670) (fun _ h9 => h9) rfl dM_sign_25 ?_
    refine lv_if_ne (tgt := 32) hx hb dM_sign_28 rfl (fun h28 => ?_) (fun h28 => ?_)
    · exact absurd rfl h28
    exact W.vret hx hb hr (fun t ht hW => ⟨⟨(de, ps, false, kd, pr, fa, fr), rfl, rfl, by rw [ht]; exact hP, hD⟩, hS.F ht⟩) hS.2.2 dM_sign_31
  cases fo9 with
  | none => exact absurd rfl h
  | some x =>
    have hxP := a6 x rfl
    replace hl : lv_has ls 6 [(2, .int (eI n x)), (0, .ref (d 0)), (1, .int (nI c9))] := hl
    refine lv_iconst (v := 1) hx hb dM_sign_16 (by decide) ?_
    refine lv_goto (tgt := 21) hx hb dM_sign_17 rfl ?_
    refine va_put (ci := 5) (ty := .boolean) (C := RM) (T := TM) (N := 26) hx hb ht inM tyM tyM_ok nmM hown hK hP hD hS 0 rfl rfl 21 (by decide) (ht _ tw_670) (fun _ h9 => h9) rfl (by decide +kernel) rfl rfl (Nat.le_of_ble_eq_true rfl) dM_sign_21 (fun H locs hP hD hS => ?_)
    have hP : va_P D vC (mW z d n cd ty ft gc fg fo fh fs ff fq mk fm fi de ps re true kd pr fa fr) H := hP
    have hD : va_D A (mW z d n cd ty ft gc fg fo fh fs ff fq mk fm fi de ps re true kd pr fa fr) := hD
    refine lv_aload_n hx hb dM_sign_24 rfl (lv_at hl 1 rfl) ?_
    refine va_get (ci := 5) (C := RM) (T := TM) (N := 26) hx hb ht inM hown hK hP 0 rfl rfl 21 (by decide) (ht _ tw_670) (fun _ h9 => h9) rfl dM_sign_25 ?_
    refine lv_if_ne (tgt := 32) hx hb dM_sign_28 rfl (fun h28 => ?_) (fun h28 => absurd h28 (by decide))
    refine lv_iload_n hx hb dM_sign_32 rfl (lv_at hl 2 rfl) ?_
    refine lv_bipush (v := 39) hx hb dM_sign_33 (by decide) ?_
    refine lv_icmp_ne (tgt := 53) hx hb dM_sign_35 rfl (fun h35 => ?_) (fun h35 => ?_)
    rotate_left
    · have hc : c9 = 39 := hc9.resolve_right (fun e9 => by rw [e9] at h35; exact absurd h35 (by decide))
      subst hc
      refine lv_aload_n hx hb dM_sign_38 rfl (lv_at hl 1 rfl) ?_
      refine va_get (ci := 5) (C := RM) (T := TM) (N := 26) hx hb ht inM hown hK hP 0 rfl rfl 24 (by decide) (ht _ tw_673) (fun _ h9 => h9) rfl dM_sign_39 ?_
      refine lv_aload_n hx hb dM_sign_42 rfl (lv_at hl 1 rfl) ?_
      refine va_get (ci := 5) (C := RM) (T := TM) (N := 26) hx hb ht inM hown hK hP 0 rfl rfl 18 (by decide) (ht _ tw_667) (fun _ h9 => h9) rfl dM_sign_43 ?_
      refine lv_aload_n hx hb dM_sign_46 rfl (lv_at hl 1 rfl) ?_
      refine lv_iload_n hx hb dM_sign_47 rfl (lv_at hl 0 rfl) ?_
      refine qV_i (ci := 5) (q0 := 0) (As := [.int (eI n x)]) (rest := [.int (nI de), .ref (d 15)]) ⟨hx, hb, hml, hown, ht⟩ (c_M_inverse l D z d n x hn hxP) (cB 1 ht gM_inverse rfl tw_64 tw_780 (by decide +kernel) ⟨by decide, by decide⟩) tw_782 tw_38 hK (hP) rfl rfl rfl hl.1 rfl (Nat.le_of_ble_eq_true rfl) dM_sign_48 ⟨by decide, by decide⟩ (fun r48 h48 => ?_)
      subst h48
      refine va_iast hx hb hK hP hD hS 15 1 rfl rfl (vp_in_nI (N := 6) (by omega) (by decide)) dM_sign_51 (fun H locs hP hD hS => ?_)
      rw [nI_clamp (by omega)] at hP hD
      refine W.vret hx hb hr (fun t ht hW => ⟨⟨(de, ps, true, kd, pr, upd fa de (eI n (pg_inv n x)), fr), rfl, ?_, by rw [ht]; exact hP, hD⟩, hS.F ht⟩) hS.2.2 dM_sign_52
      show mAns n (if 39 = 39 then some (ps, (κ, p9, some (pg_inv n x), fi9) :: S) else if 48 ≤ pr_look tx ty ps ∧ pr_look tx ty ps ≤ 57 then some (ps + 1, (κ, p9, some (pg_pow x (pr_look tx ty ps - 48)), fi9) :: S) else none) _
      rw [if_pos rfl]
      exact ⟨rfl, rfl, by show de + 1 = _; rw [List.length_cons, hde], by rw [List.length_cons]; omega, hS8.fac (pg_P_inv hxP) hde⟩
    have hc : c9 = 94 := hc9.resolve_left (fun e9 => h35 (by rw [e9]; rfl))
    subst hc
    refine wjv (σ := Int32) (pc := 80) (fun D9 => [.int D9]) (I := fun D9 H1 locs1 ls1 => D9 < 0 ∧ ¬ (48 ≤ pr_look tx ty ps ∧ pr_look tx ty ps ≤ 57) ∧ H = H1 ∧ locs = locs1 ∧ ls = ls1) ?_ (fun jn => ?_)
    · rintro D9 H1 locs1 ls1 ⟨hneg, hno, rfl, rfl, rfl⟩
      refine lv_istore_n hx hb dM_sign_80 rfl hl (by decide) rfl (fun ls hl => ?_)
      replace hl : lv_has ls 6 [(3, .int D9), (2, .int (eI n x)), (0, .ref (d 0)), (1, .int (nI 94))] := hl
      refine lv_aload_n hx hb dM_sign_81 rfl (lv_at hl 2 rfl) ?_
      refine lv_dup hx hb dM_sign_82 rfl ?_
      refine va_get (ci := 5) (C := RM) (T := TM) (N := 26) hx hb ht inM hown hK hP 0 rfl rfl 19 (by decide) (ht _ tw_668) (fun _ h9 => h9) rfl dM_sign_83 ?_
      refine lv_iconst (v := 1) hx hb dM_sign_86 (by decide) ?_
      refine lv_iadd hx hb dM_sign_87 ?_
      refine wti (x' := nI (ps + 1)) (nI_1 ps) ?_
      refine va_put (ci := 5) (ty := .int) (C := RM) (T := TM) (N := 26) hx hb ht inM tyM tyM_ok nmM hown hK hP hD hS 0 rfl rfl 19 (by decide) (ht _ tw_668) (fun _ h9 => h9) rfl (by decide +kernel) rfl rfl (Nat.le_of_ble_eq_true rfl) dM_sign_88 (fun H locs hP hD hS => ?_)
      have hP : va_P D vC (mW z d n cd ty ft gc fg fo fh fs ff fq mk fm fi de (ps + 1) re true kd pr fa fr) H := hP
      have hD : va_D A (mW z d n cd ty ft gc fg fo fh fs ff fq mk fm fi de (ps + 1) re true kd pr fa fr) := hD
      refine lv_aload_n hx hb dM_sign_91 rfl (lv_at hl 2 rfl) ?_
      refine lv_iload_n hx hb dM_sign_92 rfl (lv_at hl 0 rfl) ?_
      refine lv_if_lt (tgt := 106) hx hb dM_sign_93 rfl (fun h93 => ?_) (fun h93 => absurd hneg h93)
      refine lv_iconst (v := 0) hx hb dM_sign_106 (by decide) ?_
      refine va_put (ci := 5) (ty := .boolean) (C := RM) (T := TM) (N := 26) hx hb ht inM tyM tyM_ok nmM hown hK hP hD hS 0 rfl rfl 21 (by decide) (ht _ tw_670) (fun _ h9 => h9) rfl (by decide +kernel) rfl rfl (Nat.le_of_ble_eq_true rfl) dM_sign_107 (fun H locs hP hD hS => ?_)
      have hP : va_P D vC (mW z d n cd ty ft gc fg fo fh fs ff fq mk fm fi de (ps + 1) re false kd pr fa fr) H := hP
      have hD : va_D A (mW z d n cd ty ft gc fg fo fh fs ff fq mk fm fi de (ps + 1) re false kd pr fa fr) := hD
      refine lv_aload_n hx hb dM_sign_110 rfl (lv_at hl 2 rfl) ?_
      refine va_get (ci := 5) (C := RM) (T := TM) (N := 26) hx hb ht inM hown hK hP 0 rfl rfl 3 (by decide) (ht _ tw_652) (fun _ h9 => h9) rfl dM_sign_111 ?_
      refine lv_iconst (v := 0) hx hb dM_sign_114 (by decide) ?_
      refine va_iald hx hb hK hP 1 1 rfl rfl (vp_in_nI (n := 0) (N := 5040) (by decide) (by decide)) dM_sign_115 ?_
      refine wti (x' := eI n pg_id) (mL_0 n) ?_
      refine lv_istore hx hb dM_sign_116 hl (by decide) rfl (fun ls hl => ?_)
      replace hl : lv_has ls 6 [(4, .int (eI n pg_id)), (3, .int D9), (2, .int (eI n x)), (0, .ref (d 0)), (1, .int (nI 94))] := hl
      refine lv_iconst (v := 0) hx hb dM_sign_118 (by decide) ?_
      refine lv_istore hx hb dM_sign_119 hl (by decide) rfl (fun ls hl => ?_)
      replace hl : lv_has ls 6 [(5, .int (nI 0)), (4, .int (eI n pg_id)), (3, .int D9), (2, .int (eI n x)), (0, .ref (d 0)), (1, .int (nI 94))] := hl
      refine lv_iload hx hb dM_sign_121 (lv_at hl 0 rfl) ?_
      refine lv_iload_n hx hb dM_sign_123 rfl (lv_at hl 2 rfl) ?_
      refine lv_icmp_ge (tgt := 142) hx hb dM_sign_124 rfl (fun h124 => ?_) (fun h124 => absurd (Int32.le_of_lt hneg) h124)
      refine lv_aload_n hx hb dM_sign_142 rfl (lv_at hl 4 rfl) ?_
      refine va_get (ci := 5) (C := RM) (T := TM) (N := 26) hx hb ht inM hown hK hP 0 rfl rfl 24 (by decide) (ht _ tw_673) (fun _ h9 => h9) rfl dM_sign_143 ?_
      refine lv_aload_n hx hb dM_sign_146 rfl (lv_at hl 4 rfl) ?_
      refine va_get (ci := 5) (C := RM) (T := TM) (N := 26) hx hb ht inM hown hK hP 0 rfl rfl 18 (by decide) (ht _ tw_667) (fun _ h9 => h9) rfl dM_sign_147 ?_
      refine lv_iload hx hb dM_sign_150 (lv_at hl 1 rfl) ?_
      refine va_iast hx hb hK hP hD hS 15 1 rfl rfl (vp_in_nI (N := 6) (by omega) (by decide)) dM_sign_152 (fun H locs hP hD hS => ?_)
      rw [nI_clamp (by omega)] at hP hD
      refine W.vret hx hb hr (fun t ht hW => ⟨⟨(de, ps + 1, false, kd, pr, upd fa de (eI n pg_id), fr), rfl, ?_, by rw [ht]; exact hP, hD⟩, hS.F ht⟩) hS.2.2 dM_sign_153
      show mAns n (if 94 = 39 then some (ps, (κ, p9, some (pg_inv n x), fi9) :: S) else if 48 ≤ pr_look tx ty ps ∧ pr_look tx ty ps ≤ 57 then some (ps + 1, (κ, p9, some (pg_pow x (pr_look tx ty ps - 48)), fi9) :: S) else none) _
      rw [if_neg (by decide), if_neg hno]
      rfl
    refine lv_aload_n hx hb dM_sign_53 rfl (lv_at hl 1 rfl) ?_
    refine va_get (ci := 5) (C := RM) (T := TM) (N := 26) hx hb ht inM hown hK hP 0 rfl rfl 19 (by decide) (ht _ tw_668) (fun _ h9 => h9) rfl dM_sign_54 ?_
    refine lv_aload_n hx hb dM_sign_57 rfl (lv_at hl 1 rfl) ?_
    refine va_get (ci := 5) (C := RM) (T := TM) (N := 26) hx hb ht inM hown hK hP 0 rfl rfl 6 (by decide) (ht _ tw_655) (fun _ h9 => h9) rfl dM_sign_58 ?_
    refine lv_icmp_ge (tgt := 79) hx hb dM_sign_61 rfl (fun h61 => ?_) (fun h61 => ?_)
    · have h62 : ty ≤ ps := (nI_leI (by omega) (by omega)).mp h61
      refine lv_iconst (v := (-1)) hx hb dM_sign_79 (by decide) ?_
      exact jn (-1) _ _ ls ⟨by decide, by rw [pr_look_out h62]; omega, rfl, rfl, rfl⟩
    have hlt : ps < ty := by
      rw [nI_leI (by omega) (by omega)] at h61
      omega
    obtain ⟨hc128, hft⟩ := hok.2.2.2.1 ps hlt
    have hlk : pr_look tx ty ps = tx ps := pr_look_in hlt
    obtain ⟨cc, hcc⟩ : ∃ cc, cc = tx ps := ⟨_, rfl⟩
    rw [← hcc] at hc128 hft hlk
    refine lv_aload_n hx hb dM_sign_64 rfl (lv_at hl 1 rfl) ?_
    refine va_get (ci := 5) (C := RM) (T := TM) (N := 26) hx hb ht inM hown hK hP 0 rfl rfl 7 (by decide) (ht _ tw_656) (fun _ h9 => h9) rfl dM_sign_65 ?_
    refine lv_aload_n hx hb dM_sign_68 rfl (lv_at hl 1 rfl) ?_
    refine va_get (ci := 5) (C := RM) (T := TM) (N := 26) hx hb ht inM hown hK hP 0 rfl rfl 19 (by decide) (ht _ tw_668) (fun _ h9 => h9) rfl dM_sign_69 ?_
    refine va_iald hx hb hK hP 4 1 rfl rfl (vp_in_nI (N := 24) (by omega) (by decide)) dM_sign_72 ?_
    refine wti (x' := nI cc) (by rw [nI_clamp (by omega)]; exact hft) ?_
    refine lv_bipush (v := 48) hx hb dM_sign_73 (by decide) ?_
    refine lv_isub hx hb dM_sign_75 ?_
    by_cases h48 : cc < 48
    · refine wti (x' := nI cc - nI 48) rfl ?_
      refine lv_goto (tgt := 80) hx hb dM_sign_76 rfl ?_
      exact jn (nI cc - nI 48) _ _ ls ⟨pk_sneg (by decide) h48, by rw [hlk]; omega, rfl, rfl, rfl⟩
    refine wti (x' := nI (cc - 48)) (pk_sub (b := 48) (by omega)) ?_
    clear jn
    obtain ⟨dd, hdd⟩ : ∃ dd, dd = cc - 48 := ⟨_, rfl⟩
    rw [← hdd]
    refine lv_goto (tgt := 80) hx hb dM_sign_76 rfl ?_
    refine lv_istore_n hx hb dM_sign_80 rfl hl (by decide) rfl (fun ls hl => ?_)
    replace hl : lv_has ls 6 [(3, .int (nI dd)), (2, .int (eI n x)), (0, .ref (d 0)), (1, .int (nI 94))] := hl
    refine lv_aload_n hx hb dM_sign_81 rfl (lv_at hl 2 rfl) ?_
    refine lv_dup hx hb dM_sign_82 rfl ?_
    refine va_get (ci := 5) (C := RM) (T := TM) (N := 26) hx hb ht inM hown hK hP 0 rfl rfl 19 (by decide) (ht _ tw_668) (fun _ h9 => h9) rfl dM_sign_83 ?_
    refine lv_iconst (v := 1) hx hb dM_sign_86 (by decide) ?_
    refine lv_iadd hx hb dM_sign_87 ?_
    refine wti (x' := nI (ps + 1)) (nI_1 ps) ?_
    refine va_put (ci := 5) (ty := .int) (C := RM) (T := TM) (N := 26) hx hb ht inM tyM tyM_ok nmM hown hK hP hD hS 0 rfl rfl 19 (by decide) (ht _ tw_668) (fun _ h9 => h9) rfl (by decide +kernel) rfl rfl (Nat.le_of_ble_eq_true rfl) dM_sign_88 (fun H locs hP hD hS => ?_)
    have hP : va_P D vC (mW z d n cd ty ft gc fg fo fh fs ff fq mk fm fi de (ps + 1) re true kd pr fa fr) H := hP
    have hD : va_D A (mW z d n cd ty ft gc fg fo fh fs ff fq mk fm fi de (ps + 1) re true kd pr fa fr) := hD
    refine lv_aload_n hx hb dM_sign_91 rfl (lv_at hl 2 rfl) ?_
    refine lv_iload_n hx hb dM_sign_92 rfl (lv_at hl 0 rfl) ?_
    refine lv_if_lt (tgt := 106) hx hb dM_sign_93 rfl (fun h93 => absurd h93 (nI_pos (by omega))) (fun h93 => ?_)
    refine wj (σ := Unit) (pc := 110) (I := fun _ H1 locs1 ls1 => va_P D vC (mW z d n cd ty ft gc fg fo fh fs ff fq mk fm fi de (ps + 1) re (decide (dd ≤ 9)) kd pr fa fr) H1 ∧ va_D A (mW z d n cd ty ft gc fg fo fh fs ff fq mk fm fi de (ps + 1) re (decide (dd ≤ 9)) kd pr fa fr) ∧ va_S A s.heap H1 locs1 ∧ lv_has ls1 6 [(3, .int (nI dd)), (2, .int (eI n x)), (0, .ref (d 0)), (1, .int (nI 94))]) ?_ (fun jn => ?_)
    · clear hP hD hS hl
      rintro - H locs ls ⟨hP, hD, hS, hl⟩
      refine lv_aload_n hx hb dM_sign_110 rfl (lv_at hl 2 rfl) ?_
      refine va_get (ci := 5) (C := RM) (T := TM) (N := 26) hx hb ht inM hown hK hP 0 rfl rfl 3 (by decide) (ht _ tw_652) (fun _ h9 => h9) rfl dM_sign_111 ?_
      refine lv_iconst (v := 0) hx hb dM_sign_114 (by decide) ?_
      refine va_iald hx hb hK hP 1 1 rfl rfl (vp_in_nI (n := 0) (N := 5040) (by decide) (by decide)) dM_sign_115 ?_
      refine wti (x' := eI n pg_id) (mL_0 n) ?_
      refine lv_istore hx hb dM_sign_116 hl (by decide) rfl (fun ls hl => ?_)
      replace hl : lv_has ls 6 [(4, .int (eI n pg_id)), (3, .int (nI dd)), (2, .int (eI n x)), (0, .ref (d 0)), (1, .int (nI 94))] := hl
      refine lv_iconst (v := 0) hx hb dM_sign_118 (by decide) ?_
      refine lv_istore hx hb dM_sign_119 hl (by decide) rfl (fun ls hl => ?_)
      replace hl : lv_has ls 6 [(5, .int (nI 0)), (4, .int (eI n pg_id)), (3, .int (nI dd)), (2, .int (eI n x)), (0, .ref (d 0)), (1, .int (nI 94))] := hl
      refine wl0 (σ := Nat) (I := fun q k ls => q + k = dd ∧ lv_has ls 6 [(5, .int (nI k)), (4, .int (eI n (pg_pow x k))), (3, .int (nI dd)), (2, .int (eI n x)), (0, .ref (d 0)), (1, .int (nI 94))]) ?_ dd 0 ls ⟨rfl, hl⟩
      clear hl
      rintro q k ls ⟨hdk, hl⟩ ih
      refine lv_iload hx hb dM_sign_121 (lv_at hl 0 rfl) ?_
      refine lv_iload_n hx hb dM_sign_123 rfl (lv_at hl 2 rfl) ?_
      refine lv_icmp_ge (tgt := 142) hx hb dM_sign_124 rfl (fun h124 => ?_) (fun h124 => ?_)
      · have hk : k = dd := by have := (nI_leI (by omega) (by omega)).mp h124; omega
        subst hk
        refine lv_aload_n hx hb dM_sign_142 rfl (lv_at hl 4 rfl) ?_
        refine va_get (ci := 5) (C := RM) (T := TM) (N := 26) hx hb ht inM hown hK hP 0 rfl rfl 24 (by decide) (ht _ tw_673) (fun _ h9 => h9) rfl dM_sign_143 ?_
        refine lv_aload_n hx hb dM_sign_146 rfl (lv_at hl 4 rfl) ?_
        refine va_get (ci := 5) (C := RM) (T := TM) (N := 26) hx hb ht inM hown hK hP 0 rfl rfl 18 (by decide) (ht _ tw_667) (fun _ h9 => h9) rfl dM_sign_147 ?_
        refine lv_iload hx hb dM_sign_150 (lv_at hl 1 rfl) ?_
        refine va_iast hx hb hK hP hD hS 15 1 rfl rfl (vp_in_nI (N := 6) (by omega) (by decide)) dM_sign_152 (fun H locs hP hD hS => ?_)
        rw [nI_clamp (by omega)] at hP hD
        refine W.vret hx hb hr (fun t ht hW => ⟨⟨(de, ps + 1, decide (k ≤ 9), kd, pr, upd fa de (eI n (pg_pow x k)), fr), rfl, ?_, by rw [ht]; exact hP, hD⟩, hS.F ht⟩) hS.2.2 dM_sign_153
        show mAns n (if 94 = 39 then some (ps, (κ, p9, some (pg_inv n x), fi9) :: S) else if 48 ≤ pr_look tx ty ps ∧ pr_look tx ty ps ≤ 57 then some (ps + 1, (κ, p9, some (pg_pow x (pr_look tx ty ps - 48)), fi9) :: S) else none) _
        rw [hlk, if_neg (by decide)]
        by_cases h9 : k ≤ 9
        · rw [if_pos (by omega), ← hdd]
          exact ⟨decide_eq_true h9, rfl, by show de + 1 = _; rw [List.length_cons, hde], by rw [List.length_cons]; omega, hS8.fac (pg_P_pow hxP k) hde⟩
        · rw [if_neg (by omega)]
          exact decide_eq_false h9
      have hk : k < dd := by
        rw [nI_leI (by omega) (by omega)] at h124
        omega
      refine lv_aload_n hx hb dM_sign_127 rfl (lv_at hl 4 rfl) ?_
      refine lv_iload hx hb dM_sign_128 (lv_at hl 1 rfl) ?_
      refine lv_iload_n hx hb dM_sign_130 rfl (lv_at hl 3 rfl) ?_
      refine qV_i (ci := 5) (q0 := 0) (As := [.int (eI n (pg_pow x k)), .int (eI n x)]) (rest := []) ⟨hx, hb, hml, hown, ht⟩ (c_M_times l D z d n (pg_pow x k) x hn (pg_P_pow hxP k) hxP) (cB 2 ht gM_times rfl tw_64 tw_761 (by decide +kernel) ⟨by decide, by decide⟩) tw_763 tw_34 hK (hP) rfl rfl rfl hl.1 rfl (Nat.le_of_ble_eq_true rfl) dM_sign_131 ⟨by decide, by decide⟩ (fun r131 h131 => ?_)
      subst h131
      refine lv_istore hx hb dM_sign_134 hl (by decide) rfl (fun ls hl => ?_)
      replace hl : lv_has ls 6 [(4, .int (eI n (pg_pow x (k + 1)))), (5, .int (nI k)), (3, .int (nI dd)), (2, .int (eI n x)), (0, .ref (d 0)), (1, .int (nI 94))] := hl
      refine lv_iinc (k := 1) (v := (nI (k + 1))) hx hb dM_sign_136 hl rfl (by exact nI_1 _) (by decide) rfl (fun ls hl => ?_)
      replace hl : lv_has ls 6 [(5, .int (nI (k + 1))), (4, .int (eI n (pg_pow x (k + 1)))), (3, .int (nI dd)), (2, .int (eI n x)), (0, .ref (d 0)), (1, .int (nI 94))] := hl
      refine lv_goto (tgt := 121) hx hb dM_sign_139 rfl ?_
      exact ih (q - 1) (k + 1) ls (by omega) ⟨by omega, lv_sub hl [0, 1, 2, 3, 4, 5] rfl⟩
    refine lv_iload_n hx hb dM_sign_96 rfl (lv_at hl 0 rfl) ?_
    refine lv_bipush (v := 9) hx hb dM_sign_97 (by decide) ?_
    refine lv_icmp_gt (tgt := 106) hx hb dM_sign_99 rfl (fun h99 => ?_) (fun h99 => ?_)
    · have h9 : ¬ dd ≤ 9 := by
        have := (nI_ltI (a := 9) (b := dd) (by omega) (by omega)).mp h99
        omega
      refine lv_iconst (v := 0) hx hb dM_sign_106 (by decide) ?_
      refine va_put (ci := 5) (ty := .boolean) (C := RM) (T := TM) (N := 26) hx hb ht inM tyM tyM_ok nmM hown hK hP hD hS 0 rfl rfl 21 (by decide) (ht _ tw_670) (fun _ h9 => h9) rfl (by decide +kernel) rfl rfl (Nat.le_of_ble_eq_true rfl) dM_sign_107 (fun H locs hP hD hS => ?_)
      have hP : va_P D vC (mW z d n cd ty ft gc fg fo fh fs ff fq mk fm fi de (ps + 1) re false kd pr fa fr) H := hP
      have hD : va_D A (mW z d n cd ty ft gc fg fo fh fs ff fq mk fm fi de (ps + 1) re false kd pr fa fr) := hD
      exact jn () _ _ ls ⟨by rw [decide_eq_false h9]; exact hP, by rw [decide_eq_false h9]; exact hD, hS, hl⟩
    have h9 : dd ≤ 9 := by
      have : ¬ _ := fun q => h99 ((nI_ltI (a := 9) (b := dd) (by omega) (by omega)).mpr q)
      omega
    refine lv_iconst (v := 1) hx hb dM_sign_102 (by decide) ?_
    refine lv_goto (tgt := 107) hx hb dM_sign_103 rfl ?_
    refine va_put (ci := 5) (ty := .boolean) (C := RM) (T := TM) (N := 26) hx hb ht inM tyM tyM_ok nmM hown hK hP hD hS 0 rfl rfl 21 (by decide) (ht _ tw_670) (fun _ h9 => h9) rfl (by decide +kernel) rfl rfl (Nat.le_of_ble_eq_true rfl) dM_sign_107 (fun H locs hP hD hS => ?_)
    have hP : va_P D vC (mW z d n cd ty ft gc fg fo fh fs ff fq mk fm fi de (ps + 1) re true kd pr fa fr) H := hP
    have hD : va_D A (mW z d n cd ty ft gc fg fo fh fs ff fq mk fm fi de (ps + 1) re true kd pr fa fr) := hD
    exact jn () _ _ ls ⟨by rw [decide_eq_true h9]; exact hP, by rw [decide_eq_true h9]; exact hD, hS, hl⟩
