/-! How groups are made: an element is entered, a group grows, conjugates, commutators, those that meet a condition. Pure. -/
/-- the steps off x, down to level k: r is left -/
def pg_sif (n : Nat) (T : pg_T) (x : pg_F) (k : Nat) (r : pg_F) : Prop := pg_P n r ∧ (∀ j, j < k → r j = j) ∧ (∀ T', pg_ok n T' → pg_le T T' → pg_In T' (n - k) k r → pg_In T' n 0 x) ∧ ∀ H, pg_G n H → (∀ k i s, T k i = some s → H s) → H x → H r
theorem pg_sif_0 {n : Nat} {T : pg_T} {x : pg_F} (hx : pg_P n x) : pg_sif n T x 0 x :=
  ⟨hx, fun j hj => by omega, fun _ _ _ h => h, fun _ _ _ h => h⟩
theorem pg_sif_s {n : Nat} {T : pg_T} (hT : pg_ok n T) {x r s : pg_F} {k : Nat} (h : pg_sif n T x k r) (hk : k < n) (hs : T k (r k) = some s) : pg_sif n T x (k + 1) (pg_mul r (pg_inv n s)) := by
  obtain ⟨h1, h2, h3, h4⟩ := h
  obtain ⟨-, -, -, b1, b2, b3⟩ := hT.2 _ _ _ hs
  refine ⟨pg_P_mul h1 (pg_P_inv b1), fun j hj => ?_, fun T' hT' hle hin => h3 T' hT' hle ?_, fun H hH hst hx => hH.2.2 _ _ (h4 H hH hst hx) (hH.inv (hst _ _ _ hs))⟩
  · show pg_inv n s (r j) = j
    by_cases q : j = k
    · subst q; exact pg_inv_at b1 b3
    · rw [h2 j (by omega)]; exact pg_inv_at b1 (b2 j (by omega))
  · rw [show n - k = (n - (k + 1)) + 1 by omega]
    exact (pg_In.sift hT').mpr ⟨s, hle _ _ _ hs, hin⟩
theorem pg_sif_k {n : Nat} {T : pg_T} (hT : pg_ok n T) {x r : pg_F} {k : Nat} (h : pg_sif n T x k r) (hk : k < n) (hr : r k = k) : pg_sif n T x (k + 1) r := by
  have := pg_sif_s hT h hk (s := pg_id) (by rw [hr]; exact hT.1 k hk)
  rw [pg_inv_id, pg_mul_id] at this
  exact this
theorem pg_sif_id {n : Nat} {T : pg_T} (hT : pg_ok n T) {x : pg_F} {k : Nat} (h : pg_sif n T x k pg_id) (hk : k ≤ n) : pg_In T n 0 x :=
  h.2.2.1 T hT pg_le.rf (pg_In.one hT _ _ (by omega))
theorem pg_sif_n {n : Nat} {T : pg_T} {x r : pg_F} (h : pg_sif n T x n r) : r = pg_id := pg_ext h.1 (pg_P_id n) (fun i hi => h.2.1 i hi)
theorem pg_sif_to {n : Nat} {T : pg_T} {x r : pg_F} {k : Nat} (h : pg_sif n T x k r) (hk : k < n) : k ≤ r k ∧ r k < n := by
  refine ⟨Nat.le_of_not_lt (fun hc => ?_), h.1.1 k hk⟩
  have := h.1.2.2 (r k) k (h.1.1 k hk) hk (h.2.1 _ hc)
  omega
/-- what comes of entering x -/
def pg_ent (n : Nat) (T : pg_T) (c : Nat) (M : Nat → pg_F) (lv : Nat → Nat) (x : pg_F) (T' : pg_T) (c' : Nat) (M' : Nat → pg_F) (lv' : Nat → Nat) : Prop := pg_ok n T' ∧ pg_mk n T' c' M' lv' ∧ pg_le T T' ∧ c ≤ c' ∧ (∀ a, a < c → M' a = M a ∧ lv' a = lv a) ∧ pg_In T' n 0 x ∧ ∀ H, pg_G n H → (∀ k i s, T k i = some s → H s) → H x → ∀ k i s, T' k i = some s → H s
theorem pg_ent_old {n : Nat} {T : pg_T} {c : Nat} {M : Nat → pg_F} {lv : Nat → Nat} {x : pg_F} (hT : pg_ok n T) (hm : pg_mk n T c M lv) (h : pg_In T n 0 x) : pg_ent n T c M lv x T c M lv :=
  ⟨hT, hm, pg_le.rf, Nat.le_refl _, fun _ _ => ⟨rfl, rfl⟩, h, fun _ _ h _ => h⟩
theorem pg_ent_new {n : Nat} {T : pg_T} {c : Nat} {M M' : Nat → pg_F} {lv lv' : Nat → Nat} {x r : pg_F} {k : Nat} (hT : pg_ok n T) (hm : pg_mk n T c M lv) (h : pg_sif n T x k r) (hk : k < n) (hn : T k (r k) = none) (hM : ∀ a, a < c → M' a = M a) (hl : ∀ a, a < c → lv' a = lv a) (hM2 : M' c = r) (hl2 : lv' c = k) : pg_ent n T c M lv x (pg_put T k (r k) r) (c + 1) M' lv' := by
  obtain ⟨a1, a2⟩ := pg_sif_to h hk
  have hne : k ≠ r k := fun e => by rw [← e, hT.1 k hk] at hn; cases hn
  have hok := pg_put_ok hT (by omega : k < r k) a2 h.1 h.2.1 rfl
  refine ⟨hok, pg_mk_put hm (by omega) a2 hn hM hl hM2 hl2, pg_put_le hn, by omega, fun a ha => ⟨hM a ha, hl a ha⟩, ?_, ?_⟩
  · refine h.2.2.1 _ hok (pg_put_le hn) ?_
    rw [show n - k = (n - (k + 1)) + 1 by omega]
    exact ⟨r k, r, pg_id, pg_put_at _ _ _ _, pg_In.one hok _ _ (by omega), rfl⟩
  · intro H hH hst hx a b s hs
    by_cases q : a = k ∧ b = r k
    · obtain ⟨rfl, rfl⟩ := q
      rw [pg_put_at] at hs
      cases hs
      exact h.2.2.2 H hH hst hx
    · rw [pg_put_ne T r q] at hs
      exact hst a b s hs
/-- the products of two makers are held -/
def pg_prd (n : Nat) (T : pg_T) (M : Nat → pg_F) (lv : Nat → Nat) (a b : Nat) : Prop := (lv a ≤ lv b → pg_In T n 0 (pg_mul (M a) (M b))) ∧ (lv b ≤ lv a → pg_In T n 0 (pg_mul (M b) (M a)))
theorem pg_prd_mono {n : Nat} {T T' : pg_T} {M M' : Nat → pg_F} {lv lv' : Nat → Nat} {a b : Nat} (h : pg_prd n T M lv a b) (hle : pg_le T T') (ha : M' a = M a ∧ lv' a = lv a) (hb : M' b = M b ∧ lv' b = lv b) : pg_prd n T' M' lv' a b := by
  unfold pg_prd
  rw [ha.1, ha.2, hb.1, hb.2]
  exact ⟨fun q => pg_In.mono hle _ _ _ (h.1 q), fun q => pg_In.mono hle _ _ _ (h.2 q)⟩
/-- a group in a table with its makers -/
def pg_gt (n : Nat) (T : pg_T) (c : Nat) (M : Nat → pg_F) (lv : Nat → Nat) (G : pg_F → Prop) : Prop := pg_ok n T ∧ pg_mk n T c M lv ∧ pg_G n G ∧ pg_In T n 0 = G
theorem pg_gt_clear (n : Nat) (M : Nat → pg_F) (lv : Nat → Nat) : pg_gt n (pg_clear n) 0 M lv (fun x => x = pg_id) := by
  refine ⟨pg_clear_ok n, pg_mk_clear n M lv, ⟨fun x h => by rw [h]; exact pg_P_id n, rfl, fun x y hx hy => by rw [hx, hy]; rfl⟩, pg_clear_in n⟩
theorem pg_gt.maker {n : Nat} {T : pg_T} {c : Nat} {M : Nat → pg_F} {lv : Nat → Nat} {G : pg_F → Prop} (h : pg_gt n T c M lv G) {a : Nat} (ha : a < c) : G (M a) := by
  have := (h.2.1.P h.1 ha).2.2
  rw [h.2.2.2] at this
  exact this
theorem pg_gt.prd {n : Nat} {T : pg_T} {c : Nat} {M : Nat → pg_F} {lv : Nat → Nat} {G : pg_F → Prop} (h : pg_gt n T c M lv G) {a b : Nat} (ha : a < c) (hb : b < c) : pg_prd n T M lv a b := by
  unfold pg_prd
  rw [h.2.2.2]
  exact ⟨fun _ => h.2.2.1.2.2 _ _ (h.maker ha) (h.maker hb), fun _ => h.2.2.1.2.2 _ _ (h.maker hb) (h.maker ha)⟩
theorem pg_gt.gen {n : Nat} {T : pg_T} {c : Nat} {M : Nat → pg_F} {lv : Nat → Nat} {G : pg_F → Prop} (h : pg_gt n T c M lv G) : G = pg_Gen (fun s => ∃ a, a < c ∧ s = M a) := by
  have := pg_In.makers h.1 h.2.1 (by rw [h.2.2.2]; exact h.2.2.1)
  rw [h.2.2.2] at this
  exact this
/-- a group with one element more -/
def pg_and (G : pg_F → Prop) (x : pg_F) : pg_F → Prop := pg_Gen (fun y => G y ∨ y = x)
theorem pg_and_G {n : Nat} {G : pg_F → Prop} {x : pg_F} (hG : pg_G n G) (hx : pg_P n x) : pg_G n (pg_and G x) := pg_Gen.grp (by
  rintro s (h | rfl)
  · exact hG.1 s h
  · exact hx)
theorem pg_and_in {G : pg_F → Prop} {x y : pg_F} (h : G y) : pg_and G x y := pg_Gen.of (Or.inl h)
theorem pg_and_x {G : pg_F → Prop} {x : pg_F} : pg_and G x x := pg_Gen.of (Or.inr rfl)
theorem pg_and_least {n : Nat} {G H : pg_F → Prop} {x : pg_F} (hH : pg_G n H) (h : ∀ y, G y → H y) (hx : H x) {y : pg_F} (hy : pg_and G x y) : H y := pg_Gen.least hH (by
  rintro s (q | rfl)
  · exact h s q
  · exact hx) hy
theorem pg_and_old {n : Nat} {G : pg_F → Prop} {x : pg_F} (hG : pg_G n G) (hx : G x) : pg_and G x = G :=
  funext fun y => propext ⟨pg_and_least hG (fun _ h => h) hx, pg_and_in⟩
/-- THE END OF add: all products are held -/
theorem pg_add_done {n : Nat} {T : pg_T} {c : Nat} {M : Nat → pg_F} {lv : Nat → Nat} {G : pg_F → Prop} {x : pg_F} (h : pg_gt n T c M lv G) (hx : pg_P n x) {T' : pg_T} {c' : Nat} {M' : Nat → pg_F} {lv' : Nat → Nat} (he : pg_ent n T c M lv x T' c' M' lv') (hp : ∀ a b, a < c' → b ≤ a → pg_prd n T' M' lv' a b) : pg_gt n T' c' M' lv' (pg_and G x) := by
  obtain ⟨e1, e2, e3, e4, e5, e6, e7⟩ := he
  have hcl : pg_G n (pg_In T' n 0) := pg_closed_mk e1 e2 (fun a b ha hb hab => by
    rcases Nat.le_total b a with q | q
    · exact (hp a b ha q).1 hab
    · exact (hp b a hb q).2 hab)
  refine ⟨e1, e2, pg_and_G h.2.2.1 hx, funext fun y => propext ⟨fun hy => ?_, fun hy => ?_⟩⟩
  · refine pg_In.least (pg_and_G h.2.2.1 hx) (e7 (pg_and G x) (pg_and_G h.2.2.1 hx) (fun k i s hs => pg_and_in ?_) pg_and_x) n 0 y hy
    rw [← h.2.2.2]
    exact pg_In.step h.1 hs
  · refine pg_and_least hcl (fun z hz => ?_) e6 hy
    rw [← h.2.2.2] at hz
    exact pg_In.mono e3 _ _ _ hz
theorem pg_ent_tr {n : Nat} {T T1 T2 : pg_T} {c c1 c2 : Nat} {M M1 M2 : Nat → pg_F} {lv lv1 lv2 : Nat → Nat} {x z : pg_F} (h : pg_ent n T c M lv x T1 c1 M1 lv1) (h' : pg_ent n T1 c1 M1 lv1 z T2 c2 M2 lv2) (hz : ∀ H, pg_G n H → (∀ k i s, T1 k i = some s → H s) → H z) : pg_ent n T c M lv x T2 c2 M2 lv2 := by
  obtain ⟨a1, a2, a3, a4, a5, a6, a7⟩ := h
  obtain ⟨b1, b2, b3, b4, b5, b6, b7⟩ := h'
  refine ⟨b1, b2, a3.tr b3, by omega, fun a ha => ?_, pg_In.mono b3 _ _ _ a6, fun H hH hst hx => ?_⟩
  · obtain ⟨q1, q2⟩ := a5 a ha
    obtain ⟨r1, r2⟩ := b5 a (by omega)
    exact ⟨r1.trans q1, r2.trans q2⟩
  · have := a7 H hH hst hx
    exact b7 H hH this (hz H hH this)
theorem pg_mk_H {n : Nat} {T : pg_T} {c : Nat} {M : Nat → pg_F} {lv : Nat → Nat} (hm : pg_mk n T c M lv) {H : pg_F → Prop} (hst : ∀ k i s, T k i = some s → H s) {a : Nat} (ha : a < c) : H (M a) := by
  obtain ⟨i, -, h⟩ := hm.2.1 a ha
  exact hst _ _ _ h
/-- closed under conjugation by a group -/
def pg_nrm (n : Nat) (N G : pg_F → Prop) : Prop := ∀ y x, N y → G x → N (pg_conj n y x)
theorem pg_nrm_of {n : Nat} {N : pg_F → Prop} {c d : Nat} {M B : Nat → pg_F} (hN : pg_G n N) (hgen : N = pg_Gen (fun s => ∃ a, a < c ∧ s = M a)) (hB : ∀ b, b < d → pg_P n (B b)) (hc : ∀ a b, a < c → b < d → N (pg_conj n (M a) (B b))) : pg_nrm n N (pg_Gen (fun s => ∃ b, b < d ∧ s = B b)) := by
  intro y x hy hx
  refine pg_norm_gen hN (S := fun s => ∃ b, b < d ∧ s = B b) ?_ ?_ hx y hy
  · rintro s ⟨b, hb, rfl⟩; exact hB b hb
  · rintro z s hz ⟨b, hb, rfl⟩
    rw [hgen] at hz
    refine pg_conj_gen hN (hB b hb) ?_ hz
    rintro w ⟨a, ha, rfl⟩
    exact hc a b ha hb
/-- N is the least group with N0 that is closed under conjugation by G -/
def pg_ncl (n : Nat) (N0 G N : pg_F → Prop) : Prop := pg_G n N ∧ (∀ y, N0 y → N y) ∧ pg_nrm n N G ∧ ∀ H, pg_G n H → (∀ y, N0 y → H y) → pg_nrm n H G → ∀ y, N y → H y
theorem pg_ncl_eq {n : Nat} {N0 N0' G N N' : pg_F → Prop} (h : pg_ncl n N0 G N) (h' : pg_ncl n N0' G N') (a : ∀ y, N0 y → N' y) (b : ∀ y, N0' y → N y) : N = N' :=
  funext fun y => propext ⟨h.2.2.2 N' h'.1 a h'.2.2.1 y, h'.2.2.2 N h.1 b h.2.2.1 y⟩
/-- all conjugates of y by a group -/
theorem pg_ncl_conj {n : Nat} {G : pg_F → Prop} (hG : pg_G n G) {y : pg_F} (hy : pg_P n y) : pg_ncl n (fun z => z = y) G (pg_Gen (fun z => ∃ x, G x ∧ z = pg_conj n y x)) := by
  have hN : pg_G n (pg_Gen (fun z => ∃ x, G x ∧ z = pg_conj n y x)) := pg_Gen.grp (by
    rintro z ⟨x, hx, rfl⟩; exact pg_P_conj hy (hG.1 x hx))
  refine ⟨hN, ?_, fun z x hz hx => ?_, fun H hH h0 hc z hz => ?_⟩
  · rintro z rfl
    exact pg_Gen.of ⟨pg_id, hG.2.1, (pg_conj_id z).symm⟩
  · refine pg_conj_gen hN (hG.1 x hx) ?_ hz
    rintro w ⟨v, hv, rfl⟩
    rw [pg_conj_conj (hG.1 v hv) (hG.1 x hx)]
    exact pg_Gen.of ⟨_, hG.2.2 _ _ hv hx, rfl⟩
  · refine pg_Gen.least hH ?_ hz
    rintro w ⟨x, hx, rfl⟩
    exact hc _ _ (h0 y rfl) hx
/-- all commutators of a group, by those with what it is made of -/
theorem pg_ncl_comm {n : Nat} {S C : pg_F → Prop} (hS : ∀ s, S s → pg_P n s) (hC : ∀ z, C z → ∃ a b, S a ∧ S b ∧ z = pg_comm n a b) (hall : ∀ a b, S a → S b → ∃ D, (D = pg_comm n a b ∨ D = pg_inv n (pg_comm n a b) ∨ a = b) ∧ (a = b ∨ C D)) {N : pg_F → Prop} (hN : pg_ncl n C (pg_Gen S) N) : N = pg_Gen (fun z => ∃ a s, pg_Gen S a ∧ S s ∧ z = pg_comm n a s) := by
  have hP := (pg_Gen.grp hS).1
  have hR : pg_G n (pg_Gen (fun z => ∃ a s, pg_Gen S a ∧ S s ∧ z = pg_comm n a s)) := pg_Gen.grp (by
    rintro z ⟨a, s, ha, hs, rfl⟩; exact pg_P_comm (hP a ha) (hS s hs))
  have hd := pg_derived_ref hS
  funext y
  refine propext ⟨hN.2.2.2 _ hR (fun z hz => ?_) (fun z x hz hx => ?_) y, fun hy => ?_⟩
  · obtain ⟨a, b, ha, hb, rfl⟩ := hC z hz
    exact hd a b (pg_Gen.of ha) (pg_Gen.of hb)
  · refine pg_conj_gen hR (hP x hx) ?_ hz
    rintro w ⟨a, s, ha, hs, rfl⟩
    have e := pg_comm_l (hP a ha) (hP x hx) (hS s hs)
    have e2 : pg_conj n (pg_comm n a s) x = pg_mul (pg_comm n (pg_mul a x) s) (pg_inv n (pg_comm n x s)) := by
      rw [e]
      show _ = pg_mul (pg_conj n (pg_comm n a s) x) (pg_mul (pg_comm n x s) (pg_inv n (pg_comm n x s)))
      rw [pg_mul_inv (pg_P_comm (hP x hx) (hS s hs)), pg_mul_id]
    rw [e2]
    exact hR.2.2 _ _ (pg_Gen.of ⟨_, s, pg_Gen.mul ha hx, hs, rfl⟩) (hR.inv (pg_Gen.of ⟨x, s, hx, hs, rfl⟩))
  · refine pg_Gen.least hN.1 ?_ hy
    rintro w ⟨a, s, ha, hs, rfl⟩
    refine pg_derived_in hN.1 hS hN.2.2.1 (fun a b ha hb => ?_) a s ha (pg_Gen.of hs)
    obtain ⟨D, h1, h2⟩ := hall a b ha hb
    rcases h2 with rfl | h2
    · rw [pg_comm_self (hS a ha)]; exact hN.1.2.1
    · have h3 := hN.2.1 D h2
      rcases h1 with rfl | rfl | rfl
      · exact h3
      · have := hN.1.inv h3
        rw [pg_inv_inv (pg_P_comm (hS a ha) (hS b hb))] at this
        exact this
      · rw [pg_comm_self (hS a ha)]; exact hN.1.2.1
/-- a condition, as far as the first k images tell -/
def pg_cnd (n : Nat) (C : pg_F → Prop) (A : pg_F → Nat → Bool) : Prop := (∀ x, pg_P n x → (A x n = true ↔ C x)) ∧ ∀ x y k, pg_P n x → pg_P n y → k ≤ n → (∀ j, j < k → y j = x j) → A x k = false → ¬ C y
/-- what a search from level k on behind x finds -/
def pg_fnd (T : pg_T) (d k : Nat) (x : pg_F) (C : pg_F → Prop) (o : Option pg_F) : Prop := match o with
  | none => ∀ z, pg_In T d k z → ¬ C (pg_mul z x)
  | some y => ∃ z, pg_In T d k z ∧ y = pg_mul z x ∧ C y
theorem pg_fnd_no {n : Nat} {T : pg_T} (hT : pg_ok n T) {d k : Nat} (hk : k + d = n) {x : pg_F} (hx : pg_P n x) {C : pg_F → Prop} {A : pg_F → Nat → Bool} (hA : pg_cnd n C A) (h : A x k = false) : pg_fnd T d k x C none := by
  intro z hz
  obtain ⟨a, b⟩ := pg_In.fix hT d k z hz
  exact hA.2 x (pg_mul z x) k hx (pg_P_mul a hx) (by omega) (fun j hj => by show x (z j) = x j; rw [b j hj]) h
theorem pg_fnd_end {n : Nat} {T : pg_T} {x : pg_F} (hx : pg_P n x) {C : pg_F → Prop} {A : pg_F → Nat → Bool} (hA : pg_cnd n C A) (h : A x n = true) : pg_fnd T 0 n x C (some x) := ⟨pg_id, rfl, rfl, (hA.1 x hx).mp h⟩
/-- the steps of a level, one after the other: those below i found nothing -/
theorem pg_fnd_some {T : pg_T} {d k i : Nat} {x s y : pg_F} {C : pg_F → Prop} (hs : T k i = some s) (h : pg_fnd T d (k + 1) (pg_mul s x) C (some y)) : pg_fnd T (d + 1) k x C (some y) := by
  obtain ⟨z, hz, rfl, hc⟩ := h
  exact ⟨pg_mul z s, ⟨i, s, z, hs, hz, rfl⟩, rfl, hc⟩
theorem pg_fnd_none {n : Nat} {T : pg_T} (hT : pg_ok n T) {d k : Nat} {x : pg_F} {C : pg_F → Prop} (h : ∀ i s, k ≤ i → i < n → T k i = some s → pg_fnd T d (k + 1) (pg_mul s x) C none) : pg_fnd T (d + 1) k x C none := by
  rintro z ⟨i, s, w, hs, hw, rfl⟩ hc
  have := hT.2 k i s hs
  exact h i s this.2.2.1 this.2.1 hs w hw hc
/-- those members that meet a condition, in a table of their own -/
theorem pg_gather {n : Nat} {T T' : pg_T} {G C : pg_F → Prop} (hT : pg_ok n T) (hG : pg_G n G) (hTG : pg_In T n 0 = G) (hC : pg_G n (fun x => G x ∧ C x)) (hd : ∀ k, k < n → T' k k = some pg_id) (h0 : ∀ k i, ¬ (k ≤ i ∧ i < n) → T' k i = none) (h : ∀ k i, k < i → i < n → match T k i with
    | none => T' k i = none
    | some s => pg_fnd T (n - (k + 1)) (k + 1) s C (T' k i)) : pg_ok n T' ∧ pg_In T' n 0 = fun x => G x ∧ C x := by
  have hs : ∀ k i y, k < i → T' k i = some y → i < n ∧ (G y ∧ C y) ∧ (∀ j, j < k → y j = j) ∧ y k = i := by
    intro k i y hki hy
    have hin : i < n := Classical.byContradiction (fun q => by rw [h0 k i (by omega)] at hy; cases hy)
    have h1 := h k i hki hin
    cases hs : T k i with
    | none => rw [hs] at h1; rw [show T' k i = none from h1] at hy; cases hy
    | some s =>
      rw [hs] at h1
      have h1 : pg_fnd T (n - (k + 1)) (k + 1) s C (T' k i) := h1
      rw [hy] at h1
      obtain ⟨z, hz, rfl, hc⟩ := h1
      obtain ⟨-, -, -, b1, b2, b3⟩ := hT.2 _ _ _ hs
      obtain ⟨c1, c2⟩ := pg_In.fix hT _ _ z hz
      refine ⟨hin, ⟨?_, hc⟩, fun j hj => ?_, ?_⟩
      · rw [← hTG]
        exact pg_In.top hT k (n - (k + 1) + 1) (by omega) ⟨i, s, z, hs, hz, rfl⟩
      · show s (z j) = j
        rw [c2 j (by omega), b2 j hj]
      · show s (z k) = i
        rw [c2 k (by omega), b3]
  have hok : pg_ok n T' := by
    refine ⟨hd, fun k i y hy => ?_⟩
    have hki : k ≤ i ∧ i < n := Classical.byContradiction (fun q => by rw [h0 k i q] at hy; cases hy)
    by_cases q : k = i
    · subst q
      rw [hd k hki.2] at hy
      cases hy
      exact ⟨hki.2, hki.2, Nat.le_refl _, pg_P_id n, fun _ _ => rfl, rfl⟩
    · obtain ⟨a1, a2, a3, a4⟩ := hs k i y (by omega) hy
      exact ⟨by omega, a1, hki.1, hG.1 y a2.1, a3, a4⟩
  refine ⟨hok, pg_table_of hok hC (fun k i s hs2 => ?_) (fun k x hk hx hf => ?_)⟩
  · have hki : k ≤ i ∧ i < n := Classical.byContradiction (fun q => by rw [h0 k i q] at hs2; cases hs2)
    by_cases q : k = i
    · subst q
      rw [hd k hki.2] at hs2
      cases hs2
      exact hC.2.1
    · exact (hs k i s (by omega) hs2).2.1
  · have hP := hG.1 x hx.1
    have hkx : k ≤ x k := by
      refine Nat.le_of_not_lt (fun hc => ?_)
      have := hP.2.2 (x k) k (hP.1 k hk) hk (hf _ hc)
      omega
    by_cases q : k = x k
    · rw [← q, hd k hk]; exact fun e => by cases e
    · have h1 := h k (x k) (by omega) (hP.1 k hk)
      have hin : pg_In T n 0 x := by rw [hTG]; exact hx.1
      have hdp := pg_In.deep hT hin k (n - (k + 1) + 1) (by omega) hf
      obtain ⟨s, h2, h3⟩ := (pg_In.sift hT).mp hdp
      rw [h2] at h1
      have h1 : pg_fnd T (n - (k + 1)) (k + 1) s C (T' k (x k)) := h1
      intro e
      rw [e] at h1
      refine h1 _ h3 ?_
      have hPs := (hT.2 _ _ _ h2).2.2.2.1
      show C (pg_mul x (pg_mul (pg_inv n s) s))
      rw [pg_inv_mul hPs]
      exact hx.2
