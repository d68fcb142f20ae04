/-! The reference's search through a group: a row of elements, a set of ranks; each new maker doubles the group at least. Pure. -/
def pg_mks (c : Nat) (K : Nat → pg_F) (s : pg_F) : Prop := ∃ a, a < c ∧ s = K a
/-- many elements stand in the row Q, B has their ranks; those below k have met all c makers, the k-th one those below m -/
def pg_bfs (n c : Nat) (K : Nat → pg_F) (many k m : Nat) (B : Nat → Bool) (Q : Nat → pg_F) : Prop :=
  0 < many ∧ Q 0 = pg_id ∧ many = (List.range (pg_fac n)).countP B ∧ (∀ r, pg_fac n ≤ r → B r = false) ∧ (∀ j, j < many → pg_Gen (pg_mks c K) (Q j) ∧ pg_set n B (Q j)) ∧ (∀ x, pg_set n B x → ∃ j, j < many ∧ Q j = x) ∧ (∀ j i, j < k → i < c → pg_set n B (pg_mul (Q j) (K i))) ∧ (∀ i, i < m → pg_set n B (pg_mul (Q k) (K i)))
theorem pg_count_one {N r : Nat} (hr : r < N) : (List.range N).countP (fun q => decide (q = r)) = 1 := by
  have := pg_count1 (f := fun _ => false) (g := fun q => decide (q = r)) (List.range N) r List.nodup_range (List.mem_range.mpr hr) rfl (decide_eq_true rfl) (fun b hb => decide_eq_false hb)
  rw [this]
  have h0 : (List.range N).countP (fun _ => false) = 0 := List.countP_eq_zero.mpr (fun a _ h => by cases h)
  rw [h0]
theorem pg_bfs_0 {n c : Nat} {K : Nat → pg_F} {Q : Nat → pg_F} (hQ : Q 0 = pg_id) : pg_bfs n c K 1 0 0 (fun q => decide (q = 0)) Q := by
  have h0 := pg_all_0 n
  have hs : pg_set n (fun q => decide (q = 0)) pg_id := ⟨0, h0, rfl⟩
  refine ⟨by decide, hQ, (pg_count_one (pg_fac_pos n)).symm, fun r hr => decide_eq_false (by have := pg_fac_pos n; omega), fun j hj => ?_, fun x hx => ?_, fun j i hj => by omega, fun i hi => by omega⟩
  · rw [show j = 0 by omega, hQ]
    exact ⟨pg_Gen.one, hs⟩
  · obtain ⟨r, h1, h2⟩ := hx
    rw [of_decide_eq_true h2, h0] at h1
    cases h1
    exact ⟨0, by decide, hQ⟩
theorem pg_set_up {n r : Nat} {B : Nat → Bool} {x y : pg_F} (h : (pg_all n)[r]? = some x) : pg_set n (va_up B r true) y ↔ pg_set n B y ∨ y = x := by
  constructor
  · rintro ⟨r', h1, h2⟩
    by_cases q : r' = r
    · subst q
      rw [h] at h1
      cases h1
      exact Or.inr rfl
    · rw [va_up_ne _ _ q] at h2
      exact Or.inl ⟨r', h1, h2⟩
  · rintro (⟨r', h1, h2⟩ | rfl)
    · refine ⟨r', h1, ?_⟩
      by_cases q : r' = r
      · rw [q, va_up_self]
      · rw [va_up_ne _ _ q]; exact h2
    · exact ⟨r, h, va_up_self _ _ _⟩
/-- the product is there already -/
theorem pg_bfs_old {n c : Nat} {K : Nat → pg_F} {many k m : Nat} {B : Nat → Bool} {Q : Nat → pg_F} (h : pg_bfs n c K many k m B Q) {r : Nat} (hr : (pg_all n)[r]? = some (pg_mul (Q k) (K m))) (hb : B r = true) : pg_bfs n c K many k (m + 1) B Q := by
  obtain ⟨a1, a2, a3, a4, a5, a6, a7, a8⟩ := h
  exact ⟨a1, a2, a3, a4, a5, a6, a7, lt_s a8 ⟨r, hr, hb⟩⟩
/-- it is new -/
theorem pg_bfs_new {n c : Nat} {K : Nat → pg_F} {many k m : Nat} {B : Nat → Bool} {Q Q' : Nat → pg_F} (h : pg_bfs n c K many k m B Q) (hk : k < many) (hm : m < c) {r : Nat} (hr : (pg_all n)[r]? = some (pg_mul (Q k) (K m))) (hb : B r = false) (hQ : ∀ j, j < many → Q' j = Q j) (hQ2 : Q' many = pg_mul (Q k) (K m)) : pg_bfs n c K (many + 1) k (m + 1) (va_up B r true) Q' ∧ many < pg_fac n := by
  obtain ⟨a1, a2, a3, a4, a5, a6, a7, a8⟩ := h
  have hrl := (pg_all_P hr).2
  have hcnt : (List.range (pg_fac n)).countP (va_up B r true) = (List.range (pg_fac n)).countP B + 1 :=
    pg_count1 (List.range (pg_fac n)) r List.nodup_range (List.mem_range.mpr hrl) hb (va_up_self _ _ _) (fun b hne => va_up_ne _ _ hne)
  have hlt : many < pg_fac n := by
    have := List.countP_le_length (p := va_up B r true) (l := List.range (pg_fac n))
    rw [List.length_range] at this
    omega
  have hup : ∀ y, pg_set n B y → pg_set n (va_up B r true) y := fun y hy => (pg_set_up hr).mpr (Or.inl hy)
  have hnew : pg_set n (va_up B r true) (pg_mul (Q k) (K m)) := (pg_set_up hr).mpr (Or.inr rfl)
  refine ⟨⟨by omega, by rw [hQ 0 a1]; exact a2, by rw [hcnt, a3], fun q hq => ?_, fun j hj => ?_, fun x hx => ?_, fun j i hj hi => ?_, fun i hi => ?_⟩, hlt⟩
  · rw [va_up_ne _ _ (by omega)]; exact a4 q hq
  · by_cases q : j = many
    · rw [q, hQ2]
      exact ⟨pg_Gen.step (a5 k hk).1 ⟨m, hm, rfl⟩, hnew⟩
    · rw [hQ j (by omega)]
      exact ⟨(a5 j (by omega)).1, hup _ (a5 j (by omega)).2⟩
  · rcases (pg_set_up hr).mp hx with q | rfl
    · obtain ⟨j, h1, h2⟩ := a6 x q
      exact ⟨j, by omega, by rw [hQ j h1, h2]⟩
    · exact ⟨many, by omega, hQ2⟩
  · rw [hQ j (by omega)]; exact hup _ (a7 j i hj hi)
  · rw [hQ k hk]
    by_cases q : i = m
    · rw [q]; exact hnew
    · exact hup _ (a8 i (by omega))
theorem pg_bfs_next {n c : Nat} {K : Nat → pg_F} {many k : Nat} {B : Nat → Bool} {Q : Nat → pg_F} (h : pg_bfs n c K many k c B Q) : pg_bfs n c K many (k + 1) 0 B Q := by
  obtain ⟨a1, a2, a3, a4, a5, a6, a7, a8⟩ := h
  refine ⟨a1, a2, a3, a4, a5, a6, fun j i hj hi => ?_, fun i hi => by omega⟩
  by_cases q : j = k
  · rw [q]; exact a8 i hi
  · exact a7 j i (by omega) hi
/-- THE ROW IS THROUGH: the set is the group made by the makers -/
theorem pg_bfs_done {n c : Nat} {K : Nat → pg_F} {many : Nat} {B : Nat → Bool} {Q : Nat → pg_F} (h : pg_bfs n c K many many 0 B Q) : pg_set n B = pg_Gen (pg_mks c K) := by
  obtain ⟨a1, a2, a3, a4, a5, a6, a7, a8⟩ := h
  funext x
  refine propext ⟨fun hx => ?_, fun hx => ?_⟩
  · obtain ⟨j, hj, rfl⟩ := a6 x hx
    exact (a5 j hj).1
  · refine hx (pg_set n B) (by rw [← a2]; exact (a5 0 a1).2) ?_
    rintro a s ha ⟨i, hi, rfl⟩
    obtain ⟨j, hj, rfl⟩ := a6 a ha
    exact a7 j i hj hi
/-- a group with one element more has twice as many at least -/
theorem pg_double {n : Nat} {G : pg_F → Prop} {x : pg_F} {l l' : List pg_F} (hG : pg_G n G) (hx : pg_P n x) (hn : ¬ G x) (hl : pg_row n G l) (hl' : pg_row n (pg_and G x) l') : 2 * l.length ≤ l'.length := by
  have hnd : (l ++ l.map (fun y => pg_mul y x)).Nodup := by
    refine List.nodup_append.mpr ⟨hl.nd, ?_, ?_⟩
    · refine List.pairwise_map.mpr (List.Pairwise.imp ?_ hl.nd)
      intro a b hab e
      exact hab (pg_cancel_r hx e)
    · intro a ha b hb e
      subst e
      obtain ⟨y, hy, rfl⟩ := List.mem_map.mp hb
      have h1 := (hl.2 y).mp hy
      have h2 := (hl.2 _).mp ha
      refine hn ?_
      have h3 := hG.2.2 _ _ (hG.inv h1) h2
      have e : pg_mul (pg_inv n y) (pg_mul y x) = x := by
        show pg_mul (pg_mul (pg_inv n y) y) x = x
        rw [pg_inv_mul (hG.1 y h1)]; rfl
      rw [e] at h3
      exact h3
  have hsub : (l ++ l.map (fun y => pg_mul y x)) ⊆ l' := by
    intro y hy
    refine (hl'.2 y).mpr ?_
    rcases List.mem_append.mp hy with q | q
    · exact pg_and_in ((hl.2 y).mp q)
    · obtain ⟨z, hz, rfl⟩ := List.mem_map.mp q
      exact pg_Gen.mul (pg_and_in ((hl.2 z).mp hz)) pg_and_x
  have := List.Nodup.length_le_of_subset hnd hsub
  rw [List.length_append, List.length_map] at this
  omega
/-- a group by makers, and how many there can be -/
def pg_fil (n c : Nat) (K : Nat → pg_F) (B : Nat → Bool) (G : pg_F → Prop) : Prop := pg_G n G ∧ pg_set n B = G ∧ pg_Gen (pg_mks c K) = G ∧ (∀ a, a < c → pg_P n (K a)) ∧ 2 ^ c ≤ (List.range (pg_fac n)).countP B ∧ ∀ r, pg_fac n ≤ r → B r = false
theorem pg_fil_c {n c : Nat} {K : Nat → pg_F} {B : Nat → Bool} {G : pg_F → Prop} (h : pg_fil n c K B G) (hn : n ≤ 7) : c < 13 := by
  have h1 := List.countP_le_length (p := B) (l := List.range (pg_fac n))
  rw [List.length_range] at h1
  have h2 := pg_fac_le n hn
  have h3 := h.2.2.2.2.1
  refine Nat.lt_of_not_le (fun hc => ?_)
  have : 2 ^ 13 ≤ 2 ^ c := Nat.pow_le_pow_right (by decide) hc
  omega
theorem pg_fil_0 {n : Nat} {K : Nat → pg_F} {B : Nat → Bool} (hs : pg_set n B = pg_Gen (pg_mks 0 K)) (hB : ∀ r, pg_fac n ≤ r → B r = false) : pg_fil n 0 K B (fun x => x = pg_id) := by
  have hg : pg_Gen (pg_mks 0 K) = fun x => x = pg_id := by
    funext x
    refine propext ⟨fun hx => hx (fun x => x = pg_id) rfl (fun a s _ hs => by obtain ⟨i, hi, -⟩ := hs; omega), fun hx => by rw [hx]; exact pg_Gen.one⟩
  refine ⟨⟨fun x hx => by rw [hx]; exact pg_P_id n, rfl, fun x y hx hy => by rw [hx, hy]; rfl⟩, hs.trans hg, hg, fun a ha => by omega, ?_, hB⟩
  refine Nat.pos_of_ne_zero (fun h => ?_)
  have h1 : pg_set n B pg_id := by rw [hs]; exact pg_Gen.one
  have h2 := (pg_set_at (pg_all_0 n)).mp h1
  exact List.countP_eq_zero.mp h 0 (List.mem_range.mpr (pg_fac_pos n)) h2
theorem pg_and_gen {c : Nat} {K K' : Nat → pg_F} {G : pg_F → Prop} {x : pg_F} (hG : pg_Gen (pg_mks c K) = G) (hK : ∀ a, a < c → K' a = K a) (hK2 : K' c = x) : pg_Gen (pg_mks (c + 1) K') = pg_and G x := by
  refine pg_Gen.eq ?_ ?_
  · rintro s ⟨a, ha, rfl⟩
    by_cases q : a = c
    · rw [q, hK2]; exact pg_and_x
    · rw [hK a (by omega)]
      refine pg_and_in ?_
      rw [← hG]
      exact pg_Gen.of ⟨a, by omega, rfl⟩
  · rintro s (hs | rfl)
    · rw [← hG] at hs
      refine pg_Gen.mono ?_ hs
      rintro z ⟨a, ha, rfl⟩
      exact pg_Gen.of ⟨a, by omega, (hK a ha).symm⟩
    · exact pg_Gen.of ⟨c, by omega, hK2.symm⟩
theorem pg_fil_new {n c : Nat} {K K' : Nat → pg_F} {B B' : Nat → Bool} {G : pg_F → Prop} {x : pg_F} (h : pg_fil n c K B G) (hx : pg_P n x) (hn : ¬ G x) (hK : ∀ a, a < c → K' a = K a) (hK2 : K' c = x) (hs : pg_set n B' = pg_Gen (pg_mks (c + 1) K')) (hB : ∀ r, pg_fac n ≤ r → B' r = false) : pg_fil n (c + 1) K' B' (pg_and G x) := by
  obtain ⟨a1, a2, a3, a4, a5, a6⟩ := h
  have hg := pg_and_gen a3 hK hK2
  refine ⟨pg_and_G a1 hx, hs.trans hg, hg, fun a ha => ?_, ?_, hB⟩
  · by_cases q : a = c
    · rw [q, hK2]; exact hx
    · rw [hK a (by omega)]; exact a4 a (by omega)
  · have h1 := pg_mem_row n B
    have h2 := pg_mem_row n B'
    rw [a2] at h1
    rw [hs.trans hg] at h2
    have := pg_double a1 hx hn h1 h2
    rw [pg_mem_len, pg_mem_len] at this
    rw [Nat.pow_succ]
    omega
