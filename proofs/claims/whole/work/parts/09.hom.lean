/-! Pairs (image, element) on twice as many points; homomorphisms; kernels. Pure. -/
def pg_pair (n : Nat) (t g : pg_F) : pg_F := fun i => if i < n then t i else if i < n + n then n + g (i - n) else i
def pg_snd (n : Nat) (z : pg_F) : pg_F := fun i => if i < n then z (n + i) - n else i
theorem pg_pair_lo {n : Nat} {t g : pg_F} {i : Nat} (h : i < n) : pg_pair n t g i = t i := if_pos h
theorem pg_pair_hi {n : Nat} {t g : pg_F} {i : Nat} (h : i < n) : pg_pair n t g (n + i) = n + g i := by
  unfold pg_pair
  rw [if_neg (by omega), if_pos (by omega), show n + i - n = i by omega]
theorem pg_P_pair {n : Nat} {t g : pg_F} (ht : pg_P n t) (hg : pg_P n g) : pg_P (n + n) (pg_pair n t g) := by
  have hv : ∀ i, i < n + n → (i < n ∧ pg_pair n t g i = t i ∧ t i < n) ∨ (∃ j, j < n ∧ i = n + j ∧ pg_pair n t g i = n + g j ∧ g j < n) := by
    intro i hi
    by_cases q : i < n
    · exact Or.inl ⟨q, pg_pair_lo q, ht.1 i q⟩
    · refine Or.inr ⟨i - n, by omega, by omega, ?_, hg.1 _ (by omega)⟩
      have := pg_pair_hi (t := t) (g := g) (show i - n < n by omega)
      rw [show n + (i - n) = i by omega] at this
      exact this
  refine ⟨fun i hi => ?_, fun i hi => ?_, fun i j hi hj h => ?_⟩
  · rcases hv i hi with ⟨_, a, b⟩ | ⟨_, _, _, a, b⟩ <;> omega
  · unfold pg_pair
    rw [if_neg (by omega), if_neg (by omega)]
  · rcases hv i hi with ⟨a1, a2, a3⟩ | ⟨a, a1, a2, a3, a4⟩ <;> rcases hv j hj with ⟨b1, b2, b3⟩ | ⟨b, b1, b2, b3, b4⟩
    · rw [a2, b2] at h
      exact ht.2.2 i j a1 b1 h
    · omega
    · omega
    · have := hg.2.2 a b a1 b1 (by omega)
      omega
theorem pg_pair_mul {n : Nat} {t g t' g' : pg_F} (ht : pg_P n t) (hg : pg_P n g) (ht' : pg_P n t') (hg' : pg_P n g') : pg_mul (pg_pair n t g) (pg_pair n t' g') = pg_pair n (pg_mul t t') (pg_mul g g') := by
  refine pg_ext (pg_P_mul (pg_P_pair ht hg) (pg_P_pair ht' hg')) (pg_P_pair (pg_P_mul ht ht') (pg_P_mul hg hg')) (fun i hi => ?_)
  show pg_pair n t' g' (pg_pair n t g i) = _
  by_cases q : i < n
  · rw [pg_pair_lo q, pg_pair_lo (ht.1 i q), pg_pair_lo q]; rfl
  · obtain ⟨j, rfl⟩ : ∃ j, i = n + j := ⟨i - n, by omega⟩
    have hj : j < n := by omega
    rw [pg_pair_hi hj, pg_pair_hi (hg.1 j hj), pg_pair_hi hj]; rfl
theorem pg_pair_id (n : Nat) : pg_pair n pg_id pg_id = pg_id := by
  refine pg_ext (pg_P_pair (pg_P_id n) (pg_P_id n)) (pg_P_id (n + n)) (fun i hi => ?_)
  by_cases q : i < n
  · rw [pg_pair_lo q]
  · obtain ⟨j, rfl⟩ : ∃ j, i = n + j := ⟨i - n, by omega⟩
    rw [pg_pair_hi (by omega)]; rfl
theorem pg_pair_inj {n : Nat} {t g t' g' : pg_F} (ht : pg_P n t) (hg : pg_P n g) (ht' : pg_P n t') (hg' : pg_P n g') (h : pg_pair n t g = pg_pair n t' g') : t = t' ∧ g = g' := by
  constructor
  · refine pg_ext ht ht' (fun i hi => ?_)
    have := congrFun h i
    rw [pg_pair_lo hi, pg_pair_lo hi] at this
    exact this
  · refine pg_ext hg hg' (fun i hi => ?_)
    have := congrFun h (n + i)
    rw [pg_pair_hi hi, pg_pair_hi hi] at this
    omega
theorem pg_snd_pair {n : Nat} {t g : pg_F} (hg : pg_P n g) : pg_snd n (pg_pair n t g) = g := by
  funext i
  unfold pg_snd
  by_cases q : i < n
  · rw [if_pos q, pg_pair_hi q]; omega
  · rw [if_neg q, hg.2.1 i (by omega)]
/-- what the pairs are made of -/
def pg_PS (n c : Nat) (t g : Nat → pg_F) (z : pg_F) : Prop := ∃ k, k < c ∧ z = pg_pair n (t k) (g k)
def pg_GS (c : Nat) (g : Nat → pg_F) (z : pg_F) : Prop := ∃ k, k < c ∧ z = g k
theorem pg_K_form {n c : Nat} {t g : Nat → pg_F} (ht : ∀ k, k < c → pg_P n (t k)) (hg : ∀ k, k < c → pg_P n (g k)) {z : pg_F} (hz : pg_Gen (pg_PS n c t g) z) : ∃ a b, pg_P n a ∧ pg_P n b ∧ pg_Gen (pg_GS c g) b ∧ z = pg_pair n a b := by
  refine hz (fun z => ∃ a b, pg_P n a ∧ pg_P n b ∧ pg_Gen (pg_GS c g) b ∧ z = pg_pair n a b) ⟨pg_id, pg_id, pg_P_id n, pg_P_id n, pg_Gen.one, (pg_pair_id n).symm⟩ ?_
  rintro _ _ ⟨a, b, ha, hb, hG, rfl⟩ ⟨k, hk, rfl⟩
  exact ⟨_, _, pg_P_mul ha (ht k hk), pg_P_mul hb (hg k hk), pg_Gen.step hG ⟨k, hk, rfl⟩, pg_pair_mul ha hb (ht k hk) (hg k hk)⟩
theorem pg_K_grp {n c : Nat} {t g : Nat → pg_F} (ht : ∀ k, k < c → pg_P n (t k)) (hg : ∀ k, k < c → pg_P n (g k)) : pg_G (n + n) (pg_Gen (pg_PS n c t g)) :=
  pg_Gen.grp (by rintro z ⟨k, hk, rfl⟩; exact pg_P_pair (ht k hk) (hg k hk))
theorem pg_K_onto {n c : Nat} {t g : Nat → pg_F} (ht : ∀ k, k < c → pg_P n (t k)) (hg : ∀ k, k < c → pg_P n (g k)) {b : pg_F} (hb : pg_Gen (pg_GS c g) b) : ∃ a, pg_P n a ∧ pg_P n b ∧ pg_Gen (pg_PS n c t g) (pg_pair n a b) := by
  refine hb (fun b => ∃ a, pg_P n a ∧ pg_P n b ∧ pg_Gen (pg_PS n c t g) (pg_pair n a b)) ⟨pg_id, pg_P_id n, pg_P_id n, by rw [pg_pair_id]; exact pg_Gen.one⟩ ?_
  rintro b _ ⟨a, h1, h2, h3⟩ ⟨k, hk, rfl⟩
  refine ⟨pg_mul a (t k), pg_P_mul h1 (ht k hk), pg_P_mul h2 (hg k hk), ?_⟩
  rw [← pg_pair_mul h1 h2 (ht k hk) (hg k hk)]
  exact pg_Gen.step h3 ⟨k, hk, rfl⟩
/-- the images are a homomorphism: no element has two -/
def pg_hom (n c : Nat) (t g : Nat → pg_F) : Prop := ∀ a a' b, pg_P n a → pg_P n a' → pg_P n b → pg_Gen (pg_PS n c t g) (pg_pair n a b) → pg_Gen (pg_PS n c t g) (pg_pair n a' b) → a = a'
theorem pg_hom_len {n c : Nat} {t g : Nat → pg_F} (ht : ∀ k, k < c → pg_P n (t k)) (hg : ∀ k, k < c → pg_P n (g k)) {lK lG : List pg_F} (hK : pg_row (n + n) (pg_Gen (pg_PS n c t g)) lK) (hG : pg_row n (pg_Gen (pg_GS c g)) lG) : lK.length = lG.length ↔ pg_hom n c t g := by
  have hmem : ∀ y, y ∈ lG → ∃ a, pg_P n a ∧ pg_P n y ∧ pg_pair n a y ∈ lK := by
    intro y hy
    obtain ⟨a, h1, h2, h3⟩ := pg_K_onto ht hg ((hG.2 y).mp hy)
    exact ⟨a, h1, h2, (hK.2 _).mpr h3⟩
  constructor
  · intro hlen a a' b ha ha' hb h h'
    refine Classical.byContradiction (fun hne => ?_)
    have hz : pg_pair n a b ∈ lK := (hK.2 _).mpr h
    have hz' : pg_pair n a' b ∈ lK := (hK.2 _).mpr h'
    have hzz : pg_pair n a' b ≠ pg_pair n a b := fun e => hne (pg_pair_inj ha' hb ha hb e).1.symm
    obtain ⟨u, v, e⟩ := List.append_of_mem hz
    have hsub : lG ⊆ (u ++ v).map (pg_snd n) := by
      intro y hy
      obtain ⟨d, h1, h2, h3⟩ := hmem y hy
      rw [List.mem_map]
      by_cases q : pg_pair n d y = pg_pair n a b
      · have hy2 := (pg_pair_inj h1 h2 ha hb q).2
        subst hy2
        refine ⟨pg_pair n a' y, ?_, pg_snd_pair hb⟩
        rw [e] at hz'
        rcases List.mem_append.mp hz' with r | r
        · exact List.mem_append_left _ r
        · rcases List.mem_cons.mp r with r | r
          · exact absurd r hzz
          · exact List.mem_append_right _ r
      · refine ⟨pg_pair n d y, ?_, pg_snd_pair h2⟩
        rw [e] at h3
        rcases List.mem_append.mp h3 with r | r
        · exact List.mem_append_left _ r
        · rcases List.mem_cons.mp r with r | r
          · exact absurd r q
          · exact List.mem_append_right _ r
    have h9 := List.Nodup.length_le_of_subset hG.nd hsub
    rw [List.length_map, List.length_append] at h9
    rw [e, List.length_append, List.length_cons] at hlen
    omega
  · intro hh
    have hp : List.Perm (lK.map (pg_snd n)) lG := by
      refine (List.perm_ext_iff_of_nodup ?_ hG.nd).mpr (fun y => ?_)
      · refine List.pairwise_map.mpr (List.Pairwise.imp_of_mem ?_ hK.nd)
        intro z z' hz hz' hne e
        have h1 := (hK.2 z).mp hz
        have h2 := (hK.2 z').mp hz'
        obtain ⟨a, b, ha, hb, -, rfl⟩ := pg_K_form ht hg h1
        obtain ⟨a', b', ha', hb', -, rfl⟩ := pg_K_form ht hg h2
        rw [pg_snd_pair hb, pg_snd_pair hb'] at e
        subst e
        exact hne (by rw [hh a a' b ha ha' hb h1 h2])
      · rw [List.mem_map]
        constructor
        · rintro ⟨z, hz, rfl⟩
          obtain ⟨a, b, ha, hb, hG2, rfl⟩ := pg_K_form ht hg ((hK.2 z).mp hz)
          rw [pg_snd_pair hb]
          exact (hG.2 b).mpr hG2
        · intro hy
          obtain ⟨a, h1, h2, h3⟩ := hmem y hy
          exact ⟨_, h3, pg_snd_pair h2⟩
    have := hp.length_eq
    rw [List.length_map] at this
    exact this
/-- an image for each element, by the generators: the pairs are its graph -/
theorem pg_hom_graph {n c : Nat} {t g : Nat → pg_F} (ht : ∀ k, k < c → pg_P n (t k)) (hg : ∀ k, k < c → pg_P n (g k)) {φ : pg_F → pg_F} (h1 : φ pg_id = pg_id) (hs : ∀ x k, pg_Gen (pg_GS c g) x → k < c → φ (pg_mul x (g k)) = pg_mul (φ x) (t k)) {z : pg_F} (hz : pg_Gen (pg_PS n c t g) z) : ∃ x, pg_Gen (pg_GS c g) x ∧ pg_P n x ∧ pg_P n (φ x) ∧ z = pg_pair n (φ x) x := by
  refine hz (fun z => ∃ x, pg_Gen (pg_GS c g) x ∧ pg_P n x ∧ pg_P n (φ x) ∧ z = pg_pair n (φ x) x) ⟨pg_id, pg_Gen.one, pg_P_id n, by rw [h1]; exact pg_P_id n, by rw [h1, pg_pair_id]⟩ ?_
  rintro _ _ ⟨x, a1, a2, a3, rfl⟩ ⟨k, hk, rfl⟩
  refine ⟨pg_mul x (g k), pg_Gen.step a1 ⟨k, hk, rfl⟩, pg_P_mul a2 (hg k hk), ?_, ?_⟩
  · rw [hs x k a1 hk]; exact pg_P_mul a3 (ht k hk)
  · rw [hs x k a1 hk, pg_pair_mul a3 a2 (ht k hk) (hg k hk)]
theorem pg_hom_of {n c : Nat} {t g : Nat → pg_F} (ht : ∀ k, k < c → pg_P n (t k)) (hg : ∀ k, k < c → pg_P n (g k)) {φ : pg_F → pg_F} (h1 : φ pg_id = pg_id) (hs : ∀ x k, pg_Gen (pg_GS c g) x → k < c → φ (pg_mul x (g k)) = pg_mul (φ x) (t k)) : pg_hom n c t g ∧ ∀ x, pg_P n x → (pg_Gen (pg_PS n c t g) (pg_pair n pg_id x) ↔ pg_Gen (pg_GS c g) x ∧ φ x = pg_id) := by
  refine ⟨fun a a' b ha ha' hb h h' => ?_, fun x hx => ⟨fun h => ?_, fun h => ?_⟩⟩
  · obtain ⟨x, -, p1, p2, e⟩ := pg_hom_graph ht hg h1 hs h
    obtain ⟨y, -, q1, q2, e'⟩ := pg_hom_graph ht hg h1 hs h'
    obtain ⟨e1, e2⟩ := pg_pair_inj ha hb p2 p1 e
    obtain ⟨e3, e4⟩ := pg_pair_inj ha' hb q2 q1 e'
    rw [e1, e3, ← e2, e4]
  · obtain ⟨y, p0, p1, p2, e⟩ := pg_hom_graph ht hg h1 hs h
    obtain ⟨e1, e2⟩ := pg_pair_inj (pg_P_id n) hx p2 p1 e
    rw [e2]
    exact ⟨p0, e1.symm⟩
  · obtain ⟨a, p1, p2, p3⟩ := pg_K_onto ht hg h.1
    obtain ⟨y, -, q1, q2, e⟩ := pg_hom_graph ht hg h1 hs p3
    obtain ⟨e1, e2⟩ := pg_pair_inj p1 p2 q2 q1 e
    rw [← e2, h.2] at e1
    rw [← e1]
    exact p3
/-- the kernel's table, out of the pairs' -/
def pg_kt (n : Nat) (T : pg_T) : pg_T := fun k i => if k < n ∧ i < n then (T (n + k) (n + i)).map (pg_snd n) else none
theorem pg_kern {n c : Nat} {t g : Nat → pg_F} {T : pg_T} (ht : ∀ k, k < c → pg_P n (t k)) (hg : ∀ k, k < c → pg_P n (g k)) (hT : pg_ok (n + n) T) (hK : pg_In T (n + n) 0 = pg_Gen (pg_PS n c t g)) : pg_ok n (pg_kt n T) ∧ pg_In (pg_kt n T) n 0 = fun x => pg_P n x ∧ pg_Gen (pg_PS n c t g) (pg_pair n pg_id x) := by
  have hz : ∀ k i z, T (n + k) (n + i) = some z → k < n → i < n → ∃ b, pg_P n b ∧ z = pg_pair n pg_id b ∧ pg_Gen (pg_PS n c t g) z ∧ (∀ j, j < k → b j = j) ∧ b k = i ∧ k ≤ i := by
    intro k i z h hk hi
    have hin : pg_Gen (pg_PS n c t g) z := by rw [← hK]; exact pg_In.step hT h
    obtain ⟨a, b, ha, hb, -, rfl⟩ := pg_K_form ht hg hin
    obtain ⟨-, -, c1, -, c2, c3⟩ := hT.2 _ _ _ h
    have ea : a = pg_id := pg_ext ha (pg_P_id n) (fun j hj => by
      have := c2 j (by omega)
      rw [pg_pair_lo hj] at this
      exact this)
    subst ea
    refine ⟨b, hb, rfl, hin, fun j hj => ?_, ?_, by omega⟩
    · have := c2 (n + j) (by omega)
      rw [pg_pair_hi (by omega)] at this
      omega
    · rw [pg_pair_hi hk] at c3
      omega
  have hok : pg_ok n (pg_kt n T) := by
    refine ⟨fun k hk => ?_, fun k i x h => ?_⟩
    · unfold pg_kt
      rw [if_pos ⟨hk, hk⟩, hT.1 (n + k) (by omega)]
      show some (pg_snd n pg_id) = some pg_id
      rw [← pg_pair_id n, pg_snd_pair (pg_P_id n), pg_pair_id]
    · unfold pg_kt at h
      by_cases q : k < n ∧ i < n
      · rw [if_pos q] at h
        cases hs : T (n + k) (n + i) with
        | none => rw [hs] at h; cases h
        | some z =>
          rw [hs] at h
          obtain ⟨b, b1, rfl, -, b2, b3, b4⟩ := hz k i z hs q.1 q.2
          have h : some (pg_snd n (pg_pair n pg_id b)) = some x := h
          rw [pg_snd_pair b1] at h
          cases h
          exact ⟨q.1, q.2, b4, b1, b2, b3⟩
      · rw [if_neg q] at h; cases h
  have hKg := pg_K_grp ht hg
  refine ⟨hok, pg_table_of hok ⟨fun x h => h.1, ⟨pg_P_id n, by rw [pg_pair_id]; exact pg_Gen.one⟩, fun x y hx hy => ⟨pg_P_mul hx.1 hy.1, ?_⟩⟩ (fun k i s h => ?_) (fun k x hk hx hf => ?_)⟩
  · have := pg_Gen.mul hx.2 hy.2
    rw [pg_pair_mul (pg_P_id n) hx.1 (pg_P_id n) hy.1] at this
    exact this
  · unfold pg_kt at h
    by_cases q : k < n ∧ i < n
    · rw [if_pos q] at h
      cases hs : T (n + k) (n + i) with
      | none => rw [hs] at h; cases h
      | some z =>
        rw [hs] at h
        obtain ⟨b, b1, rfl, b5, -⟩ := hz k i z hs q.1 q.2
        have h : some (pg_snd n (pg_pair n pg_id b)) = some s := h
        rw [pg_snd_pair b1] at h
        cases h
        exact ⟨b1, b5⟩
    · rw [if_neg q] at h; cases h
  · have hin : pg_In T (n + n) 0 (pg_pair n pg_id x) := by rw [hK]; exact hx.2
    obtain ⟨s, hs⟩ := pg_has_step hT (k := n + k) (by omega) hin (fun j hj => by
      by_cases q : j < n
      · rw [pg_pair_lo q]; rfl
      · obtain ⟨i, rfl⟩ : ∃ i, j = n + i := ⟨j - n, by omega⟩
        rw [pg_pair_hi (by omega), hf i (by omega)])
    rw [pg_pair_hi hk] at hs
    unfold pg_kt
    rw [if_pos ⟨hk, hx.1.1 k hk⟩, hs]
    exact fun h => by cases h
/-- bounds -/
theorem pg_row_le {n : Nat} {G : pg_F → Prop} {l : List pg_F} (h : pg_row n G l) (hG : ∀ x, G x → pg_P n x) : l.length ≤ pg_fac n := by
  rw [← pg_all_len n]
  refine List.Nodup.length_le_of_subset h.nd (fun x hx => ?_)
  exact ((pg_all_row n).2 x).mpr (hG x ((h.2 x).mp hx))
theorem pg_pairs_le {n c : Nat} {t g : Nat → pg_F} (ht : ∀ k, k < c → pg_P n (t k)) (hg : ∀ k, k < c → pg_P n (g k)) {l : List pg_F} (h : pg_row (n + n) (pg_Gen (pg_PS n c t g)) l) : l.length ≤ pg_fac n * pg_fac n := by
  have e : ((pg_all n).flatMap fun a => (pg_all n).map (pg_pair n a)).length = pg_fac n * pg_fac n := by
    rw [pg_fm_len (p := fun _ => true) (c := pg_fac n) (pg_all n) (fun a _ => by rw [List.length_map, pg_all_len, if_pos rfl])]
    rw [List.countP_true, pg_all_len]
  rw [← e]
  refine List.Nodup.length_le_of_subset h.nd (fun x hx => ?_)
  obtain ⟨a, b, ha, hb, -, rfl⟩ := pg_K_form ht hg ((h.2 x).mp hx)
  exact List.mem_flatMap.mpr ⟨a, ((pg_all_row n).2 a).mpr ha, List.mem_map.mpr ⟨b, ((pg_all_row n).2 b).mpr hb, rfl⟩⟩
theorem pg_fac_le : ∀ n, n ≤ 7 → pg_fac n ≤ 5040 := by decide +kernel
