/-! Orbits: where the elements of a group take a point, as a number with bit p for point p. Pure. -/
/-- the points of a set of bits -/
def pg_cb (n m : Nat) : Nat := (List.range n).countP m.testBit
theorem pg_cb_le (n m : Nat) : pg_cb n m ≤ n := by
  have := List.countP_le_length (p := m.testBit) (l := List.range n)
  rw [List.length_range] at this
  exact this
theorem pg_cb_lt {n m m' : Nat} (hm' : ∀ q, m'.testBit q = true → q < n) (hsub : ∀ q, m.testBit q = true → m'.testBit q = true) (hne : m ≠ m') : pg_cb n m < pg_cb n m' := by
  obtain ⟨q, hq⟩ : ∃ q, m.testBit q ≠ m'.testBit q := Classical.byContradiction (fun hc => hne (Nat.eq_of_testBit_eq (fun i => Classical.byContradiction (fun r => hc ⟨i, r⟩))))
  have h1 : m'.testBit q = true := by
    cases h : m'.testBit q with
    | true => rfl
    | false =>
      cases h2 : m.testBit q with
      | true => rw [hsub q h2] at h; cases h
      | false => rw [h, h2] at hq; exact absurd rfl hq
  have h2 : m.testBit q = false := by
    cases h : m.testBit q with
    | false => rfl
    | true => rw [h, h1] at hq; exact absurd rfl hq
  have hqn := hm' q h1
  have key : ∀ (l : List Nat), q ∈ l → l.countP m.testBit < l.countP m'.testBit := by
    have hle : ∀ (l : List Nat), l.countP m.testBit ≤ l.countP m'.testBit := fun l => List.countP_mono_left (fun x _ => hsub x)
    intro l
    induction l with
    | nil => intro h; cases h
    | cons a l ih =>
      intro h
      rw [List.countP_cons, List.countP_cons]
      rcases List.mem_cons.mp h with r | r
      · subst r
        have := hle l
        rw [h1, h2]
        simp
        omega
      · have := ih r
        by_cases s : m.testBit a = true
        · rw [if_pos s, if_pos (hsub a s)]; omega
        · rw [if_neg s]; omega
  exact key _ (List.mem_range.mpr hqn)
theorem pg_cb_full {n m : Nat} (h : n ≤ pg_cb n m) : ∀ q, q < n → m.testBit q = true := by
  intro q hq
  have h1 : (List.range n).countP m.testBit = (List.range n).length := by
    have := pg_cb_le n m
    unfold pg_cb at this h
    rw [List.length_range]
    omega
  exact List.countP_eq_length.mp h1 q (List.mem_range.mpr hq)
/-- R is closed under the makers -/
def pg_ocl (n c : Nat) (M : Nat → pg_F) (m : Nat) : Prop := ∀ k p, k < c → p < n → m.testBit p = true → m.testBit (M k p) = true
/-- after t turns -/
def pg_orb (n c : Nat) (M : Nat → pg_F) (p0 t m : Nat) : Prop := m.testBit p0 = true ∧ (∀ q, m.testBit q = true → q < n ∧ ∃ x, pg_Gen (fun s => ∃ a, a < c ∧ s = M a) x ∧ x p0 = q) ∧ (pg_ocl n c M m ∨ t < pg_cb n m)
/-- in a turn: the makers below k have been tried on m0, what they gave is in m -/
def pg_orbi (n c : Nat) (M : Nat → pg_F) (p0 m0 k m : Nat) : Prop := (∀ q, m0.testBit q = true → m.testBit q = true) ∧ (∀ q, m.testBit q = true → q < n ∧ ∃ x, pg_Gen (fun s => ∃ a, a < c ∧ s = M a) x ∧ x p0 = q) ∧ (∀ j p, j < k → p < n → m0.testBit p = true → m.testBit (M j p) = true) ∧ (pg_ocl n c M m0 → m = m0)
theorem pg_orb_0 {n c p0 : Nat} {M : Nat → pg_F} (hp : p0 < n) : pg_orb n c M p0 0 (2 ^ p0) := by
  have hb : ∀ q, (2 ^ p0).testBit q = true ↔ q = p0 := by
    intro q
    rw [Nat.testBit_two_pow]
    simp [eq_comm]
  refine ⟨(hb p0).mpr rfl, fun q hq => ?_, Or.inr ?_⟩
  · rw [(hb q).mp hq]
    exact ⟨hp, pg_id, pg_Gen.one, rfl⟩
  · refine Nat.pos_of_ne_zero (fun h => ?_)
    have := List.countP_eq_zero.mp h p0 (List.mem_range.mpr hp)
    exact this ((hb p0).mpr rfl)
theorem pg_orbi_0 {n c p0 t m : Nat} {M : Nat → pg_F} (h : pg_orb n c M p0 t m) : pg_orbi n c M p0 m 0 m :=
  ⟨fun _ h => h, h.2.1, fun j p hj => by omega, fun _ => rfl⟩
theorem pg_orbi_s {n c p0 m0 k m m1 : Nat} {M : Nat → pg_F} (hM : ∀ a, a < c → pg_P n (M a)) (hk : k < c) (h : pg_orbi n c M p0 m0 k m) (h1 : ∀ q, m1.testBit q = true ↔ m.testBit q = true ∨ ∃ p, p < n ∧ m.testBit p = true ∧ M k p = q) : pg_orbi n c M p0 m0 (k + 1) m1 := by
  obtain ⟨a1, a2, a3, a4⟩ := h
  refine ⟨fun q hq => (h1 q).mpr (Or.inl (a1 q hq)), fun q hq => ?_, fun j p hj hp hm => ?_, fun hc => ?_⟩
  · rcases (h1 q).mp hq with r | ⟨p, hp, hm, rfl⟩
    · exact a2 q r
    · obtain ⟨-, x, hx, e⟩ := a2 p hm
      refine ⟨(hM k hk).1 p hp, pg_mul x (M k), pg_Gen.step hx ⟨k, hk, rfl⟩, ?_⟩
      show M k (x p0) = M k p
      rw [e]
  · by_cases q : j = k
    · subst q
      exact (h1 _).mpr (Or.inr ⟨p, hp, a1 p hm, rfl⟩)
    · exact (h1 _).mpr (Or.inl (a3 j p (by omega) hp hm))
  · have e := a4 hc
    subst e
    refine Nat.eq_of_testBit_eq (fun q => ?_)
    have : m1.testBit q = true ↔ m.testBit q = true := by
      rw [h1]
      refine ⟨fun r => ?_, Or.inl⟩
      rcases r with r | ⟨p, hp, hm, rfl⟩
      · exact r
      · exact hc k p hk hp hm
    cases h2 : m.testBit q with
    | true => exact this.mpr h2
    | false =>
      cases h3 : m1.testBit q with
      | false => rfl
      | true => rw [this.mp h3] at h2; cases h2
theorem pg_orb_s {n c p0 t m0 m : Nat} {M : Nat → pg_F} (h : pg_orb n c M p0 t m0) (h1 : pg_orbi n c M p0 m0 c m) : pg_orb n c M p0 (t + 1) m := by
  obtain ⟨a1, a2, a3, a4⟩ := h1
  refine ⟨a1 _ h.1, a2, ?_⟩
  by_cases q : m0 = m
  · subst q
    exact Or.inl (fun k p hk hp hm => a3 k p hk hp hm)
  · rcases h.2.2 with r | r
    · exact absurd (a4 r).symm q
    · exact Or.inr (by have := pg_cb_lt (fun q hq => (a2 q hq).1) a1 q; omega)
/-- THE ORBIT -/
theorem pg_orb_done {n c p0 m : Nat} {M : Nat → pg_F} (hM : ∀ a, a < c → pg_P n (M a)) (hp : p0 < n) (h : pg_orb n c M p0 (n - 1) m) : ∀ q, m.testBit q = true ↔ ∃ x, pg_Gen (fun s => ∃ a, a < c ∧ s = M a) x ∧ x p0 = q := by
  have hc : pg_ocl n c M m := by
    rcases h.2.2 with r | r
    · exact r
    · have := pg_cb_full (n := n) (m := m) (by omega)
      exact fun k p hk hp _ => this _ ((hM k hk).1 p hp)
  intro q
  refine ⟨fun hq => (h.2.1 q hq).2, ?_⟩
  rintro ⟨x, hx, rfl⟩
  have : x p0 < n ∧ m.testBit (x p0) = true := hx (fun x => x p0 < n ∧ m.testBit (x p0) = true) ⟨hp, h.1⟩ (by
    rintro a s ⟨b1, b2⟩ ⟨k, hk, rfl⟩
    exact ⟨(hM k hk).1 _ b1, hc k _ hk b1 b2⟩)
  exact this.2
