/-! All elements in a row: the reference's ranks. Pure. -/
def pg_full (n : Nat) : pg_T := fun k i => if k ≤ i ∧ i < n then some (pg_swap k i) else none
theorem pg_swap_self (k : Nat) : pg_swap k k = pg_id := by
  funext i
  show (if i = k then k else if i = k then k else i) = i
  by_cases q : i = k
  · rw [if_pos q, q]
  · rw [if_neg q, if_neg q]
theorem pg_full_ok (n : Nat) : pg_ok n (pg_full n) := by
  refine ⟨fun k hk => ?_, fun k i x h => ?_⟩
  · unfold pg_full
    rw [if_pos ⟨Nat.le_refl _, hk⟩, pg_swap_self]
  · unfold pg_full at h
    by_cases q : k ≤ i ∧ i < n
    · rw [if_pos q] at h
      cases h
      refine ⟨by omega, q.2, q.1, pg_P_swap (by omega) q.2, fun j hj => ?_, ?_⟩
      · show (if j = k then i else if j = i then k else j) = j
        rw [if_neg (by omega), if_neg (by omega)]
      · show (if k = k then i else if k = i then k else k) = i
        rw [if_pos rfl]
    · rw [if_neg q] at h; cases h
theorem pg_full_in (n : Nat) : pg_In (pg_full n) n 0 = pg_P n := by
  refine pg_table_of (pg_full_ok n) ⟨fun _ h => h, pg_P_id n, fun _ _ h1 h2 => pg_P_mul h1 h2⟩ (fun k i s h => ((pg_full_ok n).2 k i s h).2.2.2.1) (fun k x hk hx hf => ?_)
  unfold pg_full
  have h1 : k ≤ x k := by
    refine Nat.le_of_not_lt (fun hc => ?_)
    have := hx.2.2 (x k) k (hx.1 k hk) hk (hf _ hc)
    omega
  rw [if_pos ⟨h1, hx.1 k hk⟩]
  exact fun h => by cases h
def pg_all (n : Nat) : List pg_F := pg_L n (pg_full n) n 0 pg_id
theorem pg_all_row (n : Nat) : pg_row n (pg_P n) (pg_all n) := by
  have := pg_L_row (pg_full_ok n)
  rw [pg_full_in] at this
  exact this
theorem pg_count_ge : ∀ (n k : Nat), (List.range n).countP (fun i => decide (k ≤ i)) = n - k := by
  intro n k
  induction n with
  | zero => rw [Nat.zero_sub]; rfl
  | succ n ih =>
    rw [pg_count_succ, ih]
    by_cases q : k ≤ n
    · rw [decide_eq_true q, if_pos rfl]; omega
    · rw [decide_eq_false q, if_neg (fun h => by cases h)]; omega
theorem pg_full_w {n k : Nat} : pg_w n (pg_full n) k = n - k := by
  rw [← pg_count_ge n k]
  refine List.countP_congr (fun i hi => ?_)
  rw [List.mem_range] at hi
  unfold pg_full
  by_cases q : k ≤ i
  · rw [if_pos ⟨q, hi⟩, decide_eq_true q]; exact ⟨fun _ => rfl, fun _ => rfl⟩
  · rw [if_neg (fun r => q r.1), decide_eq_false q]; exact ⟨fun h => (by cases h), fun h => (by cases h)⟩
theorem pg_full_len {n : Nat} : ∀ (d k : Nat), k + d = n → pg_len n (pg_full n) d k = pg_fac d := by
  intro d
  induction d with
  | zero => intro k _; rfl
  | succ d ih =>
    intro k h
    show pg_w n (pg_full n) k * pg_len n (pg_full n) d (k + 1) = pg_fac d * (d + 1)
    rw [ih (k + 1) (by omega), pg_full_w, show n - k = d + 1 by omega, Nat.mul_comm]
theorem pg_all_len (n : Nat) : (pg_all n).length = pg_fac n := by
  unfold pg_all
  rw [pg_L_len (pg_full_ok n) n 0 _ (pg_P_id n), pg_full_len n 0 (by omega)]
/-- how many of the values below w aren't used -/
def pg_free (u : Nat → Bool) (w : Nat) : Nat := (List.range w).countP (fun v => !(u v))
theorem pg_free_succ (u : Nat → Bool) (w : Nat) : pg_free u (w + 1) = pg_free u w + if u w = true then 0 else 1 := by
  unfold pg_free
  rw [pg_count_succ]
  cases u w <;> rfl
theorem pg_free_used (u : Nat → Bool) (w : Nat) : pg_free u w + (List.range w).countP u = w := by
  induction w with
  | zero => rfl
  | succ w ih =>
    rw [pg_free_succ, pg_count_succ]
    cases u w <;> simp <;> omega
/-- one point more: from a block of the row of all elements to a block in it -/
theorem pg_all_step {n k d : Nat} (hk : k + (d + 1) = n) {x : pg_F} (hx : pg_P n x) {u : Nat → Bool} (hu : ∀ v, v < n → (u v = true ↔ ∃ j, j < k ∧ x j = v)) {w : Nat} (hw : w < n) (hf : u w = false) : ∃ x', pg_P n x' ∧ x' k = w ∧ (∀ j, j < k → x' j = x j) ∧ ∀ t, t < pg_fac d → (pg_L n (pg_full n) (d + 1) k x)[pg_free u w * pg_fac d + t]? = (pg_L n (pg_full n) d (k + 1) x')[t]? := by
  have hfree : ∀ v, v < n → ((pg_full n k (pg_inv n x v)).isSome = !(u v)) := by
    intro v hv
    obtain ⟨a1, a2⟩ := pg_inv_lt hx hv
    unfold pg_full
    by_cases q : k ≤ pg_inv n x v
    · rw [if_pos ⟨q, a2⟩]
      have : u v = false := by
        cases h : u v with
        | false => rfl
        | true =>
          obtain ⟨j, hj, e⟩ := (hu v hv).mp h
          rw [pg_inv_at hx e] at q
          omega
      rw [this]; rfl
    · rw [if_neg (fun r => q r.1)]
      have : u v = true := (hu v hv).mpr ⟨pg_inv n x v, by omega, a1⟩
      rw [this]; rfl
  cases hs : pg_full n k (pg_inv n x w) with
  | none =>
    have := hfree w hw
    rw [hs, hf] at this
    cases this
  | some s =>
    obtain ⟨b1, b2, b3, -⟩ := pg_L_blk (d := d) (pg_full_ok n) hx hw hs
    refine ⟨pg_mul s x, b1, b2, b3, fun t ht => ?_⟩
    have h := pg_L_get (d := d) (t := t) (pg_full_ok n) hx hw hs (by rw [pg_full_len d (k + 1) (by omega)]; exact ht)
    rw [pg_full_len d (k + 1) (by omega)] at h
    have e : (List.range w).countP (fun v => (pg_full n k (pg_inv n x v)).isSome) = pg_free u w := by
      refine List.countP_congr (fun v hv => ?_)
      rw [List.mem_range] at hv
      rw [hfree v (by omega)]
    rw [e] at h
    exact h
/-- what a row's place means -/
theorem pg_all_at {n : Nat} {x : pg_F} (hx : pg_P n x) : ∃ r, r < pg_fac n ∧ (pg_all n)[r]? = some x := by
  have := ((pg_all_row n).2 x).mpr hx
  obtain ⟨r, hr, e⟩ := List.mem_iff_getElem.mp this
  exact ⟨r, by rw [← pg_all_len n]; exact hr, by rw [List.getElem?_eq_getElem hr, e]⟩
theorem pg_all_P {n r : Nat} {x : pg_F} (h : (pg_all n)[r]? = some x) : pg_P n x ∧ r < pg_fac n := by
  have h1 : x ∈ pg_all n := List.mem_of_getElem? h
  refine ⟨((pg_all_row n).2 x).mp h1, ?_⟩
  rw [← pg_all_len n]
  exact (List.getElem?_eq_some_iff.mp h).1
theorem pg_all_inj {n r r' : Nat} {x : pg_F} (h : (pg_all n)[r]? = some x) (h' : (pg_all n)[r']? = some x) : r = r' := by
  have h1 := (List.getElem?_eq_some_iff.mp h).1
  exact (List.getElem?_inj h1 (pg_all_row n).nd).mp (h.trans h'.symm)
theorem pg_all_lt {n r r' : Nat} {x y : pg_F} (h : (pg_all n)[r]? = some x) (h' : (pg_all n)[r']? = some y) (hr : r < r') : pg_lt n x y := by
  obtain ⟨a1, a2⟩ := List.getElem?_eq_some_iff.mp h
  obtain ⟨b1, b2⟩ := List.getElem?_eq_some_iff.mp h'
  rw [← a2, ← b2]
  exact List.pairwise_iff_getElem.mp (pg_all_row n).1 r r' a1 b1 hr
theorem pg_all_0 (n : Nat) : (pg_all n)[0]? = some pg_id := by
  obtain ⟨r, hr, e⟩ := pg_all_at (pg_P_id n)
  cases r with
  | zero => exact e
  | succ r =>
    have h0 : 0 < (pg_all n).length := by rw [pg_all_len]; exact pg_fac_pos n
    have e0 : (pg_all n)[0]? = some ((pg_all n)[0]) := List.getElem?_eq_getElem h0
    obtain ⟨k, h1, h2, h3⟩ := pg_all_lt e0 e (by omega)
    have hP := (pg_all_P e0).1
    have h3 : (pg_all n)[0] k < k := h3
    have h2 : ∀ j, j < k → (pg_all n)[0] j = j := h2
    have h4 := h2 _ h3
    have := hP.2.2 _ _ (by omega) h1 h4
    omega
/-- a set of ranks and the set of elements that it means -/
def pg_set (n : Nat) (B : Nat → Bool) (x : pg_F) : Prop := ∃ r, (pg_all n)[r]? = some x ∧ B r = true
theorem pg_set_at {n r : Nat} {B : Nat → Bool} {x : pg_F} (h : (pg_all n)[r]? = some x) : pg_set n B x ↔ B r = true := by
  constructor
  · rintro ⟨r', h1, h2⟩
    rw [pg_all_inj h h1]; exact h2
  · intro hb; exact ⟨r, h, hb⟩
/-- its members in a row -/
def pg_mem (n : Nat) (B : Nat → Bool) : List pg_F := ((List.range (pg_fac n)).filter B).filterMap (fun r => (pg_all n)[r]?)
theorem pg_mem_row (n : Nat) (B : Nat → Bool) : pg_row n (pg_set n B) (pg_mem n B) := by
  refine ⟨?_, fun x => ?_⟩
  · unfold pg_mem
    refine List.pairwise_filterMap.mpr ?_
    refine List.Pairwise.imp ?_ (List.Pairwise.filter _ (List.pairwise_lt_range (n := pg_fac n)))
    intro a b hab x hx y hy
    exact pg_all_lt hx hy hab
  · unfold pg_mem
    rw [List.mem_filterMap]
    constructor
    · rintro ⟨r, hr, e⟩
      rw [List.mem_filter] at hr
      exact ⟨r, e, hr.2⟩
    · rintro ⟨r, e, hb⟩
      exact ⟨r, List.mem_filter.mpr ⟨List.mem_range.mpr (pg_all_P e).2, hb⟩, e⟩
theorem pg_mem_len (n : Nat) (B : Nat → Bool) : (pg_mem n B).length = (List.range (pg_fac n)).countP B := by
  unfold pg_mem
  rw [List.countP_eq_length_filter]
  generalize hl : (List.range (pg_fac n)).filter B = l
  have hin : ∀ r, r ∈ l → r < pg_fac n := fun r hr => by
    rw [← hl, List.mem_filter, List.mem_range] at hr
    exact hr.1
  clear hl
  induction l with
  | nil => rfl
  | cons a l ih =>
    have ha : a < (pg_all n).length := by rw [pg_all_len]; exact hin a List.mem_cons_self
    rw [List.filterMap_cons, List.getElem?_eq_getElem ha]
    simp only [List.length_cons]
    rw [ih (fun r hr => hin r (List.mem_cons_of_mem _ hr))]
/-- a member's place among the members -/
theorem pg_mem_get {n : Nat} {B : Nat → Bool} : ∀ (m : Nat), m ≤ pg_fac n → ∀ (r : Nat) (x : pg_F), r < m → (pg_all n)[r]? = some x → B r = true → (((List.range m).filter B).filterMap (fun r => (pg_all n)[r]?))[(List.range r).countP B]? = some x := by
  intro m
  induction m with
  | zero => intro _ r x h; omega
  | succ m ih =>
    intro hm r x hr e hb
    have hl : (((List.range m).filter B).filterMap (fun r => (pg_all n)[r]?)).length = (List.range m).countP B := by
      rw [List.countP_eq_length_filter]
      generalize hl : (List.range m).filter B = l
      have hin : ∀ r, r ∈ l → r < pg_fac n := fun r hr => by
        rw [← hl, List.mem_filter, List.mem_range] at hr
        omega
      clear hl
      induction l with
      | nil => rfl
      | cons a l ih =>
        have ha : a < (pg_all n).length := by rw [pg_all_len]; exact hin a List.mem_cons_self
        rw [List.filterMap_cons, List.getElem?_eq_getElem ha]
        simp only [List.length_cons]
        rw [ih (fun r hr => hin r (List.mem_cons_of_mem _ hr))]
    rw [List.range_succ, List.filter_append, List.filterMap_append]
    by_cases q : r = m
    · subst q
      rw [List.getElem?_append_right (by omega), hl, Nat.sub_self]
      simp [hb, e]
    · have h1 : (List.range (r + 1)).countP B ≤ (List.range m).countP B := pg_count_le (by omega)
      rw [pg_count_succ, if_pos hb] at h1
      rw [List.getElem?_append_left (by omega)]
      exact ih (by omega) r x (by omega) e hb
theorem pg_mem_at {n : Nat} {B : Nat → Bool} {r : Nat} {x : pg_F} (e : (pg_all n)[r]? = some x) (hb : B r = true) : (pg_mem n B)[(List.range r).countP B]? = some x :=
  pg_mem_get (pg_fac n) (Nat.le_refl _) r x (pg_all_P e).2 e hb
