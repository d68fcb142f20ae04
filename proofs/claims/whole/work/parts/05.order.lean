/-! The order of elements; a group's elements in a row, least first; rank and place. Pure. -/
def pg_lt (n : Nat) (x y : pg_F) : Prop := ∃ k, k < n ∧ (∀ j, j < k → x j = y j) ∧ x k < y k
theorem pg_lt_irrefl {n : Nat} {x : pg_F} : ¬ pg_lt n x x := fun ⟨_, _, _, h⟩ => Nat.lt_irrefl _ h
theorem pg_lt_asymm {n : Nat} {x y : pg_F} (h : pg_lt n x y) (h' : pg_lt n y x) : False := by
  obtain ⟨a, _, a2, a3⟩ := h
  obtain ⟨b, _, b2, b3⟩ := h'
  rcases Nat.lt_trichotomy a b with q | q | q
  · rw [b2 a q] at a3; omega
  · subst q; omega
  · rw [a2 b q] at b3; omega
theorem pg_lt_trans {n : Nat} {x y z : pg_F} (h : pg_lt n x y) (h' : pg_lt n y z) : pg_lt n x z := by
  obtain ⟨a, a1, a2, a3⟩ := h
  obtain ⟨b, b1, b2, b3⟩ := h'
  rcases Nat.lt_trichotomy a b with q | q | q
  · exact ⟨a, a1, fun j hj => by rw [a2 j hj, b2 j (by omega)], by rw [← b2 a q]; exact a3⟩
  · subst q
    exact ⟨a, a1, fun j hj => by rw [a2 j hj, b2 j hj], by omega⟩
  · exact ⟨b, b1, fun j hj => by rw [a2 j (by omega), b2 j hj], by rw [a2 b q]; exact b3⟩
theorem pg_lt_total {n : Nat} {x y : pg_F} (hx : pg_P n x) (hy : pg_P n y) : x = y ∨ pg_lt n x y ∨ pg_lt n y x := by
  by_cases h : ∃ k, k < n ∧ x k ≠ y k
  · obtain ⟨k, ⟨h1, h2⟩, h3⟩ := pk_least (fun k => k < n ∧ x k ≠ y k) h
    have h4 : ∀ j, j < k → x j = y j := fun j hj => Classical.byContradiction (fun q => h3 j hj ⟨by omega, q⟩)
    rcases Nat.lt_or_gt_of_ne h2 with q | q
    · exact Or.inr (Or.inl ⟨k, h1, h4, q⟩)
    · exact Or.inr (Or.inr ⟨k, h1, fun j hj => (h4 j hj).symm, q⟩)
  · refine Or.inl (pg_ext hx hy (fun i hi => Classical.byContradiction (fun q => h ⟨i, hi, q⟩)))
/-- the members of G in a row, the least first -/
def pg_row (n : Nat) (G : pg_F → Prop) (l : List pg_F) : Prop := l.Pairwise (pg_lt n) ∧ ∀ x, x ∈ l ↔ G x
theorem pg_row.nd {n : Nat} {G : pg_F → Prop} {l : List pg_F} (h : pg_row n G l) : l.Nodup := by
  refine List.Pairwise.imp ?_ h.1
  intro a b hab e
  rw [e] at hab
  exact pg_lt_irrefl hab
theorem pg_row.eq {n : Nat} {G : pg_F → Prop} {l l' : List pg_F} (h : pg_row n G l) (h' : pg_row n G l') : l = l' :=
  List.Perm.eq_of_pairwise (le := pg_lt n) (fun _ _ _ _ h1 h2 => (pg_lt_asymm h1 h2).elim) h.1 h'.1 ((List.perm_ext_iff_of_nodup h.nd h'.nd).mpr fun a => by rw [h.2, h'.2])
/-- blocks of one length or none -/
theorem pg_fm_len {α β : Type} {p : α → Bool} {f : α → List β} {c : Nat} : ∀ (l : List α), (∀ w, w ∈ l → (f w).length = if p w = true then c else 0) → (l.flatMap f).length = l.countP p * c := by
  intro l
  induction l with
  | nil => intro _; simp
  | cons a l ih =>
    intro h
    rw [List.flatMap_cons, List.length_append, ih (fun w hw => h w (List.mem_cons_of_mem _ hw)), h a List.mem_cons_self, List.countP_cons]
    by_cases q : p a = true
    · rw [if_pos q, if_pos q, Nat.add_mul, Nat.one_mul, Nat.add_comm]
    · rw [if_neg q, if_neg q, Nat.zero_add, Nat.add_zero]
theorem pg_count_le {p : Nat → Bool} {a b : Nat} (h : a ≤ b) : (List.range a).countP p ≤ (List.range b).countP p := by
  induction b with
  | zero => rw [show a = 0 by omega]; exact Nat.le_refl _
  | succ b ih =>
    by_cases q : a = b + 1
    · rw [q]; exact Nat.le_refl _
    · have := ih (by omega)
      rw [List.range_succ, List.countP_append]
      omega
theorem pg_count_succ {p : Nat → Bool} (a : Nat) : (List.range (a + 1)).countP p = (List.range a).countP p + if p a = true then 1 else 0 := by
  rw [List.range_succ, List.countP_append, List.countP_singleton]
theorem pg_fm_get {β : Type} {p : Nat → Bool} {f : Nat → List β} {c : Nat} : ∀ (n : Nat), (∀ w, w < n → (f w).length = if p w = true then c else 0) → ∀ (w t : Nat), w < n → p w = true → t < c → ((List.range n).flatMap f)[(List.range w).countP p * c + t]? = (f w)[t]? := by
  intro n
  induction n with
  | zero => intro _ w t h; omega
  | succ n ih =>
    intro h w t hw hp ht
    have hl : ((List.range n).flatMap f).length = (List.range n).countP p * c := pg_fm_len _ (fun w hw => h w (by rw [List.mem_range] at hw; omega))
    rw [List.range_succ, List.flatMap_append]
    by_cases q : w = n
    · subst q
      rw [List.getElem?_append_right (by omega), hl]
      simp
    · have h1 : (List.range (w + 1)).countP p ≤ (List.range n).countP p := pg_count_le (by omega)
      rw [pg_count_succ, if_pos hp] at h1
      have h2 := Nat.mul_le_mul_right c h1
      rw [Nat.add_mul, Nat.one_mul] at h2
      rw [List.getElem?_append_left (by omega)]
      exact ih (fun w hw => h w (by omega)) w t (by omega) hp ht
theorem pg_count_inv {n : Nat} {x : pg_F} (hx : pg_P n x) (f : Nat → Bool) : (List.range n).countP (fun w => f (pg_inv n x w)) = (List.range n).countP f := by
  have h1 : ((List.range n).map (pg_inv n x)).countP f = (List.range n).countP (fun w => f (pg_inv n x w)) := List.countP_map
  rw [← h1]
  refine List.Perm.countP_eq f ((List.perm_ext_iff_of_nodup ?_ List.nodup_range).mpr fun a => ?_)
  · refine List.pairwise_map.mpr (List.Pairwise.imp_of_mem ?_ (List.nodup_range (n := n)))
    intro a b ha hb hab e
    rw [List.mem_range] at ha hb
    exact hab ((pg_P_inv hx).2.2 a b ha hb e)
  · rw [List.mem_map, List.mem_range]
    constructor
    · rintro ⟨w, hw, rfl⟩
      rw [List.mem_range] at hw
      exact (pg_inv_lt hx hw).2
    · intro ha
      exact ⟨x a, List.mem_range.mpr (hx.1 a ha), pg_inv_at hx rfl⟩
/-- the row that a table makes: behind x, from level k on -/
def pg_L (n : Nat) (T : pg_T) : Nat → Nat → pg_F → List pg_F
  | 0, _, x => [x]
  | d + 1, k, x => (List.range n).flatMap fun w => match T k (pg_inv n x w) with
    | some s => pg_L n T d (k + 1) (pg_mul s x)
    | none => []
/-- how many steps a level has; how many products there are from a level on -/
def pg_w (n : Nat) (T : pg_T) (k : Nat) : Nat := (List.range n).countP fun i => (T k i).isSome
def pg_len (n : Nat) (T : pg_T) : Nat → Nat → Nat
  | 0, _ => 1
  | d + 1, k => pg_w n T k * pg_len n T d (k + 1)
theorem pg_L_len {n : Nat} {T : pg_T} (hT : pg_ok n T) : ∀ (d k : Nat) (x : pg_F), pg_P n x → (pg_L n T d k x).length = pg_len n T d k := by
  intro d
  induction d with
  | zero => intro k x _; rfl
  | succ d ih =>
    intro k x hx
    show ((List.range n).flatMap _).length = pg_w n T k * pg_len n T d (k + 1)
    rw [pg_fm_len (p := fun w => (T k (pg_inv n x w)).isSome) (c := pg_len n T d (k + 1)) (List.range n) ?_]
    · rw [pg_count_inv hx (fun i => (T k i).isSome)]; rfl
    · intro w _
      cases h : T k (pg_inv n x w) with
      | none => simp
      | some s =>
        have := (hT.2 k _ s h).2.2.2.1
        simp only [Option.isSome_some, if_true]
        exact ih (k + 1) _ (pg_P_mul this hx)
theorem pg_L_mem {n : Nat} {T : pg_T} (hT : pg_ok n T) : ∀ (d k : Nat) (x : pg_F), pg_P n x → ∀ y, y ∈ pg_L n T d k x ↔ ∃ z, pg_In T d k z ∧ y = pg_mul z x := by
  intro d
  induction d with
  | zero =>
    intro k x _ y
    show y ∈ [x] ↔ _
    rw [List.mem_singleton]
    constructor
    · intro h; exact ⟨pg_id, rfl, h⟩
    · rintro ⟨z, hz, e⟩
      rw [e, show z = pg_id from hz]; rfl
  | succ d ih =>
    intro k x hx y
    show y ∈ (List.range n).flatMap _ ↔ _
    rw [List.mem_flatMap]
    constructor
    · rintro ⟨w, hw, h⟩
      cases hs : T k (pg_inv n x w) with
      | none => rw [hs] at h; cases h
      | some s =>
        rw [hs] at h
        obtain ⟨z, hz, e⟩ := (ih (k + 1) _ (pg_P_mul (hT.2 k _ s hs).2.2.2.1 hx) y).mp h
        exact ⟨pg_mul z s, ⟨_, s, z, hs, hz, rfl⟩, e⟩
    · rintro ⟨z, ⟨i, s, z2, hs, hz, rfl⟩, e⟩
      have hi := (hT.2 k i s hs).2.1
      refine ⟨x i, List.mem_range.mpr (hx.1 i hi), ?_⟩
      rw [pg_inv_at hx rfl, hs]
      exact (ih (k + 1) _ (pg_P_mul (hT.2 k _ s hs).2.2.2.1 hx) y).mpr ⟨z2, hz, e⟩
/-- what the members of a block have in common -/
theorem pg_L_at {n : Nat} {T : pg_T} (hT : pg_ok n T) {d k : Nat} {x : pg_F} (hx : pg_P n x) {y : pg_F} (hy : y ∈ pg_L n T d k x) : pg_P n y ∧ ∀ j, j < k → y j = x j := by
  obtain ⟨z, hz, rfl⟩ := (pg_L_mem hT d k x hx y).mp hy
  obtain ⟨a, b⟩ := pg_In.fix hT d k z hz
  exact ⟨pg_P_mul a hx, fun j hj => by show x (z j) = x j; rw [b j hj]⟩
theorem pg_L_blk {n : Nat} {T : pg_T} (hT : pg_ok n T) {d k : Nat} {x s : pg_F} (hx : pg_P n x) {w : Nat} (hw : w < n) (hs : T k (pg_inv n x w) = some s) : pg_P n (pg_mul s x) ∧ pg_mul s x k = w ∧ (∀ j, j < k → pg_mul s x j = x j) ∧ ∀ y, y ∈ pg_L n T d (k + 1) (pg_mul s x) → y k = w ∧ ∀ j, j < k → y j = x j := by
  have h := hT.2 k _ s hs
  have hP := pg_P_mul h.2.2.2.1 hx
  have e1 : pg_mul s x k = w := by
    show x (s k) = w
    rw [h.2.2.2.2.2, (pg_inv_lt hx hw).1]
  have e2 : ∀ j, j < k → pg_mul s x j = x j := by
    intro j hj
    show x (s j) = x j
    rw [h.2.2.2.2.1 j hj]
  refine ⟨hP, e1, e2, fun y hy => ?_⟩
  have := (pg_L_at hT hP hy).2
  exact ⟨by rw [this k (by omega), e1], fun j hj => by rw [this j (by omega), e2 j hj]⟩
theorem pg_L_sorted {n : Nat} {T : pg_T} (hT : pg_ok n T) : ∀ (d k : Nat), k + d = n → ∀ (x : pg_F), pg_P n x → (pg_L n T d k x).Pairwise (pg_lt n) := by
  intro d
  induction d with
  | zero => intro k _ x _; exact List.pairwise_singleton _ _
  | succ d ih =>
    intro k hk x hx
    show ((List.range n).flatMap _).Pairwise _
    refine List.pairwise_flatMap.mpr ⟨fun w hw => ?_, ?_⟩
    · rw [List.mem_range] at hw
      cases hs : T k (pg_inv n x w) with
      | none => exact List.Pairwise.nil
      | some s => exact ih (k + 1) (by omega) _ (pg_L_blk (d := d) hT hx hw hs).1
    · refine List.Pairwise.imp_of_mem ?_ (List.pairwise_lt_range (n := n))
      intro a b ha hb hab y hy z hz
      rw [List.mem_range] at ha hb
      cases hs : T k (pg_inv n x a) with
      | none => rw [hs] at hy; cases hy
      | some s =>
        cases ht : T k (pg_inv n x b) with
        | none => rw [ht] at hz; cases hz
        | some t =>
          rw [hs] at hy
          rw [ht] at hz
          have h1 := (pg_L_blk (d := d) hT hx ha hs).2.2.2 y hy
          have h2 := (pg_L_blk (d := d) hT hx hb ht).2.2.2 z hz
          exact ⟨k, by omega, fun j hj => by rw [h1.2 j hj, h2.2 j hj], by rw [h1.1, h2.1]; exact hab⟩
theorem pg_L_row {n : Nat} {T : pg_T} (hT : pg_ok n T) : pg_row n (pg_In T n 0) (pg_L n T n 0 pg_id) := by
  refine ⟨pg_L_sorted hT n 0 (by omega) _ (pg_P_id n), fun x => ?_⟩
  rw [pg_L_mem hT n 0 _ (pg_P_id n)]
  constructor
  · rintro ⟨z, hz, rfl⟩; exact hz
  · intro h; exact ⟨x, h, rfl⟩
/-- a block of the row -/
theorem pg_L_get {n : Nat} {T : pg_T} (hT : pg_ok n T) {d k : Nat} {x s : pg_F} (hx : pg_P n x) {w t : Nat} (hw : w < n) (hs : T k (pg_inv n x w) = some s) (ht : t < pg_len n T d (k + 1)) : (pg_L n T (d + 1) k x)[(List.range w).countP (fun v => (T k (pg_inv n x v)).isSome) * pg_len n T d (k + 1) + t]? = (pg_L n T d (k + 1) (pg_mul s x))[t]? := by
  show ((List.range n).flatMap _)[_]? = _
  rw [pg_fm_get n ?_ w t hw ?_ ht]
  · rw [hs]
  · intro v hv
    cases h : T k (pg_inv n x v) with
    | none => simp
    | some s =>
      simp only [Option.isSome_some, if_true]
      exact pg_L_len hT d (k + 1) _ (pg_L_blk (d := d) hT hx hv h).1
  · rw [hs]; rfl
/-- the steps that lead to less than w, by where they lead -/
theorem pg_lesser {n : Nat} {x : pg_F} (hx : pg_P n x) (f : Nat → Bool) {w : Nat} (hw : w ≤ n) : (List.range n).countP (fun i => f i && decide (x i < w)) = (List.range w).countP (fun v => f (pg_inv n x v)) := by
  rw [← pg_count_inv hx (fun i => f i && decide (x i < w))]
  have h1 : (List.range n).countP (fun v => f (pg_inv n x v) && decide (x (pg_inv n x v) < w)) = (List.range n).countP (fun v => f (pg_inv n x v) && decide (v < w)) := by
    refine List.countP_congr (fun v hv => ?_)
    rw [List.mem_range] at hv
    rw [(pg_inv_lt hx hv).1]
  rw [h1]
  clear h1
  have h2 : ∀ (m : Nat), w ≤ m → (List.range m).countP (fun v => f (pg_inv n x v) && decide (v < w)) = (List.range w).countP (fun v => f (pg_inv n x v)) := by
    intro m
    induction m with
    | zero => intro h; rw [show w = 0 by omega]; rfl
    | succ m ih =>
      intro h
      by_cases q : w = m + 1
      · subst q
        refine List.countP_congr (fun v hv => ?_)
        rw [List.mem_range] at hv
        rw [decide_eq_true hv, Bool.and_true]
      · rw [pg_count_succ, ih (by omega), decide_eq_false (by omega), Bool.and_false]
        rfl
  exact h2 n hw
/-- widths are small: at most n - k steps on level k -/
theorem pg_w_le {n : Nat} {T : pg_T} (hT : pg_ok n T) (k : Nat) : pg_w n T k ≤ n := by
  have := List.countP_le_length (p := fun i => (T k i).isSome) (l := List.range n)
  rw [List.length_range] at this
  exact this
theorem pg_w_pos {n : Nat} {T : pg_T} (hT : pg_ok n T) {k : Nat} (hk : k < n) : 0 < pg_w n T k := by
  refine Nat.pos_of_ne_zero (fun h => ?_)
  have := List.countP_eq_zero.mp h k (List.mem_range.mpr hk)
  rw [hT.1 k hk] at this
  exact this rfl
theorem pg_len_pos {n : Nat} {T : pg_T} (hT : pg_ok n T) : ∀ (d k : Nat), k + d = n → 0 < pg_len n T d k := by
  intro d
  induction d with
  | zero => intro k _; exact Nat.one_pos
  | succ d ih => intro k h; exact Nat.mul_pos (pg_w_pos hT (by omega)) (ih (k + 1) (by omega))
/-- a rank: from a block to a block in it -/
theorem pg_rank_step {n : Nat} {T : pg_T} (hT : pg_ok n T) {d k : Nat} {x s q : pg_F} (hx : pg_P n x) (hq : pg_P n q) (hk : k < n) (hs : T k (pg_inv n x (q k)) = some s) : (q ∈ pg_L n T (d + 1) k x ↔ q ∈ pg_L n T d (k + 1) (pg_mul s x)) := by
  show q ∈ (List.range n).flatMap _ ↔ _
  rw [List.mem_flatMap]
  constructor
  · rintro ⟨w, hw, h⟩
    rw [List.mem_range] at hw
    cases ht : T k (pg_inv n x w) with
    | none => rw [ht] at h; cases h
    | some t =>
      rw [ht] at h
      have := ((pg_L_blk (d := d) hT hx hw ht).2.2.2 q h).1
      rw [this] at hs
      rw [ht] at hs
      cases hs
      exact h
  · intro h
    exact ⟨q k, List.mem_range.mpr (hq.1 k hk), by rw [hs]; exact h⟩
theorem pg_rank_none {n : Nat} {T : pg_T} (hT : pg_ok n T) {d k : Nat} {x q : pg_F} (hx : pg_P n x) (hs : T k (pg_inv n x (q k)) = none) : q ∉ pg_L n T (d + 1) k x := by
  intro h
  obtain ⟨w, hw, h⟩ := List.mem_flatMap.mp h
  rw [List.mem_range] at hw
  cases ht : T k (pg_inv n x w) with
  | none => rw [ht] at h; cases h
  | some t =>
    rw [ht] at h
    have := ((pg_L_blk (d := d) hT hx hw ht).2.2.2 q h).1
    rw [this, ht] at hs
    cases hs
