/-! A group held as a table of steps: T k i leaves the points below k and takes k to i. Pure. -/
abbrev pg_T : Type := Nat → Nat → Option pg_F
def pg_ok (n : Nat) (T : pg_T) : Prop := (∀ k, k < n → T k k = some pg_id) ∧ ∀ k i x, T k i = some x → k < n ∧ i < n ∧ k ≤ i ∧ pg_P n x ∧ (∀ j, j < k → x j = j) ∧ x k = i
/-- products of a step from each of the d levels from k on, the deepest first -/
def pg_In (T : pg_T) : Nat → Nat → pg_F → Prop
  | 0, _, x => x = pg_id
  | d + 1, k, x => ∃ i s y, T k i = some s ∧ pg_In T d (k + 1) y ∧ x = pg_mul y s
theorem pg_In.fix {n : Nat} {T : pg_T} (hT : pg_ok n T) : ∀ (d k : Nat) (x : pg_F), pg_In T d k x → pg_P n x ∧ ∀ j, j < k → x j = j := by
  intro d
  induction d with
  | zero => intro k x h; rw [show x = pg_id from h]; exact ⟨pg_P_id n, fun _ _ => rfl⟩
  | succ d ih =>
    rintro k x ⟨i, s, y, hs, hy, rfl⟩
    obtain ⟨a1, a2⟩ := ih (k + 1) y hy
    obtain ⟨-, -, -, b1, b2, -⟩ := hT.2 k i s hs
    refine ⟨pg_P_mul a1 b1, fun j hj => ?_⟩
    show s (y j) = j
    rw [a2 j (by omega), b2 j hj]
theorem pg_In.sift {n : Nat} {T : pg_T} (hT : pg_ok n T) {d k : Nat} {x : pg_F} : pg_In T (d + 1) k x ↔ ∃ s, T k (x k) = some s ∧ pg_In T d (k + 1) (pg_mul x (pg_inv n s)) := by
  constructor
  · rintro ⟨i, s, y, hs, hy, rfl⟩
    obtain ⟨-, a2⟩ := pg_In.fix hT d (k + 1) y hy
    obtain ⟨-, -, -, b1, -, b3⟩ := hT.2 k i s hs
    have e : pg_mul y s k = i := by
      show s (y k) = i
      rw [a2 k (by omega), b3]
    refine ⟨s, by rw [e]; exact hs, ?_⟩
    show pg_In T d (k + 1) (pg_mul y (pg_mul s (pg_inv n s)))
    rw [pg_mul_inv b1]
    exact hy
  · rintro ⟨s, hs, hy⟩
    obtain ⟨-, -, -, b1, -, -⟩ := hT.2 k _ s hs
    refine ⟨x k, s, _, hs, hy, ?_⟩
    show x = pg_mul x (pg_mul (pg_inv n s) s)
    rw [pg_inv_mul b1]
    rfl
theorem pg_In.one {n : Nat} {T : pg_T} (hT : pg_ok n T) : ∀ (d k : Nat), k + d = n → pg_In T d k pg_id := by
  intro d
  induction d with
  | zero => intro k _; exact rfl
  | succ d ih => intro k h; exact ⟨k, pg_id, pg_id, hT.1 k (by omega), ih (k + 1) (by omega), rfl⟩
theorem pg_In.up {n : Nat} {T : pg_T} (hT : pg_ok n T) {d k : Nat} {x : pg_F} (hk : k < n) (h : pg_In T d (k + 1) x) : pg_In T (d + 1) k x := ⟨k, pg_id, x, hT.1 k hk, h, rfl⟩
theorem pg_In.down {n : Nat} {T : pg_T} (hT : pg_ok n T) {d k : Nat} {x : pg_F} (hk : k < n) (h : pg_In T (d + 1) k x) (hx : x k = k) : pg_In T d (k + 1) x := by
  obtain ⟨s, hs, hy⟩ := (pg_In.sift hT).mp h
  rw [hx, hT.1 k hk] at hs
  cases hs
  rw [pg_inv_id, pg_mul_id] at hy
  exact hy
theorem pg_In.top {n : Nat} {T : pg_T} (hT : pg_ok n T) {x : pg_F} : ∀ (k d : Nat), k + d = n → pg_In T d k x → pg_In T n 0 x := by
  intro k
  induction k with
  | zero => intro d h hx; have : d = n := by omega
            rw [← this]; exact hx
  | succ k ih => intro d h hx; exact ih (d + 1) (by omega) (pg_In.up hT (by omega) hx)
theorem pg_In.deep {n : Nat} {T : pg_T} (hT : pg_ok n T) {x : pg_F} (h : pg_In T n 0 x) : ∀ (k d : Nat), k + d = n → (∀ j, j < k → x j = j) → pg_In T d k x := by
  intro k
  induction k with
  | zero => intro d e _; have : d = n := by omega
            rw [this]; exact h
  | succ k ih => intro d e hx; exact pg_In.down hT (by omega) (ih (d + 1) (by omega) (fun j hj => hx j (by omega))) (hx k (by omega))
def pg_le (T T' : pg_T) : Prop := ∀ k i x, T k i = some x → T' k i = some x
theorem pg_le.rf {T : pg_T} : pg_le T T := fun _ _ _ h => h
theorem pg_le.tr {T T' T'' : pg_T} (h : pg_le T T') (h' : pg_le T' T'') : pg_le T T'' := fun k i x q => h' k i x (h k i x q)
theorem pg_In.mono {T T' : pg_T} (h : pg_le T T') : ∀ (d k : Nat) (x : pg_F), pg_In T d k x → pg_In T' d k x := by
  intro d
  induction d with
  | zero => intro k x hx; exact hx
  | succ d ih => rintro k x ⟨i, s, y, hs, hy, e⟩; exact ⟨i, s, y, h k i s hs, ih _ _ hy, e⟩
theorem pg_In.step {n : Nat} {T : pg_T} (hT : pg_ok n T) {k i : Nat} {s : pg_F} (hs : T k i = some s) : pg_In T n 0 s := by
  have hk := (hT.2 k i s hs).1
  exact pg_In.top hT k (n - k - 1 + 1) (by omega) ⟨i, s, pg_id, hs, pg_In.one hT _ _ (by omega), rfl⟩
/-- whatever has the steps and is closed has all their products -/
theorem pg_In.least {n : Nat} {T : pg_T} {H : pg_F → Prop} (hH : pg_G n H) (hs : ∀ k i s, T k i = some s → H s) : ∀ (d k : Nat) (x : pg_F), pg_In T d k x → H x := by
  intro d
  induction d with
  | zero => intro k x h; rw [show x = pg_id from h]; exact hH.2.1
  | succ d ih => rintro k x ⟨i, s, y, h1, h2, rfl⟩; exact hH.2.2 _ _ (ih _ _ h2) (hs k i s h1)
/-- THE STEPS HOLD A WHOLE GROUP AS SOON AS THEY HOLD EACH PRODUCT OF A STEP AND ONE AS DEEP OR DEEPER -/
theorem pg_closed {n : Nat} {T : pg_T} (hT : pg_ok n T) (hp : ∀ k i u j l v, k ≤ j → T k i = some u → T j l = some v → pg_In T n 0 (pg_mul u v)) : pg_G n (pg_In T n 0) := by
  have main : ∀ (d k : Nat), k + d = n → ∀ x y, pg_In T d k x → pg_In T d k y → pg_In T d k (pg_mul x y) := by
    intro d
    induction d with
    | zero =>
      intro k _ x y hx hy
      rw [show x = pg_id from hx, show y = pg_id from hy]
      exact rfl
    | succ d ih =>
      intro k hk
      have ih := ih (k + 1) (by omega)
      have uv : ∀ i u j l v, k ≤ j → T k i = some u → T j l = some v → pg_In T (d + 1) k (pg_mul u v) := by
        intro i u j l v hj hu hv
        refine pg_In.deep hT (hp k i u j l v hj hu hv) k (d + 1) hk (fun q hq => ?_)
        show v (u q) = q
        rw [(hT.2 k i u hu).2.2.2.2.1 q hq, (hT.2 j l v hv).2.2.2.2.1 q (by omega)]
      have ut : ∀ (e l : Nat), k + 1 ≤ l → ∀ y, pg_In T e l y → ∀ i u, T k i = some u → pg_In T (d + 1) k (pg_mul u y) := by
        intro e
        induction e with
        | zero =>
          intro l _ y hy i u hu
          rw [show y = pg_id from hy]
          exact ⟨i, u, pg_id, hu, pg_In.one hT d (k + 1) (by omega), rfl⟩
        | succ e ihe =>
          rintro l hl y ⟨i2, w, y2, hw, hy2, rfl⟩ i u hu
          obtain ⟨i3, u3, t3, h3, ht3, e3⟩ := ihe (l + 1) (by omega) y2 hy2 i u hu
          obtain ⟨i4, u4, t4, h4, ht4, e4⟩ := uv i3 u3 l i2 w (by omega) h3 hw
          refine ⟨i4, u4, pg_mul t3 t4, h4, ih t3 t4 ht3 ht4, ?_⟩
          show pg_mul (pg_mul u y2) w = pg_mul t3 (pg_mul t4 u4)
          rw [e3, ← e4]
          rfl
      rintro x y ⟨i, u, x2, hu, hx2, rfl⟩ ⟨j, v, y2, hv, hy2, rfl⟩
      obtain ⟨i3, u3, t3, h3, ht3, e3⟩ := ut d (k + 1) (Nat.le_refl _) y2 hy2 i u hu
      obtain ⟨i4, u4, t4, h4, ht4, e4⟩ := uv i3 u3 k j v (Nat.le_refl _) h3 hv
      refine ⟨i4, u4, pg_mul (pg_mul x2 t3) t4, h4, ih _ _ (ih _ _ hx2 ht3) ht4, ?_⟩
      show pg_mul x2 (pg_mul (pg_mul u y2) v) = pg_mul x2 (pg_mul t3 (pg_mul t4 u4))
      rw [e3, ← e4]
      rfl
  exact ⟨fun x hx => (pg_In.fix hT n 0 x hx).1, pg_In.one hT n 0 (by omega), main n 0 (by omega)⟩
/-- a table out of a group: for each k and i a member that leaves the points below k and takes k to i, if there is one -/
theorem pg_table_of {n : Nat} {T : pg_T} {H : pg_F → Prop} (hT : pg_ok n T) (hH : pg_G n H) (hs : ∀ k i s, T k i = some s → H s) (hc : ∀ k x, k < n → H x → (∀ j, j < k → x j = j) → T k (x k) ≠ none) : pg_In T n 0 = H := by
  funext x
  refine propext ⟨pg_In.least hH hs n 0 x, ?_⟩
  have main : ∀ (d k : Nat), k + d = n → ∀ x, H x → (∀ j, j < k → x j = j) → pg_In T d k x := by
    intro d
    induction d with
    | zero =>
      intro k hk x hx hf
      exact pg_ext (hH.1 x hx) (pg_P_id n) (fun i hi => hf i (by omega))
    | succ d ih =>
      intro k hk x hx hf
      cases h : T k (x k) with
      | none => exact absurd h (hc k x (by omega) hx hf)
      | some s =>
        obtain ⟨-, -, -, b1, b2, b3⟩ := hT.2 k _ s h
        have hHs := hs k _ s h
        refine (pg_In.sift hT).mpr ⟨s, h, ih (k + 1) (by omega) _ (hH.2.2 _ _ hx (hH.inv hHs)) (fun j hj => ?_)⟩
        show pg_inv n s (x j) = j
        by_cases q : j = k
        · subst q; exact pg_inv_at b1 b3
        · rw [hf j (by omega)]; exact pg_inv_at b1 (b2 j (by omega))
  exact fun hx => main n 0 (by omega) x hx (fun j hj => by omega)
theorem pg_has_step {n : Nat} {T : pg_T} (hT : pg_ok n T) {k : Nat} {x : pg_F} (hk : k < n) (hx : pg_In T n 0 x) (hf : ∀ j, j < k → x j = j) : ∃ s, T k (x k) = some s := by
  have h := pg_In.deep hT hx k (n - k - 1 + 1) (by omega) hf
  obtain ⟨s, hs, -⟩ := (pg_In.sift hT).mp h
  exact ⟨s, hs⟩
/-- one step more -/
def pg_put (T : pg_T) (k i : Nat) (x : pg_F) : pg_T := fun a b => if a = k ∧ b = i then some x else T a b
theorem pg_put_at (T : pg_T) (k i : Nat) (x : pg_F) : pg_put T k i x k i = some x := if_pos ⟨rfl, rfl⟩
theorem pg_put_ne (T : pg_T) {k i a b : Nat} (x : pg_F) (h : ¬ (a = k ∧ b = i)) : pg_put T k i x a b = T a b := if_neg h
theorem pg_put_le {T : pg_T} {k i : Nat} {x : pg_F} (h : T k i = none) : pg_le T (pg_put T k i x) := by
  intro a b y hy
  by_cases q : a = k ∧ b = i
  · rw [q.1, q.2, h] at hy; cases hy
  · rw [pg_put_ne T x q]; exact hy
theorem pg_put_ok {n : Nat} {T : pg_T} (hT : pg_ok n T) {k i : Nat} {x : pg_F} (hk : k < i) (hi : i < n) (hx : pg_P n x) (hf : ∀ j, j < k → x j = j) (e : x k = i) : pg_ok n (pg_put T k i x) := by
  refine ⟨fun a ha => ?_, fun a b y hy => ?_⟩
  · rw [pg_put_ne T x (fun q => by omega)]; exact hT.1 a ha
  · by_cases q : a = k ∧ b = i
    · obtain ⟨rfl, rfl⟩ := q
      rw [pg_put_at] at hy
      cases hy
      exact ⟨by omega, hi, by omega, hx, hf, e⟩
    · rw [pg_put_ne T x q] at hy; exact hT.2 a b y hy
/-- the identity alone -/
def pg_clear (n : Nat) : pg_T := fun a b => if a = b ∧ a < n then some pg_id else none
theorem pg_clear_ok (n : Nat) : pg_ok n (pg_clear n) := by
  refine ⟨fun k hk => if_pos ⟨rfl, hk⟩, fun k i x h => ?_⟩
  unfold pg_clear at h
  by_cases q : k = i ∧ k < n
  · rw [if_pos q] at h
    cases h
    obtain ⟨rfl, q2⟩ := q
    exact ⟨q2, q2, Nat.le_refl _, pg_P_id n, fun _ _ => rfl, rfl⟩
  · rw [if_neg q] at h; cases h
theorem pg_clear_in (n : Nat) : pg_In (pg_clear n) n 0 = fun x => x = pg_id := by
  refine pg_table_of (pg_clear_ok n) ⟨fun x h => by rw [h]; exact pg_P_id n, rfl, fun x y hx hy => by rw [hx, hy]; rfl⟩ (fun k i s h => ?_) (fun k x hk hx _ => ?_)
  · unfold pg_clear at h
    by_cases q : k = i ∧ k < n
    · rw [if_pos q] at h; cases h; rfl
    · rw [if_neg q] at h; cases h
  · rw [hx]
    show pg_clear n k k ≠ none
    rw [show pg_clear n k k = some pg_id from if_pos ⟨rfl, hk⟩]
    exact fun h => by cases h
/-- the steps off the diagonal, as many as there are -/
def pg_prs (n : Nat) : List (Nat × Nat) := (List.range n).flatMap fun k => ((List.range n).filter fun i => decide (k < i)).map fun i => (k, i)
theorem pg_prs_mem {n k i : Nat} : (k, i) ∈ pg_prs n ↔ k < i ∧ i < n := by
  unfold pg_prs
  rw [List.mem_flatMap]
  constructor
  · rintro ⟨a, ha, h⟩
    obtain ⟨b, hb, e⟩ := List.mem_map.mp h
    rw [List.mem_filter, List.mem_range] at hb
    cases e
    exact ⟨of_decide_eq_true hb.2, hb.1⟩
  · rintro ⟨h1, h2⟩
    exact ⟨k, List.mem_range.mpr (by omega), List.mem_map.mpr ⟨i, List.mem_filter.mpr ⟨List.mem_range.mpr h2, decide_eq_true h1⟩, rfl⟩⟩
theorem pg_prs_nd (n : Nat) : (pg_prs n).Nodup := by
  unfold pg_prs
  refine List.pairwise_flatMap.mpr ⟨fun k _ => List.pairwise_map.mpr ?_, ?_⟩
  · refine List.Pairwise.imp ?_ (List.Pairwise.filter _ (List.nodup_range (n := n)))
    intro a b hab e
    exact hab (congrArg Prod.snd e)
  · refine List.Pairwise.imp ?_ (List.nodup_range (n := n))
    intro a b hab x hx y hy e
    obtain ⟨i, -, rfl⟩ := List.mem_map.mp hx
    obtain ⟨j, -, rfl⟩ := List.mem_map.mp hy
    exact hab (congrArg Prod.fst e)
theorem pg_prs_len : ∀ n, n < 15 → (pg_prs n).length = n * (n - 1) / 2 := by decide +kernel
theorem pg_count1 {α : Type} {f g : α → Bool} : ∀ (l : List α) (a : α), l.Nodup → a ∈ l → f a = false → g a = true → (∀ b, b ≠ a → g b = f b) → l.countP g = l.countP f + 1 := by
  intro l
  induction l with
  | nil => intro a _ h; cases h
  | cons b l ih =>
    intro a hn ha hf hg ho
    rw [List.nodup_cons] at hn
    by_cases q : b = a
    · subst q
      rw [List.countP_cons, List.countP_cons, hf, hg]
      have : l.countP g = l.countP f := List.countP_congr (fun x hx => by
        rw [ho x (fun e => hn.1 (e ▸ hx))])
      rw [this]
      simp
    · have ha : a ∈ l := by
        rcases List.mem_cons.mp ha with r | r
        · exact absurd r.symm q
        · exact r
      rw [List.countP_cons, List.countP_cons, ih a hn.2 ha hf hg ho, ho b q]
      omega
/-- how many steps off the diagonal there are -/
def pg_cnt (n : Nat) (T : pg_T) : Nat := (pg_prs n).countP fun p => (T p.1 p.2).isSome
theorem pg_cnt_le (n : Nat) (T : pg_T) : pg_cnt n T ≤ (pg_prs n).length := List.countP_le_length
theorem pg_cnt_put {n : Nat} {T : pg_T} {k i : Nat} {x : pg_F} (hk : k < i) (hi : i < n) (h : T k i = none) : pg_cnt n (pg_put T k i x) = pg_cnt n T + 1 := by
  refine pg_count1 (pg_prs n) (k, i) (pg_prs_nd n) (pg_prs_mem.mpr ⟨hk, hi⟩) ?_ ?_ ?_
  · show (T k i).isSome = false
    rw [h]; rfl
  · show (pg_put T k i x k i).isSome = true
    rw [pg_put_at]; rfl
  · rintro ⟨a, b⟩ hne
    show (pg_put T k i x a b).isSome = (T a b).isSome
    rw [pg_put_ne T x (fun q => hne (by rw [q.1, q.2]))]
theorem pg_cnt_lt {n : Nat} {T : pg_T} {k i : Nat} (hk : k < i) (hi : i < n) (h : T k i = none) : pg_cnt n T < (pg_prs n).length := by
  have a := pg_cnt_put (x := pg_id) hk hi h
  have b := pg_cnt_le n (pg_put T k i pg_id)
  omega
theorem pg_cnt_clear (n : Nat) : pg_cnt n (pg_clear n) = 0 := by
  refine List.countP_eq_zero.mpr ?_
  rintro ⟨k, i⟩ h
  rw [pg_prs_mem] at h
  show ¬ (pg_clear n k i).isSome = true
  rw [show pg_clear n k i = none from if_neg (fun q => by omega)]
  exact fun h => by cases h
/-- the makers: c of them, M a on level lv a; they are the steps off the diagonal -/
def pg_mk (n : Nat) (T : pg_T) (c : Nat) (M : Nat → pg_F) (lv : Nat → Nat) : Prop := c = pg_cnt n T ∧ (∀ a, a < c → ∃ i, lv a < i ∧ T (lv a) i = some (M a)) ∧ ∀ k i x, k < i → T k i = some x → ∃ a, a < c ∧ M a = x ∧ lv a = k
theorem pg_mk_clear (n : Nat) (M : Nat → pg_F) (lv : Nat → Nat) : pg_mk n (pg_clear n) 0 M lv :=
  ⟨(pg_cnt_clear n).symm, fun a h => by omega, fun k i x h1 h2 => by rw [show pg_clear n k i = none from if_neg (fun q => by omega)] at h2; cases h2⟩
theorem pg_mk_put {n : Nat} {T : pg_T} {c : Nat} {M M' : Nat → pg_F} {lv lv' : Nat → Nat} (h : pg_mk n T c M lv) {k i : Nat} {x : pg_F} (hk : k < i) (hi : i < n) (hn : T k i = none) (hM : ∀ a, a < c → M' a = M a) (hl : ∀ a, a < c → lv' a = lv a) (hM2 : M' c = x) (hl2 : lv' c = k) : pg_mk n (pg_put T k i x) (c + 1) M' lv' := by
  refine ⟨by rw [pg_cnt_put hk hi hn, h.1], fun a ha => ?_, fun a b y hab hy => ?_⟩
  · by_cases q : a = c
    · subst q
      exact ⟨i, by rw [hl2]; exact hk, by rw [hl2, hM2, pg_put_at]⟩
    · obtain ⟨j, h1, h2⟩ := h.2.1 a (by omega)
      rw [hl a (by omega), hM a (by omega)]
      exact ⟨j, h1, pg_put_le hn _ _ _ h2⟩
  · by_cases q : a = k ∧ b = i
    · obtain ⟨rfl, rfl⟩ := q
      rw [pg_put_at] at hy
      cases hy
      exact ⟨c, by omega, hM2, hl2⟩
    · rw [pg_put_ne T x q] at hy
      obtain ⟨e, h1, h2, h3⟩ := h.2.2 a b y hab hy
      exact ⟨e, by omega, by rw [hM e h1, h2], by rw [hl e h1, h3]⟩
theorem pg_mk_room {n : Nat} {T : pg_T} {c : Nat} {M : Nat → pg_F} {lv : Nat → Nat} (h : pg_mk n T c M lv) (hn : n < 15) : c ≤ n * (n - 1) / 2 := by
  rw [h.1, ← pg_prs_len n hn]
  exact pg_cnt_le n T
theorem pg_mk_free {n : Nat} {T : pg_T} {c : Nat} {M : Nat → pg_F} {lv : Nat → Nat} (h : pg_mk n T c M lv) (hn : n < 15) {k i : Nat} (hk : k < i) (hi : i < n) (h0 : T k i = none) : c < n * (n - 1) / 2 := by
  rw [h.1, ← pg_prs_len n hn]
  exact pg_cnt_lt hk hi h0
/-- the products of the makers are what the group is made of -/
theorem pg_In.gen {n : Nat} {T : pg_T} {c : Nat} {M : Nat → pg_F} {lv : Nat → Nat} (hT : pg_ok n T) (h : pg_mk n T c M lv) : ∀ (d k : Nat) (x : pg_F), pg_In T d k x → pg_Gen (fun s => ∃ a, a < c ∧ s = M a) x := by
  have hs : ∀ k i s, T k i = some s → pg_Gen (fun s => ∃ a, a < c ∧ s = M a) s := by
    intro k i s hs
    have hle := (hT.2 k i s hs).2.2.1
    by_cases q : k = i
    · subst q
      rw [hT.1 k (hT.2 k k s hs).1] at hs
      cases hs
      exact pg_Gen.one
    · obtain ⟨a, h1, h2, -⟩ := h.2.2 k i s (by omega) hs
      exact pg_Gen.of ⟨a, h1, h2.symm⟩
  intro d
  induction d with
  | zero => intro k x hx; rw [show x = pg_id from hx]; exact pg_Gen.one
  | succ d ih => rintro k x ⟨i, s, y, h1, h2, rfl⟩; exact pg_Gen.mul (ih _ _ h2) (hs k i s h1)
theorem pg_mk.P {n : Nat} {T : pg_T} {c : Nat} {M : Nat → pg_F} {lv : Nat → Nat} (hT : pg_ok n T) (h : pg_mk n T c M lv) {a : Nat} (ha : a < c) : pg_P n (M a) ∧ lv a < n ∧ pg_In T n 0 (M a) := by
  obtain ⟨i, h1, h2⟩ := h.2.1 a ha
  have := hT.2 _ _ _ h2
  exact ⟨this.2.2.2.1, this.1, pg_In.step hT h2⟩
theorem pg_In.makers {n : Nat} {T : pg_T} {c : Nat} {M : Nat → pg_F} {lv : Nat → Nat} (hT : pg_ok n T) (h : pg_mk n T c M lv) (hG : pg_G n (pg_In T n 0)) : pg_In T n 0 = pg_Gen (fun s => ∃ a, a < c ∧ s = M a) := by
  funext x
  refine propext ⟨pg_In.gen hT h n 0 x, pg_Gen.least hG ?_⟩
  rintro s ⟨a, ha, rfl⟩
  exact (h.P hT ha).2.2
/-- all products of makers held: a group -/
theorem pg_closed_mk {n : Nat} {T : pg_T} {c : Nat} {M : Nat → pg_F} {lv : Nat → Nat} (hT : pg_ok n T) (h : pg_mk n T c M lv) (hp : ∀ a b, a < c → b < c → lv a ≤ lv b → pg_In T n 0 (pg_mul (M a) (M b))) : pg_G n (pg_In T n 0) := by
  refine pg_closed hT (fun k i u j l v hkj hu hv => ?_)
  have h1 := hT.2 k i u hu
  have h2 := hT.2 j l v hv
  by_cases q : k = i
  · subst q
    rw [hT.1 k h1.1] at hu
    cases hu
    exact pg_In.step hT hv
  · by_cases r : j = l
    · subst r
      rw [hT.1 j h2.1] at hv
      cases hv
      exact pg_In.step hT hu
    · obtain ⟨a, a1, a2, a3⟩ := h.2.2 k i u (by omega) hu
      obtain ⟨b, b1, b2, b3⟩ := h.2.2 j l v (by omega) hv
      rw [← a2, ← b2]
      exact hp a b a1 b1 (by rw [a3, b3]; exact hkj)
