/-! Permutations of the points below n as functions Nat → Nat that leave n, n+1, .. where they are; groups of them as predicates. Pure. -/
abbrev pg_F : Type := Nat → Nat
def pg_id : pg_F := fun i => i
/-- first x, then y -/
def pg_mul (x y : pg_F) : pg_F := fun i => y (x i)
def pg_P (n : Nat) (x : pg_F) : Prop := (∀ i, i < n → x i < n) ∧ (∀ i, n ≤ i → x i = i) ∧ ∀ i j, i < n → j < n → x i = x j → i = j
theorem pg_mul_assoc (x y z : pg_F) : pg_mul (pg_mul x y) z = pg_mul x (pg_mul y z) := rfl
theorem pg_id_mul (x : pg_F) : pg_mul pg_id x = x := rfl
theorem pg_mul_id (x : pg_F) : pg_mul x pg_id = x := rfl
theorem pg_P_id (n : Nat) : pg_P n pg_id := ⟨fun _ h => h, fun _ _ => rfl, fun _ _ _ _ h => h⟩
theorem pg_P_mul {n : Nat} {x y : pg_F} (hx : pg_P n x) (hy : pg_P n y) : pg_P n (pg_mul x y) := by
  refine ⟨fun i h => hy.1 _ (hx.1 i h), fun i h => ?_, fun i j hi hj h => ?_⟩
  · show y (x i) = i
    rw [hx.2.1 i h, hy.2.1 i h]
  · exact hx.2.2 i j hi hj (hy.2.2 _ _ (hx.1 i hi) (hx.1 j hj) h)
/-- a one-to-one map of the numbers below n into themselves meets each of them -/
theorem pg_surj : ∀ (n : Nat) (f : Nat → Nat), (∀ i, i < n → f i < n) → (∀ i j, i < n → j < n → f i = f j → i = j) → ∀ j, j < n → ∃ i, i < n ∧ f i = j := by
  intro n
  induction n with
  | zero => intro f _ _ j hj; omega
  | succ n ih =>
    intro f h1 h2 j hj
    have key := ih (fun i => if f i = n then f n else f i) (by
      intro i hi
      show (if f i = n then f n else f i) < n
      have a := h1 n (by omega)
      have b := h1 i (by omega)
      by_cases q : f i = n
      · rw [if_pos q]
        have : f n ≠ n := by
          intro r
          have := h2 i n (by omega) (by omega) (by rw [q, r])
          omega
        omega
      · rw [if_neg q]; omega) (by
      intro a b ha hb hab
      have hab : (if f a = n then f n else f a) = (if f b = n then f n else f b) := hab
      by_cases q : f a = n
      · by_cases r : f b = n
        · exact h2 a b (by omega) (by omega) (by rw [q, r])
        · rw [if_pos q, if_neg r] at hab
          have := h2 n b (by omega) (by omega) hab
          omega
      · by_cases r : f b = n
        · rw [if_neg q, if_pos r] at hab
          have := h2 a n (by omega) (by omega) hab
          omega
        · rw [if_neg q, if_neg r] at hab
          exact h2 a b (by omega) (by omega) hab)
    by_cases hn : f n = j
    · exact ⟨n, by omega, hn⟩
    · by_cases hjn : j = n
      · have hfn : f n < n := by have := h1 n (by omega); omega
        obtain ⟨i, hi, hi2⟩ := key (f n) hfn
        have hi2 : (if f i = n then f n else f i) = f n := hi2
        by_cases q : f i = n
        · exact ⟨i, by omega, by rw [q, hjn]⟩
        · rw [if_neg q] at hi2
          have := h2 i n (by omega) (by omega) hi2
          omega
      · obtain ⟨i, hi, hi2⟩ := key j (by omega)
        have hi2 : (if f i = n then f n else f i) = j := hi2
        by_cases q : f i = n
        · rw [if_pos q] at hi2; exact absurd hi2 hn
        · rw [if_neg q] at hi2; exact ⟨i, by omega, hi2⟩
theorem pg_pigeon (n : Nat) (f : Nat → Nat) (h : ∀ i, i < n + 1 → f i < n) : ∃ a b, a < b ∧ b < n + 1 ∧ f a = f b := by
  refine Classical.byContradiction (fun hc => ?_)
  have hinj : ∀ i j, i < n + 1 → j < n + 1 → f i = f j → i = j := by
    intro i j hi hj e
    refine Classical.byContradiction (fun hne => ?_)
    rcases Nat.lt_or_gt_of_ne hne with q | q
    · exact hc ⟨i, j, q, hj, e⟩
    · exact hc ⟨j, i, q, hi, e.symm⟩
  obtain ⟨i, hi, e⟩ := pg_surj (n + 1) f (fun i hi => by have := h i hi; omega) hinj n (by omega)
  have := h i hi
  omega
/-- the inverse, by looking it up -/
def pg_find (x : pg_F) (j : Nat) : Nat → Nat
  | 0 => j
  | k + 1 => if x k = j then k else pg_find x j k
def pg_inv (n : Nat) (x : pg_F) : pg_F := fun j => if j < n then pg_find x j n else j
theorem pg_find_at {x : pg_F} {j : Nat} : ∀ (n : Nat), (∃ i, i < n ∧ x i = j) → x (pg_find x j n) = j ∧ pg_find x j n < n := by
  intro n
  induction n with
  | zero => rintro ⟨i, hi, -⟩; omega
  | succ n ih =>
    rintro ⟨i, hi, e⟩
    show x (if x n = j then n else pg_find x j n) = j ∧ (if x n = j then n else pg_find x j n) < n + 1
    by_cases q : x n = j
    · rw [if_pos q]; exact ⟨q, by omega⟩
    · rw [if_neg q]
      have hin : i < n := by
        rcases Nat.lt_or_ge i n with r | r
        · exact r
        · have : i = n := by omega
          subst this
          exact absurd e q
      obtain ⟨a, b⟩ := ih ⟨i, hin, e⟩
      exact ⟨a, by omega⟩
theorem pg_inv_lt {n : Nat} {x : pg_F} (hx : pg_P n x) {j : Nat} (hj : j < n) : x (pg_inv n x j) = j ∧ pg_inv n x j < n := by
  unfold pg_inv
  rw [if_pos hj]
  exact pg_find_at n (pg_surj n x hx.1 hx.2.2 j hj)
theorem pg_inv_ge {n : Nat} {x : pg_F} {j : Nat} (hj : n ≤ j) : pg_inv n x j = j := by
  unfold pg_inv
  rw [if_neg (by omega)]
theorem pg_inv_mul {n : Nat} {x : pg_F} (hx : pg_P n x) : pg_mul (pg_inv n x) x = pg_id := by
  funext j
  show x (pg_inv n x j) = j
  by_cases h : j < n
  · exact (pg_inv_lt hx h).1
  · rw [pg_inv_ge (by omega), hx.2.1 j (by omega)]
theorem pg_mul_inv {n : Nat} {x : pg_F} (hx : pg_P n x) : pg_mul x (pg_inv n x) = pg_id := by
  funext j
  show pg_inv n x (x j) = j
  by_cases h : j < n
  · have a := pg_inv_lt hx (hx.1 j h)
    exact hx.2.2 _ _ a.2 h a.1
  · rw [hx.2.1 j (by omega), pg_inv_ge (by omega)]
theorem pg_P_inv {n : Nat} {x : pg_F} (hx : pg_P n x) : pg_P n (pg_inv n x) := by
  refine ⟨fun i h => (pg_inv_lt hx h).2, fun i h => pg_inv_ge h, fun i j hi hj h => ?_⟩
  have a := (pg_inv_lt hx hi).1
  have b := (pg_inv_lt hx hj).1
  rw [h] at a
  rw [← a, b]
theorem pg_inv_at {n : Nat} {x : pg_F} (hx : pg_P n x) {i j : Nat} (h : x i = j) : pg_inv n x j = i := by
  have := congrFun (pg_mul_inv hx) i
  have this : pg_inv n x (x i) = i := this
  rw [h] at this
  exact this
theorem pg_cancel_r {n : Nat} {x y z : pg_F} (hz : pg_P n z) (h : pg_mul x z = pg_mul y z) : x = y := by
  have := congrArg (fun w => pg_mul w (pg_inv n z)) h
  have this : pg_mul x (pg_mul z (pg_inv n z)) = pg_mul y (pg_mul z (pg_inv n z)) := this
  rw [pg_mul_inv hz] at this
  exact this
theorem pg_cancel_l {n : Nat} {x y z : pg_F} (hz : pg_P n z) (h : pg_mul z x = pg_mul z y) : x = y := by
  have := congrArg (fun w => pg_mul (pg_inv n z) w) h
  have this : pg_mul (pg_mul (pg_inv n z) z) x = pg_mul (pg_mul (pg_inv n z) z) y := this
  rw [pg_inv_mul hz] at this
  exact this
theorem pg_inv_unique {n : Nat} {x y : pg_F} (hx : pg_P n x) (h : pg_mul y x = pg_id) : y = pg_inv n x :=
  pg_cancel_r hx (by rw [h, pg_inv_mul hx])
theorem pg_inv_unique' {n : Nat} {x y : pg_F} (hx : pg_P n x) (h : pg_mul x y = pg_id) : y = pg_inv n x :=
  pg_cancel_l hx (by rw [h, pg_mul_inv hx])
theorem pg_inv_id (n : Nat) : pg_inv n pg_id = pg_id := (pg_inv_unique (pg_P_id n) rfl).symm
theorem pg_inv_inv {n : Nat} {x : pg_F} (hx : pg_P n x) : pg_inv n (pg_inv n x) = x := (pg_inv_unique (pg_P_inv hx) (pg_mul_inv hx)).symm
theorem pg_inv_of_mul {n : Nat} {x y : pg_F} (hx : pg_P n x) (hy : pg_P n y) : pg_inv n (pg_mul x y) = pg_mul (pg_inv n y) (pg_inv n x) := by
  refine (pg_inv_unique (pg_P_mul hx hy) ?_).symm
  show pg_mul (pg_inv n y) (pg_mul (pg_mul (pg_inv n x) x) y) = pg_id
  rw [pg_inv_mul hx]
  exact pg_inv_mul hy
/-- two that agree below n are one -/
theorem pg_ext {n : Nat} {x y : pg_F} (hx : pg_P n x) (hy : pg_P n y) (h : ∀ i, i < n → x i = y i) : x = y := by
  funext i
  by_cases q : i < n
  · exact h i q
  · rw [hx.2.1 i (by omega), hy.2.1 i (by omega)]
/-- powers -/
def pg_pow (x : pg_F) : Nat → pg_F
  | 0 => pg_id
  | k + 1 => pg_mul (pg_pow x k) x
theorem pg_pow_add (x : pg_F) (a b : Nat) : pg_pow x (a + b) = pg_mul (pg_pow x a) (pg_pow x b) := by
  induction b with
  | zero => rfl
  | succ b ih =>
    show pg_mul (pg_pow x (a + b)) x = pg_mul (pg_pow x a) (pg_mul (pg_pow x b) x)
    rw [ih]; rfl
theorem pg_P_pow {n : Nat} {x : pg_F} (hx : pg_P n x) (k : Nat) : pg_P n (pg_pow x k) := by
  induction k with
  | zero => exact pg_P_id n
  | succ k ih => exact pg_P_mul ih hx
theorem pg_pow_fix {x : pg_F} {k i : Nat} (h : pg_pow x k i = i) : ∀ q, pg_pow x (k * q) i = i := by
  intro q
  induction q with
  | zero => rfl
  | succ q ih =>
    rw [Nat.mul_succ, pg_pow_add]
    show pg_pow x k (pg_pow x (k * q) i) = i
    rw [ih, h]
def pg_fac : Nat → Nat
  | 0 => 1
  | k + 1 => pg_fac k * (k + 1)
theorem pg_fac_pos : ∀ n, 0 < pg_fac n := by
  intro n
  induction n with
  | zero => decide
  | succ n ih => exact Nat.mul_pos ih (by omega)
theorem pg_fac_dvd : ∀ (n k : Nat), 0 < k → k ≤ n → ∃ q, pg_fac n = k * q := by
  intro n
  induction n with
  | zero => intro k h1 h2; omega
  | succ n ih =>
    intro k h1 h2
    by_cases q : k = n + 1
    · exact ⟨pg_fac n, by rw [q, Nat.mul_comm]; rfl⟩
    · obtain ⟨r, hr⟩ := ih k h1 (by omega)
      refine ⟨r * (n + 1), ?_⟩
      show pg_fac n * (n + 1) = k * (r * (n + 1))
      rw [hr, Nat.mul_assoc]
theorem pg_cycle {n : Nat} {x : pg_F} (hx : pg_P n x) {i : Nat} (hi : i < n) : ∃ k, 0 < k ∧ k ≤ n ∧ pg_pow x k i = i := by
  obtain ⟨a, b, hab, hb, e⟩ := pg_pigeon n (fun k => pg_pow x k i) (fun k _ => (pg_P_pow hx k).1 i hi)
  have e : pg_pow x a i = pg_pow x b i := e
  refine ⟨b - a, by omega, by omega, ?_⟩
  have hb' : b = (b - a) + a := by omega
  have hP := pg_P_pow hx a
  have h2 : pg_pow x a (pg_pow x (b - a) i) = pg_pow x a i := by
    have := congrFun (pg_pow_add x (b - a) a) i
    rw [← hb'] at this
    have this : pg_pow x b i = pg_pow x a (pg_pow x (b - a) i) := this
    rw [← this, ← e]
  exact hP.2.2 _ _ ((pg_P_pow hx (b - a)).1 i hi) hi h2
theorem pg_order {n : Nat} {x : pg_F} (hx : pg_P n x) : pg_pow x (pg_fac n) = pg_id := by
  refine pg_ext (pg_P_pow hx _) (pg_P_id n) (fun i hi => ?_)
  obtain ⟨k, h1, h2, h3⟩ := pg_cycle hx hi
  obtain ⟨q, hq⟩ := pg_fac_dvd n k h1 h2
  rw [hq]
  exact pg_pow_fix h3 q
theorem pg_inv_pow {n : Nat} {x : pg_F} (hx : pg_P n x) : pg_inv n x = pg_pow x (pg_fac n - 1) := by
  refine (pg_inv_unique hx ?_).symm
  have h := pg_order hx
  have hp := pg_fac_pos n
  have e : pg_fac n = (pg_fac n - 1) + 1 := by omega
  rw [e] at h
  exact h
/-- groups -/
def pg_G (n : Nat) (G : pg_F → Prop) : Prop := (∀ x, G x → pg_P n x) ∧ G pg_id ∧ ∀ x y, G x → G y → G (pg_mul x y)
theorem pg_G.inv {n : Nat} {G : pg_F → Prop} (h : pg_G n G) {x : pg_F} (hx : G x) : G (pg_inv n x) := by
  rw [pg_inv_pow (h.1 x hx)]
  generalize pg_fac n - 1 = k
  induction k with
  | zero => exact h.2.1
  | succ k ih => exact h.2.2 _ _ ih hx
/-- made by S: products of members of S -/
def pg_Gen (S : pg_F → Prop) (x : pg_F) : Prop := ∀ H : pg_F → Prop, H pg_id → (∀ a s, H a → S s → H (pg_mul a s)) → H x
theorem pg_Gen.one {S : pg_F → Prop} : pg_Gen S pg_id := fun _ h _ => h
theorem pg_Gen.step {S : pg_F → Prop} {a s : pg_F} (ha : pg_Gen S a) (hs : S s) : pg_Gen S (pg_mul a s) := fun H h1 h2 => h2 a s (ha H h1 h2) hs
theorem pg_Gen.of {S : pg_F → Prop} {s : pg_F} (hs : S s) : pg_Gen S s := pg_Gen.step pg_Gen.one hs
theorem pg_Gen.mul {S : pg_F → Prop} {a b : pg_F} (ha : pg_Gen S a) (hb : pg_Gen S b) : pg_Gen S (pg_mul a b) :=
  hb (fun y => pg_Gen S (pg_mul a y)) ha (fun b s h1 h2 => show pg_Gen S (pg_mul (pg_mul a b) s) from pg_Gen.step h1 h2)
theorem pg_Gen.least {n : Nat} {S H : pg_F → Prop} (hH : pg_G n H) (hS : ∀ s, S s → H s) {x : pg_F} (hx : pg_Gen S x) : H x :=
  hx H hH.2.1 (fun a s ha hs => hH.2.2 a s ha (hS s hs))
theorem pg_Gen.grp {n : Nat} {S : pg_F → Prop} (hS : ∀ s, S s → pg_P n s) : pg_G n (pg_Gen S) :=
  ⟨fun x hx => hx (pg_P n) (pg_P_id n) (fun _ s ha hs => pg_P_mul ha (hS s hs)), pg_Gen.one, fun _ _ ha hb => pg_Gen.mul ha hb⟩
theorem pg_Gen.mono {S S' : pg_F → Prop} (h : ∀ s, S s → pg_Gen S' s) {x : pg_F} (hx : pg_Gen S x) : pg_Gen S' x :=
  hx (pg_Gen S') pg_Gen.one (fun _ s ha hs => pg_Gen.mul ha (h s hs))
theorem pg_Gen.eq {S S' : pg_F → Prop} (h : ∀ s, S s → pg_Gen S' s) (h' : ∀ s, S' s → pg_Gen S s) : pg_Gen S = pg_Gen S' :=
  funext fun _ => propext ⟨pg_Gen.mono h, pg_Gen.mono h'⟩
/-- conjugates and commutators -/
def pg_conj (n : Nat) (y x : pg_F) : pg_F := pg_mul (pg_mul (pg_inv n x) y) x
def pg_comm (n : Nat) (x y : pg_F) : pg_F := pg_mul (pg_mul (pg_inv n x) (pg_inv n y)) (pg_mul x y)
theorem pg_P_conj {n : Nat} {x y : pg_F} (hy : pg_P n y) (hx : pg_P n x) : pg_P n (pg_conj n y x) := pg_P_mul (pg_P_mul (pg_P_inv hx) hy) hx
theorem pg_P_comm {n : Nat} {x y : pg_F} (hx : pg_P n x) (hy : pg_P n y) : pg_P n (pg_comm n x y) := pg_P_mul (pg_P_mul (pg_P_inv hx) (pg_P_inv hy)) (pg_P_mul hx hy)
/-- the conjugate takes x p to x (y p) -/
theorem pg_conj_at {n : Nat} {x y : pg_F} (hx : pg_P n x) (p : Nat) : pg_conj n y x (x p) = x (y p) := by
  show x (y (pg_inv n x (x p))) = x (y p)
  rw [pg_inv_at hx rfl]
/-- the commutator takes (y x) p to (x y) p -/
theorem pg_comm_at {n : Nat} {x y : pg_F} (hx : pg_P n x) (hy : pg_P n y) (p : Nat) : pg_comm n x y (x (y p)) = y (x p) := by
  show y (x (pg_inv n y (pg_inv n x (x (y p))))) = y (x p)
  rw [pg_inv_at hx rfl, pg_inv_at hy rfl]
theorem pg_conj_id {n : Nat} (y : pg_F) : pg_conj n y pg_id = y := by
  unfold pg_conj
  rw [pg_inv_id]
  rfl
theorem pg_id_conj {n : Nat} {x : pg_F} (hx : pg_P n x) : pg_conj n pg_id x = pg_id := by
  show pg_mul (pg_inv n x) x = pg_id
  exact pg_inv_mul hx
theorem pg_conj_mul {n : Nat} {x : pg_F} (hx : pg_P n x) (y z : pg_F) : pg_conj n (pg_mul y z) x = pg_mul (pg_conj n y x) (pg_conj n z x) := by
  show pg_mul (pg_mul (pg_inv n x) (pg_mul y z)) x = pg_mul (pg_mul (pg_inv n x) y) (pg_mul (pg_mul x (pg_inv n x)) (pg_mul z x))
  rw [pg_mul_inv hx]
  rfl
theorem pg_conj_conj {n : Nat} {x z : pg_F} (hx : pg_P n x) (hz : pg_P n z) (y : pg_F) : pg_conj n (pg_conj n y x) z = pg_conj n y (pg_mul x z) := by
  unfold pg_conj
  rw [pg_inv_of_mul hx hz]
  rfl
/-- [g h, s] = [g, s]^h [h, s] -/
theorem pg_comm_l {n : Nat} {g h s : pg_F} (hg : pg_P n g) (hh : pg_P n h) (hs : pg_P n s) : pg_comm n (pg_mul g h) s = pg_mul (pg_conj n (pg_comm n g s) h) (pg_comm n h s) := by
  unfold pg_comm pg_conj
  rw [pg_inv_of_mul hg hh]
  show pg_mul (pg_inv n h) (pg_mul (pg_inv n g) (pg_mul (pg_inv n s) (pg_mul g (pg_mul h s)))) = pg_mul (pg_inv n h) (pg_mul (pg_inv n g) (pg_mul (pg_inv n s) (pg_mul g (pg_mul s (pg_mul (pg_mul h (pg_inv n h)) (pg_mul (pg_inv n s) (pg_mul h s)))))))
  rw [pg_mul_inv hh, pg_id_mul]
  show _ = pg_mul (pg_inv n h) (pg_mul (pg_inv n g) (pg_mul (pg_inv n s) (pg_mul g (pg_mul (pg_mul s (pg_inv n s)) (pg_mul h s)))))
  rw [pg_mul_inv hs, pg_id_mul]
/-- [g, s t] = [g, t] [g, s]^t -/
theorem pg_comm_r {n : Nat} {g s t : pg_F} (hg : pg_P n g) (hs : pg_P n s) (ht : pg_P n t) : pg_comm n g (pg_mul s t) = pg_mul (pg_comm n g t) (pg_conj n (pg_comm n g s) t) := by
  unfold pg_comm pg_conj
  rw [pg_inv_of_mul hs ht]
  show pg_mul (pg_inv n g) (pg_mul (pg_inv n t) (pg_mul (pg_inv n s) (pg_mul g (pg_mul s t)))) = pg_mul (pg_inv n g) (pg_mul (pg_inv n t) (pg_mul g (pg_mul (pg_mul t (pg_inv n t)) (pg_mul (pg_inv n g) (pg_mul (pg_inv n s) (pg_mul g (pg_mul s t)))))))
  rw [pg_mul_inv ht, pg_id_mul]
  show _ = pg_mul (pg_inv n g) (pg_mul (pg_inv n t) (pg_mul (pg_mul g (pg_inv n g)) (pg_mul (pg_inv n s) (pg_mul g (pg_mul s t)))))
  rw [pg_mul_inv hg, pg_id_mul]
/-- [y, x] is [x, y] turned round -/
theorem pg_comm_inv {n : Nat} {x y : pg_F} (hx : pg_P n x) (hy : pg_P n y) : pg_comm n y x = pg_inv n (pg_comm n x y) := by
  refine pg_inv_unique (pg_P_comm hx hy) ?_
  unfold pg_comm
  show pg_mul (pg_inv n y) (pg_mul (pg_inv n x) (pg_mul y (pg_mul (pg_mul x (pg_inv n x)) (pg_mul (pg_inv n y) (pg_mul x y))))) = pg_id
  rw [pg_mul_inv hx, pg_id_mul]
  show pg_mul (pg_inv n y) (pg_mul (pg_inv n x) (pg_mul (pg_mul y (pg_inv n y)) (pg_mul x y))) = pg_id
  rw [pg_mul_inv hy, pg_id_mul]
  show pg_mul (pg_inv n y) (pg_mul (pg_mul (pg_inv n x) x) y) = pg_id
  rw [pg_inv_mul hx]
  exact pg_inv_mul hy
theorem pg_comm_self {n : Nat} {x : pg_F} (hx : pg_P n x) : pg_comm n x x = pg_id := by
  unfold pg_comm
  show pg_mul (pg_inv n x) (pg_mul (pg_mul (pg_inv n x) x) x) = pg_id
  rw [pg_inv_mul hx]
  exact pg_inv_mul hx
theorem pg_comm_id_l {n : Nat} {x : pg_F} (hx : pg_P n x) : pg_comm n pg_id x = pg_id := by
  unfold pg_comm
  rw [pg_inv_id]
  exact pg_inv_mul hx
theorem pg_comm_id_r {n : Nat} {x : pg_F} (hx : pg_P n x) : pg_comm n x pg_id = pg_id := by
  unfold pg_comm
  rw [pg_inv_id]
  exact pg_inv_mul hx
/-- closed under conjugation by what G is made of: by all of G -/
theorem pg_norm_gen {n : Nat} {N S : pg_F → Prop} (hN : pg_G n N) (hS : ∀ s, S s → pg_P n s) (hc : ∀ y s, N y → S s → N (pg_conj n y s)) {x : pg_F} (hx : pg_Gen S x) : ∀ y, N y → N (pg_conj n y x) := by
  have : pg_P n x ∧ ∀ y, N y → N (pg_conj n y x) := hx (fun x => pg_P n x ∧ ∀ y, N y → N (pg_conj n y x)) ⟨pg_P_id n, fun y hy => by rw [pg_conj_id]; exact hy⟩ (fun a s ha hs => ⟨pg_P_mul ha.1 (hS s hs), fun y hy => by
    rw [← pg_conj_conj ha.1 (hS s hs)]
    exact hc _ s (ha.2 y hy) hs⟩)
  exact this.2
/-- it is enough that what N is made of goes into N -/
theorem pg_conj_gen {n : Nat} {N S : pg_F → Prop} (hN : pg_G n N) {x : pg_F} (hx : pg_P n x) (hc : ∀ s, S s → N (pg_conj n s x)) {y : pg_F} (hy : pg_Gen S y) : N (pg_conj n y x) :=
  hy (fun y => N (pg_conj n y x)) (by rw [pg_id_conj hx]; exact hN.2.1) (fun a s ha hs => by rw [pg_conj_mul hx]; exact hN.2.2 _ _ ha (hc s hs))
/-- the commutator group by commutators of makers, with all conjugates -/
theorem pg_derived_in {n : Nat} {N S : pg_F → Prop} (hN : pg_G n N) (hS : ∀ s, S s → pg_P n s) (hc : ∀ y x, N y → pg_Gen S x → N (pg_conj n y x)) (hm : ∀ a b, S a → S b → N (pg_comm n a b)) : ∀ g h, pg_Gen S g → pg_Gen S h → N (pg_comm n g h) := by
  intro g h hg hh
  have hPg := (pg_Gen.grp hS).1
  have h1 : ∀ g, pg_Gen S g → ∀ s, S s → N (pg_comm n g s) := by
    intro g hg s hs
    have : pg_Gen S g ∧ N (pg_comm n g s) := hg (fun g => pg_Gen S g ∧ N (pg_comm n g s)) ⟨pg_Gen.one, by rw [pg_comm_id_l (hS s hs)]; exact hN.2.1⟩ (fun a t ha ht => ⟨pg_Gen.step ha.1 ht, by
      rw [pg_comm_l (hPg a ha.1) (hS t ht) (hS s hs)]
      exact hN.2.2 _ _ (hc _ _ ha.2 (pg_Gen.of ht)) (hm t s ht hs)⟩)
    exact this.2
  have : pg_Gen S h ∧ N (pg_comm n g h) := hh (fun h => pg_Gen S h ∧ N (pg_comm n g h)) ⟨pg_Gen.one, by rw [pg_comm_id_r (hPg g hg)]; exact hN.2.1⟩ (fun a t ha ht => ⟨pg_Gen.step ha.1 ht, by
    rw [pg_comm_r (hPg g hg) (hPg a ha.1) (hS t ht)]
    exact hN.2.2 _ _ (h1 g hg t ht) (hc _ _ ha.2 (pg_Gen.of ht))⟩)
  exact this.2
/-- the group made by all [g, s], g in G, s of what G is made of: closed under conjugation, so it is all of the commutator group -/
theorem pg_derived_ref {n : Nat} {S : pg_F → Prop} (hS : ∀ s, S s → pg_P n s) : ∀ g h, pg_Gen S g → pg_Gen S h → pg_Gen (fun z => ∃ a s, pg_Gen S a ∧ S s ∧ z = pg_comm n a s) (pg_comm n g h) := by
  have hPg := (pg_Gen.grp hS).1
  have hN : pg_G n (pg_Gen (fun z => ∃ a s, pg_Gen S a ∧ S s ∧ z = pg_comm n a s)) := pg_Gen.grp (by
    rintro z ⟨a, s, ha, hs, rfl⟩
    exact pg_P_comm (hPg a ha) (hS s hs))
  generalize hR : pg_Gen (fun z => ∃ a s, pg_Gen S a ∧ S s ∧ z = pg_comm n a s) = R at hN ⊢
  have hin : ∀ a s, pg_Gen S a → S s → R (pg_comm n a s) := by
    intro a s ha hs
    rw [← hR]
    exact pg_Gen.of ⟨a, s, ha, hs, rfl⟩
  refine pg_derived_in hN hS ?_ (fun a b ha hb => hin a b (pg_Gen.of ha) hb)
  intro y x hy hx
  rw [← hR] at hy
  refine pg_conj_gen hN (hPg x hx) ?_ hy
  rintro z ⟨a, s, ha, hs, rfl⟩
  have e := pg_comm_l (hPg a ha) (hPg x hx) (hS s hs)
  have i1 := hin (pg_mul a x) s (pg_Gen.mul ha hx) hs
  have i2 := hN.inv (hin x s hx hs)
  have e2 : pg_conj n (pg_comm n a s) x = pg_mul (pg_comm n (pg_mul a x) s) (pg_inv n (pg_comm n x s)) := by
    rw [e]
    show _ = pg_mul (pg_conj n (pg_comm n a s) x) (pg_mul (pg_comm n x s) (pg_inv n (pg_comm n x s)))
    rw [pg_mul_inv (hN.1 _ (hin x s hx hs)), pg_mul_id]
  rw [e2]
  exact hN.2.2 _ _ i1 i2
