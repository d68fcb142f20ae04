/-! Numbers by their bits: rows of the kit's BITS.to-paste (wb_), then elements as numbers: b bits for the image of each point. Pure. -/
theorem wb_tb (n : Nat) : (lN n).toBitVec = BitVec.ofNat 64 n := rfl
theorem wb_inj {a b : Int64} (h : a.toBitVec = b.toBitVec) : a = b := Int64.toBitVec_inj.mp h
theorem wb_tn {n : Nat} (h : n < 2 ^ 64) : (lN n).toBitVec.toNat = n := by rw [wb_tb, BitVec.toNat_ofNat, Nat.mod_eq_of_lt h]
theorem wb_of (x : Int64) : ∃ n, n < 2 ^ 64 ∧ x = lN n := ⟨x.toBitVec.toNat, x.toBitVec.isLt, wb_inj (by rw [wb_tb]; simp)⟩
theorem wb_of32 (x : Int32) : ∃ n, n < 2 ^ 32 ∧ x = nI n := ⟨x.toBitVec.toNat, x.toBitVec.isLt, Int32.toBitVec_inj.mp (by show _ = BitVec.ofNat 32 _; simp)⟩
theorem wb_c : ∀ k, k < 64 → ((nI k).toInt64 &&& 63) = lN k := by decide +kernel
theorem wb_cu : ∀ k, k < 64 → ((nI k).toInt64.toUInt64 &&& Int64.toUInt64 63) = UInt64.ofNat k := by decide +kernel
theorem wb_sm : ∀ k, k < 64 → (BitVec.ofNat 64 k).smod 64 = BitVec.ofNat 64 k := by decide +kernel
theorem wb_pw {a b : Nat} (h : a ≤ b) : 2 ^ b = 2 ^ a * 2 ^ (b - a) := by rw [← Nat.pow_add]; congr 1; omega
theorem wb_lt2 {a b : Nat} (h : a < b) : 2 ^ a < 2 ^ b := Nat.pow_lt_pow_right (by decide) h
theorem wb_mod (n : Nat) : lN n = lN (n % 2 ^ 64) := wb_inj (by rw [wb_tb, wb_tb]; apply BitVec.eq_of_toNat_eq; rw [BitVec.toNat_ofNat, BitVec.toNat_ofNat, Nat.mod_mod])
theorem wb_shr {n k : Nat} (hn : n < 2 ^ 64) (hk : k < 64) : ((lN n).toUInt64 >>> ((nI k).toInt64.toUInt64 &&& Int64.toUInt64 63)).toInt64 = lN (n / 2 ^ k) := by
  rw [wb_cu k hk]
  apply wb_inj
  apply BitVec.eq_of_toNat_eq
  show ((lN n).toUInt64 >>> UInt64.ofNat k).toNat = (BitVec.ofNat 64 _).toNat
  have h1 : (UInt64.ofNat k).toNat = k := by
    show (BitVec.ofNat 64 k).toNat = k
    rw [BitVec.toNat_ofNat, Nat.mod_eq_of_lt (by omega)]
  have h2 : (lN n).toUInt64.toNat = n := wb_tn hn
  rw [UInt64.toNat_shiftRight, h1, h2, Nat.mod_eq_of_lt hk, Nat.shiftRight_eq_div_pow, BitVec.toNat_ofNat, Nat.mod_eq_of_lt (Nat.lt_of_le_of_lt (Nat.div_le_self _ _) hn)]
theorem wb_shl (n : Nat) {k : Nat} (hk : k < 64) : lN n <<< ((nI k).toInt64 &&& 63) = lN (n * 2 ^ k) := by
  rw [wb_c k hk]
  apply wb_inj
  rw [Int64.toBitVec_shiftLeft, wb_tb, wb_tb, wb_tb, wb_sm k hk]
  apply BitVec.eq_of_toNat_eq
  rw [BitVec.shiftLeft_eq', BitVec.toNat_shiftLeft, BitVec.toNat_ofNat, BitVec.toNat_ofNat, BitVec.toNat_ofNat, Nat.mod_eq_of_lt (show k < 2 ^ 64 by omega), Nat.shiftLeft_eq, Nat.mul_mod, Nat.mod_mod, ← Nat.mul_mod]
theorem wb_and {a b : Nat} (ha : a < 2 ^ 64) (hb : b < 2 ^ 64) : lN a &&& lN b = lN (a &&& b) := by
  apply wb_inj
  rw [Int64.toBitVec_and, wb_tb, wb_tb, wb_tb]
  apply BitVec.eq_of_toNat_eq
  rw [BitVec.toNat_and, BitVec.toNat_ofNat, BitVec.toNat_ofNat, BitVec.toNat_ofNat, Nat.mod_eq_of_lt ha, Nat.mod_eq_of_lt hb, Nat.mod_eq_of_lt (Nat.and_lt_two_pow _ hb)]
theorem wb_or {a b : Nat} (ha : a < 2 ^ 64) (hb : b < 2 ^ 64) : lN a ||| lN b = lN (a ||| b) := by
  apply wb_inj
  rw [Int64.toBitVec_or, wb_tb, wb_tb, wb_tb]
  apply BitVec.eq_of_toNat_eq
  rw [BitVec.toNat_or, BitVec.toNat_ofNat, BitVec.toNat_ofNat, BitVec.toNat_ofNat, Nat.mod_eq_of_lt ha, Nat.mod_eq_of_lt hb, Nat.mod_eq_of_lt (Nat.or_lt_two_pow ha hb)]
theorem wb_mask {n k : Nat} (hn : n < 2 ^ 64) (hk : k < 64) : lN n &&& lN (2 ^ k - 1) = lN (n % 2 ^ k) := by
  rw [wb_and hn (by have := wb_lt2 hk; omega), Nat.and_two_pow_sub_one_eq_mod]
theorem wb_a1 {n : Nat} (hn : n < 2 ^ 64) : lN n &&& 1 = lN (n % 2) := wb_mask (k := 1) hn (by decide)
theorem wb_bit {n k : Nat} (hn : n < 2 ^ 64) (hk : k < 64) : ((lN n).toUInt64 >>> ((nI k).toInt64.toUInt64 &&& Int64.toUInt64 63)).toInt64 &&& 1 = lN (n / 2 ^ k % 2) := by
  rw [wb_shr hn hk, wb_a1 (Nat.lt_of_le_of_lt (Nat.div_le_self _ _) hn)]
theorem pe_land (a b : Nat) : lN a &&& lN b = lN (a &&& b) := by
  apply wb_inj
  rw [Int64.toBitVec_and, wb_tb, wb_tb, wb_tb]
  apply BitVec.eq_of_getLsbD_eq
  intro i hi
  simp [hi]
theorem pe_lor (a b : Nat) : lN a ||| lN b = lN (a ||| b) := by
  apply wb_inj
  rw [Int64.toBitVec_or, wb_tb, wb_tb, wb_tb]
  apply BitVec.eq_of_getLsbD_eq
  intro i hi
  simp [hi]
theorem pe_lxor (a b : Nat) : lN a ^^^ lN b = lN (a ^^^ b) := by
  apply wb_inj
  rw [Int64.toBitVec_xor, wb_tb, wb_tb, wb_tb]
  apply BitVec.eq_of_getLsbD_eq
  intro i hi
  simp [hi]
theorem pe_and (a b : Nat) : nI a &&& nI b = nI (a &&& b) := by
  apply Int32.toBitVec_inj.1
  show BitVec.ofNat 32 a &&& BitVec.ofNat 32 b = BitVec.ofNat 32 (a &&& b)
  apply BitVec.eq_of_getLsbD_eq
  intro i hi
  simp [hi]
theorem pe_or (a b : Nat) : nI a ||| nI b = nI (a ||| b) := by
  apply Int32.toBitVec_inj.1
  show BitVec.ofNat 32 a ||| BitVec.ofNat 32 b = BitVec.ofNat 32 (a ||| b)
  apply BitVec.eq_of_getLsbD_eq
  intro i hi
  simp [hi]
theorem pe_xor (a b : Nat) : nI a ^^^ nI b = nI (a ^^^ b) := by
  apply Int32.toBitVec_inj.1
  show BitVec.ofNat 32 a ^^^ BitVec.ofNat 32 b = BitVec.ofNat 32 (a ^^^ b)
  apply BitVec.eq_of_getLsbD_eq
  intro i hi
  simp [hi]
/-- the shift counts of ints -/
theorem pe_sl : ∀ k, k < 32 → ((nI k &&& 31).toBitVec.smod 32).toNat = k := by decide +kernel
theorem pe_su : ∀ k, k < 32 → (((nI k).toUInt32 &&& Int32.toUInt32 31).toBitVec % 32).toNat = k := by decide +kernel
theorem pe_shl {n k : Nat} (hk : k < 32) (h : n * 2 ^ k < 2 ^ 32) : nI n <<< (nI k &&& 31) = nI (n * 2 ^ k) := pk_shlN _ k (pe_sl k hk) h
theorem pe_shr {n k : Nat} (hk : k < 32) (h : n < 2 ^ 31) : nI n >>> (nI k &&& 31) = nI (n / 2 ^ k) := pk_shrN h _ k (pe_sl k hk)
theorem pe_ushr {n k : Nat} (hk : k < 32) (h : n < 2 ^ 32) : ((nI n).toUInt32 >>> ((nI k).toUInt32 &&& Int32.toUInt32 31)).toInt32 = nI (n / 2 ^ k) := pk_ushrN h _ k (pe_su k hk)
theorem pe_mask32 (n k : Nat) (hk : k ≤ 32) : nI n &&& nI (2 ^ k - 1) = nI (n % 2 ^ k) := by
  rw [pe_and, Nat.and_two_pow_sub_one_eq_mod]
/-- x as a number: b bits for each of the points below n -/
def pg_e (b : Nat) (x : Nat → Nat) : Nat → Nat
  | 0 => 0
  | p + 1 => pg_e b x p + x p * 2 ^ (b * p)
theorem pg_e_lt {b : Nat} {x : Nat → Nat} : ∀ (n : Nat), (∀ p, p < n → x p < 2 ^ b) → pg_e b x n < 2 ^ (b * n) := by
  intro n
  induction n with
  | zero => intro _; show 0 < 2 ^ (b * 0); rw [Nat.mul_zero]; decide
  | succ n ih =>
    intro h
    have h1 := ih (fun p hp => h p (by omega))
    have h2 : (x n + 1) * 2 ^ (b * n) ≤ 2 ^ b * 2 ^ (b * n) := Nat.mul_le_mul_right _ (h n (by omega))
    rw [Nat.add_mul, Nat.one_mul] at h2
    have h3 : 2 ^ (b * (n + 1)) = 2 ^ b * 2 ^ (b * n) := by rw [Nat.mul_succ, Nat.add_comm, Nat.pow_add]
    show pg_e b x n + x n * 2 ^ (b * n) < 2 ^ (b * (n + 1))
    omega
theorem pg_e_congr {b : Nat} {x y : Nat → Nat} : ∀ (n : Nat), (∀ p, p < n → x p = y p) → pg_e b x n = pg_e b y n := by
  intro n
  induction n with
  | zero => intro _; rfl
  | succ n ih =>
    intro h
    show pg_e b x n + x n * 2 ^ (b * n) = pg_e b y n + y n * 2 ^ (b * n)
    rw [ih (fun p hp => h p (by omega)), h n (by omega)]
theorem pg_e_bit {b : Nat} {x : Nat → Nat} (hb : 0 < b) : ∀ (n : Nat), (∀ p, p < n → x p < 2 ^ b) → ∀ i, (pg_e b x n).testBit i = (decide (i < b * n) && (x (i / b)).testBit (i % b)) := by
  intro n
  induction n with
  | zero =>
    intro _ i
    show (0 : Nat).testBit i = _
    rw [Nat.zero_testBit, decide_eq_false (by omega), Bool.false_and]
  | succ n ih =>
    intro h i
    have h1 := pg_e_lt n (fun p hp => h p (by omega))
    show (pg_e b x n + x n * 2 ^ (b * n)).testBit i = _
    rw [show pg_e b x n + x n * 2 ^ (b * n) = 2 ^ (b * n) * x n + pg_e b x n by rw [Nat.add_comm, Nat.mul_comm], Nat.testBit_two_pow_mul_add _ h1]
    by_cases q : i < b * n
    · rw [if_pos q, ih (fun p hp => h p (by omega)), decide_eq_true q, decide_eq_true (by rw [Nat.mul_succ]; omega)]
    · rw [if_neg q]
      by_cases r : i < b * (n + 1)
      · rw [Nat.mul_succ] at r
        have e1 : i = b * n + (i - b * n) := by omega
        have e2 : i / b = n := by
          rw [e1, Nat.mul_add_div hb, Nat.div_eq_of_lt (by omega), Nat.add_zero]
        have e3 : i % b = i - b * n := by
          conv => lhs; rw [e1]
          rw [Nat.mul_add_mod, Nat.mod_eq_of_lt (by omega)]
        rw [e2, e3, decide_eq_true (by rw [Nat.mul_succ]; omega), Bool.true_and]
      · rw [decide_eq_false r, Bool.false_and]
        refine Nat.testBit_lt_two_pow (Nat.lt_of_lt_of_le (h n (by omega)) (Nat.pow_le_pow_right (by decide) ?_))
        rw [Nat.mul_succ] at r
        omega
theorem pg_e_dig {b : Nat} {x : Nat → Nat} (hb : 0 < b) {n p : Nat} (h : ∀ p, p < n → x p < 2 ^ b) (hp : p < n) : pg_e b x n / 2 ^ (b * p) % 2 ^ b = x p := by
  apply Nat.eq_of_testBit_eq
  intro i
  rw [Nat.testBit_mod_two_pow, Nat.testBit_div_two_pow, pg_e_bit hb n h]
  by_cases q : i < b
  · have h1 : b * (p + 1) ≤ b * n := Nat.mul_le_mul_left b hp
    rw [Nat.mul_succ] at h1
    rw [decide_eq_true q, Bool.true_and, decide_eq_true (by omega), Bool.true_and, Nat.add_comm i, Nat.mul_add_div hb, Nat.div_eq_of_lt q, Nat.add_zero, Nat.mul_add_mod, Nat.mod_eq_of_lt q]
  · rw [decide_eq_false q, Bool.false_and]
    exact (Nat.testBit_lt_two_pow (Nat.lt_of_lt_of_le (h p hp) (Nat.pow_le_pow_right (by decide) (by omega)))).symm
theorem pg_e_inj {b : Nat} {x y : Nat → Nat} (hb : 0 < b) {n : Nat} (hx : ∀ p, p < n → x p < 2 ^ b) (hy : ∀ p, p < n → y p < 2 ^ b) (e : pg_e b x n = pg_e b y n) : ∀ p, p < n → x p = y p := by
  intro p hp
  rw [← pg_e_dig hb hx hp, ← pg_e_dig hb hy hp, e]
/-- a place that is empty is filled -/
theorem pg_e_or {b : Nat} {x : Nat → Nat} (hb : 0 < b) {n j v : Nat} (h : ∀ p, p < n → x p < 2 ^ b) (hj : j < n) (h0 : x j = 0) (hv : v < 2 ^ b) : pg_e b x n ||| v * 2 ^ (b * j) = pg_e b (va_up x j v) n := by
  have h' : ∀ p, p < n → va_up x j v p < 2 ^ b := by
    intro p hp
    by_cases q : p = j
    · rw [q, va_up_self]; exact hv
    · rw [va_up_ne _ _ q]; exact h p hp
  apply Nat.eq_of_testBit_eq
  intro i
  rw [Nat.testBit_or, pg_e_bit hb n h, pg_e_bit hb n h', ← Nat.shiftLeft_eq, Nat.testBit_shiftLeft]
  have hm := Nat.div_add_mod i b
  have hl := Nat.mod_lt i hb
  by_cases q : i / b = j
  · rw [q, va_up_self, h0, Nat.zero_testBit, Bool.and_false, Bool.false_or]
    have h1 : b * (j + 1) ≤ b * n := Nat.mul_le_mul_left b hj
    rw [Nat.mul_succ] at h1
    rw [q] at hm
    rw [decide_eq_true (by omega : b * j ≤ i), decide_eq_true (by omega : i < b * n), Bool.true_and, Bool.true_and, show i - b * j = i % b by omega]
  · rw [va_up_ne _ _ q]
    have : (decide (b * j ≤ i) && v.testBit (i - b * j)) = false := by
      by_cases r : b * j ≤ i
      · have r2 : b ≤ i - b * j := by
          refine Nat.le_of_not_lt (fun r3 => q ?_)
          have e1 : i = b * j + (i - b * j) := by omega
          rw [e1, Nat.mul_add_div hb, Nat.div_eq_of_lt r3, Nat.add_zero]
        rw [Nat.testBit_lt_two_pow (Nat.lt_of_lt_of_le hv (Nat.pow_le_pow_right (by decide) r2)), Bool.and_false]
      · rw [decide_eq_false r, Bool.false_and]
    rw [this, Bool.or_false]
/-- a place is emptied: m has w bits, all that the number may have -/
theorem pg_e_clear {b w : Nat} {x : Nat → Nat} (hb : 0 < b) {n j : Nat} (h : ∀ p, p < n → x p < 2 ^ b) (hj : j < n) (hw : b * n ≤ w) : pg_e b x n &&& ((2 ^ b - 1) * 2 ^ (b * j) ^^^ (2 ^ w - 1)) = pg_e b (va_up x j 0) n := by
  have h' : ∀ p, p < n → va_up x j 0 p < 2 ^ b := by
    intro p hp
    by_cases q : p = j
    · rw [q, va_up_self]; exact Nat.two_pow_pos b
    · rw [va_up_ne _ _ q]; exact h p hp
  apply Nat.eq_of_testBit_eq
  intro i
  rw [Nat.testBit_and, Nat.testBit_xor, pg_e_bit hb n h, pg_e_bit hb n h', ← Nat.shiftLeft_eq, Nat.testBit_shiftLeft, Nat.testBit_two_pow_sub_one, Nat.testBit_two_pow_sub_one]
  have hm := Nat.div_add_mod i b
  have hl := Nat.mod_lt i hb
  by_cases hi : i < b * n
  · rw [decide_eq_true hi, decide_eq_true (by omega : i < w), Bool.true_and, Bool.true_and]
    by_cases q : i / b = j
    · rw [q, va_up_self, Nat.zero_testBit]
      rw [q] at hm
      rw [decide_eq_true (by omega : b * j ≤ i), decide_eq_true (by omega : i - b * j < b)]
      simp
    · rw [va_up_ne _ _ q]
      have : (decide (b * j ≤ i) && decide (i - b * j < b)) = false := by
        by_cases r : b * j ≤ i
        · have r2 : ¬ i - b * j < b := fun r3 => q (by
            have e1 : i = b * j + (i - b * j) := by omega
            rw [e1, Nat.mul_add_div hb, Nat.div_eq_of_lt r3, Nat.add_zero])
          rw [decide_eq_false r2, Bool.and_false]
        · rw [decide_eq_false r, Bool.false_and]
      rw [this]
      simp
  · rw [decide_eq_false hi, Bool.false_and, Bool.false_and, Bool.false_and]
/-- a place is set: emptied, then filled -/
theorem pg_e_with {b w : Nat} {x : Nat → Nat} (hb : 0 < b) {n j v : Nat} (h : ∀ p, p < n → x p < 2 ^ b) (hj : j < n) (hw : b * n ≤ w) (hv : v < 2 ^ b) : pg_e b x n &&& ((2 ^ b - 1) * 2 ^ (b * j) ^^^ (2 ^ w - 1)) ||| v * 2 ^ (b * j) = pg_e b (va_up x j v) n := by
  rw [pg_e_clear hb h hj hw, pg_e_or hb ?_ hj (va_up_self _ _ _) hv]
  · exact pg_e_congr n (fun p hp => by
      by_cases q : p = j
      · rw [q, va_up_self, va_up_self]
      · rw [va_up_ne _ _ q, va_up_ne _ _ q, va_up_ne _ _ q])
  · intro p hp
    by_cases q : p = j
    · rw [q, va_up_self]; exact Nat.two_pow_pos b
    · rw [va_up_ne _ _ q]; exact h p hp
/-- the class's elements: a long with four bits a point; the reference's: an int with three -/
def eL (n : Nat) (x : pg_F) : Int64 := lN (pg_e 4 x n)
def eI (n : Nat) (x : pg_F) : Int32 := nI (pg_e 3 x n)
theorem pg_P.d4 {n : Nat} {x : pg_F} (h : pg_P n x) (hn : n ≤ 16) : ∀ p, p < n → x p < 2 ^ 4 := fun p hp => by have := h.1 p hp; omega
theorem pg_P.d3 {n : Nat} {x : pg_F} (h : pg_P n x) (hn : n ≤ 8) : ∀ p, p < n → x p < 2 ^ 3 := fun p hp => by have := h.1 p hp; omega
theorem eL_lt {n : Nat} {x : pg_F} (hn : n ≤ 14) (h : ∀ p, p < n → x p < 2 ^ 4) : pg_e 4 x n < 2 ^ 56 :=
  Nat.lt_of_lt_of_le (pg_e_lt n h) (Nat.pow_le_pow_right (by decide) (by omega))
theorem eI_lt {n : Nat} {x : pg_F} (hn : n ≤ 7) (h : ∀ p, p < n → x p < 2 ^ 3) : pg_e 3 x n < 2 ^ 21 :=
  Nat.lt_of_lt_of_le (pg_e_lt n h) (Nat.pow_le_pow_right (by decide) (by omega))
theorem eL_inj {n : Nat} {x y : pg_F} (hn : n ≤ 14) (hx : pg_P n x) (hy : pg_P n y) (e : eL n x = eL n y) : x = y := by
  have h1 := eL_lt hn (hx.d4 (by omega))
  have h2 := eL_lt hn (hy.d4 (by omega))
  have e2 : pg_e 4 x n = pg_e 4 y n := (pk_lEQ (by omega) (by omega)).mp e
  exact pg_ext hx hy (pg_e_inj (by decide) (hx.d4 (by omega)) (hy.d4 (by omega)) e2)
theorem eI_inj {n : Nat} {x y : pg_F} (hn : n ≤ 7) (hx : pg_P n x) (hy : pg_P n y) (e : eI n x = eI n y) : x = y := by
  have h1 := eI_lt hn (hx.d3 (by omega))
  have h2 := eI_lt hn (hy.d3 (by omega))
  have e2 : pg_e 3 x n = pg_e 3 y n := (nI_eq (by omega) (by omega)).mp e
  exact pg_ext hx hy (pg_e_inj (by decide) (hx.d3 (by omega)) (hy.d3 (by omega)) e2)
theorem eL_ne {n : Nat} {x : pg_F} (hn : n ≤ 14) (h : ∀ p, p < n → x p < 2 ^ 4) : eL n x ≠ -1 := by
  have h1 := eL_lt hn h
  intro e
  have e2 : lN (pg_e 4 x n) = lN (2 ^ 64 - 1) := e
  have e3 := congrArg (fun z => z.toBitVec.toNat) e2
  have e3 : (lN (pg_e 4 x n)).toBitVec.toNat = (lN (2 ^ 64 - 1)).toBitVec.toNat := e3
  rw [wb_tn (by omega), wb_tn (by decide)] at e3
  omega
/-- the image of a point, as the class reads it -/
theorem eL_at {n p : Nat} {x : pg_F} (hn : n ≤ 14) (h : ∀ p, p < n → x p < 2 ^ 4) (hp : p < n) : ((eL n x).toUInt64 >>> ((nI (4 * p)).toInt64.toUInt64 &&& Int64.toUInt64 63)).toInt64.toInt32 &&& 15 = nI (x p) := by
  have h1 := eL_lt hn h
  unfold eL
  rw [wb_shr (by omega) (by omega), lN_i]
  have h2 : nI (pg_e 4 x n / 2 ^ (4 * p)) &&& nI (2 ^ 4 - 1) = nI (pg_e 4 x n / 2 ^ (4 * p) % 2 ^ 4) := pe_mask32 _ 4 (by decide)
  rw [pg_e_dig (by decide) h hp] at h2
  exact h2
/-- .. as a long -/
theorem eL_atL {n p : Nat} {x : pg_F} (hn : n ≤ 14) (h : ∀ p, p < n → x p < 2 ^ 4) (hp : p < n) : ((eL n x).toUInt64 >>> ((nI (4 * p)).toInt64.toUInt64 &&& Int64.toUInt64 63)).toInt64 &&& 15 = lN (x p) := by
  have h1 := eL_lt hn h
  unfold eL
  rw [wb_shr (by omega) (by omega)]
  have h2 : lN (pg_e 4 x n / 2 ^ (4 * p)) &&& lN (2 ^ 4 - 1) = lN (pg_e 4 x n / 2 ^ (4 * p) % 2 ^ 4) := wb_mask (Nat.lt_of_le_of_lt (Nat.div_le_self _ _) (by omega)) (by decide)
  rw [pg_e_dig (by decide) h hp] at h2
  exact h2
/-- .. as the reference reads it -/
theorem eI_at {n p : Nat} {x : pg_F} (hn : n ≤ 7) (h : ∀ p, p < n → x p < 2 ^ 3) (hp : p < n) : (eI n x >>> (nI (3 * p) &&& 31)) &&& 7 = nI (x p) := by
  have h1 := eI_lt hn h
  unfold eI
  rw [pe_shr (by omega) (by omega)]
  have h2 : nI (pg_e 3 x n / 2 ^ (3 * p)) &&& nI (2 ^ 3 - 1) = nI (pg_e 3 x n / 2 ^ (3 * p) % 2 ^ 3) := pe_mask32 _ 3 (by decide)
  rw [pg_e_dig (by decide) h hp] at h2
  exact h2
/-- a place is filled -/
theorem eL_or {n j v : Nat} {x : pg_F} (hn : n ≤ 14) (h : ∀ p, p < n → x p < 2 ^ 4) (hj : j < n) (h0 : x j = 0) (hv : v < 2 ^ 4) : eL n x ||| (lN v <<< ((nI (4 * j)).toInt64 &&& 63)) = eL n (va_up x j v) := by
  unfold eL
  rw [wb_shl v (by omega), pe_lor, pg_e_or (by decide) h hj h0 hv]
theorem eI_or {n j v : Nat} {x : pg_F} (hn : n ≤ 7) (h : ∀ p, p < n → x p < 2 ^ 3) (hj : j < n) (h0 : x j = 0) (hv : v < 2 ^ 3) : eI n x ||| (nI v <<< (nI (3 * j) &&& 31)) = eI n (va_up x j v) := by
  unfold eI
  have h9 : v * 2 ^ (3 * j) < 2 ^ 32 := by
    have a1 : v * 2 ^ (3 * j) < 2 ^ 3 * 2 ^ (3 * j) := Nat.mul_lt_mul_of_pos_right hv (Nat.two_pow_pos _)
    have a2 : 2 ^ 3 * 2 ^ (3 * j) = 2 ^ (3 + 3 * j) := by rw [Nat.pow_add]
    have a3 : 2 ^ (3 + 3 * j) ≤ 2 ^ 21 := Nat.pow_le_pow_right (by decide) (by omega)
    omega
  rw [pe_shl (by omega) h9, pe_or, pg_e_or (by decide) h hj h0 hv]
theorem eL_0 (n : Nat) : (0 : Int64) = eL n (fun _ => 0) := by
  have : pg_e 4 (fun _ => 0) n = 0 := by
    induction n with
    | zero => rfl
    | succ n ih => show pg_e 4 (fun _ => 0) n + 0 * 2 ^ (4 * n) = 0; rw [ih, Nat.zero_mul]
  unfold eL
  rw [this]
  rfl
theorem eI_0 (n : Nat) : (0 : Int32) = eI n (fun _ => 0) := by
  have : pg_e 3 (fun _ => 0) n = 0 := by
    induction n with
    | zero => rfl
    | succ n ih => show pg_e 3 (fun _ => 0) n + 0 * 2 ^ (3 * n) = 0; rw [ih, Nat.zero_mul]
  unfold eI
  rw [this]
  rfl
/-- a place is set, as both write it -/
theorem eL_with {n j v : Nat} {x : pg_F} (hn : n ≤ 14) (h : ∀ p, p < n → x p < 2 ^ 4) (hj : j < n) (hv : v < 2 ^ 4) : (eL n x &&& ((15 <<< ((nI (4 * j)).toInt64 &&& 63)) ^^^ (-1))) ||| (lN v <<< ((nI (4 * j)).toInt64 &&& 63)) = eL n (va_up x j v) := by
  unfold eL
  have e1 : (15 : Int64) <<< ((nI (4 * j)).toInt64 &&& 63) = lN ((2 ^ 4 - 1) * 2 ^ (4 * j)) := wb_shl 15 (by omega)
  have e2 : (-1 : Int64) = lN (2 ^ 64 - 1) := rfl
  rw [e1, e2, wb_shl v (by omega), pe_lxor, pe_land, pe_lor, pg_e_with (by decide) h hj (by omega) hv]
theorem eI_with {n j v : Nat} {x : pg_F} (hn : n ≤ 7) (h : ∀ p, p < n → x p < 2 ^ 3) (hj : j < n) (hv : v < 2 ^ 3) : (eI n x &&& ((7 <<< (nI (3 * j) &&& 31)) ^^^ (-1))) ||| (nI v <<< (nI (3 * j) &&& 31)) = eI n (va_up x j v) := by
  unfold eI
  have a3 : 2 ^ (3 * j) ≤ 2 ^ 18 := Nat.pow_le_pow_right (by decide) (by omega)
  have e1 : (7 : Int32) <<< (nI (3 * j) &&& 31) = nI ((2 ^ 3 - 1) * 2 ^ (3 * j)) := pe_shl (n := 7) (by omega) (by omega)
  have e2 : (-1 : Int32) = nI (2 ^ 32 - 1) := rfl
  have a4 : v * 2 ^ (3 * j) ≤ 7 * 2 ^ (3 * j) := Nat.mul_le_mul_right _ (by omega)
  rw [e1, e2, pe_shl (by omega) (by omega), pe_xor, pe_and, pe_or, pg_e_with (by decide) h hj (by omega) hv]
