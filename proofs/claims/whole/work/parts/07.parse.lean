/-! The text as an expression: by descent (as the class reads it), by a row of frames (as the reference does). Pure. -/
/-- the sign at a place, 0 behind the end -/
def pr_look (tx : Nat → Nat) (len a : Nat) : Nat := if a < len then tx a else 0
theorem pr_look_in {tx : Nat → Nat} {len a : Nat} (h : a < len) : pr_look tx len a = tx a := if_pos h
theorem pr_look_out {tx : Nat → Nat} {len a : Nat} (h : len ≤ a) : pr_look tx len a = 0 := if_neg (by omega)
/-- swap two points -/
def pg_swap (a b : Nat) : pg_F := fun i => if i = a then b else if i = b then a else i
theorem pg_P_swap {n a b : Nat} (ha : a < n) (hb : b < n) : pg_P n (pg_swap a b) := by
  unfold pg_swap
  refine ⟨fun i h => ?_, fun i h => ?_, fun i j hi hj h => ?_⟩
  · show (if i = a then b else if i = b then a else i) < n
    split
    · exact hb
    · split
      · exact ha
      · exact h
  · show (if i = a then b else if i = b then a else i) = i
    rw [if_neg (by omega), if_neg (by omega)]
  · have h : (if i = a then b else if i = b then a else i) = (if j = a then b else if j = b then a else j) := h
    repeat' split at h
    all_goals omega
/-- a cycle as far as it is read: the map x (the last point's image is still open), first and last point, the points seen -/
abbrev pr_C : Type := pg_F × Option Nat × Nat × (Nat → Bool)
def pr_c0 : pr_C := (pg_id, none, 0, fun _ => false)
def pr_cx (st : pr_C) (p : Nat) : pg_F := match st.2.1 with
  | none => st.1
  | some _ => va_up st.1 st.2.2.1 p
def pr_cp (st : pr_C) (p : Nat) : pr_C := (pr_cx st p, some (st.2.1.getD p), p, va_up st.2.2.2 p true)
def pr_ce (st : pr_C) : pg_F := match st.2.1 with
  | none => st.1
  | some f => va_up st.1 st.2.2.1 f
/-- what holds on the way: t points are seen -/
def pr_cok (n : Nat) (st : pr_C) (t : Nat) : Prop := pg_P n (pr_ce st) ∧ (∀ p, n ≤ p → st.2.2.2 p = false) ∧ (∀ p, st.2.2.2 p = false → pr_ce st p = p ∧ st.1 p = p) ∧ (∀ i, i < n → st.1 i < n) ∧
  (match st.2.1 with
   | none => t = 0 ∧ st.1 = pg_id ∧ ∀ p, st.2.2.2 p = false
   | some f => f < n ∧ st.2.2.1 < n ∧ st.2.2.2 st.2.2.1 = true) ∧ ∃ q : Nat → Nat, (∀ i, i < t → q i < n) ∧ (∀ i j, i < t → j < t → q i = q j → i = j) ∧ ∀ i, i < t → st.2.2.2 (q i) = true
theorem pr_cok_0 (n : Nat) : pr_cok n pr_c0 0 :=
  ⟨pg_P_id n, fun _ _ => rfl, fun _ _ => ⟨rfl, rfl⟩, fun _ h => h, ⟨rfl, rfl, fun _ => rfl⟩, fun i => i, fun i h => by omega, fun i j h => by omega, fun i h => by omega⟩
theorem pr_cok_p {n : Nat} {st : pr_C} {t p : Nat} (h : pr_cok n st t) (hp : p < n) (hs : st.2.2.2 p = false) : pr_cok n (pr_cp st p) (t + 1) := by
  obtain ⟨x, fo, last, seen⟩ := st
  obtain ⟨h1, h2, h3, h4, h5, q, q1, q2, q3⟩ := h
  have hs : seen p = false := hs
  have h2 : ∀ p, n ≤ p → seen p = false := h2
  have h4 : ∀ i, i < n → x i < n := h4
  have q3 : ∀ i, i < t → seen (q i) = true := q3
  have hseen : ∀ i, va_up seen p true i = false → seen i = false ∧ i ≠ p := by
    intro i hi
    by_cases r : i = p
    · rw [r, va_up_self] at hi; cases hi
    · rw [va_up_ne _ _ r] at hi; exact ⟨hi, r⟩
  have hq : ∃ q : Nat → Nat, (∀ i, i < t + 1 → q i < n) ∧ (∀ i j, i < t + 1 → j < t + 1 → q i = q j → i = j) ∧ ∀ i, i < t + 1 → va_up seen p true (q i) = true := by
    have hne : ∀ i, i < t → q i ≠ p := fun i hi e => by have := q3 i hi; rw [e, hs] at this; cases this
    refine ⟨va_up q t p, fun i hi => ?_, fun i j hi hj e => ?_, fun i hi => ?_⟩
    · by_cases r : i = t
      · rw [r, va_up_self]; exact hp
      · rw [va_up_ne _ _ r]; exact q1 i (by omega)
    · by_cases r : i = t
      · by_cases r2 : j = t
        · omega
        · rw [r, va_up_self, va_up_ne _ _ r2] at e
          exact absurd e.symm (hne j (by omega))
      · by_cases r2 : j = t
        · rw [r2, va_up_self, va_up_ne _ _ r] at e
          exact absurd e (hne i (by omega))
        · rw [va_up_ne _ _ r, va_up_ne _ _ r2] at e
          exact q2 i j (by omega) (by omega) e
    · by_cases r : i = t
      · rw [r, va_up_self, va_up_self]
      · rw [va_up_ne _ _ r, va_up_ne _ _ (hne i (by omega))]
        exact q3 i (by omega)
  cases fo with
  | none =>
    obtain ⟨r1, r2, r3⟩ := h5
    have r2 : x = pg_id := r2
    subst r2
    have e : pr_ce (pr_cp (pg_id, none, last, seen) p) = pg_id := by
      show va_up pg_id p p = pg_id
      funext i
      by_cases r : i = p
      · rw [r, va_up_self]; rfl
      · rw [va_up_ne _ _ r]
    refine ⟨by rw [e]; exact pg_P_id n, fun i hi => ?_, fun i hi => ⟨by rw [e]; rfl, rfl⟩, fun i hi => hi, ⟨hp, hp, va_up_self _ _ _⟩, hq⟩
    show va_up seen p true i = false
    rw [va_up_ne _ _ (by omega)]
    exact h2 i hi
  | some f =>
    have hs : seen p = false := hs
    have h2 : ∀ p, n ≤ p → seen p = false := h2
    have h4 : ∀ i, i < n → x i < n := h4
    obtain ⟨r1, r2, r3⟩ := h5
    have r1 : f < n := r1
    have r2 : last < n := r2
    have r3 : seen last = true := r3
    have h1 : pg_P n (va_up x last f) := h1
    have h3 : ∀ p, seen p = false → va_up x last f p = p ∧ x p = p := h3
    have hpl : p ≠ last := fun e => by rw [e, r3] at hs; cases hs
    have e : pr_ce (pr_cp (x, some f, last, seen) p) = pg_mul (pg_swap last p) (va_up x last f) := by
      show va_up (va_up x last p) p f = _
      funext i
      show va_up (va_up x last p) p f i = va_up x last f (pg_swap last p i)
      unfold pg_swap
      by_cases a : i = last
      · rw [if_pos a, a, va_up_ne _ _ hpl.symm, va_up_self, (h3 p hs).1]
      · rw [if_neg a]
        by_cases b : i = p
        · rw [if_pos b, b, va_up_self, va_up_self]
        · rw [if_neg b, va_up_ne _ _ b, va_up_ne _ _ a, va_up_ne _ _ a]
    refine ⟨by rw [e]; exact pg_P_mul (pg_P_swap r2 hp) h1, fun i hi => ?_, fun i hi => ?_, fun i hi => ?_, ⟨r1, hp, va_up_self _ _ _⟩, hq⟩
    · show va_up seen p true i = false
      rw [va_up_ne _ _ (by omega)]
      exact h2 i hi
    · obtain ⟨s1, s2⟩ := hseen i hi
      have hil : i ≠ last := fun e => by rw [e, r3] at s1; cases s1
      refine ⟨?_, ?_⟩
      · rw [e]
        show va_up x last f (pg_swap last p i) = i
        unfold pg_swap
        rw [if_neg hil, if_neg s2]
        exact (h3 i s1).1
      · show va_up x last p i = i
        rw [va_up_ne _ _ hil]
        exact (h3 i s1).2
    · show va_up x last p i < n
      by_cases a : i = last
      · rw [a, va_up_self]; exact hp
      · rw [va_up_ne _ _ a]; exact h4 i hi
theorem pr_cok_full {n : Nat} {st : pr_C} (h : pr_cok n st n) {p : Nat} (hp : p < n) : st.2.2.2 p = true := by
  obtain ⟨-, -, -, -, -, q, q1, q2, q3⟩ := h
  obtain ⟨i, hi, e⟩ := pg_surj n q q1 q2 p hp
  rw [← e]
  exact q3 i hi
theorem pr_cok_le {n : Nat} {st : pr_C} {t : Nat} (h : pr_cok n st t) : t ≤ n := by
  obtain ⟨-, -, -, -, -, q, q1, q2, q3⟩ := h
  refine Nat.le_of_not_lt (fun hc => ?_)
  obtain ⟨a, b, h1, h2, h3⟩ := pg_pigeon n q (fun i hi => q1 i (by omega))
  have := q2 a b (by omega) (by omega) h3
  omega
section PR
variable (tx : Nat → Nat) (len n gc : Nat) (g : Nat → pg_F)
/-- behind '(': points, then ')' -/
def pr_cyc : Nat → Nat → pr_C → Option (pg_F × Nat)
  | 0, _, _ => none
  | f + 1, a, st => if pr_look tx len a = 41 then some (pr_ce st, a + 1) else if 48 ≤ pr_look tx len a ∧ pr_look tx len a < 48 + n ∧ st.2.2.2 (pr_look tx len a - 48) = false then pr_cyc f (a + 1) (pr_cp st (pr_look tx len a - 48)) else none
def pr_pri (E : Option (Nat → Option (pg_F × Nat))) (a : Nat) : Option (pg_F × Nat) :=
  if pr_look tx len a = 40 then pr_cyc tx len n (n + 1) (a + 1) pr_c0
  else match E with
  | some E => if pr_look tx len a = 91 then (match E (a + 1) with
      | some (x, a1) => if pr_look tx len a1 = 44 then (match E (a1 + 1) with
          | some (y, a2) => if pr_look tx len a2 = 93 then some (pg_comm n x y, a2 + 1) else none
          | none => none) else none
      | none => none)
    else if pr_look tx len a = 123 then (match E (a + 1) with
      | some (x, a1) => if pr_look tx len a1 = 125 then some (x, a1 + 1) else none
      | none => none)
    else if 97 ≤ pr_look tx len a ∧ pr_look tx len a < 97 + gc then some (g (pr_look tx len a - 97), a + 1) else none
  | none => if 97 ≤ pr_look tx len a ∧ pr_look tx len a < 97 + gc then some (g (pr_look tx len a - 97), a + 1) else none
def pr_sig : Nat → pg_F → Nat → Option (pg_F × Nat)
  | 0, x, a => some (x, a)
  | f + 1, x, a => if pr_look tx len a = 39 then pr_sig f (pg_inv n x) (a + 1) else if pr_look tx len a = 94 then (if 48 ≤ pr_look tx len (a + 1) ∧ pr_look tx len (a + 1) ≤ 57 then pr_sig f (pg_pow x (pr_look tx len (a + 1) - 48)) (a + 2) else none) else some (x, a)
def pr_fac (E : Option (Nat → Option (pg_F × Nat))) (a : Nat) : Option (pg_F × Nat) := match pr_pri tx len n gc g E a with
  | some (x, a1) => pr_sig tx len n 24 x a1
  | none => none
/-- an expression ends here -/
def pr_over (c : Nat) : Prop := c = 0 ∨ c = 44 ∨ c = 93 ∨ c = 125
def pr_ovb (c : Nat) : Bool := decide (c = 0) || decide (c = 44) || decide (c = 93) || decide (c = 125)
theorem pr_ovb_iff (c : Nat) : pr_ovb c = true ↔ pr_over c := by
  unfold pr_ovb pr_over
  simp [or_assoc]
def pr_more (E : Option (Nat → Option (pg_F × Nat))) : Nat → pg_F → Nat → Option (pg_F × Nat)
  | 0, x, a => some (x, a)
  | f + 1, x, a => if pr_ovb (pr_look tx len a) = true then some (x, a) else match pr_fac tx len n gc g E a with
    | some (y, a1) => pr_more E f (pg_mul x y) a1
    | none => none
def pr_ex1 (E : Option (Nat → Option (pg_F × Nat))) (a : Nat) : Option (pg_F × Nat) := match pr_fac tx len n gc g E a with
  | some (x, a1) => pr_more tx len n gc g E 23 x a1
  | none => none
/-- an expression in whose brackets there may be k more -/
def pr_exp : Nat → Nat → Option (pg_F × Nat)
  | 0 => pr_ex1 tx len n gc g none
  | k + 1 => pr_ex1 tx len n gc g (some (pr_exp k))
/-- the row of frames: kind (0 top, 1 brace, 2 first, 3 second), product, factor, first -/
abbrev pr_Fr : Type := Nat × pg_F × Option pg_F × pg_F
def pr_tk (p : pg_F) (fo : Option pg_F) : pg_F := match fo with
  | some f => pg_mul p f
  | none => p
def pr_take (x : pg_F) (fr : pr_Fr) : pr_Fr := (fr.1, pr_tk fr.2.1 fr.2.2.1, some x, fr.2.2.2)
def pr_step (a : Nat) : List pr_Fr → Option (Nat × List pr_Fr)
  | [] => none
  | fr :: S =>
    if 97 ≤ tx a ∧ tx a ≤ 102 then (if tx a < 97 + gc then some (a + 1, pr_take (g (tx a - 97)) fr :: S) else none)
    else if tx a = 40 then (match pr_cyc tx len n (n + 1) (a + 1) pr_c0 with
      | some (x, a1) => some (a1, pr_take x fr :: S)
      | none => none)
    else if tx a = 123 then (if S.length < 4 then some (a + 1, (1, pg_id, none, pg_id) :: fr :: S) else none)
    else if tx a = 91 then (if S.length < 4 then some (a + 1, (2, pg_id, none, pg_id) :: fr :: S) else none)
    else match fr.2.2.1 with
    | none => none
    | some f =>
      if tx a = 39 then some (a + 1, (fr.1, fr.2.1, some (pg_inv n f), fr.2.2.2) :: S)
      else if tx a = 94 then (if 48 ≤ pr_look tx len (a + 1) ∧ pr_look tx len (a + 1) ≤ 57 then some (a + 2, (fr.1, fr.2.1, some (pg_pow f (pr_look tx len (a + 1) - 48)), fr.2.2.2) :: S) else none)
      else if tx a = 44 then (if fr.1 = 2 then some (a + 1, (3, pg_id, none, pg_mul fr.2.1 f) :: S) else none)
      else match S with
      | [] => none
      | f2 :: S2 =>
        if tx a = 125 then (if fr.1 = 1 then some (a + 1, pr_take (pg_mul fr.2.1 f) f2 :: S2) else none)
        else if tx a = 93 then (if fr.1 = 3 then some (a + 1, pr_take (pg_comm n fr.2.2.2 (pg_mul fr.2.1 f)) f2 :: S2) else none)
        else none
def pr_end : List pr_Fr → Option pg_F
  | [(_, p, some f, _)] => some (pg_mul p f)
  | _ => none
def pr_run : Nat → Nat → List pr_Fr → Option pg_F
  | 0, _, _ => none
  | f + 1, a, S => if a < len then (match pr_step tx len n gc g a S with
    | some (a1, S1) => pr_run f a1 S1
    | none => none) else pr_end S
variable {tx len n gc g}
theorem pr_cyc_gt : ∀ (f a : Nat) (st : pr_C) (x : pg_F) (a1 : Nat), pr_cyc tx len n f a st = some (x, a1) → a < a1 ∧ a1 ≤ len := by
  intro f
  induction f with
  | zero => intro a st x a1 h; cases h
  | succ f ih =>
    intro a st x a1 h
    unfold pr_cyc at h
    have hin : pr_look tx len a ≠ 0 → a < len := fun q => Classical.byContradiction (fun r => q (pr_look_out (by omega)))
    by_cases q : pr_look tx len a = 41
    · rw [if_pos q] at h
      cases h
      have := hin (by omega)
      omega
    · rw [if_neg q] at h
      by_cases r : 48 ≤ pr_look tx len a ∧ pr_look tx len a < 48 + n ∧ st.2.2.2 (pr_look tx len a - 48) = false
      · rw [if_pos r] at h
        have := ih _ _ _ _ h
        omega
      · rw [if_neg r] at h; cases h
theorem pr_cyc_P : ∀ (f a : Nat) (st : pr_C) (t : Nat) (x : pg_F) (a1 : Nat), pr_cok n st t → pr_cyc tx len n f a st = some (x, a1) → pg_P n x := by
  intro f
  induction f with
  | zero => intro a st t x a1 _ h; cases h
  | succ f ih =>
    intro a st t x a1 hc h
    unfold pr_cyc at h
    by_cases q : pr_look tx len a = 41
    · rw [if_pos q] at h
      cases h
      exact hc.1
    · rw [if_neg q] at h
      by_cases r : 48 ≤ pr_look tx len a ∧ pr_look tx len a < 48 + n ∧ st.2.2.2 (pr_look tx len a - 48) = false
      · rw [if_pos r] at h
        exact ih _ _ (t + 1) _ _ (pr_cok_p hc (by omega) r.2.2) h
      · rw [if_neg r] at h; cases h
theorem pr_step_gt {a : Nat} {S S1 : List pr_Fr} {a1 : Nat} (ha : a < len) (h : pr_step tx len n gc g a S = some (a1, S1)) : a < a1 := by
  unfold pr_step at h
  cases S with
  | nil => cases h
  | cons fr S =>
    simp only at h
    split at h
    · split at h <;> cases h
      omega
    · split at h
      · split at h
        · rename_i x a2 hx
          cases h
          have := pr_cyc_gt _ _ _ _ _ hx
          omega
        · cases h
      · split at h
        · split at h <;> cases h
          omega
        · split at h
          · split at h <;> cases h
            omega
          · split at h
            · cases h
            · split at h
              · cases h; omega
              · split at h
                · split at h <;> cases h
                  omega
                · split at h
                  · split at h <;> cases h
                    omega
                  · split at h
                    · cases h
                    · split at h
                      · split at h <;> cases h
                        omega
                      · split at h
                        · split at h <;> cases h
                          omega
                        · cases h
theorem pr_run_more : ∀ (f f' a : Nat) (S : List pr_Fr), len - a < f → len - a < f' → pr_run tx len n gc g f a S = pr_run tx len n gc g f' a S := by
  intro f
  induction f with
  | zero => intro f' a S h1 h2; omega
  | succ f ih =>
    intro f' a S h1 h2
    cases f' with
    | zero => omega
    | succ f' =>
      unfold pr_run
      by_cases q : a < len
      · rw [if_pos q, if_pos q]
        cases hs : pr_step tx len n gc g a S with
        | none => rfl
        | some r =>
          obtain ⟨a1, S1⟩ := r
          have := pr_step_gt q hs
          exact ih f' a1 S1 (by omega) (by omega)
      · rw [if_neg q, if_neg q]
variable (tx len n gc g) in
/-- what comes of it in the end -/
def pr_res (a : Nat) (S : List pr_Fr) : Option pg_F := pr_run tx len n gc g (len + 1) a S
theorem pr_res_some {a a1 : Nat} {S S1 : List pr_Fr} (ha : a < len) (h : pr_step tx len n gc g a S = some (a1, S1)) : pr_res tx len n gc g a S = pr_res tx len n gc g a1 S1 := by
  have hg := pr_step_gt ha h
  show pr_run tx len n gc g (len + 1) a S = _
  unfold pr_run
  rw [if_pos ha, h]
  exact pr_run_more _ _ _ _ (by omega) (by omega)
theorem pr_res_none {a : Nat} {S : List pr_Fr} (ha : a < len) (h : pr_step tx len n gc g a S = none) : pr_res tx len n gc g a S = none := by
  show pr_run tx len n gc g (len + 1) a S = _
  unfold pr_run
  rw [if_pos ha, h]
theorem pr_res_end {a : Nat} {S : List pr_Fr} (ha : len ≤ a) : pr_res tx len n gc g a S = pr_end S := by
  show pr_run tx len n gc g (len + 1) a S = _
  unfold pr_run
  rw [if_neg (by omega)]
/-- the signs behind a factor -/
theorem pr_sig_sim {κ : Nat} {p fi : pg_F} {S : List pr_Fr} : ∀ (f : Nat) (x : pg_F) (a : Nat), a ≤ len → len - a < f → match pr_sig tx len n f x a with
    | none => pr_res tx len n gc g a ((κ, p, some x, fi) :: S) = none
    | some (y, a1) => a ≤ a1 ∧ a1 ≤ len ∧ pr_look tx len a1 ≠ 39 ∧ pr_look tx len a1 ≠ 94 ∧ pr_res tx len n gc g a ((κ, p, some x, fi) :: S) = pr_res tx len n gc g a1 ((κ, p, some y, fi) :: S) := by
  intro f
  induction f with
  | zero => intro x a _ h; omega
  | succ f ih =>
    intro x a ha hf
    unfold pr_sig
    have hin : pr_look tx len a ≠ 0 → a < len := fun q => Classical.byContradiction (fun r => q (pr_look_out (by omega)))
    by_cases q : pr_look tx len a = 39
    · rw [if_pos q]
      have hl := hin (by omega)
      rw [pr_look_in hl] at q
      have hs : pr_step tx len n gc g a ((κ, p, some x, fi) :: S) = some (a + 1, (κ, p, some (pg_inv n x), fi) :: S) := by
        unfold pr_step
        simp [q]
      have := ih (pg_inv n x) (a + 1) (by omega) (by omega)
      revert this
      cases pr_sig tx len n f (pg_inv n x) (a + 1) with
      | none => intro this; show _ = none; rw [pr_res_some hl hs]; exact this
      | some r =>
        obtain ⟨y, a1⟩ := r
        rintro ⟨h1, h2, h3, h4, h5⟩
        exact ⟨by omega, h2, h3, h4, by rw [pr_res_some hl hs]; exact h5⟩
    · rw [if_neg q]
      by_cases q2 : pr_look tx len a = 94
      · rw [if_pos q2]
        have hl := hin (by omega)
        have q2' := q2
        rw [pr_look_in hl] at q2'
        by_cases r : 48 ≤ pr_look tx len (a + 1) ∧ pr_look tx len (a + 1) ≤ 57
        · rw [if_pos r]
          have hl2 : a + 1 < len := Classical.byContradiction (fun r2 => by rw [pr_look_out (by omega)] at r; omega)
          have hs : pr_step tx len n gc g a ((κ, p, some x, fi) :: S) = some (a + 2, (κ, p, some (pg_pow x (pr_look tx len (a + 1) - 48)), fi) :: S) := by
            unfold pr_step
            simp [q2', r]
          have := ih (pg_pow x (pr_look tx len (a + 1) - 48)) (a + 2) (by omega) (by omega)
          revert this
          cases pr_sig tx len n f (pg_pow x (pr_look tx len (a + 1) - 48)) (a + 2) with
          | none => intro this; show _ = none; rw [pr_res_some hl hs]; exact this
          | some r =>
            obtain ⟨y, a1⟩ := r
            rintro ⟨h1, h2, h3, h4, h5⟩
            exact ⟨by omega, h2, h3, h4, by rw [pr_res_some hl hs]; exact h5⟩
        · rw [if_neg r]
          refine pr_res_none hl ?_
          unfold pr_step
          simp [q2', r]
      · rw [if_neg q2]
        exact ⟨Nat.le_refl _, ha, q, q2, rfl⟩
/-- what is said of an expression read from a on, in a frame of its own -/
def pr_CL (tx : Nat → Nat) (len n gc : Nat) (g : Nat → pg_F) (o : Option (pg_F × Nat)) (a : Nat) (S : List pr_Fr) : Prop := ∀ (κ : Nat) (fi : pg_F), match o with
  | none => pr_res tx len n gc g a ((κ, pg_id, none, fi) :: S) = none
  | some (x, a1) => ∃ p f, pg_mul p f = x ∧ a < a1 ∧ a1 ≤ len ∧ pr_over (pr_look tx len a1) ∧ pr_res tx len n gc g a ((κ, pg_id, none, fi) :: S) = pr_res tx len n gc g a1 ((κ, p, some f, fi) :: S)
/-- .. and of what may stand in brackets -/
def pr_EL (tx : Nat → Nat) (len n gc : Nat) (g : Nat → pg_F) (E : Option (Nat → Option (pg_F × Nat))) (d : Nat) : Prop := match E with
  | none => d = 4
  | some E => d < 4 ∧ ∀ (a : Nat) (S : List pr_Fr), a ≤ len → S.length = d + 1 → pr_CL tx len n gc g (E a) a S
theorem pr_pri_sim (hgc : gc ≤ 6) {E : Option (Nat → Option (pg_F × Nat))} {κ : Nat} {p fi : pg_F} {fo : Option pg_F} {S : List pr_Fr} (hE : pr_EL tx len n gc g E S.length) {a : Nat} (ha : a ≤ len)
    (hc : fo = none ∨ (¬ pr_over (pr_look tx len a) ∧ pr_look tx len a ≠ 39 ∧ pr_look tx len a ≠ 94)) : match pr_pri tx len n gc g E a with
    | none => pr_res tx len n gc g a ((κ, p, fo, fi) :: S) = none
    | some (y, a1) => a < a1 ∧ a1 ≤ len ∧ pr_res tx len n gc g a ((κ, p, fo, fi) :: S) = pr_res tx len n gc g a1 ((κ, pr_tk p fo, some y, fi) :: S) := by
  have hin : pr_look tx len a ≠ 0 → a < len := fun q => Classical.byContradiction (fun r => q (pr_look_out (by omega)))
  have hletter : ¬ pr_look tx len a = 40 → (¬ (pr_look tx len a = 91 ∧ S.length < 4)) → (¬ (pr_look tx len a = 123 ∧ S.length < 4)) → match (if 97 ≤ pr_look tx len a ∧ pr_look tx len a < 97 + gc then some (g (pr_look tx len a - 97), a + 1) else none) with
    | none => pr_res tx len n gc g a ((κ, p, fo, fi) :: S) = none
    | some (y, a1) => a < a1 ∧ a1 ≤ len ∧ pr_res tx len n gc g a ((κ, p, fo, fi) :: S) = pr_res tx len n gc g a1 ((κ, pr_tk p fo, some y, fi) :: S) := by
    intro h40 h91 h123
    by_cases q : 97 ≤ pr_look tx len a ∧ pr_look tx len a < 97 + gc
    · rw [if_pos q]
      have hl := hin (by omega)
      rw [pr_look_in hl] at q ⊢
      refine ⟨by omega, by omega, pr_res_some hl ?_⟩
      unfold pr_step
      simp only
      rw [if_pos (by omega), if_pos (by omega)]
      rfl
    · rw [if_neg q]
      by_cases hl : a < len
      · refine pr_res_none hl ?_
        rw [pr_look_in hl] at q h40 h91 h123 hc
        unfold pr_step
        simp only
        by_cases r : 97 ≤ tx a ∧ tx a ≤ 102
        · rw [if_pos r, if_neg (by omega)]
        · rw [if_neg r, if_neg h40]
          by_cases r1 : tx a = 123
          · rw [if_pos r1, if_neg (fun r2 => h123 ⟨r1, r2⟩)]
          · rw [if_neg r1]
            by_cases r3 : tx a = 91
            · rw [if_pos r3, if_neg (fun r2 => h91 ⟨r3, r2⟩)]
            · rw [if_neg r3]
              rcases hc with rfl | ⟨c1, c2, c3⟩
              · rfl
              · cases fo with
                | none => rfl
                | some f =>
                  unfold pr_over at c1
                  simp only
                  rw [if_neg c2, if_neg c3, if_neg (by omega)]
                  cases S with
                  | nil => rfl
                  | cons f2 S2 =>
                    simp only
                    rw [if_neg (by omega), if_neg (by omega)]
      · rcases hc with rfl | ⟨c1, -, -⟩
        · rw [pr_res_end (by omega)]
          cases S <;> rfl
        · exact absurd (Or.inl (pr_look_out (by omega))) c1
  unfold pr_pri
  by_cases h40 : pr_look tx len a = 40
  · rw [if_pos h40]
    have hl := hin (by omega)
    have h40' := h40
    rw [pr_look_in hl] at h40'
    cases hcy : pr_cyc tx len n (n + 1) (a + 1) pr_c0 with
    | none =>
      refine pr_res_none hl ?_
      unfold pr_step
      simp [h40', hcy]
    | some r =>
      obtain ⟨x, a1⟩ := r
      have := pr_cyc_gt _ _ _ _ _ hcy
      refine ⟨by omega, by omega, pr_res_some hl ?_⟩
      unfold pr_step
      simp [h40', hcy, pr_take]
  · rw [if_neg h40]
    cases E with
    | none =>
      have hd : S.length = 4 := hE
      exact hletter h40 (by omega) (by omega)
    | some E =>
      obtain ⟨hd, hE⟩ := hE
      simp only
      by_cases h91 : pr_look tx len a = 91
      · rw [if_pos h91]
        have hl := hin (by omega)
        have h91' := h91
        rw [pr_look_in hl] at h91'
        have hs : pr_step tx len n gc g a ((κ, p, fo, fi) :: S) = some (a + 1, (2, pg_id, none, pg_id) :: (κ, p, fo, fi) :: S) := by
          unfold pr_step
          simp [h91', hd]
        have h1 := hE (a + 1) ((κ, p, fo, fi) :: S) (by omega) rfl 2 pg_id
        cases e1 : E (a + 1) with
        | none =>
          rw [e1] at h1
          show _ = none
          rw [pr_res_some hl hs]; exact h1
        | some r =>
          obtain ⟨x, a1⟩ := r
          rw [e1] at h1
          obtain ⟨p1, f1, hx, b1, b2, b3, b4⟩ := h1
          have b4 : pr_res tx len n gc g a ((κ, p, fo, fi) :: S) = _ := (pr_res_some hl hs).trans b4
          simp only
          by_cases h44 : pr_look tx len a1 = 44
          · rw [if_pos h44]
            have hl1 : a1 < len := Classical.byContradiction (fun r => by rw [pr_look_out (by omega)] at h44; omega)
            have h44' := h44
            rw [pr_look_in hl1] at h44'
            have hs1 : pr_step tx len n gc g a1 ((2, p1, some f1, pg_id) :: (κ, p, fo, fi) :: S) = some (a1 + 1, (3, pg_id, none, x) :: (κ, p, fo, fi) :: S) := by
              unfold pr_step
              simp [h44', hx]
            have b4 := b4.trans (pr_res_some hl1 hs1)
            have h2 := hE (a1 + 1) ((κ, p, fo, fi) :: S) (by omega) rfl 3 x
            cases e2 : E (a1 + 1) with
            | none =>
              rw [e2] at h2
              show _ = none
              rw [b4]; exact h2
            | some r =>
              obtain ⟨y, a2⟩ := r
              rw [e2] at h2
              obtain ⟨p2, f2, hy, d1, d2, d3, d4⟩ := h2
              have b4 := b4.trans d4
              simp only
              by_cases h93 : pr_look tx len a2 = 93
              · rw [if_pos h93]
                have hl2 : a2 < len := Classical.byContradiction (fun r => by rw [pr_look_out (by omega)] at h93; omega)
                have h93' := h93
                rw [pr_look_in hl2] at h93'
                refine ⟨by omega, by omega, b4.trans (pr_res_some hl2 ?_)⟩
                unfold pr_step
                simp [h93', hy, pr_take]
              · rw [if_neg h93]
                show _ = none
                rw [b4]
                by_cases hl2 : a2 < len
                · rw [pr_look_in hl2] at h93 d3
                  refine pr_res_none hl2 ?_
                  unfold pr_step
                  unfold pr_over at d3
                  rcases d3 with q | q | q | q <;> simp [q]
                  exact h93 q
                · rw [pr_res_end (by omega)]; rfl
          · rw [if_neg h44]
            show _ = none
            rw [b4]
            by_cases hl1 : a1 < len
            · rw [pr_look_in hl1] at h44 b3
              refine pr_res_none hl1 ?_
              unfold pr_step
              unfold pr_over at b3
              rcases b3 with q | q | q | q <;> simp [q]
              exact h44 q
            · rw [pr_res_end (by omega)]; rfl
      · rw [if_neg h91]
        by_cases h123 : pr_look tx len a = 123
        · rw [if_pos h123]
          have hl := hin (by omega)
          have h123' := h123
          rw [pr_look_in hl] at h123'
          have hs : pr_step tx len n gc g a ((κ, p, fo, fi) :: S) = some (a + 1, (1, pg_id, none, pg_id) :: (κ, p, fo, fi) :: S) := by
            unfold pr_step
            simp [h123', hd]
          have h1 := hE (a + 1) ((κ, p, fo, fi) :: S) (by omega) rfl 1 pg_id
          cases e1 : E (a + 1) with
          | none =>
            rw [e1] at h1
            show _ = none
            rw [pr_res_some hl hs]; exact h1
          | some r =>
            obtain ⟨x, a1⟩ := r
            rw [e1] at h1
            obtain ⟨p1, f1, hx, b1, b2, b3, b4⟩ := h1
            have b4 : pr_res tx len n gc g a ((κ, p, fo, fi) :: S) = _ := (pr_res_some hl hs).trans b4
            simp only
            by_cases h125 : pr_look tx len a1 = 125
            · rw [if_pos h125]
              have hl1 : a1 < len := Classical.byContradiction (fun r => by rw [pr_look_out (by omega)] at h125; omega)
              have h125' := h125
              rw [pr_look_in hl1] at h125'
              refine ⟨by omega, by omega, b4.trans (pr_res_some hl1 ?_)⟩
              unfold pr_step
              simp [h125', hx, pr_take]
            · rw [if_neg h125]
              show _ = none
              rw [b4]
              by_cases hl1 : a1 < len
              · rw [pr_look_in hl1] at h125 b3
                refine pr_res_none hl1 ?_
                unfold pr_step
                unfold pr_over at b3
                rcases b3 with q | q | q | q <;> simp [q]
                exact h125 q
              · rw [pr_res_end (by omega)]; rfl
        · rw [if_neg h123]
          exact hletter h40 (fun q => h91 q.1) (fun q => h123 q.1)
theorem pr_fac_sim (hgc : gc ≤ 6) (hlen : len ≤ 24) {E : Option (Nat → Option (pg_F × Nat))} {κ : Nat} {p fi : pg_F} {fo : Option pg_F} {S : List pr_Fr} (hE : pr_EL tx len n gc g E S.length) {a : Nat} (ha : a ≤ len)
    (hc : fo = none ∨ (¬ pr_over (pr_look tx len a) ∧ pr_look tx len a ≠ 39 ∧ pr_look tx len a ≠ 94)) : match pr_fac tx len n gc g E a with
    | none => pr_res tx len n gc g a ((κ, p, fo, fi) :: S) = none
    | some (y, a1) => a < a1 ∧ a1 ≤ len ∧ pr_look tx len a1 ≠ 39 ∧ pr_look tx len a1 ≠ 94 ∧ pr_res tx len n gc g a ((κ, p, fo, fi) :: S) = pr_res tx len n gc g a1 ((κ, pr_tk p fo, some y, fi) :: S) := by
  have h := pr_pri_sim hgc (κ := κ) (p := p) (fi := fi) hE ha hc
  unfold pr_fac
  cases e : pr_pri tx len n gc g E a with
  | none => rw [e] at h; exact h
  | some r =>
    obtain ⟨x, a1⟩ := r
    rw [e] at h
    obtain ⟨h1, h2, h3⟩ := h
    have h4 := pr_sig_sim (tx := tx) (n := n) (gc := gc) (g := g) (κ := κ) (p := pr_tk p fo) (fi := fi) (S := S) 24 x a1 h2 (by omega)
    simp only
    cases e2 : pr_sig tx len n 24 x a1 with
    | none =>
      rw [e2] at h4
      show _ = none
      rw [h3]; exact h4
    | some r =>
      obtain ⟨y, a2⟩ := r
      rw [e2] at h4
      obtain ⟨d1, d2, d3, d4, d5⟩ := h4
      exact ⟨by omega, d2, d3, d4, h3.trans d5⟩
theorem pr_more_sim (hgc : gc ≤ 6) (hlen : len ≤ 24) {E : Option (Nat → Option (pg_F × Nat))} {κ : Nat} {fi : pg_F} {S : List pr_Fr} (hE : pr_EL tx len n gc g E S.length) : ∀ (f : Nat) (p y x : pg_F) (a : Nat), a ≤ len → len - a ≤ f → pg_mul p y = x → pr_look tx len a ≠ 39 → pr_look tx len a ≠ 94 → match pr_more tx len n gc g E f x a with
    | none => pr_res tx len n gc g a ((κ, p, some y, fi) :: S) = none
    | some (z, a1) => ∃ p2 f2, pg_mul p2 f2 = z ∧ a ≤ a1 ∧ a1 ≤ len ∧ pr_over (pr_look tx len a1) ∧ pr_res tx len n gc g a ((κ, p, some y, fi) :: S) = pr_res tx len n gc g a1 ((κ, p2, some f2, fi) :: S) := by
  intro f
  induction f with
  | zero =>
    intro p y x a ha hf hx _ _
    unfold pr_more
    exact ⟨p, y, hx, Nat.le_refl _, ha, Or.inl (pr_look_out (by omega)), rfl⟩
  | succ f ih =>
    intro p y x a ha hf hx c1 c2
    unfold pr_more
    by_cases q : pr_ovb (pr_look tx len a) = true
    · rw [if_pos q]
      exact ⟨p, y, hx, Nat.le_refl _, ha, (pr_ovb_iff _).mp q, rfl⟩
    · rw [if_neg q]
      have h := pr_fac_sim hgc hlen (κ := κ) (p := p) (fi := fi) (fo := some y) hE ha (Or.inr ⟨fun r => q ((pr_ovb_iff _).mpr r), c1, c2⟩)
      cases e : pr_fac tx len n gc g E a with
      | none => rw [e] at h; exact h
      | some r =>
        obtain ⟨z, a1⟩ := r
        rw [e] at h
        obtain ⟨h1, h2, h3, h4, h5⟩ := h
        have h6 := ih (pr_tk p (some y)) z (pg_mul x z) a1 h2 (by omega) (by rw [← hx]; rfl) h3 h4
        simp only
        cases e2 : pr_more tx len n gc g E f (pg_mul x z) a1 with
        | none =>
          rw [e2] at h6
          show _ = none
          rw [h5]; exact h6
        | some r =>
          obtain ⟨z2, a2⟩ := r
          rw [e2] at h6
          obtain ⟨p2, f2, d1, d2, d3, d4, d5⟩ := h6
          exact ⟨p2, f2, d1, by omega, d3, d4, h5.trans d5⟩
theorem pr_ex1_sim (hgc : gc ≤ 6) (hlen : len ≤ 24) {E : Option (Nat → Option (pg_F × Nat))} {S : List pr_Fr} (hE : pr_EL tx len n gc g E S.length) {a : Nat} (ha : a ≤ len) : pr_CL tx len n gc g (pr_ex1 tx len n gc g E a) a S := by
  intro κ fi
  have h := pr_fac_sim hgc hlen (κ := κ) (p := pg_id) (fi := fi) (fo := none) hE ha (Or.inl rfl)
  unfold pr_ex1
  cases e : pr_fac tx len n gc g E a with
  | none => rw [e] at h; exact h
  | some r =>
    obtain ⟨x, a1⟩ := r
    rw [e] at h
    obtain ⟨h1, h2, h3, h4, h5⟩ := h
    have h6 := pr_more_sim hgc hlen (κ := κ) (fi := fi) hE 23 pg_id x x a1 h2 (by omega) rfl h3 h4
    simp only
    cases e2 : pr_more tx len n gc g E 23 x a1 with
    | none =>
      rw [e2] at h6
      show _ = none
      rw [h5]; exact h6
    | some r =>
      obtain ⟨z, a2⟩ := r
      rw [e2] at h6
      obtain ⟨p2, f2, d1, d2, d3, d4, d5⟩ := h6
      exact ⟨p2, f2, d1, by omega, d3, d4, h5.trans d5⟩
theorem pr_exp_sim (hgc : gc ≤ 6) (hlen : len ≤ 24) : ∀ (k : Nat), k ≤ 4 → ∀ (a : Nat) (S : List pr_Fr), a ≤ len → S.length = 4 - k → pr_CL tx len n gc g (pr_exp tx len n gc g k a) a S := by
  intro k
  induction k with
  | zero => intro _ a S ha hS; exact pr_ex1_sim hgc hlen (E := none) (by rw [hS]; rfl) ha
  | succ k ih =>
    intro hk a S ha hS
    refine pr_ex1_sim hgc hlen (E := some (pr_exp tx len n gc g k)) ⟨by omega, fun a S' ha hS' => ih (by omega) a S' ha (by omega)⟩ ha
variable (tx len n gc g) in
/-- the text's element, if it is an expression -/
def pr_text : Option pg_F := match pr_exp tx len n gc g 4 0 with
  | some (x, a) => if a = len then some x else none
  | none => none
/-- THE ROW OF FRAMES COMES TO THE SAME AS THE DESCENT -/
theorem pr_same (hgc : gc ≤ 6) (hlen : len ≤ 24) (fi : pg_F) : pr_res tx len n gc g 0 [(0, pg_id, none, fi)] = pr_text tx len n gc g := by
  have h := pr_exp_sim (tx := tx) (n := n) (g := g) hgc hlen 4 (Nat.le_refl _) 0 [] (Nat.zero_le _) rfl 0 fi
  unfold pr_text
  cases e : pr_exp tx len n gc g 4 0 with
  | none => rw [e] at h; exact h
  | some r =>
    obtain ⟨x, a⟩ := r
    rw [e] at h
    obtain ⟨p, f, hx, h1, h2, h3, h4⟩ := h
    simp only
    rw [h4]
    by_cases q : a = len
    · rw [if_pos q, pr_res_end (by omega)]
      show some (pg_mul p f) = some x
      rw [hx]
    · rw [if_neg q]
      have hl : a < len := by omega
      rw [pr_look_in hl] at h3
      refine pr_res_none hl ?_
      unfold pr_step
      unfold pr_over at h3
      rcases h3 with q | q | q | q <;> simp [q]
end PR
/-- all that is read is an element -/
theorem pr_sig_P {tx : Nat → Nat} {len n : Nat} : ∀ (f : Nat) (x : pg_F) (a : Nat) (y : pg_F) (a1 : Nat), pg_P n x → pr_sig tx len n f x a = some (y, a1) → pg_P n y := by
  intro f
  induction f with
  | zero => intro x a y a1 hx h; cases h; exact hx
  | succ f ih =>
    intro x a y a1 hx h
    unfold pr_sig at h
    split at h
    · exact ih _ _ _ _ (pg_P_inv hx) h
    · split at h
      · split at h
        · exact ih _ _ _ _ (pg_P_pow hx _) h
        · cases h
      · cases h; exact hx
theorem pr_pri_P {tx : Nat → Nat} {len n gc : Nat} {g : Nat → pg_F} (hg : ∀ i, i < gc → pg_P n (g i)) {E : Option (Nat → Option (pg_F × Nat))} (hE : ∀ F, E = some F → ∀ a x a1, F a = some (x, a1) → pg_P n x) {a : Nat} {x : pg_F} {a1 : Nat} (h : pr_pri tx len n gc g E a = some (x, a1)) : pg_P n x := by
  have hlet : (if 97 ≤ pr_look tx len a ∧ pr_look tx len a < 97 + gc then some (g (pr_look tx len a - 97), a + 1) else none) = some (x, a1) → pg_P n x := by
    intro h
    split at h
    · cases h; exact hg _ (by omega)
    · cases h
  unfold pr_pri at h
  split at h
  · exact pr_cyc_P _ _ _ 0 _ _ (pr_cok_0 n) h
  · cases E with
    | none => exact hlet h
    | some E =>
      simp only at h
      split at h
      · split at h
        · rename_i x1 b1 e1
          split at h
          · split at h
            · rename_i y1 b2 e2
              split at h
              · cases h
                exact pg_P_comm (hE E rfl _ _ _ e1) (hE E rfl _ _ _ e2)
              · cases h
            · cases h
          · cases h
        · cases h
      · split at h
        · split at h
          · rename_i x1 b1 e1
            split at h
            · cases h
              exact hE E rfl _ _ _ e1
            · cases h
          · cases h
        · exact hlet h
theorem pr_fac_P {tx : Nat → Nat} {len n gc : Nat} {g : Nat → pg_F} (hg : ∀ i, i < gc → pg_P n (g i)) {E : Option (Nat → Option (pg_F × Nat))} (hE : ∀ F, E = some F → ∀ a x a1, F a = some (x, a1) → pg_P n x) {a : Nat} {x : pg_F} {a1 : Nat} (h : pr_fac tx len n gc g E a = some (x, a1)) : pg_P n x := by
  unfold pr_fac at h
  split at h
  · rename_i y b e
    exact pr_sig_P _ _ _ _ _ (pr_pri_P hg hE e) h
  · cases h
theorem pr_more_P {tx : Nat → Nat} {len n gc : Nat} {g : Nat → pg_F} (hg : ∀ i, i < gc → pg_P n (g i)) {E : Option (Nat → Option (pg_F × Nat))} (hE : ∀ F, E = some F → ∀ a x a1, F a = some (x, a1) → pg_P n x) : ∀ (f : Nat) (x : pg_F) (a : Nat) (y : pg_F) (a1 : Nat), pg_P n x → pr_more tx len n gc g E f x a = some (y, a1) → pg_P n y := by
  intro f
  induction f with
  | zero => intro x a y a1 hx h; cases h; exact hx
  | succ f ih =>
    intro x a y a1 hx h
    unfold pr_more at h
    split at h
    · cases h; exact hx
    · split at h
      · rename_i z b e
        exact ih _ _ _ _ (pg_P_mul hx (pr_fac_P hg hE e)) h
      · cases h
theorem pr_exp_P {tx : Nat → Nat} {len n gc : Nat} {g : Nat → pg_F} (hg : ∀ i, i < gc → pg_P n (g i)) : ∀ (k a : Nat) (x : pg_F) (a1 : Nat), pr_exp tx len n gc g k a = some (x, a1) → pg_P n x := by
  have one : ∀ {E : Option (Nat → Option (pg_F × Nat))}, (∀ F, E = some F → ∀ a x a1, F a = some (x, a1) → pg_P n x) → ∀ (a : Nat) (x : pg_F) (a1 : Nat), pr_ex1 tx len n gc g E a = some (x, a1) → pg_P n x := by
    intro E hE a x a1 h
    unfold pr_ex1 at h
    split at h
    · rename_i y b e
      exact pr_more_P hg hE _ _ _ _ _ (pr_fac_P hg hE e) h
    · cases h
  intro k
  induction k with
  | zero => intro a x a1 h; exact one (E := none) (fun F hF => by cases hF) a x a1 h
  | succ k ih => intro a x a1 h; exact one (E := some (pr_exp tx len n gc g k)) (fun F hF => by cases hF; exact ih) a x a1 h
theorem pr_text_P {tx : Nat → Nat} {len n gc : Nat} {g : Nat → pg_F} (hg : ∀ i, i < gc → pg_P n (g i)) {x : pg_F} (h : pr_text tx len n gc g = some x) : pg_P n x := by
  unfold pr_text at h
  split at h
  · rename_i y b e
    split at h
    · cases h; exact pr_exp_P hg _ _ _ _ e
    · cases h
  · cases h
