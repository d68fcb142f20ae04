/-! Desk and reference answer alike: pure. -/
def LSt (n : Nat) (u : dSt) (v : mSt) : Prop := ∃ a, dRp n a u ∧ mRp n a v
def LAg (n : Nat) (r b : Int32) (u : dSt) (fO : Nat → Int64) (v : mSt) : Prop := v.1 = r ∧ (r = 0 → fO 0 = b.toInt64) ∧ LSt n u v
theorem gOrd.eq {n : Nat} {G : pg_F → Prop} {r r' : Int32} (h : gOrd n G r) (h' : gOrd n G r') : r = r' := by
  obtain ⟨L, h1, rfl⟩ := h
  obtain ⟨L', h2, rfl⟩ := h'
  rw [h1.eq h2]
theorem ag_5 {a b : Nat} (ha : a < 5) (hb : b < 5) (h : nI a = nI b) : a = b := (nI_eq (by omega) (by omega)).mp h
theorem aTg.eq {gc : Nat} {tg : Nat → Option pg_F} {tt tt' : Nat → pg_F} (h : aTg gc tg tt) (h' : aTg gc tg tt') : ∀ k, k < gc → tt k = tt' k := fun k hk => Option.some.inj ((h k hk).symm.trans (h' k hk))
theorem pg_PS_cg {n c : Nat} {t t' g : Nat → pg_F} (h : ∀ k, k < c → t k = t' k) : pg_PS n c t g = pg_PS n c t' g := by
  funext z
  exact propext ⟨fun ⟨k, hk, e⟩ => ⟨k, hk, by rw [e, h k hk]⟩, fun ⟨k, hk, e⟩ => ⟨k, hk, by rw [e, h k hk]⟩⟩
theorem pg_GS_cg {c : Nat} {t t' : Nat → pg_F} (h : ∀ k, k < c → t k = t' k) : pg_GS c t = pg_GS c t' := by
  funext z
  exact propext ⟨fun ⟨k, hk, e⟩ => ⟨k, hk, by rw [e, h k hk]⟩, fun ⟨k, hk, e⟩ => ⟨k, hk, by rw [e, h k hk]⟩⟩
theorem pg_hom_cg {n c : Nat} {t t' g : Nat → pg_F} (h : ∀ k, k < c → t k = t' k) : pg_hom n c t g ↔ pg_hom n c t' g := by
  unfold pg_hom
  rw [pg_PS_cg h]
theorem aKer_cg {n c : Nat} {t t' g : Nat → pg_F} (h : ∀ k, k < c → t k = t' k) : aKer n c t g = aKer n c t' g := by
  unfold aKer
  rw [pg_PS_cg h]
theorem aTg.all {gc : Nat} {tg : Nat → Option pg_F} {tt : Nat → pg_F} (h : aTg gc tg tt) : ∀ k, k < gc → tg k ≠ none := fun k hk e => by rw [h k hk] at e; cases e
theorem ag_value {n len gc : Nat} {tx : Nat → Nat} {g : Nat → pg_F} {tg : Nat → Option pg_F} {Gs : Nat → pg_F → Prop} {r b : Int32} {u : dSt} {fO : Nat → Int64} {v : mSt} {x : Int32} (hn : n ≤ 7) (hw : (r = 0 ∧ ∃ r0 : Int32, fO 0 = r0.toInt64 ∧ (∃ (y : pg_F) (k : Nat), pr_text tx len n gc g = some y ∧ x = nI k ∧ k < n ∧ r0 = nI (y k)) ∧ dRp n (tx, len, g, gc, tg, Gs) u) ∨ (r = 1 ∧ pr_text tx len n gc g = none ∧ dRp n (tx, len, g, gc, tg, Gs) u) ∨ (r = 2 ∧ (pr_text tx len n gc g ≠ none ∧ ¬ iN x n) ∧ dRp n (tx, len, g, gc, tg, Gs) u)) (hm : ((v.1 = 0 ∧ ∃ (y : pg_F) (k : Nat), pr_text tx len n gc g = some y ∧ x = nI k ∧ k < n ∧ b = nI (y k)) ∨ (v.1 = 1 ∧ pr_text tx len n gc g = none) ∨ (v.1 = 2 ∧ pr_text tx len n gc g ≠ none ∧ ¬ iN x n)) ∧ mRp n (tx, len, g, gc, tg, Gs) v) : LAg n r b u fO v := by
  obtain ⟨hm, hM⟩ := hm
  rcases hw with ⟨rfl, r0, h0, ⟨y, k, h1, h2, h3, h4⟩, hD⟩ | ⟨rfl, h1, hD⟩ | ⟨rfl, ⟨h1, h2⟩, hD⟩
  · rcases hm with ⟨e1, y', k', f1, f2, f3, f4⟩ | ⟨e1, f1⟩ | ⟨e1, f1, f2⟩
    · rw [h1] at f1
      cases f1
      have := (nI_eq (by omega) (by omega)).mp (h2.symm.trans f2)
      subst this
      exact ⟨e1, fun _ => by rw [h0, h4, f4], _, hD, hM⟩
    · rw [h1] at f1; cases f1
    · exact absurd ⟨k, h2, h3⟩ f2
  · rcases hm with ⟨e1, y', k', f1, f2, f3, f4⟩ | ⟨e1, f1⟩ | ⟨e1, f1, f2⟩
    · rw [h1] at f1; cases f1
    · exact ⟨e1, fun q => absurd q (by decide), _, hD, hM⟩
    · exact absurd h1 f1
  · rcases hm with ⟨e1, y', k', f1, f2, f3, f4⟩ | ⟨e1, f1⟩ | ⟨e1, f1, f2⟩
    · exact absurd ⟨k', f2, f3⟩ h2
    · exact absurd f1 h1
    · exact ⟨e1, fun q => absurd q (by decide), _, hD, hM⟩
theorem ag_generate {n len gc : Nat} {tx : Nat → Nat} {g : Nat → pg_F} {tg : Nat → Option pg_F} {Gs : Nat → pg_F → Prop} {r b : Int32} {u : dSt} {fO : Nat → Int64} {v : mSt} (hw : (r = 0 ∧ ∃ r0 : Int32, fO 0 = r0.toInt64 ∧ ∃ y : pg_F, pr_text tx len n gc g = some y ∧ gc < 6 ∧ r0 = nI (gc + 1) ∧ dRp n (tx, len, va_up g gc y, gc + 1, va_up tg gc none, va_up Gs 0 (pg_and (Gs 0) y)) u) ∨ (r = 1 ∧ pr_text tx len n gc g = none ∧ dRp n (tx, len, g, gc, tg, Gs) u) ∨ (r = 2 ∧ (pr_text tx len n gc g ≠ none ∧ ¬ gc < 6) ∧ dRp n (tx, len, g, gc, tg, Gs) u)) (hm : (v.1 = 0 ∧ ∃ y : pg_F, pr_text tx len n gc g = some y ∧ gc < 6 ∧ b = nI (gc + 1) ∧ mRp n (tx, len, va_up g gc y, gc + 1, va_up tg gc none, va_up Gs 0 (pg_and (Gs 0) y)) v) ∨ (((v.1 = 1 ∧ pr_text tx len n gc g = none) ∨ (v.1 = 2 ∧ pr_text tx len n gc g ≠ none ∧ ¬ gc < 6)) ∧ mRp n (tx, len, g, gc, tg, Gs) v)) : LAg n r b u fO v := by
  rcases hw with ⟨rfl, r0, h0, y, h1, h2, h3, hD⟩ | ⟨rfl, h1, hD⟩ | ⟨rfl, ⟨h1, h2⟩, hD⟩
  · rcases hm with ⟨e1, y', f1, f2, f3, hM⟩ | ⟨⟨e1, f1⟩ | ⟨e1, f1, f2⟩, hM⟩
    · rw [h1] at f1
      cases f1
      exact ⟨e1, fun _ => by rw [h0, h3, f3], _, hD, hM⟩
    · rw [h1] at f1; cases f1
    · exact absurd h2 f2
  · rcases hm with ⟨e1, y', f1, f2, f3, hM⟩ | ⟨⟨e1, f1⟩ | ⟨e1, f1, f2⟩, hM⟩
    · rw [h1] at f1; cases f1
    · exact ⟨e1, fun q => absurd q (by decide), _, hD, hM⟩
    · exact absurd h1 f1
  · rcases hm with ⟨e1, y', f1, f2, f3, hM⟩ | ⟨⟨e1, f1⟩ | ⟨e1, f1, f2⟩, hM⟩
    · exact absurd f2 h2
    · exact absurd f1 h1
    · exact ⟨e1, fun q => absurd q (by decide), _, hD, hM⟩
theorem ag_image {n len gc : Nat} {tx : Nat → Nat} {g : Nat → pg_F} {tg : Nat → Option pg_F} {Gs : Nat → pg_F → Prop} {r : Int32} {u : dSt} {v : mSt} {x : Int32} (hgc : gc ≤ 6) (hw : (r = 0 ∧ ∃ (y : pg_F) (k : Nat), pr_text tx len n gc g = some y ∧ x = nI k ∧ k < gc ∧ dRp n (tx, len, g, gc, va_up tg k (some y), Gs) u) ∨ (r = 1 ∧ pr_text tx len n gc g = none ∧ dRp n (tx, len, g, gc, tg, Gs) u) ∨ (r = 2 ∧ (pr_text tx len n gc g ≠ none ∧ ¬ iN x gc) ∧ dRp n (tx, len, g, gc, tg, Gs) u)) (hm : (v.1 = 0 ∧ ∃ (y : pg_F) (k : Nat), pr_text tx len n gc g = some y ∧ x = nI k ∧ k < gc ∧ mRp n (tx, len, g, gc, va_up tg k (some y), Gs) v) ∨ (((v.1 = 1 ∧ pr_text tx len n gc g = none) ∨ (v.1 = 2 ∧ pr_text tx len n gc g ≠ none ∧ ¬ iN x gc)) ∧ mRp n (tx, len, g, gc, tg, Gs) v)) : v.1 = r ∧ LSt n u v := by
  rcases hw with ⟨rfl, y, k, h1, h2, h3, hD⟩ | ⟨rfl, h1, hD⟩ | ⟨rfl, ⟨h1, h2⟩, hD⟩
  · rcases hm with ⟨e1, y', k', f1, f2, f3, hM⟩ | ⟨⟨e1, f1⟩ | ⟨e1, f1, f2⟩, hM⟩
    · rw [h1] at f1
      cases f1
      have := (nI_eq (by omega) (by omega)).mp (h2.symm.trans f2)
      subst this
      exact ⟨e1, _, hD, hM⟩
    · rw [h1] at f1; cases f1
    · exact absurd ⟨k, h2, h3⟩ f2
  · rcases hm with ⟨e1, y', k', f1, f2, f3, hM⟩ | ⟨⟨e1, f1⟩ | ⟨e1, f1, f2⟩, hM⟩
    · rw [h1] at f1; cases f1
    · exact ⟨e1, _, hD, hM⟩
    · exact absurd h1 f1
  · rcases hm with ⟨e1, y', k', f1, f2, f3, hM⟩ | ⟨⟨e1, f1⟩ | ⟨e1, f1, f2⟩, hM⟩
    · exact absurd ⟨k', f2, f3⟩ h2
    · exact absurd f1 h1
    · exact ⟨e1, _, hD, hM⟩
theorem ag_extend {n len gc : Nat} {tx : Nat → Nat} {g : Nat → pg_F} {tg : Nat → Option pg_F} {Gs : Nat → pg_F → Prop} {r b : Int32} {u : dSt} {fO : Nat → Int64} {v : mSt} (hw : (r = 0 ∧ ∃ (tt : Nat → pg_F) (b : Bool), fO 0 = (bI b).toInt64 ∧ aTg gc tg tt ∧ (b = true ↔ pg_hom n gc tt g) ∧ dRp n (tx, len, g, gc, tg, Gs) u) ∨ (r = 1 ∧ ¬ (∀ k, k < gc → tg k ≠ none) ∧ dRp n (tx, len, g, gc, tg, Gs) u)) (hm : ((v.1 = 0 ∧ ∃ (tt : Nat → pg_F) (b' : Bool), aTg gc tg tt ∧ b = bI b' ∧ (b' = true ↔ pg_hom n gc tt g)) ∨ (v.1 = 1 ∧ ¬ (∀ k, k < gc → tg k ≠ none))) ∧ mRp n (tx, len, g, gc, tg, Gs) v) : LAg n r b u fO v := by
  obtain ⟨hm, hM⟩ := hm
  rcases hw with ⟨rfl, tt, b1, h0, h1, h2, hD⟩ | ⟨rfl, h1, hD⟩
  · rcases hm with ⟨e1, tt', b2, f1, f2, f3⟩ | ⟨e1, f1⟩
    · have hb : b1 = b2 := by
        have h3 : b1 = true ↔ b2 = true := by rw [h2, f3]; exact pg_hom_cg (h1.eq f1)
        cases b1 <;> cases b2 <;> simp_all
      exact ⟨e1, fun _ => by rw [h0, f2, hb], _, hD, hM⟩
    · exact absurd h1.all f1
  · rcases hm with ⟨e1, tt', b2, f1, f2, f3⟩ | ⟨e1, f1⟩
    · exact absurd f1.all h1
    · exact ⟨e1, fun q => absurd q (by decide), _, hD, hM⟩
theorem ag_kernel {n len gc : Nat} {tx : Nat → Nat} {g : Nat → pg_F} {tg : Nat → Option pg_F} {Gs : Nat → pg_F → Prop} {r b : Int32} {u : dSt} {fO : Nat → Int64} {v : mSt} {x : Int32} (hw : (r = 0 ∧ ∃ r0 : Int32, fO 0 = r0.toInt64 ∧ ∃ (tt : Nat → pg_F) (i : Nat), aTg gc tg tt ∧ x = nI i ∧ i < 5 ∧ i ≠ 0 ∧ pg_hom n gc tt g ∧ gOrd n (aKer n gc tt g) r0 ∧ dRp n (tx, len, g, gc, tg, va_up Gs i (aKer n gc tt g)) u) ∨ (r = 1 ∧ ¬ (iN x 5 ∧ x ≠ 0) ∧ dRp n (tx, len, g, gc, tg, Gs) u) ∨ (r = 2 ∧ ((iN x 5 ∧ x ≠ 0) ∧ (¬ (∀ k, k < gc → tg k ≠ none) ∨ ∃ tt, aTg gc tg tt ∧ ¬ pg_hom n gc tt g)) ∧ dRp n (tx, len, g, gc, tg, Gs) u)) (hm : (v.1 = 0 ∧ ∃ (tt : Nat → pg_F) (i : Nat), aTg gc tg tt ∧ x = nI i ∧ i < 5 ∧ i ≠ 0 ∧ pg_hom n gc tt g ∧ gOrd n (aKer n gc tt g) b ∧ mRp n (tx, len, g, gc, tg, va_up Gs i (aKer n gc tt g)) v) ∨ (((v.1 = 1 ∧ ¬ (iN x 5 ∧ x ≠ 0)) ∨ (v.1 = 2 ∧ (iN x 5 ∧ x ≠ 0) ∧ (¬ (∀ k, k < gc → tg k ≠ none) ∨ ∃ tt, aTg gc tg tt ∧ ¬ pg_hom n gc tt g))) ∧ mRp n (tx, len, g, gc, tg, Gs) v)) : LAg n r b u fO v := by
  have hx0 : ∀ i, i < 5 → i ≠ 0 → x = nI i → iN x 5 ∧ x ≠ 0 := fun i h1 h2 h3 => ⟨⟨i, h3, h1⟩, fun e => h2 ((nI_eq (a := i) (b := 0) (by omega) (by omega)).mp (h3.symm.trans e))⟩
  have hno : ∀ tt, aTg gc tg tt → pg_hom n gc tt g → (¬ (∀ k, k < gc → tg k ≠ none) ∨ ∃ tt, aTg gc tg tt ∧ ¬ pg_hom n gc tt g) → False := by
    rintro tt h1 h2 (h3 | ⟨tt', h3, h4⟩)
    · exact h3 h1.all
    · exact h4 ((pg_hom_cg (h1.eq h3)).mp h2)
  rcases hw with ⟨rfl, r0, h0, tt, i, h1, h2, h3, h4, h5, h6, hD⟩ | ⟨rfl, h1, hD⟩ | ⟨rfl, ⟨h1, h2⟩, hD⟩
  · rcases hm with ⟨e1, tt', i', f1, f2, f3, f4, f5, f6, hM⟩ | ⟨⟨e1, f1⟩ | ⟨e1, f1, f2⟩, hM⟩
    · have e2 := ag_5 h3 f3 (h2.symm.trans f2)
      subst e2
      rw [← aKer_cg (g := g) (n := n) (h1.eq f1)] at f6 hM
      exact ⟨e1, fun _ => by rw [h0, h6.eq f6], _, hD, hM⟩
    · exact absurd (hx0 i h3 h4 h2) f1
    · exact (hno tt h1 h5 f2).elim
  · rcases hm with ⟨e1, tt', i', f1, f2, f3, f4, f5, f6, hM⟩ | ⟨⟨e1, f1⟩ | ⟨e1, f1, f2⟩, hM⟩
    · exact absurd (hx0 i' f3 f4 f2) h1
    · exact ⟨e1, fun q => absurd q (by decide), _, hD, hM⟩
    · exact absurd f1 h1
  · rcases hm with ⟨e1, tt', i', f1, f2, f3, f4, f5, f6, hM⟩ | ⟨⟨e1, f1⟩ | ⟨e1, f1, f2⟩, hM⟩
    · exact (hno tt' f1 f5 h2).elim
    · exact absurd h1 f1
    · exact ⟨e1, fun q => absurd q (by decide), _, hD, hM⟩
theorem ag_images {n len gc : Nat} {tx : Nat → Nat} {g : Nat → pg_F} {tg : Nat → Option pg_F} {Gs : Nat → pg_F → Prop} {r b : Int32} {u : dSt} {fO : Nat → Int64} {v : mSt} {x : Int32} (hw : (r = 0 ∧ ∃ r0 : Int32, fO 0 = r0.toInt64 ∧ ∃ (tt : Nat → pg_F) (i : Nat), aTg gc tg tt ∧ x = nI i ∧ i < 5 ∧ i ≠ 0 ∧ gOrd n (pg_Gen (pg_GS gc tt)) r0 ∧ dRp n (tx, len, g, gc, tg, va_up Gs i (pg_Gen (pg_GS gc tt))) u) ∨ (r = 1 ∧ ¬ (iN x 5 ∧ x ≠ 0) ∧ dRp n (tx, len, g, gc, tg, Gs) u) ∨ (r = 2 ∧ ((iN x 5 ∧ x ≠ 0) ∧ ¬ (∀ k, k < gc → tg k ≠ none)) ∧ dRp n (tx, len, g, gc, tg, Gs) u)) (hm : (v.1 = 0 ∧ ∃ (tt : Nat → pg_F) (i : Nat), aTg gc tg tt ∧ x = nI i ∧ i < 5 ∧ i ≠ 0 ∧ gOrd n (pg_Gen (pg_GS gc tt)) b ∧ mRp n (tx, len, g, gc, tg, va_up Gs i (pg_Gen (pg_GS gc tt))) v) ∨ (((v.1 = 1 ∧ ¬ (iN x 5 ∧ x ≠ 0)) ∨ (v.1 = 2 ∧ (iN x 5 ∧ x ≠ 0) ∧ ¬ (∀ k, k < gc → tg k ≠ none))) ∧ mRp n (tx, len, g, gc, tg, Gs) v)) : LAg n r b u fO v := by
  have hx0 : ∀ i, i < 5 → i ≠ 0 → x = nI i → iN x 5 ∧ x ≠ 0 := fun i h1 h2 h3 => ⟨⟨i, h3, h1⟩, fun e => h2 ((nI_eq (a := i) (b := 0) (by omega) (by omega)).mp (h3.symm.trans e))⟩
  rcases hw with ⟨rfl, r0, h0, tt, i, h1, h2, h3, h4, h6, hD⟩ | ⟨rfl, h1, hD⟩ | ⟨rfl, ⟨h1, h2⟩, hD⟩
  · rcases hm with ⟨e1, tt', i', f1, f2, f3, f4, f6, hM⟩ | ⟨⟨e1, f1⟩ | ⟨e1, f1, f2⟩, hM⟩
    · have e2 := ag_5 h3 f3 (h2.symm.trans f2)
      subst e2
      rw [← pg_GS_cg (h1.eq f1)] at f6 hM
      exact ⟨e1, fun _ => by rw [h0, h6.eq f6], _, hD, hM⟩
    · exact absurd (hx0 i h3 h4 h2) f1
    · exact absurd h1.all f2
  · rcases hm with ⟨e1, tt', i', f1, f2, f3, f4, f6, hM⟩ | ⟨⟨e1, f1⟩ | ⟨e1, f1, f2⟩, hM⟩
    · exact absurd (hx0 i' f3 f4 f2) h1
    · exact ⟨e1, fun q => absurd q (by decide), _, hD, hM⟩
    · exact absurd f1 h1
  · rcases hm with ⟨e1, tt', i', f1, f2, f3, f4, f6, hM⟩ | ⟨⟨e1, f1⟩ | ⟨e1, f1, f2⟩, hM⟩
    · exact absurd f1.all h2
    · exact absurd h1 f1
    · exact ⟨e1, fun q => absurd q (by decide), _, hD, hM⟩
theorem ag_oks {x w : Int32} {i j : Nat} (h1 : x = nI i) (h2 : i < 5) (h3 : w = nI j) (h4 : j < 5) (h5 : j ≠ 0) : (iN x 5 ∧ iN w 5 ∧ w ≠ 0) := ⟨⟨i, h1, h2⟩, ⟨j, h3, h4⟩, fun e => h5 ((nI_eq (a := j) (b := 0) (by omega) (by omega)).mp (h3.symm.trans e))⟩
theorem ag_stabiliser {n len gc : Nat} {tx : Nat → Nat} {g : Nat → pg_F} {tg : Nat → Option pg_F} {Gs : Nat → pg_F → Prop} {r b : Int32} {u : dSt} {fO : Nat → Int64} {v : mSt} {x y w : Int32} {wh : Bool} (hn : n ≤ 7) (hw : (r = 0 ∧ ∃ r0 : Int32, fO 0 = r0.toInt64 ∧ ∃ (i j m9 : Nat), x = nI i ∧ i < 5 ∧ w = nI j ∧ j < 5 ∧ j ≠ 0 ∧ y = nI m9 ∧ m9 < 2 ^ n ∧ gOrd n (aStb n m9 wh (Gs i)) r0 ∧ dRp n (tx, len, g, gc, tg, va_up Gs j (aStb n m9 wh (Gs i))) u) ∨ (r = 1 ∧ ¬ (iN x 5 ∧ iN w 5 ∧ w ≠ 0) ∧ dRp n (tx, len, g, gc, tg, Gs) u) ∨ (r = 2 ∧ ((iN x 5 ∧ iN w 5 ∧ w ≠ 0) ∧ ¬ iN y (2 ^ n)) ∧ dRp n (tx, len, g, gc, tg, Gs) u)) (hm : (v.1 = 0 ∧ ∃ (i j m9 : Nat), x = nI i ∧ i < 5 ∧ w = nI j ∧ j < 5 ∧ j ≠ 0 ∧ y = nI m9 ∧ m9 < 2 ^ n ∧ gOrd n (aStb n m9 wh (Gs i)) b ∧ mRp n (tx, len, g, gc, tg, va_up Gs j (aStb n m9 wh (Gs i))) v) ∨ (((v.1 = 1 ∧ ¬ (iN x 5 ∧ iN w 5 ∧ w ≠ 0)) ∨ (v.1 = 2 ∧ (iN x 5 ∧ iN w 5 ∧ w ≠ 0) ∧ ¬ iN y (2 ^ n))) ∧ mRp n (tx, len, g, gc, tg, Gs) v)) : LAg n r b u fO v := by
  have h2n : 2 ^ n ≤ 2 ^ 7 := Nat.pow_le_pow_right (by decide) hn
  rcases hw with ⟨rfl, r0, h0, i, j, m9, h1, h2, h3, h4, h5, h6, h7, h8, hD⟩ | ⟨rfl, h1, hD⟩ | ⟨rfl, ⟨h1, h2⟩, hD⟩
  · rcases hm with ⟨e1, i', j', m', f1, f2, f3, f4, f5, f6, f7, f8, hM⟩ | ⟨⟨e1, f1⟩ | ⟨e1, f1, f2⟩, hM⟩
    · have e2 := ag_5 h2 f2 (h1.symm.trans f1)
      have e3 := ag_5 h4 f4 (h3.symm.trans f3)
      have e4 := (nI_eq (by omega) (by omega)).mp (h6.symm.trans f6)
      subst e2 e3 e4
      exact ⟨e1, fun _ => by rw [h0, h8.eq f8], _, hD, hM⟩
    · exact absurd (ag_oks h1 h2 h3 h4 h5) f1
    · exact absurd ⟨m9, h6, h7⟩ f2
  · rcases hm with ⟨e1, i', j', m', f1, f2, f3, f4, f5, f6, f7, f8, hM⟩ | ⟨⟨e1, f1⟩ | ⟨e1, f1, f2⟩, hM⟩
    · exact absurd (ag_oks f1 f2 f3 f4 f5) h1
    · exact ⟨e1, fun q => absurd q (by decide), _, hD, hM⟩
    · exact absurd f1 h1
  · rcases hm with ⟨e1, i', j', m', f1, f2, f3, f4, f5, f6, f7, f8, hM⟩ | ⟨⟨e1, f1⟩ | ⟨e1, f1, f2⟩, hM⟩
    · exact absurd ⟨m', f6, f7⟩ h2
    · exact absurd h1 f1
    · exact ⟨e1, fun q => absurd q (by decide), _, hD, hM⟩
theorem ag_centraliser {n len gc : Nat} {tx : Nat → Nat} {g : Nat → pg_F} {tg : Nat → Option pg_F} {Gs : Nat → pg_F → Prop} {r b : Int32} {u : dSt} {fO : Nat → Int64} {v : mSt} {x w : Int32} (hw : (r = 0 ∧ ∃ r0 : Int32, fO 0 = r0.toInt64 ∧ ∃ (i j : Nat) (y : pg_F), pr_text tx len n gc g = some y ∧ x = nI i ∧ i < 5 ∧ w = nI j ∧ j < 5 ∧ j ≠ 0 ∧ gOrd n (aCen y (Gs i)) r0 ∧ dRp n (tx, len, g, gc, tg, va_up Gs j (aCen y (Gs i))) u) ∨ (r = 1 ∧ ¬ (iN x 5 ∧ iN w 5 ∧ w ≠ 0) ∧ dRp n (tx, len, g, gc, tg, Gs) u) ∨ (r = 2 ∧ ((iN x 5 ∧ iN w 5 ∧ w ≠ 0) ∧ pr_text tx len n gc g = none) ∧ dRp n (tx, len, g, gc, tg, Gs) u)) (hm : (v.1 = 0 ∧ ∃ (i j : Nat) (y : pg_F), pr_text tx len n gc g = some y ∧ x = nI i ∧ i < 5 ∧ w = nI j ∧ j < 5 ∧ j ≠ 0 ∧ gOrd n (aCen y (Gs i)) b ∧ mRp n (tx, len, g, gc, tg, va_up Gs j (aCen y (Gs i))) v) ∨ (((v.1 = 1 ∧ ¬ (iN x 5 ∧ iN w 5 ∧ w ≠ 0)) ∨ (v.1 = 2 ∧ (iN x 5 ∧ iN w 5 ∧ w ≠ 0) ∧ pr_text tx len n gc g = none)) ∧ mRp n (tx, len, g, gc, tg, Gs) v)) : LAg n r b u fO v := by
  rcases hw with ⟨rfl, r0, h0, i, j, y, hy, h1, h2, h3, h4, h5, h8, hD⟩ | ⟨rfl, h1, hD⟩ | ⟨rfl, ⟨h1, h2⟩, hD⟩
  · rcases hm with ⟨e1, i', j', y', hy', f1, f2, f3, f4, f5, f8, hM⟩ | ⟨⟨e1, f1⟩ | ⟨e1, f1, f2⟩, hM⟩
    · have e2 := ag_5 h2 f2 (h1.symm.trans f1)
      have e3 := ag_5 h4 f4 (h3.symm.trans f3)
      subst e2 e3
      rw [hy] at hy'
      cases hy'
      exact ⟨e1, fun _ => by rw [h0, h8.eq f8], _, hD, hM⟩
    · exact absurd (ag_oks h1 h2 h3 h4 h5) f1
    · rw [hy] at f2; cases f2
  · rcases hm with ⟨e1, i', j', y', hy', f1, f2, f3, f4, f5, f8, hM⟩ | ⟨⟨e1, f1⟩ | ⟨e1, f1, f2⟩, hM⟩
    · exact absurd (ag_oks f1 f2 f3 f4 f5) h1
    · exact ⟨e1, fun q => absurd q (by decide), _, hD, hM⟩
    · exact absurd f1 h1
  · rcases hm with ⟨e1, i', j', y', hy', f1, f2, f3, f4, f5, f8, hM⟩ | ⟨⟨e1, f1⟩ | ⟨e1, f1, f2⟩, hM⟩
    · rw [hy'] at h2; cases h2
    · exact absurd h1 f1
    · exact ⟨e1, fun q => absurd q (by decide), _, hD, hM⟩
theorem ag_closure {n len gc : Nat} {tx : Nat → Nat} {g : Nat → pg_F} {tg : Nat → Option pg_F} {Gs : Nat → pg_F → Prop} {r b : Int32} {u : dSt} {fO : Nat → Int64} {v : mSt} {x w : Int32} (hGG : ∀ i, i < 5 → pg_G n (Gs i)) (hg : ∀ i, i < gc → pg_P n (g i)) (hw : (r = 0 ∧ ∃ r0 : Int32, fO 0 = r0.toInt64 ∧ ∃ (y : pg_F) (i j : Nat) (N : pg_F → Prop), pr_text tx len n gc g = some y ∧ x = nI i ∧ i < 5 ∧ w = nI j ∧ j < 5 ∧ j ≠ 0 ∧ pg_ncl n (pg_and (fun x => x = pg_id) y) (Gs i) N ∧ gOrd n N r0 ∧ dRp n (tx, len, g, gc, tg, va_up Gs j N) u) ∨ (r = 1 ∧ ¬ (iN x 5 ∧ iN w 5 ∧ w ≠ 0) ∧ dRp n (tx, len, g, gc, tg, Gs) u) ∨ (r = 2 ∧ ((iN x 5 ∧ iN w 5 ∧ w ≠ 0) ∧ pr_text tx len n gc g = none) ∧ dRp n (tx, len, g, gc, tg, Gs) u)) (hm : (v.1 = 0 ∧ ∃ (y : pg_F) (i j : Nat), pr_text tx len n gc g = some y ∧ x = nI i ∧ i < 5 ∧ w = nI j ∧ j < 5 ∧ j ≠ 0 ∧ gOrd n (pg_Gen (fun z => ∃ x, Gs i x ∧ z = pg_conj n y x)) b ∧ mRp n (tx, len, g, gc, tg, va_up Gs j (pg_Gen (fun z => ∃ x, Gs i x ∧ z = pg_conj n y x))) v) ∨ (((v.1 = 1 ∧ ¬ (iN x 5 ∧ iN w 5 ∧ w ≠ 0)) ∨ (v.1 = 2 ∧ (iN x 5 ∧ iN w 5 ∧ w ≠ 0) ∧ pr_text tx len n gc g = none)) ∧ mRp n (tx, len, g, gc, tg, Gs) v)) : LAg n r b u fO v := by
  rcases hw with ⟨rfl, r0, h0, y, i, j, N, hy, h1, h2, h3, h4, h5, hN, h8, hD⟩ | ⟨rfl, h1, hD⟩ | ⟨rfl, ⟨h1, h2⟩, hD⟩
  · rcases hm with ⟨e1, y', i', j', hy', f1, f2, f3, f4, f5, f8, hM⟩ | ⟨⟨e1, f1⟩ | ⟨e1, f1, f2⟩, hM⟩
    · have e2 := ag_5 h2 f2 (h1.symm.trans f1)
      have e3 := ag_5 h4 f4 (h3.symm.trans f3)
      subst e2 e3
      rw [hy] at hy'
      cases hy'
      have hyP := pr_text_P hg hy
      have hN' := pg_ncl_conj (hGG i h2) hyP
      have hy1 := hN'.2.1 y rfl
      have e4 : N = pg_Gen (fun z => ∃ x, Gs i x ∧ z = pg_conj n y x) := pg_ncl_eq hN hN' (fun z hz => pg_and_least hN'.1 (fun q hq => by rw [hq]; exact hN'.1.2.1) hy1 hz) (fun z hz => by rw [hz]; exact hN.2.1 y pg_and_x)
      rw [← e4] at f8 hM
      exact ⟨e1, fun _ => by rw [h0, h8.eq f8], _, hD, hM⟩
    · exact absurd (ag_oks h1 h2 h3 h4 h5) f1
    · rw [hy] at f2; cases f2
  · rcases hm with ⟨e1, y', i', j', hy', f1, f2, f3, f4, f5, f8, hM⟩ | ⟨⟨e1, f1⟩ | ⟨e1, f1, f2⟩, hM⟩
    · exact absurd (ag_oks f1 f2 f3 f4 f5) h1
    · exact ⟨e1, fun q => absurd q (by decide), _, hD, hM⟩
    · exact absurd f1 h1
  · rcases hm with ⟨e1, y', i', j', hy', f1, f2, f3, f4, f5, f8, hM⟩ | ⟨⟨e1, f1⟩ | ⟨e1, f1, f2⟩, hM⟩
    · rw [hy'] at h2; cases h2
    · exact absurd h1 f1
    · exact ⟨e1, fun q => absurd q (by decide), _, hD, hM⟩
theorem ag_derived {n len gc : Nat} {tx : Nat → Nat} {g : Nat → pg_F} {tg : Nat → Option pg_F} {Gs : Nat → pg_F → Prop} {r b : Int32} {u : dSt} {fO : Nat → Int64} {v : mSt} {x w : Int32} (hw : (r = 0 ∧ ∃ r0 : Int32, fO 0 = r0.toInt64 ∧ ∃ (i j : Nat), x = nI i ∧ i < 5 ∧ w = nI j ∧ j < 5 ∧ j ≠ 0 ∧ gOrd n (aDer n (Gs i)) r0 ∧ dRp n (tx, len, g, gc, tg, va_up Gs j (aDer n (Gs i))) u) ∨ (r = 1 ∧ ¬ (iN x 5 ∧ iN w 5 ∧ w ≠ 0) ∧ dRp n (tx, len, g, gc, tg, Gs) u)) (hm : (v.1 = 0 ∧ ∃ (i j : Nat), x = nI i ∧ i < 5 ∧ w = nI j ∧ j < 5 ∧ j ≠ 0 ∧ gOrd n (aDer n (Gs i)) b ∧ mRp n (tx, len, g, gc, tg, va_up Gs j (aDer n (Gs i))) v) ∨ ((v.1 = 1 ∧ ¬ (iN x 5 ∧ iN w 5 ∧ w ≠ 0)) ∧ mRp n (tx, len, g, gc, tg, Gs) v)) : LAg n r b u fO v := by
  rcases hw with ⟨rfl, r0, h0, i, j, h1, h2, h3, h4, h5, h8, hD⟩ | ⟨rfl, h1, hD⟩
  · rcases hm with ⟨e1, i', j', f1, f2, f3, f4, f5, f8, hM⟩ | ⟨⟨e1, f1⟩, hM⟩
    · have e2 := ag_5 h2 f2 (h1.symm.trans f1)
      have e3 := ag_5 h4 f4 (h3.symm.trans f3)
      subst e2 e3
      exact ⟨e1, fun _ => by rw [h0, h8.eq f8], _, hD, hM⟩
    · exact absurd (ag_oks h1 h2 h3 h4 h5) f1
  · rcases hm with ⟨e1, i', j', f1, f2, f3, f4, f5, f8, hM⟩ | ⟨⟨e1, f1⟩, hM⟩
    · exact absurd (ag_oks f1 f2 f3 f4 f5) h1
    · exact ⟨e1, fun q => absurd q (by decide), _, hD, hM⟩
theorem ag_order {n len gc : Nat} {tx : Nat → Nat} {g : Nat → pg_F} {tg : Nat → Option pg_F} {Gs : Nat → pg_F → Prop} {r b : Int32} {u : dSt} {fO : Nat → Int64} {v : mSt} {x : Int32} (hw : (r = 0 ∧ ∃ r0 : Int32, fO 0 = r0.toInt64 ∧ (∃ i : Nat, x = nI i ∧ i < 5 ∧ gOrd n (Gs i) r0) ∧ dRp n (tx, len, g, gc, tg, Gs) u) ∨ (r = 1 ∧ ¬ iN x 5 ∧ dRp n (tx, len, g, gc, tg, Gs) u)) (hm : ((v.1 = 0 ∧ ∃ i : Nat, x = nI i ∧ i < 5 ∧ gOrd n (Gs i) b) ∨ (v.1 = 1 ∧ ¬ iN x 5)) ∧ mRp n (tx, len, g, gc, tg, Gs) v) : LAg n r b u fO v := by
  obtain ⟨hm, hM⟩ := hm
  rcases hw with ⟨rfl, r0, h0, ⟨i, h1, h2, h3⟩, hD⟩ | ⟨rfl, h1, hD⟩
  · rcases hm with ⟨e1, i', f1, f2, f3⟩ | ⟨e1, f1⟩
    · have e2 := ag_5 h2 f2 (h1.symm.trans f1)
      subst e2
      exact ⟨e1, fun _ => by rw [h0, h3.eq f3], _, hD, hM⟩
    · exact absurd ⟨i, h1, h2⟩ f1
  · rcases hm with ⟨e1, i', f1, f2, f3⟩ | ⟨e1, f1⟩
    · exact absurd ⟨i', f1, f2⟩ h1
    · exact ⟨e1, fun q => absurd q (by decide), _, hD, hM⟩
theorem ag_rank {n len gc : Nat} {tx : Nat → Nat} {g : Nat → pg_F} {tg : Nat → Option pg_F} {Gs : Nat → pg_F → Prop} {r b : Int32} {u : dSt} {fO : Nat → Int64} {v : mSt} {x : Int32} (hw : (r = 0 ∧ ∃ r0 : Int32, fO 0 = r0.toInt64 ∧ (∃ (i : Nat) (y : pg_F), x = nI i ∧ i < 5 ∧ pr_text tx len n gc g = some y ∧ ((∃ (L : List pg_F) (j : Nat), pg_row n (Gs i) L ∧ L[j]? = some y ∧ r0 = nI j) ∨ (¬ Gs i y ∧ r0 = -1))) ∧ dRp n (tx, len, g, gc, tg, Gs) u) ∨ (r = 1 ∧ ¬ iN x 5 ∧ dRp n (tx, len, g, gc, tg, Gs) u) ∨ (r = 2 ∧ (iN x 5 ∧ pr_text tx len n gc g = none) ∧ dRp n (tx, len, g, gc, tg, Gs) u)) (hm : ((v.1 = 0 ∧ ∃ (i : Nat) (y : pg_F), x = nI i ∧ i < 5 ∧ pr_text tx len n gc g = some y ∧ ((∃ (L : List pg_F) (j : Nat), pg_row n (Gs i) L ∧ L[j]? = some y ∧ b = nI j) ∨ (¬ Gs i y ∧ b = -1))) ∨ (v.1 = 1 ∧ ¬ iN x 5) ∨ (v.1 = 2 ∧ iN x 5 ∧ pr_text tx len n gc g = none)) ∧ mRp n (tx, len, g, gc, tg, Gs) v) : LAg n r b u fO v := by
  obtain ⟨hm, hM⟩ := hm
  rcases hw with ⟨rfl, r0, h0, ⟨i, y, h1, h2, h3, h4⟩, hD⟩ | ⟨rfl, h1, hD⟩ | ⟨rfl, ⟨h1, h2⟩, hD⟩
  · rcases hm with ⟨e1, i', y', f1, f2, f3, f4⟩ | ⟨e1, f1⟩ | ⟨e1, f1, f2⟩
    · have e2 := ag_5 h2 f2 (h1.symm.trans f1)
      subst e2
      rw [h3] at f3
      cases f3
      refine ⟨e1, fun _ => ?_, _, hD, hM⟩
      rw [h0]
      rcases h4 with ⟨L, j, q1, q2, q3⟩ | ⟨q1, q2⟩
      · rcases f4 with ⟨L', j', p1, p2, p3⟩ | ⟨p1, p2⟩
        · have e5 := q1.eq p1
          subst e5
          have e6 : j = j' := (List.getElem?_inj (List.getElem?_eq_some_iff.mp q2).1 q1.nd).mp (q2.trans p2.symm)
          rw [q3, p3, e6]
        · exact absurd ((q1.2 y).mp (List.mem_of_getElem? q2)) p1
      · rcases f4 with ⟨L', j', p1, p2, p3⟩ | ⟨p1, p2⟩
        · exact absurd ((p1.2 y).mp (List.mem_of_getElem? p2)) q1
        · rw [q2, p2]
    · exact absurd ⟨i, h1, h2⟩ f1
    · rw [h3] at f2; cases f2
  · rcases hm with ⟨e1, i', y', f1, f2, f3, f4⟩ | ⟨e1, f1⟩ | ⟨e1, f1, f2⟩
    · exact absurd ⟨i', f1, f2⟩ h1
    · exact ⟨e1, fun q => absurd q (by decide), _, hD, hM⟩
    · exact absurd f1 h1
  · rcases hm with ⟨e1, i', y', f1, f2, f3, f4⟩ | ⟨e1, f1⟩ | ⟨e1, f1, f2⟩
    · rw [f3] at h2; cases h2
    · exact absurd h1 f1
    · exact ⟨e1, fun q => absurd q (by decide), _, hD, hM⟩
theorem ag_element {n len gc : Nat} {tx : Nat → Nat} {g : Nat → pg_F} {tg : Nat → Option pg_F} {Gs : Nat → pg_F → Prop} {r b : Int32} {u : dSt} {fO : Nat → Int64} {v : mSt} {x y w : Int32} (hn : n ≤ 7) (hGG : ∀ i, i < 5 → pg_G n (Gs i)) (hw : (r = 0 ∧ ∃ r0 : Int32, fO 0 = r0.toInt64 ∧ (∃ (i j k : Nat) (L : List pg_F) (q : pg_F), x = nI i ∧ i < 5 ∧ w = nI k ∧ k < n ∧ pg_row n (Gs i) L ∧ y = nI j ∧ L[j]? = some q ∧ r0 = nI (q k)) ∧ dRp n (tx, len, g, gc, tg, Gs) u) ∨ (r = 1 ∧ (¬ ∃ (i : Nat) (L : List pg_F), x = nI i ∧ i < 5 ∧ iN w n ∧ pg_row n (Gs i) L ∧ iN y L.length) ∧ dRp n (tx, len, g, gc, tg, Gs) u)) (hm : ((v.1 = 0 ∧ ∃ (i j k : Nat) (L : List pg_F) (q : pg_F), x = nI i ∧ i < 5 ∧ w = nI k ∧ k < n ∧ pg_row n (Gs i) L ∧ y = nI j ∧ L[j]? = some q ∧ b = nI (q k)) ∨ (v.1 = 1 ∧ ¬ ∃ (i : Nat) (L : List pg_F), x = nI i ∧ i < 5 ∧ iN w n ∧ pg_row n (Gs i) L ∧ iN y L.length)) ∧ mRp n (tx, len, g, gc, tg, Gs) v) : LAg n r b u fO v := by
  obtain ⟨hm, hM⟩ := hm
  rcases hw with ⟨rfl, r0, h0, ⟨i, j, k, L, q, h1, h2, h3, h4, h5, h6, h7, h8⟩, hD⟩ | ⟨rfl, h1, hD⟩
  · rcases hm with ⟨e1, i', j', k', L', q', f1, f2, f3, f4, f5, f6, f7, f8⟩ | ⟨e1, f1⟩
    · have e2 := ag_5 h2 f2 (h1.symm.trans f1)
      subst e2
      have e3 := (nI_eq (by omega) (by omega)).mp (h3.symm.trans f3)
      subst e3
      have e4 := h5.eq f5
      subst e4
      have l1 := (List.getElem?_eq_some_iff.mp h7).1
      have l2 := (List.getElem?_eq_some_iff.mp f7).1
      have l3 := pg_row_le h5 (hGG i h2).1
      have l4 := pg_fac_le n hn
      have e5 := (nI_eq (by omega) (by omega)).mp (h6.symm.trans f6)
      subst e5
      rw [h7] at f7
      cases f7
      exact ⟨e1, fun _ => by rw [h0, h8, f8], _, hD, hM⟩
    · exact absurd ⟨i, L, h1, h2, ⟨k, h3, h4⟩, h5, ⟨j, h6, (List.getElem?_eq_some_iff.mp h7).1⟩⟩ f1
  · rcases hm with ⟨e1, i', j', k', L', q', f1, f2, f3, f4, f5, f6, f7, f8⟩ | ⟨e1, f1⟩
    · exact absurd ⟨i', L', f1, f2, ⟨k', f3, f4⟩, f5, ⟨j', f6, (List.getElem?_eq_some_iff.mp f7).1⟩⟩ h1
    · exact ⟨e1, fun q => absurd q (by decide), _, hD, hM⟩
theorem ag_orbit {n len gc : Nat} {tx : Nat → Nat} {g : Nat → pg_F} {tg : Nat → Option pg_F} {Gs : Nat → pg_F → Prop} {r b : Int32} {u : dSt} {fO : Nat → Int64} {v : mSt} {x y : Int32} (hn : n ≤ 7) (hw : (r = 0 ∧ ∃ r0 : Int32, fO 0 = r0.toInt64 ∧ (∃ i k t : Nat, x = nI i ∧ i < 5 ∧ y = nI k ∧ k < n ∧ r0 = nI t ∧ ∀ q, t.testBit q = true ↔ ∃ w, Gs i w ∧ w k = q) ∧ dRp n (tx, len, g, gc, tg, Gs) u) ∨ (r = 1 ∧ ¬ (iN x 5 ∧ iN y n) ∧ dRp n (tx, len, g, gc, tg, Gs) u)) (hm : ((v.1 = 0 ∧ ∃ i k t : Nat, x = nI i ∧ i < 5 ∧ y = nI k ∧ k < n ∧ b = nI t ∧ ∀ q, t.testBit q = true ↔ ∃ w, Gs i w ∧ w k = q) ∨ (v.1 = 1 ∧ ¬ (iN x 5 ∧ iN y n))) ∧ mRp n (tx, len, g, gc, tg, Gs) v) : LAg n r b u fO v := by
  obtain ⟨hm, hM⟩ := hm
  rcases hw with ⟨rfl, r0, h0, ⟨i, k, t, h1, h2, h3, h4, h5, h6⟩, hD⟩ | ⟨rfl, h1, hD⟩
  · rcases hm with ⟨e1, i', k', t', f1, f2, f3, f4, f5, f6⟩ | ⟨e1, f1⟩
    · have e2 := ag_5 h2 f2 (h1.symm.trans f1)
      subst e2
      have e3 := (nI_eq (by omega) (by omega)).mp (h3.symm.trans f3)
      subst e3
      have e4 : t = t' := Nat.eq_of_testBit_eq (fun q => by
        have := (h6 q).trans (f6 q).symm
        cases q1 : t.testBit q <;> cases q2 : t'.testBit q <;> simp_all)
      exact ⟨e1, fun _ => by rw [h0, h5, f5, e4], _, hD, hM⟩
    · exact absurd ⟨⟨i, h1, h2⟩, ⟨k, h3, h4⟩⟩ f1
  · rcases hm with ⟨e1, i', k', t', f1, f2, f3, f4, f5, f6⟩ | ⟨e1, f1⟩
    · exact absurd ⟨⟨i', f1, f2⟩, ⟨k', f3, f4⟩⟩ h1
    · exact ⟨e1, fun q => absurd q (by decide), _, hD, hM⟩
