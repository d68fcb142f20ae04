/-! Loops, calls of methods that touch no cell, the words of a call. -/
section BASE
variable {p : Program} {l : Launch} {e : Env} {R : Room} {s : State} {m : MethodId} {args : Array Value} {below : List Frame} {meth : Method} {c : Code} {H : Heap} {locs : List Loc} {cells slots : Nat} {Q : State → Prop}
/-- a loop that changes no cell: a measure falls -/
theorem wl0 {σ : Type} {pc : Nat} (I : Nat → σ → Array Slot → Prop) (step : ∀ (d : Nat) (st : σ) (ls : Array Slot), I d st ls → (∀ (d' : Nat) (st' : σ) (ls' : Array Slot), d' < d → I d' st' ls' → W p l e R s m args below meth c H locs cells slots Q (F0 m pc ls' [])) → W p l e R s m args below meth c H locs cells slots Q (F0 m pc ls [])) : ∀ (d : Nat) (st : σ) (ls : Array Slot), I d st ls → W p l e R s m args below meth c H locs cells slots Q (F0 m pc ls []) := by
  have key : ∀ (n d : Nat), d < n → ∀ (st : σ) (ls : Array Slot), I d st ls → W p l e R s m args below meth c H locs cells slots Q (F0 m pc ls []) := by
    intro n
    induction n with
    | zero => intro d h; omega
    | succ n ih => intro d hd st ls hI; exact step d st ls hI (fun d' st' ls' h' hI' => ih d' (by omega) st' ls' hI')
  exact fun d st ls hI => key (d + 1) d (by omega) st ls hI
/-- a loop that may write -/
theorem wl {σ : Type} {pc : Nat} (I : Nat → σ → Heap → List Loc → Array Slot → Prop) (step : ∀ (d : Nat) (st : σ) (H : Heap) (locs : List Loc) (ls : Array Slot), I d st H locs ls → (∀ (d' : Nat) (st' : σ) (H' : Heap) (locs' : List Loc) (ls' : Array Slot), d' < d → I d' st' H' locs' ls' → W p l e R s m args below meth c H' locs' cells slots Q (F0 m pc ls' [])) → W p l e R s m args below meth c H locs cells slots Q (F0 m pc ls [])) : ∀ (d : Nat) (st : σ) (H : Heap) (locs : List Loc) (ls : Array Slot), I d st H locs ls → W p l e R s m args below meth c H locs cells slots Q (F0 m pc ls []) := by
  have key : ∀ (n d : Nat), d < n → ∀ (st : σ) (H : Heap) (locs : List Loc) (ls : Array Slot), I d st H locs ls → W p l e R s m args below meth c H locs cells slots Q (F0 m pc ls []) := by
    intro n
    induction n with
    | zero => intro d h; omega
    | succ n ih => intro d hd st H locs ls hI; exact step d st H locs ls hI (fun d' st' H' locs' ls' h' hI' => ih d' (by omega) st' H' locs' ls' hI')
  exact fun d st H locs ls hI => key (d + 1) d (by omega) st H locs ls hI
variable {cc bytes : ByteArray} {nL maxL index n mc ms : Nat} {own C : String} {y : MethodName} {ret : Option FieldType} {rm : Room} {ws ws' : List Cond}
/-- the words of a call -/
theorem cB (n : Nat) (ht : ∀ w ∈ TB, w.before args s = true) (hG : GoodIn TB ws) (hw : ws = Cond.code y bytes maxL ret :: ws') (hini : Cond.initialized y.cls ∈ TB) (hl : Cond.methodLink own index y ∈ TB)
    (hd : y.cls ≠ "java/lang/invoke/MethodHandle" ∧ y.cls ≠ "java/lang/invoke/VarHandle" ∧ (parseMethodDescriptor y.desc).map (fun d => d.parameters.length) = some n) (hR : rm.frames + 1 ≤ R.frames ∧ 8 + (maxL + 11) + rm.locals ≤ R.locals) :
    CallB R s args own index y bytes maxL ret ws rm rm.cells rm.slots n := callB_of n ht hG hw rfl rfl (ht _ hini) (ht _ hl) hd hR
variable {pc : Nat} {ls : Array Slot} {rest st0 As : List Value}
theorem qS_l {post : Int64 → Prop} (S : CallFix p m c cc nL s args TB own) (hM : Met l y ws rm (va_Pc As (fun _ => True)) (vp_Sl post) 0 0 (fun _ => False)) (cw : CallB R s args own index y bytes maxL ret ws rm 0 0 n) (hst : Cond.static y ∈ TB)
    (hn : As.length = n) (hsize : ls.size = nL) (hstack : st0 = As.reverse ++ rest) (hW : (rest.map fun v => v.category).sum ≤ 8) (hdg : decode cc pc = .ok (.invokestatic index, 3)) (hf : cells ≤ R.cells ∧ slots ≤ R.slots)
    (kk : ∀ r : Int64, post r → W p l e R s m args below meth c H locs cells slots Q (F0 m (pc + 3) ls (.long r :: rest))) : W p l e R s m args below meth c H locs cells slots Q (F0 m pc ls st0) :=
  vp_callSl (W.runS (As := As) (rest := rest) S hM ⟨cw, S.2.2.2.2 _ hst⟩ ⟨fun _ _ _ _ q => q, fun _ _ _ => ⟨rfl, trivial⟩⟩ rfl hn hsize hstack (lv_room hW) hdg hf) kk
theorem qS_i {post : Int32 → Prop} (S : CallFix p m c cc nL s args TB own) (hM : Met l y ws rm (va_Pc As (fun _ => True)) (vp_Si post) 0 0 (fun _ => False)) (cw : CallB R s args own index y bytes maxL ret ws rm 0 0 n) (hst : Cond.static y ∈ TB)
    (hn : As.length = n) (hsize : ls.size = nL) (hstack : st0 = As.reverse ++ rest) (hW : (rest.map fun v => v.category).sum ≤ 8) (hdg : decode cc pc = .ok (.invokestatic index, 3)) (hf : cells ≤ R.cells ∧ slots ≤ R.slots)
    (kk : ∀ r : Int32, post r → W p l e R s m args below meth c H locs cells slots Q (F0 m (pc + 3) ls (.int r :: rest))) : W p l e R s m args below meth c H locs cells slots Q (F0 m pc ls st0) :=
  vp_callSi (W.runS (As := As) (rest := rest) S hM ⟨cw, S.2.2.2.2 _ hst⟩ ⟨fun _ _ _ _ q => q, fun _ _ _ => ⟨rfl, trivial⟩⟩ rfl hn hsize hstack (lv_room hW) hdg hf) kk
/-- a stack's top by another name -/
theorem wtl {x x' : Int64} (h : x = x') (k : W p l e R s m args below meth c H locs cells slots Q (F0 m pc ls (.long x' :: rest))) : W p l e R s m args below meth c H locs cells slots Q (F0 m pc ls (.long x :: rest)) := h ▸ k
theorem wti {x x' : Int32} (h : x = x') (k : W p l e R s m args below meth c H locs cells slots Q (F0 m pc ls (.int x' :: rest))) : W p l e R s m args below meth c H locs cells slots Q (F0 m pc ls (.int x :: rest)) := h ▸ k
end BASE
