
def o_slen (L nx : Nat) : zOp := fun k ls st n mem => ∃ rest, st = .ref 1 :: rest ∧ k nx ls (.int (Int32.ofNat L) :: rest) n mem
def o_sld (L : Nat) (xs : Nat → Int32) (nx : Nat) : zOp := fun k ls st n mem => ∃ i rest, st = .int i :: .ref 1 :: rest ∧ vp_in i L ∧ k nx ls (.int (xs i.toNatClampNeg) :: rest) n mem
def zXs (G : zG) (L : Nat) (xs : Nat → Int32) (s : State) : Prop := va_X (G.2.1 1) L xs s s.heap ∧ G.2.1 1 < G.1
theorem zroomL {R : Room} {h mL : Nat} (hR : R.frames = 2048 ∧ R.locals = 84000) (hq : h + 1 ≤ 2048 ∧ 8 + (mL + 11) + 40 * h ≤ 84000) : h + 1 ≤ R.frames ∧ 8 + (mL + 11) + 40 * h ≤ R.locals := by rw [hR.1, hR.2]; exact hq
section Script
variable {G : zG} {n0 nE nL : Nat} {cc : ByteArray} {own : String} {p : Program} {l : Launch} {e : Env} {R : Room} {s : State} {m : MethodId} {args : Array Value} {below : List Frame} {meth : Method} {c : Code} {Z : State → Prop} {L : Nat} {xs : Nat → Int32}
theorem sn_slen (X : zCx G n0 nE nL cc own p R s m args c) (hX : zXs G L xs s) {pc : Nat} (hd : decode cc pc = .ok (.arraylength, 1)) : zSnd G n0 nE nL p l e R s m args below meth c Z pc (o_slen L (pc + 1)) := by
  intro k hk ls st n mem h H locs lsC cs ss e1 e2 e3 hl hz hP hS
  obtain ⟨rest, rfl, h⟩ := h
  have hsh : s.heap.size = G.1 + n0 := X.2.2.2.2.2.2.1
  exact va_slen X.1 X.2.1 hX.1 (by have := hX.2; show G.2.1 1 < _; omega) (by have := hX.2; show ¬ G.1 ≤ G.2.1 1; omega) hS hd (hk _ _ _ _ _ h H locs lsC cs ss e1 e2 e3 hl hz hP hS)
theorem sn_sld (X : zCx G n0 nE nL cc own p R s m args c) (hX : zXs G L xs s) {pc : Nat} (hd : decode cc pc = .ok (.iaload, 1)) : zSnd G n0 nE nL p l e R s m args below meth c Z pc (o_sld L xs (pc + 1)) := by
  intro k hk ls st n mem h H locs lsC cs ss e1 e2 e3 hl hz hP hS
  obtain ⟨i, rest, rfl, hin, h⟩ := h
  have hsh : s.heap.size = G.1 + n0 := X.2.2.2.2.2.2.1
  exact va_sld X.1 X.2.1 hX.1 (by have := hX.2; show G.2.1 1 < _; omega) (by have := hX.2; show ¬ G.1 ≤ G.2.1 1; omega) hS hin hd (hk _ _ _ _ _ h H locs lsC cs ss e1 e2 e3 hl hz hP hS)
end Script
