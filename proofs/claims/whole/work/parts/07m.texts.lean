
def o_min (nx : Nat) : zOp := fun k ls st n mem => match st with
  | .int y :: .int x :: st => zrm st ∧ k nx ls (.int (if y < x then y else x) :: st) n mem
  | _ => False
def zbs (a : Nat) : Prop := 50 ≤ a ∧ a < 75
theorem zbs_lt {i : Nat} (h : zbs i) : i - 50 < 25 ∧ 50 + (i - 50) = i ∧ i < 100 := by
  obtain ⟨h1, h2⟩ := h
  exact ⟨by omega, by omega, by omega⟩
def o_getSV (nx : Nat) : zOp := fun k ls st n mem => match st with
  | .ref i :: st => zstr i ∧ k nx ls (.ref (50 + (i - 20)) :: st) n mem
  | _ => False
def o_getSC (nx : Nat) : zOp := fun k ls st n mem => match st with
  | .ref i :: st => zstr i ∧ k nx ls (.int 0 :: st) n mem
  | _ => False
def o_alenB (nx : Nat) : zOp := fun k ls st n mem => match st with
  | .ref a :: st => zbs a ∧ k nx ls (.int (Int32.ofNat (zsb (a - 50)).length) :: st) n mem
  | _ => False
def o_baldB (nx : Nat) : zOp := fun k ls st n mem => match st with
  | .int i :: .ref a :: st => zbs a ∧ ∃ j, i = nI j ∧ j < (zsb (a - 50)).length ∧ k nx ls (.int ((zsb (a - 50)).getD j 0) :: st) n mem
  | _ => False
def o_pushF (nx : Nat) : zOp := fun k ls st n mem => k nx ls (.null :: st) n mem ∧ k nx ls (.ref 17 :: st) n mem
section Sound7
variable {G : zG} {n0 nE nL : Nat} {cc : ByteArray} {own : String} {p : Program} {l : Launch} {e : Env} {R : Room} {s : State} {m : MethodId} {args : Array Value} {below : List Frame} {meth : Method} {c : Code} {Z : State → Prop}
theorem sn_min (X : zCx G n0 nE nL cc own p R s m args c) {pc idx : Nat} (hw1 : Cond.methodLink own idx Lib.Math.min.name ∈ zTs) (hw2 : Cond.static Lib.Math.min.name ∈ zTs) (hw3 : Cond.initialized "java/lang/Math" ∈ zTs) (hw4 : Cond.code Lib.Math.min.name Lib.Math.min.code 2 (some .int) ∈ zTs) (hR : 1 ≤ R.frames ∧ 21 ≤ R.locals) (hd : decode cc pc = .ok (.invokestatic idx, 3)) : zSnd G n0 nE nL p l e R s m args below meth c Z pc (o_min (pc + 3)) := by
  intro k hk ls st n mem h H locs lsC cs ss e1 e2 e3 hl hz hP hS
  unfold o_min at h
  split at h
  · have hts := X.2.2.2.2.1
    have hr := zrm_V (G := G) h.1
    have hc := zcs_le X e1 e2 e3
    exact va_mmin X.1 X.2.1 (by rw [X.2.2.1]; exact hl.1.symm) X.2.2.2.1 (hts _ hw1) (hts _ hw2) (hts _ hw3) (hts _ hw4) hR.1 (by omega) hc.1 hc.2 hd (hk _ _ _ _ _ h.2 H locs lsC cs ss e1 e2 e3 hl hz hP hS)
  · exact h.elim
theorem sn_cs (X : zCx G n0 nE nL cc own p R s m args c) {pc idx : Nat} (hw : Cond.fieldLink own idx "java/lang/String" "COMPACT_STRINGS" "Z" ∈ zTs) (hd : decode cc pc = .ok (.getstatic idx, 3)) : zSnd G n0 nE nL p l e R s m args below meth c Z pc (o_push (.int 1) (pc + 3)) := by
  intro k hk ls st n mem h H locs lsC cs ss e1 e2 e3 hl hz hP hS
  exact va_gets X.1 X.2.1 X.2.2.2.2.2.1.2.2.2.2.2.2.2.2.2.1.1 hS X.2.2.2.1 (X.2.2.2.2.1 _ hw) (fun _ z => z) hd (hk _ _ _ _ _ h H locs lsC cs ss e1 e2 e3 hl hz hP hS)
theorem sn_fmt (X : zCx G n0 nE nL cc own p R s m args c) {pc idx : Nat} (hw : Cond.fieldLink own idx "jdk/internal/util/Preconditions" "SIOOBE_FORMATTER" "Ljava/util/function/BiFunction;" ∈ zTs) (hd : decode cc pc = .ok (.getstatic idx, 3)) : zSnd G n0 nE nL p l e R s m args below meth c Z pc (o_pushF (pc + 3)) := by
  intro k hk ls st n mem h H locs lsC cs ss e1 e2 e3 hl hz hP hS
  rcases X.2.2.2.2.2.1.2.2.2.2.2.2.2.2.2.1.2 with q | q
  · exact va_gets X.1 X.2.1 q hS X.2.2.2.1 (X.2.2.2.2.1 _ hw) (fun _ z => z) hd (hk _ _ _ _ _ h.1 H locs lsC cs ss e1 e2 e3 hl hz hP hS)
  · have key := hk _ _ _ _ _ h.2 H locs lsC cs ss e1 e2 e3 hl hz hP hS
    refine va_gets X.1 X.2.1 q hS X.2.2.2.1 (X.2.2.2.2.1 _ hw) (fun _ z => z) hd ?_
    rw [← zsm (G := G) (i := 17) (by omega)]
    exact key
theorem sn_getSV (X : zCx G n0 nE nL cc own p R s m args c) {pc idx : Nat} (hw : Cond.fieldLink own idx "java/lang/String" "value" "[B" ∈ zTs) (hd : decode cc pc = .ok (.getfield idx, 3)) : zSnd G n0 nE nL p l e R s m args below meth c Z pc (o_getSV (pc + 3)) := by
  intro k hk ls st n mem h H locs lsC cs ss e1 e2 e3 hl hz hP hS
  unfold o_getSV at h
  split at h
  · rename_i i st
    obtain ⟨h1, h2⟩ := h
    obtain ⟨k1, k2, k3⟩ := zstr_lt h1
    have key := hk _ _ _ _ _ h2 H locs lsC cs ss e1 e2 e3 hl hz hP hS
    have hO := (X.2.2.2.2.2.1.2.2.2.2.2.2.2.1 _ k1).2.2.1
    have ead : zAd G i = G.2.1 i := by simp [zAd, k3]
    rw [k2, ← ead, ← zsm (G := G) (i := 50 + (i - 20)) (by omega)] at hO
    exact vk_getf X.1 X.2.1 hO hS X.2.2.2.1 (X.2.2.2.2.1 _ hw) (fun _ z => z) hd key
  · exact h.elim
theorem sn_getSC (X : zCx G n0 nE nL cc own p R s m args c) {pc idx : Nat} (hw : Cond.fieldLink own idx "java/lang/String" "coder" "B" ∈ zTs) (hd : decode cc pc = .ok (.getfield idx, 3)) : zSnd G n0 nE nL p l e R s m args below meth c Z pc (o_getSC (pc + 3)) := by
  intro k hk ls st n mem h H locs lsC cs ss e1 e2 e3 hl hz hP hS
  unfold o_getSC at h
  split at h
  · rename_i i st
    obtain ⟨h1, h2⟩ := h
    obtain ⟨k1, k2, k3⟩ := zstr_lt h1
    have key := hk _ _ _ _ _ h2 H locs lsC cs ss e1 e2 e3 hl hz hP hS
    have hO := (X.2.2.2.2.2.1.2.2.2.2.2.2.2.1 _ k1).2.1
    have ead : zAd G i = G.2.1 i := by simp [zAd, k3]
    rw [k2, ← ead] at hO
    exact vk_getf X.1 X.2.1 hO hS X.2.2.2.1 (X.2.2.2.2.1 _ hw) (fun _ z => z) hd key
  · exact h.elim
theorem sn_alenB (X : zCx G n0 nE nL cc own p R s m args c) {pc : Nat} (hd : decode cc pc = .ok (.arraylength, 1)) : zSnd G n0 nE nL p l e R s m args below meth c Z pc (o_alenB (pc + 1)) := by
  intro k hk ls st n mem h H locs lsC cs ss e1 e2 e3 hl hz hP hS
  unfold o_alenB at h
  split at h
  · rename_i a st
    obtain ⟨h1, h2⟩ := h
    obtain ⟨k1, k2, k3⟩ := zbs_lt h1
    have key := hk _ _ _ _ _ h2 H locs lsC cs ss e1 e2 e3 hl hz hP hS
    have hT := (X.2.2.2.2.2.1.2.2.2.2.2.2.2.1 _ k1).2.2.2
    rw [k2, ← zsm (G := G) (i := a) k3] at hT
    exact va_tlen X.1 X.2.1 hT hS rfl hd key
  · exact h.elim
theorem sn_baldB (X : zCx G n0 nE nL cc own p R s m args c) {pc : Nat} (hd : decode cc pc = .ok (.baload, 1)) : zSnd G n0 nE nL p l e R s m args below meth c Z pc (o_baldB (pc + 1)) := by
  intro k hk ls st n mem h H locs lsC cs ss e1 e2 e3 hl hz hP hS
  unfold o_baldB at h
  split at h
  · rename_i i a st
    obtain ⟨h1, j, rfl, hj, h2⟩ := h
    obtain ⟨k1, k2, k3⟩ := zbs_lt h1
    have hlen : ∀ q, q < 25 → (zsb q).length ≤ 100 := by decide +kernel
    have hl2 := hlen _ k1
    have hc : (nI j).toNatClampNeg = j := nI_clamp (by omega)
    have h3 : vp_in (nI j) (zsb (a - 50)).length := vp_in_nI hj (by omega)
    rw [← hc] at h2
    have key := hk _ _ _ _ _ h2 H locs lsC cs ss e1 e2 e3 hl hz hP hS
    have hT := (X.2.2.2.2.2.1.2.2.2.2.2.2.2.1 _ k1).2.2.2
    rw [k2, ← zsm (G := G) (i := a) k3] at hT
    exact va_tb X.1 X.2.1 hT hS h3 rfl hd key
  · exact h.elim
end Sound7
