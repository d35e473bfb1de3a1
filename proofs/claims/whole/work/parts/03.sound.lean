def ztn (t : Nat) : String := match t with
  | 0 => "END"
  | 1 => "OTHER"
  | 2 => "NUMBER"
  | 3 => "SIGN"
  | 4 => "PERSON"
  | 5 => "FIRM"
  | 6 => "FROM"
  | 7 => "UNDER"
  | 8 => "TO"
  | 9 => "BY"
  | 10 => "KINDS"
  | 11 => "MOST"
  | 12 => "TILL"
  | _ => "SUB"
/-- the number of a constant's word -/
def zwd (t : Nat) : Nat := match t with
  | 0 => 13
  | 1 => 13
  | 2 => 13
  | 3 => 14
  | 4 => 15
  | 5 => 16
  | 6 => 17
  | 7 => 18
  | 8 => 19
  | 9 => 20
  | 10 => 21
  | 11 => 22
  | 12 => 23
  | _ => 24
def zso (q : Nat) : String × Nat × String := match q with
  | 0 => (RX3, 24, "from")
  | 1 => (RX3, 26, "under")
  | 2 => (RX3, 38, " to")
  | 3 => (RX3, 46, " by")
  | 4 => (RX3, 51, " kinds")
  | 5 => (RX3, 56, " most")
  | 6 => (RX3, 64, " till")
  | 7 => (RX3, 70, " sub;")
  | 8 => (RX3, 72, ";")
  | 9 => (RX10, 117, "no such POWER")
  | 10 => (RX10, 153, "no such thing of a POWER")
  | 11 => (RX10, 198, "no such ACT")
  | 12 => (RX10, 223, "no such thing of an ACT")
  | 13 => (RX8, 70, "")
  | 14 => (RX8, 78, ";")
  | 15 => (RX8, 81, "person")
  | 16 => (RX8, 84, "firm")
  | 17 => (RX8, 87, "from")
  | 18 => (RX8, 90, "under")
  | 19 => (RX8, 93, "to")
  | 20 => (RX8, 96, "by")
  | 21 => (RX8, 99, "kinds")
  | 22 => (RX8, 102, "most")
  | 23 => (RX8, 105, "till")
  | _ => (RX8, 108, "sub")
def zsb (q : Nat) : List Int32 := match q with
  | 0 => [102, 114, 111, 109]
  | 1 => [117, 110, 100, 101, 114]
  | 2 => [32, 116, 111]
  | 3 => [32, 98, 121]
  | 4 => [32, 107, 105, 110, 100, 115]
  | 5 => [32, 109, 111, 115, 116]
  | 6 => [32, 116, 105, 108, 108]
  | 7 => [32, 115, 117, 98, 59]
  | 8 => [59]
  | 9 => [110, 111, 32, 115, 117, 99, 104, 32, 80, 79, 87, 69, 82]
  | 10 => [110, 111, 32, 115, 117, 99, 104, 32, 116, 104, 105, 110, 103, 32, 111, 102, 32, 97, 32, 80, 79, 87, 69, 82]
  | 11 => [110, 111, 32, 115, 117, 99, 104, 32, 65, 67, 84]
  | 12 => [110, 111, 32, 115, 117, 99, 104, 32, 116, 104, 105, 110, 103, 32, 111, 102, 32, 97, 110, 32, 65, 67, 84]
  | 13 => []
  | 14 => [59]
  | 15 => [112, 101, 114, 115, 111, 110]
  | 16 => [102, 105, 114, 109]
  | 17 => [102, 114, 111, 109]
  | 18 => [117, 110, 100, 101, 114]
  | 19 => [116, 111]
  | 20 => [98, 121]
  | 21 => [107, 105, 110, 100, 115]
  | 22 => [109, 111, 115, 116]
  | 23 => [116, 105, 108, 108]
  | _ => [115, 117, 98]
def zTs : List Cond := lw_tbl.filter goodWord
theorem zmem {w : Cond} (i : Nat) (h : lw_tbl[i]? = some w) (hg : goodWord w = true) : w ∈ zTs := List.mem_filter.mpr ⟨List.mem_of_getElem? h, hg⟩
def zNs : Cond → Bool
  | .fieldLinkNest _ _ _ _ _ _ => true
  | .methodLinkNest _ _ _ _ => true
  | _ => false
/-- what holds of the tables and of what stood before the start, in every state on the way -/
def zE (G : zG) (U : State) : Prop :=
  va_K (zD G) zcls (ztys G) U
  ∧ (∀ w ∈ lw_tbl, zNs w = true → va_Nw w U)
  ∧ (va_AO RX0 U ∧ va_AO RX5 U ∧ va_AO RX8 U)
  ∧ (∀ t, t < 14 → va_Z RX8 (ztn t) "LAuthorityBook$Token;" (.ref (G.2.1 (2 + t))) (zA G) U U.heap)
  ∧ va_Z RX8 "ALL" "[LAuthorityBook$Token;" (.ref (G.2.1 16)) (zA G) U U.heap
  ∧ va_T (.object RX8) (G.2.1 16) 14 (fun t => .ref (G.2.1 (2 + t))) (zA G) U U.heap
  ∧ (∀ t, t < 14 → va_O RX8 (G.2.1 (2 + t)) (zA G) U U.heap ∧ va_OF RX8 "word" "Ljava/lang/String;" (.ref (G.2.1 (20 + zwd t))) (G.2.1 (2 + t)) (zA G) U U.heap)
  ∧ (∀ q, q < 25 → va_O "java/lang/String" (G.2.1 (20 + q)) (zA G) U U.heap ∧ va_OF "java/lang/String" "coder" "B" (.int 0) (G.2.1 (20 + q)) (zA G) U U.heap ∧ va_OF "java/lang/String" "value" "[B" (.ref (G.2.1 (50 + q))) (G.2.1 (20 + q)) (zA G) U U.heap ∧ va_T .byte (G.2.1 (50 + q)) (zsb q).length (fun j => .int ((zsb q).getD j 0)) (zA G) U U.heap)
  ∧ (∀ q, q < 25 → vk_R (zso q).1 (zso q).2.1 (zso q).2.2 (G.2.1 (20 + q)) U)
  ∧ (va_Z "java/lang/String" "COMPACT_STRINGS" "Z" (.int 1) (zA G) U U.heap ∧ (va_Z "jdk/internal/util/Preconditions" "SIOOBE_FORMATTER" "Ljava/util/function/BiFunction;" .null (zA G) U U.heap ∨ va_Z "jdk/internal/util/Preconditions" "SIOOBE_FORMATTER" "Ljava/util/function/BiFunction;" (.ref (G.2.1 17)) (zA G) U U.heap))
  ∧ (∀ t u, t < 14 → u < 14 → G.2.1 (2 + t) = G.2.1 (2 + u) → t = u)
theorem zE_keep {G : zG} {s U : State} (hW : s.WarmedH U.vm) (hk : ∀ a : Nat, a < s.heap.size → ¬ zA G a → U.heap[a]? = s.heap[a]?) (h : zE G s) : zE G U := by
  obtain ⟨h1, h2, h3, h4, h5, h6, h7, h8, h9, h10, h11⟩ := h
  have hvm := hW.alike
  refine ⟨h1.moved hvm, fun w hw hn => ?_, ⟨h3.1.moved hvm, h3.2.1.moved hvm, h3.2.2.moved hvm⟩, fun t ht => ((h4 t ht).moved hvm).kept hk, (h5.moved hvm).kept hk, (h6.moved hvm).kept hk, fun t ht => ⟨((h7 t ht).1.moved hvm).kept hk, ((h7 t ht).2.moved hvm).kept hk⟩,
    fun q hq => ⟨((h8 q hq).1.moved hvm).kept hk, ((h8 q hq).2.1.moved hvm).kept hk, ((h8 q hq).2.2.1.moved hvm).kept hk, ((h8 q hq).2.2.2.moved hvm).kept hk⟩, fun q hq => (h9 q hq).warm hW, ⟨(h10.1.moved hvm).kept hk, h10.2.imp (fun z => (z.moved hvm).kept hk) (fun z => (z.moved hvm).kept hk)⟩, h11⟩
  have hq := h2 w hw hn
  cases w <;> first | exact (Bool.false_ne_true hn).elim | exact va_Nw.warmF hW hq | exact va_Nw.warmM hW hq
theorem zE_calling {G : zG} {U : State} {g : JFrame} {mk : MethodId} {a : Array Value} (h : zE G U) : zE G (U.calling g mk a) := zE_keep (s := U) (U := U.calling g mk a) (State.WarmedH.refl U) (fun _ _ _ => rfl) h
/-- the world: the cells made so far hold mem -/
def zW (G : zG) (n : Nat) (mem : zM) (U : State) : Prop := U.heap.size = G.1 + n ∧ va_P (zD G) zcls (zcells G n mem) U.heap ∧ zE G U
def zP (G : zG) (as : List Value) (n : Nat) (mem : zM) : Array Value → State → Prop := fun v U => v = (as.map (zV G)).toArray ∧ zW G n mem U
def zQ (G : zG) (nE : Nat) (Q : zPo) : Array Value → State → Outcome → State → Prop := fun _ st o t => (∃ (r : Option Value) (mem : zM), o = .returned (r.map (zV G)) ∧ Q r nE mem ∧ zW G nE mem t) ∧ va_F (zA G) st t
theorem zP_blind {G : zG} {as : List Value} {n : Nat} {mem : zM} : FrameBlind (zP G as n mem) := fun _ _ _ _ h => ⟨h.1, h.2.1, h.2.2.1, zE_calling h.2.2.2⟩
def zMet (l : Launch) (G : zG) (y : MethodName) (cc : ByteArray) (mL : Nat) (ret : Option FieldType) (h mc ms : Nat) (as : List Value) (n : Nat) (mem : zM) (Q : zPo) : Prop :=
  Met l y (.code y cc mL ret :: zTs) { frames := h, cells := mc, slots := ms, locals := 40 * h } (zP G as n mem) (zQ G (n + mc) Q) mc ms (zA G)
/-- K is a contract of y: whatever K promises behind a call is so -/
def zOK (l : Launch) (G : zG) (y : MethodName) (cc : ByteArray) (mL : Nat) (ret : Option FieldType) (h mc ms : Nat) (K : zCt) : Prop := ∀ (as : List Value) (n : Nat) (mem : zM) (Q : zPo), K as n mem Q → zMet l G y cc mL ret h mc ms as n mem Q
/-- a method's fixed facts -/
def zCx (G : zG) (n0 nE nL : Nat) (cc : ByteArray) (own : String) (p : Program) (R : Room) (s : State) (m : MethodId) (args : Array Value) (c : Code) : Prop :=
  p.tables.exec = Jvm.exec ∧ c.code = cc ∧ c.maxLocals = nL ∧ s.vm.findClass own = some m.cls ∧ (∀ w ∈ zTs, w.before args s = true) ∧ zE G s ∧ s.heap.size = G.1 + n0 ∧ nE ≤ n0 + R.cells ∧ zS nE ≤ zS n0 + R.slots
/-- the machine at pc, with these locals, this stack, this memory, comes to Z -/
def zGood (G : zG) (n0 nE nL : Nat) (p : Program) (l : Launch) (e : Env) (R : Room) (s : State) (m : MethodId) (args : Array Value) (below : List Frame) (meth : Method) (c : Code) (Z : State → Prop) (pc : Nat) (ls st : List Value) (n : Nat) (mem : zM) : Prop :=
  ∀ (H : Heap) (locs : List Loc) (lsC : Array Slot) (cs ss : Nat), n = n0 + cs → zS n = zS n0 + ss → n ≤ nE → lv_has lsC nL (zL G 0 ls) → H.size = G.1 + n → va_P (zD G) zcls (zcells G n mem) H → va_S (zA G) s.heap H locs →
    W p l e R s m args below meth c H locs cs ss Z (F0 m pc lsC (st.map (zV G)))
def zSnd (G : zG) (n0 nE nL : Nat) (p : Program) (l : Launch) (e : Env) (R : Room) (s : State) (m : MethodId) (args : Array Value) (below : List Frame) (meth : Method) (c : Code) (Z : State → Prop) (pc : Nat) (op : zOp) : Prop :=
  ∀ k : zKt, (∀ pc ls st n mem, k pc ls st n mem → zGood G n0 nE nL p l e R s m args below meth c Z pc ls st n mem) → ∀ ls st n mem, op k ls st n mem → zGood G n0 nE nL p l e R s m args below meth c Z pc ls st n mem
def zAll (G : zG) (n0 nE nL : Nat) (p : Program) (l : Launch) (e : Env) (R : Room) (s : State) (m : MethodId) (args : Array Value) (below : List Frame) (meth : Method) (c : Code) (Z : State → Prop) (t : Nat → zOp) : Prop := ∀ pc, zSnd G n0 nE nL p l e R s m args below meth c Z pc (t pc)
def o_bad : zOp := fun _ _ _ _ _ => False
section Sound
variable {G : zG} {n0 nE nL : Nat} {cc : ByteArray} {own : String} {p : Program} {l : Launch} {e : Env} {R : Room} {s : State} {m : MethodId} {args : Array Value} {below : List Frame} {meth : Method} {c : Code} {Z : State → Prop}
theorem zAll_node {K : Nat} {a b : Nat → zOp} (ha : zAll G n0 nE nL p l e R s m args below meth c Z a) (hb : zAll G n0 nE nL p l e R s m args below meth c Z b) : zAll G n0 nE nL p l e R s m args below meth c Z (fun pc => bif Nat.ble pc K then a pc else b pc) := by
  intro pc
  show zSnd G n0 nE nL p l e R s m args below meth c Z pc (bif Nat.ble pc K then a pc else b pc)
  cases Nat.ble pc K
  · exact hb pc
  · exact ha pc
theorem zAll_leaf {q : Nat} {op : zOp} (h : zSnd G n0 nE nL p l e R s m args below meth c Z q op) : zAll G n0 nE nL p l e R s m args below meth c Z (fun pc => bif Nat.beq pc q then op else o_bad) := by
  intro pc
  show zSnd G n0 nE nL p l e R s m args below meth c Z pc (bif Nat.beq pc q then op else o_bad)
  cases hq : Nat.beq pc q
  · intro k hk ls st n mem h; exact h.elim
  · rw [Nat.eq_of_beq_eq_true hq]; exact h
theorem sn_iconst (X : zCx G n0 nE nL cc own p R s m args c) {pc : Nat} {i : Int} (v : Int32) (hd : decode cc pc = .ok (.iconst i, 1)) (hv : Int32.ofInt i = v) : zSnd G n0 nE nL p l e R s m args below meth c Z pc (o_push (.int v) (pc + 1)) := by
  intro k hk ls st n mem h H locs lsC cs ss e1 e2 e3 hl hz hP hS
  exact lv_iconst X.1 X.2.1 hd hv (hk _ _ _ _ _ h H locs lsC cs ss e1 e2 e3 hl hz hP hS)
theorem sn_bipush (X : zCx G n0 nE nL cc own p R s m args c) {pc : Nat} {i : Int} (v : Int32) (hd : decode cc pc = .ok (.bipush i, 2)) (hv : (Int8.ofInt i).toInt32 = v) : zSnd G n0 nE nL p l e R s m args below meth c Z pc (o_push (.int v) (pc + 2)) := by
  intro k hk ls st n mem h H locs lsC cs ss e1 e2 e3 hl hz hP hS
  exact lv_bipush X.1 X.2.1 hd hv (hk _ _ _ _ _ h H locs lsC cs ss e1 e2 e3 hl hz hP hS)
theorem sn_sipush (X : zCx G n0 nE nL cc own p R s m args c) {pc : Nat} {i : Int} (v : Int32) (hd : decode cc pc = .ok (.sipush i, 3)) (hv : (Int16.ofInt i).toInt32 = v) : zSnd G n0 nE nL p l e R s m args below meth c Z pc (o_push (.int v) (pc + 3)) := by
  intro k hk ls st n mem h H locs lsC cs ss e1 e2 e3 hl hz hP hS
  exact lv_sipush X.1 X.2.1 hd hv (hk _ _ _ _ _ h H locs lsC cs ss e1 e2 e3 hl hz hP hS)
theorem sn_lconst (X : zCx G n0 nE nL cc own p R s m args c) {pc : Nat} {i : Fin 2} (v : Int64) (hd : decode cc pc = .ok (.lconst i, 1)) (hv : Int64.ofNat (i : Nat) = v) : zSnd G n0 nE nL p l e R s m args below meth c Z pc (o_push (.long v) (pc + 1)) := by
  intro k hk ls st n mem h H locs lsC cs ss e1 e2 e3 hl hz hP hS
  exact lv_lconst X.1 X.2.1 hd hv (hk _ _ _ _ _ h H locs lsC cs ss e1 e2 e3 hl hz hP hS)
theorem sn_ldc (X : zCx G n0 nE nL cc own p R s m args c) {pc idx : Nat} {v : Int32} (hw : Cond.constant own idx v ∈ zTs) (hd : decode cc pc = .ok (.ldc idx, 2)) : zSnd G n0 nE nL p l e R s m args below meth c Z pc (o_push (.int v) (pc + 2)) := by
  intro k hk ls st n mem h H locs lsC cs ss e1 e2 e3 hl hz hP hS
  exact lv_ldc X.1 X.2.1 X.2.2.2.1 (X.2.2.2.2.1 _ hw) hd (hk _ _ _ _ _ h H locs lsC cs ss e1 e2 e3 hl hz hP hS)
theorem sn_ldc2 (X : zCx G n0 nE nL cc own p R s m args c) {pc idx : Nat} {v : Int64} (hw : Cond.constantLong own idx v ∈ zTs) (hd : decode cc pc = .ok (.ldc2_w idx, 3)) : zSnd G n0 nE nL p l e R s m args below meth c Z pc (o_push (.long v) (pc + 3)) := by
  intro k hk ls st n mem h H locs lsC cs ss e1 e2 e3 hl hz hP hS
  exact lv_ldc2 X.1 X.2.1 X.2.2.2.1 (X.2.2.2.2.1 _ hw) hd (hk _ _ _ _ _ h H locs lsC cs ss e1 e2 e3 hl hz hP hS)
theorem sn_iload (X : zCx G n0 nE nL cc own p R s m args c) {pc i : Nat} (hd : decode cc pc = .ok (.iload i, 2)) : zSnd G n0 nE nL p l e R s m args below meth c Z pc (o_loadI i (pc + 2)) := by
  intro k hk ls st n mem h H locs lsC cs ss e1 e2 e3 hl hz hP hS
  unfold o_loadI at h
  split at h
  · rename_i x hx
    exact lv_iload X.1 X.2.1 hd (zL_at hl hx (fun q => by cases q)) (hk _ _ _ _ _ h H locs lsC cs ss e1 e2 e3 hl hz hP hS)
  · exact h.elim
theorem sn_iload_n (X : zCx G n0 nE nL cc own p R s m args c) {pc : Nat} {q : Fin 4} (i : Nat) (hd : decode cc pc = .ok (.iload_n q, 1)) (hi : (q : Nat) = i) : zSnd G n0 nE nL p l e R s m args below meth c Z pc (o_loadI i (pc + 1)) := by
  intro k hk ls st n mem h H locs lsC cs ss e1 e2 e3 hl hz hP hS
  unfold o_loadI at h
  split at h
  · rename_i x hx
    exact lv_iload_n X.1 X.2.1 hd hi (zL_at hl hx (fun q => by cases q)) (hk _ _ _ _ _ h H locs lsC cs ss e1 e2 e3 hl hz hP hS)
  · exact h.elim
theorem sn_lload (X : zCx G n0 nE nL cc own p R s m args c) {pc i : Nat} (hd : decode cc pc = .ok (.lload i, 2)) : zSnd G n0 nE nL p l e R s m args below meth c Z pc (o_loadJ i (pc + 2)) := by
  intro k hk ls st n mem h H locs lsC cs ss e1 e2 e3 hl hz hP hS
  unfold o_loadJ at h
  split at h
  · rename_i x hx
    exact lv_lload X.1 X.2.1 hd (zL_at hl hx (fun q => by cases q)) (hk _ _ _ _ _ h H locs lsC cs ss e1 e2 e3 hl hz hP hS)
  · exact h.elim
theorem sn_lload_n (X : zCx G n0 nE nL cc own p R s m args c) {pc : Nat} {q : Fin 4} (i : Nat) (hd : decode cc pc = .ok (.lload_n q, 1)) (hi : (q : Nat) = i) : zSnd G n0 nE nL p l e R s m args below meth c Z pc (o_loadJ i (pc + 1)) := by
  intro k hk ls st n mem h H locs lsC cs ss e1 e2 e3 hl hz hP hS
  unfold o_loadJ at h
  split at h
  · rename_i x hx
    exact lv_lload_n X.1 X.2.1 hd hi (zL_at hl hx (fun q => by cases q)) (hk _ _ _ _ _ h H locs lsC cs ss e1 e2 e3 hl hz hP hS)
  · exact h.elim
theorem sn_aload (X : zCx G n0 nE nL cc own p R s m args c) {pc i : Nat} (hd : decode cc pc = .ok (.aload i, 2)) : zSnd G n0 nE nL p l e R s m args below meth c Z pc (o_loadR i (pc + 2)) := by
  intro k hk ls st n mem h H locs lsC cs ss e1 e2 e3 hl hz hP hS
  unfold o_loadR at h
  split at h
  · rename_i x hx
    exact lv_aload X.1 X.2.1 hd (zL_at hl hx (fun q => by cases q)) (hk _ _ _ _ _ h H locs lsC cs ss e1 e2 e3 hl hz hP hS)
  · exact h.elim
theorem sn_aload_n (X : zCx G n0 nE nL cc own p R s m args c) {pc : Nat} {q : Fin 4} (i : Nat) (hd : decode cc pc = .ok (.aload_n q, 1)) (hi : (q : Nat) = i) : zSnd G n0 nE nL p l e R s m args below meth c Z pc (o_loadR i (pc + 1)) := by
  intro k hk ls st n mem h H locs lsC cs ss e1 e2 e3 hl hz hP hS
  unfold o_loadR at h
  split at h
  · rename_i x hx
    exact lv_aload_n X.1 X.2.1 hd hi (zL_at hl hx (fun q => by cases q)) (hk _ _ _ _ _ h H locs lsC cs ss e1 e2 e3 hl hz hP hS)
  · exact h.elim
theorem sn_istore (X : zCx G n0 nE nL cc own p R s m args c) {pc i : Nat} (hi2 : i < nL) (hd : decode cc pc = .ok (.istore i, 2)) : zSnd G n0 nE nL p l e R s m args below meth c Z pc (o_storeI i (pc + 2)) := by
  intro k hk ls st n mem h H locs lsC cs ss e1 e2 e3 hl hz hP hS
  unfold o_storeI at h
  split at h
  · cases hq : zok ls i with
    | false => rw [hq] at h; exact h.elim
    | true =>
      rw [hq] at h
      exact lv_istore X.1 X.2.1 hd hl hi2 rfl (fun ls' hl' => hk _ _ _ _ _ h H locs ls' cs ss e1 e2 e3 (zL_store hq hl') hz hP hS)
  · exact h.elim
theorem sn_istore_n (X : zCx G n0 nE nL cc own p R s m args c) {pc : Nat} {q : Fin 4} (i : Nat) (hi2 : i < nL) (hd : decode cc pc = .ok (.istore_n q, 1)) (hi : (q : Nat) = i) : zSnd G n0 nE nL p l e R s m args below meth c Z pc (o_storeI i (pc + 1)) := by
  intro k hk ls st n mem h H locs lsC cs ss e1 e2 e3 hl hz hP hS
  unfold o_storeI at h
  split at h
  · cases hq : zok ls i with
    | false => rw [hq] at h; exact h.elim
    | true =>
      rw [hq] at h
      exact lv_istore_n X.1 X.2.1 hd hi hl hi2 rfl (fun ls' hl' => hk _ _ _ _ _ h H locs ls' cs ss e1 e2 e3 (zL_store hq hl') hz hP hS)
  · exact h.elim
theorem sn_astore (X : zCx G n0 nE nL cc own p R s m args c) {pc i : Nat} (hi2 : i < nL) (hd : decode cc pc = .ok (.astore i, 2)) : zSnd G n0 nE nL p l e R s m args below meth c Z pc (o_storeR i (pc + 2)) := by
  intro k hk ls st n mem h H locs lsC cs ss e1 e2 e3 hl hz hP hS
  unfold o_storeR at h
  split at h
  · cases hq : zok ls i with
    | false => rw [hq] at h; exact h.elim
    | true =>
      rw [hq] at h
      exact lv_astore X.1 X.2.1 hd hl hi2 rfl (fun ls' hl' => hk _ _ _ _ _ h H locs ls' cs ss e1 e2 e3 (zL_store (v := .ref _) hq hl') hz hP hS)
  · exact h.elim
theorem sn_astore_n (X : zCx G n0 nE nL cc own p R s m args c) {pc : Nat} {q : Fin 4} (i : Nat) (hi2 : i < nL) (hd : decode cc pc = .ok (.astore_n q, 1)) (hi : (q : Nat) = i) : zSnd G n0 nE nL p l e R s m args below meth c Z pc (o_storeR i (pc + 1)) := by
  intro k hk ls st n mem h H locs lsC cs ss e1 e2 e3 hl hz hP hS
  unfold o_storeR at h
  split at h
  · cases hq : zok ls i with
    | false => rw [hq] at h; exact h.elim
    | true =>
      rw [hq] at h
      exact lv_astore_n X.1 X.2.1 hd hi hl hi2 rfl (fun ls' hl' => hk _ _ _ _ _ h H locs ls' cs ss e1 e2 e3 (zL_store (v := .ref _) hq hl') hz hP hS)
  · exact h.elim
theorem zL_iinc {G : zG} {ls : List Value} {i : Nat} {x : Int32} (hx : zg ls i = .int x) : ∃ k : Nat, (zL G 0 ls)[k]? = some (i, .int x) := by
  have : ((i, Value.int x) : Nat × Value) ∈ zL G 0 ls := zL_mem.mpr ⟨i, (by rw [hx]; exact fun q => (by cases q)), (by rw [hx, Nat.zero_add]; rfl)⟩
  exact List.getElem?_of_mem this
theorem sn_iinc (X : zCx G n0 nE nL cc own p R s m args c) {pc i : Nat} {a : Int} (d : Int32) (hi2 : i < nL) (hd : decode cc pc = .ok (.iinc i a, 3)) (hv : Int32.ofInt a = d) : zSnd G n0 nE nL p l e R s m args below meth c Z pc (o_iinc i d (pc + 3)) := by
  intro k hk ls st n mem h H locs lsC cs ss e1 e2 e3 hl hz hP hS
  unfold o_iinc at h
  split at h
  · rename_i x hx
    cases hq : zok ls i with
    | false => rw [hq] at h; exact h.elim
    | true =>
      rw [hq] at h
      obtain ⟨kk, hkk⟩ := zL_iinc (G := G) hx
      exact lv_iinc X.1 X.2.1 hd hl hkk (by rw [hv]) hi2 rfl (fun ls' hl' => hk _ _ _ _ _ h H locs ls' cs ss e1 e2 e3 (zL_store (v := .int _) hq hl') hz hP hS)
  · exact h.elim
theorem sn_iadd (X : zCx G n0 nE nL cc own p R s m args c) {pc : Nat} (hd : decode cc pc = .ok (.iadd, 1)) : zSnd G n0 nE nL p l e R s m args below meth c Z pc (o_bin (fun x y => x + y) (pc + 1)) := by
  intro k hk ls st n mem h H locs lsC cs ss e1 e2 e3 hl hz hP hS
  unfold o_bin at h
  split at h
  · exact lv_iadd X.1 X.2.1 hd (hk _ _ _ _ _ h H locs lsC cs ss e1 e2 e3 hl hz hP hS)
  · exact h.elim
theorem sn_isub (X : zCx G n0 nE nL cc own p R s m args c) {pc : Nat} (hd : decode cc pc = .ok (.isub, 1)) : zSnd G n0 nE nL p l e R s m args below meth c Z pc (o_bin (fun x y => x - y) (pc + 1)) := by
  intro k hk ls st n mem h H locs lsC cs ss e1 e2 e3 hl hz hP hS
  unfold o_bin at h
  split at h
  · exact lv_isub X.1 X.2.1 hd (hk _ _ _ _ _ h H locs lsC cs ss e1 e2 e3 hl hz hP hS)
  · exact h.elim
theorem sn_imul (X : zCx G n0 nE nL cc own p R s m args c) {pc : Nat} (hd : decode cc pc = .ok (.imul, 1)) : zSnd G n0 nE nL p l e R s m args below meth c Z pc (o_bin (fun x y => x * y) (pc + 1)) := by
  intro k hk ls st n mem h H locs lsC cs ss e1 e2 e3 hl hz hP hS
  unfold o_bin at h
  split at h
  · exact lv_imul X.1 X.2.1 hd (hk _ _ _ _ _ h H locs lsC cs ss e1 e2 e3 hl hz hP hS)
  · exact h.elim
theorem sn_iand (X : zCx G n0 nE nL cc own p R s m args c) {pc : Nat} (hd : decode cc pc = .ok (.iand, 1)) : zSnd G n0 nE nL p l e R s m args below meth c Z pc (o_bin (fun x y => x &&& y) (pc + 1)) := by
  intro k hk ls st n mem h H locs lsC cs ss e1 e2 e3 hl hz hP hS
  unfold o_bin at h
  split at h
  · exact lv_iand X.1 X.2.1 hd (hk _ _ _ _ _ h H locs lsC cs ss e1 e2 e3 hl hz hP hS)
  · exact h.elim
theorem sn_ior (X : zCx G n0 nE nL cc own p R s m args c) {pc : Nat} (hd : decode cc pc = .ok (.ior, 1)) : zSnd G n0 nE nL p l e R s m args below meth c Z pc (o_bin (fun x y => x ||| y) (pc + 1)) := by
  intro k hk ls st n mem h H locs lsC cs ss e1 e2 e3 hl hz hP hS
  unfold o_bin at h
  split at h
  · exact lv_ior X.1 X.2.1 hd (hk _ _ _ _ _ h H locs lsC cs ss e1 e2 e3 hl hz hP hS)
  · exact h.elim
theorem sn_ixor (X : zCx G n0 nE nL cc own p R s m args c) {pc : Nat} (hd : decode cc pc = .ok (.ixor, 1)) : zSnd G n0 nE nL p l e R s m args below meth c Z pc (o_bin (fun x y => x ^^^ y) (pc + 1)) := by
  intro k hk ls st n mem h H locs lsC cs ss e1 e2 e3 hl hz hP hS
  unfold o_bin at h
  split at h
  · exact lv_ixor X.1 X.2.1 hd (hk _ _ _ _ _ h H locs lsC cs ss e1 e2 e3 hl hz hP hS)
  · exact h.elim
theorem sn_ishl (X : zCx G n0 nE nL cc own p R s m args c) {pc : Nat} (hd : decode cc pc = .ok (.ishl, 1)) : zSnd G n0 nE nL p l e R s m args below meth c Z pc (o_bin (fun x y => x <<< (y &&& 31)) (pc + 1)) := by
  intro k hk ls st n mem h H locs lsC cs ss e1 e2 e3 hl hz hP hS
  unfold o_bin at h
  split at h
  · exact lv_ishl X.1 X.2.1 hd (hk _ _ _ _ _ h H locs lsC cs ss e1 e2 e3 hl hz hP hS)
  · exact h.elim
theorem sn_ishr (X : zCx G n0 nE nL cc own p R s m args c) {pc : Nat} (hd : decode cc pc = .ok (.ishr, 1)) : zSnd G n0 nE nL p l e R s m args below meth c Z pc (o_bin (fun x y => x >>> (y &&& 31)) (pc + 1)) := by
  intro k hk ls st n mem h H locs lsC cs ss e1 e2 e3 hl hz hP hS
  unfold o_bin at h
  split at h
  · exact lv_ishr X.1 X.2.1 hd (hk _ _ _ _ _ h H locs lsC cs ss e1 e2 e3 hl hz hP hS)
  · exact h.elim
theorem sn_ladd (X : zCx G n0 nE nL cc own p R s m args c) {pc : Nat} (hd : decode cc pc = .ok (.ladd, 1)) : zSnd G n0 nE nL p l e R s m args below meth c Z pc (o_lbin (fun x y => x + y) (pc + 1)) := by
  intro k hk ls st n mem h H locs lsC cs ss e1 e2 e3 hl hz hP hS
  unfold o_lbin at h
  split at h
  · exact lv_ladd X.1 X.2.1 hd (hk _ _ _ _ _ h H locs lsC cs ss e1 e2 e3 hl hz hP hS)
  · exact h.elim
theorem sn_lsub (X : zCx G n0 nE nL cc own p R s m args c) {pc : Nat} (hd : decode cc pc = .ok (.lsub, 1)) : zSnd G n0 nE nL p l e R s m args below meth c Z pc (o_lbin (fun x y => x - y) (pc + 1)) := by
  intro k hk ls st n mem h H locs lsC cs ss e1 e2 e3 hl hz hP hS
  unfold o_lbin at h
  split at h
  · exact lv_lsub X.1 X.2.1 hd (hk _ _ _ _ _ h H locs lsC cs ss e1 e2 e3 hl hz hP hS)
  · exact h.elim
theorem sn_lmul (X : zCx G n0 nE nL cc own p R s m args c) {pc : Nat} (hd : decode cc pc = .ok (.lmul, 1)) : zSnd G n0 nE nL p l e R s m args below meth c Z pc (o_lbin (fun x y => x * y) (pc + 1)) := by
  intro k hk ls st n mem h H locs lsC cs ss e1 e2 e3 hl hz hP hS
  unfold o_lbin at h
  split at h
  · exact lv_lmul X.1 X.2.1 hd (hk _ _ _ _ _ h H locs lsC cs ss e1 e2 e3 hl hz hP hS)
  · exact h.elim

theorem sn_idiv (X : zCx G n0 nE nL cc own p R s m args c) {pc : Nat} (hd : decode cc pc = .ok (.idiv, 1)) : zSnd G n0 nE nL p l e R s m args below meth c Z pc (o_div (fun x y => x / y) (pc + 1)) := by
  intro k hk ls st n mem h H locs lsC cs ss e1 e2 e3 hl hz hP hS
  unfold o_div at h
  split at h
  · exact lv_idiv X.1 X.2.1 hd h.1 (hk _ _ _ _ _ h.2 H locs lsC cs ss e1 e2 e3 hl hz hP hS)
  · exact h.elim
theorem sn_irem (X : zCx G n0 nE nL cc own p R s m args c) {pc : Nat} (hd : decode cc pc = .ok (.irem, 1)) : zSnd G n0 nE nL p l e R s m args below meth c Z pc (o_div (fun x y => x - x / y * y) (pc + 1)) := by
  intro k hk ls st n mem h H locs lsC cs ss e1 e2 e3 hl hz hP hS
  unfold o_div at h
  split at h
  · exact lv_irem X.1 X.2.1 hd h.1 (hk _ _ _ _ _ h.2 H locs lsC cs ss e1 e2 e3 hl hz hP hS)
  · exact h.elim
theorem sn_iushr (X : zCx G n0 nE nL cc own p R s m args c) {pc : Nat} (hd : decode cc pc = .ok (.iushr, 1)) : zSnd G n0 nE nL p l e R s m args below meth c Z pc (o_bin (fun x y => (x.toUInt32 >>> (y.toUInt32 &&& Int32.toUInt32 31)).toInt32) (pc + 1)) := by
  intro k hk ls st n mem h H locs lsC cs ss e1 e2 e3 hl hz hP hS
  unfold o_bin at h
  split at h
  · exact lv_iushr X.1 X.2.1 hd rfl (hk _ _ _ _ _ h H locs lsC cs ss e1 e2 e3 hl hz hP hS)
  · exact h.elim
theorem sn_i2b (X : zCx G n0 nE nL cc own p R s m args c) {pc : Nat} (hd : decode cc pc = .ok (.i2b, 1)) : zSnd G n0 nE nL p l e R s m args below meth c Z pc (o_un (fun x => x.toInt8.toInt32) (pc + 1)) := by
  intro k hk ls st n mem h H locs lsC cs ss e1 e2 e3 hl hz hP hS
  unfold o_un at h
  split at h
  · exact lv_i2b X.1 X.2.1 hd rfl (hk _ _ _ _ _ h H locs lsC cs ss e1 e2 e3 hl hz hP hS)
  · exact h.elim
theorem sn_i2c (X : zCx G n0 nE nL cc own p R s m args c) {pc : Nat} (hd : decode cc pc = .ok (.i2c, 1)) : zSnd G n0 nE nL p l e R s m args below meth c Z pc (o_un (fun x => (x.toUInt32 % 65536).toInt32) (pc + 1)) := by
  intro k hk ls st n mem h H locs lsC cs ss e1 e2 e3 hl hz hP hS
  unfold o_un at h
  split at h
  · exact lv_i2c X.1 X.2.1 hd rfl (hk _ _ _ _ _ h H locs lsC cs ss e1 e2 e3 hl hz hP hS)
  · exact h.elim
theorem sn_i2l (X : zCx G n0 nE nL cc own p R s m args c) {pc : Nat} (hd : decode cc pc = .ok (.i2l, 1)) : zSnd G n0 nE nL p l e R s m args below meth c Z pc (o_i2l (pc + 1)) := by
  intro k hk ls st n mem h H locs lsC cs ss e1 e2 e3 hl hz hP hS
  unfold o_i2l at h
  split at h
  · exact lv_i2l X.1 X.2.1 hd rfl (hk _ _ _ _ _ h H locs lsC cs ss e1 e2 e3 hl hz hP hS)
  · exact h.elim
theorem sn_lcmp (X : zCx G n0 nE nL cc own p R s m args c) {pc : Nat} (hd : decode cc pc = .ok (.lcmp, 1)) : zSnd G n0 nE nL p l e R s m args below meth c Z pc (o_lcmp (pc + 1)) := by
  intro k hk ls st n mem h H locs lsC cs ss e1 e2 e3 hl hz hP hS
  unfold o_lcmp at h
  split at h
  · exact W.lcmp X.1 X.2.1 hd (hk _ _ _ _ _ h H locs lsC cs ss e1 e2 e3 hl hz hP hS)
  · exact h.elim
theorem sn_if_eq (X : zCx G n0 nE nL cc own p R s m args c) {pc : Nat} {off : Int} (tgt : Nat) (hd : decode cc pc = .ok (.ifCond .eq off, 3)) (ht : (pc : Int) + off = (tgt : Int)) : zSnd G n0 nE nL p l e R s m args below meth c Z pc (o_if (fun x => x = 0) tgt (pc + 3)) := by
  intro k hk ls st n mem h H locs lsC cs ss e1 e2 e3 hl hz hP hS
  unfold o_if at h
  split at h
  · exact lv_if_eq X.1 X.2.1 hd ht (fun z => hk _ _ _ _ _ (h.1 z) H locs lsC cs ss e1 e2 e3 hl hz hP hS) (fun z => hk _ _ _ _ _ (h.2 z) H locs lsC cs ss e1 e2 e3 hl hz hP hS)
  · exact h.elim
theorem sn_icmp_eq (X : zCx G n0 nE nL cc own p R s m args c) {pc : Nat} {off : Int} (tgt : Nat) (hd : decode cc pc = .ok (.if_icmp .eq off, 3)) (ht : (pc : Int) + off = (tgt : Int)) : zSnd G n0 nE nL p l e R s m args below meth c Z pc (o_icmp (fun x y => x = y) tgt (pc + 3)) := by
  intro k hk ls st n mem h H locs lsC cs ss e1 e2 e3 hl hz hP hS
  unfold o_icmp at h
  split at h
  · exact lv_icmp_eq X.1 X.2.1 hd ht (fun z => hk _ _ _ _ _ (h.1 z) H locs lsC cs ss e1 e2 e3 hl hz hP hS) (fun z => hk _ _ _ _ _ (h.2 z) H locs lsC cs ss e1 e2 e3 hl hz hP hS)
  · exact h.elim
theorem sn_if_lt (X : zCx G n0 nE nL cc own p R s m args c) {pc : Nat} {off : Int} (tgt : Nat) (hd : decode cc pc = .ok (.ifCond .lt off, 3)) (ht : (pc : Int) + off = (tgt : Int)) : zSnd G n0 nE nL p l e R s m args below meth c Z pc (o_if (fun x => x < 0) tgt (pc + 3)) := by
  intro k hk ls st n mem h H locs lsC cs ss e1 e2 e3 hl hz hP hS
  unfold o_if at h
  split at h
  · exact lv_if_lt X.1 X.2.1 hd ht (fun z => hk _ _ _ _ _ (h.1 z) H locs lsC cs ss e1 e2 e3 hl hz hP hS) (fun z => hk _ _ _ _ _ (h.2 z) H locs lsC cs ss e1 e2 e3 hl hz hP hS)
  · exact h.elim
theorem sn_icmp_lt (X : zCx G n0 nE nL cc own p R s m args c) {pc : Nat} {off : Int} (tgt : Nat) (hd : decode cc pc = .ok (.if_icmp .lt off, 3)) (ht : (pc : Int) + off = (tgt : Int)) : zSnd G n0 nE nL p l e R s m args below meth c Z pc (o_icmp (fun x y => x < y) tgt (pc + 3)) := by
  intro k hk ls st n mem h H locs lsC cs ss e1 e2 e3 hl hz hP hS
  unfold o_icmp at h
  split at h
  · exact lv_icmp_lt X.1 X.2.1 hd ht (fun z => hk _ _ _ _ _ (h.1 z) H locs lsC cs ss e1 e2 e3 hl hz hP hS) (fun z => hk _ _ _ _ _ (h.2 z) H locs lsC cs ss e1 e2 e3 hl hz hP hS)
  · exact h.elim
theorem sn_if_ge (X : zCx G n0 nE nL cc own p R s m args c) {pc : Nat} {off : Int} (tgt : Nat) (hd : decode cc pc = .ok (.ifCond .ge off, 3)) (ht : (pc : Int) + off = (tgt : Int)) : zSnd G n0 nE nL p l e R s m args below meth c Z pc (o_if (fun x => 0 ≤ x) tgt (pc + 3)) := by
  intro k hk ls st n mem h H locs lsC cs ss e1 e2 e3 hl hz hP hS
  unfold o_if at h
  split at h
  · exact lv_if_ge X.1 X.2.1 hd ht (fun z => hk _ _ _ _ _ (h.1 z) H locs lsC cs ss e1 e2 e3 hl hz hP hS) (fun z => hk _ _ _ _ _ (h.2 z) H locs lsC cs ss e1 e2 e3 hl hz hP hS)
  · exact h.elim
theorem sn_icmp_ge (X : zCx G n0 nE nL cc own p R s m args c) {pc : Nat} {off : Int} (tgt : Nat) (hd : decode cc pc = .ok (.if_icmp .ge off, 3)) (ht : (pc : Int) + off = (tgt : Int)) : zSnd G n0 nE nL p l e R s m args below meth c Z pc (o_icmp (fun x y => y ≤ x) tgt (pc + 3)) := by
  intro k hk ls st n mem h H locs lsC cs ss e1 e2 e3 hl hz hP hS
  unfold o_icmp at h
  split at h
  · exact lv_icmp_ge X.1 X.2.1 hd ht (fun z => hk _ _ _ _ _ (h.1 z) H locs lsC cs ss e1 e2 e3 hl hz hP hS) (fun z => hk _ _ _ _ _ (h.2 z) H locs lsC cs ss e1 e2 e3 hl hz hP hS)
  · exact h.elim
theorem sn_if_gt (X : zCx G n0 nE nL cc own p R s m args c) {pc : Nat} {off : Int} (tgt : Nat) (hd : decode cc pc = .ok (.ifCond .gt off, 3)) (ht : (pc : Int) + off = (tgt : Int)) : zSnd G n0 nE nL p l e R s m args below meth c Z pc (o_if (fun x => 0 < x) tgt (pc + 3)) := by
  intro k hk ls st n mem h H locs lsC cs ss e1 e2 e3 hl hz hP hS
  unfold o_if at h
  split at h
  · exact lv_if_gt X.1 X.2.1 hd ht (fun z => hk _ _ _ _ _ (h.1 z) H locs lsC cs ss e1 e2 e3 hl hz hP hS) (fun z => hk _ _ _ _ _ (h.2 z) H locs lsC cs ss e1 e2 e3 hl hz hP hS)
  · exact h.elim
theorem sn_icmp_gt (X : zCx G n0 nE nL cc own p R s m args c) {pc : Nat} {off : Int} (tgt : Nat) (hd : decode cc pc = .ok (.if_icmp .gt off, 3)) (ht : (pc : Int) + off = (tgt : Int)) : zSnd G n0 nE nL p l e R s m args below meth c Z pc (o_icmp (fun x y => y < x) tgt (pc + 3)) := by
  intro k hk ls st n mem h H locs lsC cs ss e1 e2 e3 hl hz hP hS
  unfold o_icmp at h
  split at h
  · exact lv_icmp_gt X.1 X.2.1 hd ht (fun z => hk _ _ _ _ _ (h.1 z) H locs lsC cs ss e1 e2 e3 hl hz hP hS) (fun z => hk _ _ _ _ _ (h.2 z) H locs lsC cs ss e1 e2 e3 hl hz hP hS)
  · exact h.elim
theorem sn_if_le (X : zCx G n0 nE nL cc own p R s m args c) {pc : Nat} {off : Int} (tgt : Nat) (hd : decode cc pc = .ok (.ifCond .le off, 3)) (ht : (pc : Int) + off = (tgt : Int)) : zSnd G n0 nE nL p l e R s m args below meth c Z pc (o_if (fun x => x ≤ 0) tgt (pc + 3)) := by
  intro k hk ls st n mem h H locs lsC cs ss e1 e2 e3 hl hz hP hS
  unfold o_if at h
  split at h
  · exact lv_if_le X.1 X.2.1 hd ht (fun z => hk _ _ _ _ _ (h.1 z) H locs lsC cs ss e1 e2 e3 hl hz hP hS) (fun z => hk _ _ _ _ _ (h.2 z) H locs lsC cs ss e1 e2 e3 hl hz hP hS)
  · exact h.elim
theorem sn_icmp_le (X : zCx G n0 nE nL cc own p R s m args c) {pc : Nat} {off : Int} (tgt : Nat) (hd : decode cc pc = .ok (.if_icmp .le off, 3)) (ht : (pc : Int) + off = (tgt : Int)) : zSnd G n0 nE nL p l e R s m args below meth c Z pc (o_icmp (fun x y => x ≤ y) tgt (pc + 3)) := by
  intro k hk ls st n mem h H locs lsC cs ss e1 e2 e3 hl hz hP hS
  unfold o_icmp at h
  split at h
  · exact lv_icmp_le X.1 X.2.1 hd ht (fun z => hk _ _ _ _ _ (h.1 z) H locs lsC cs ss e1 e2 e3 hl hz hP hS) (fun z => hk _ _ _ _ _ (h.2 z) H locs lsC cs ss e1 e2 e3 hl hz hP hS)
  · exact h.elim
theorem sn_if_ne (X : zCx G n0 nE nL cc own p R s m args c) {pc : Nat} {off : Int} (tgt : Nat) (hd : decode cc pc = .ok (.ifCond .ne off, 3)) (ht : (pc : Int) + off = (tgt : Int)) : zSnd G n0 nE nL p l e R s m args below meth c Z pc (o_if (fun x => x = 0) (pc + 3) tgt) := by
  intro k hk ls st n mem h H locs lsC cs ss e1 e2 e3 hl hz hP hS
  unfold o_if at h
  split at h
  · exact lv_if_ne X.1 X.2.1 hd ht (fun z => hk _ _ _ _ _ (h.2 z) H locs lsC cs ss e1 e2 e3 hl hz hP hS) (fun z => hk _ _ _ _ _ (h.1 z) H locs lsC cs ss e1 e2 e3 hl hz hP hS)
  · exact h.elim
theorem sn_icmp_ne (X : zCx G n0 nE nL cc own p R s m args c) {pc : Nat} {off : Int} (tgt : Nat) (hd : decode cc pc = .ok (.if_icmp .ne off, 3)) (ht : (pc : Int) + off = (tgt : Int)) : zSnd G n0 nE nL p l e R s m args below meth c Z pc (o_icmp (fun x y => x = y) (pc + 3) tgt) := by
  intro k hk ls st n mem h H locs lsC cs ss e1 e2 e3 hl hz hP hS
  unfold o_icmp at h
  split at h
  · exact lv_icmp_ne X.1 X.2.1 hd ht (fun z => hk _ _ _ _ _ (h.2 z) H locs lsC cs ss e1 e2 e3 hl hz hP hS) (fun z => hk _ _ _ _ _ (h.1 z) H locs lsC cs ss e1 e2 e3 hl hz hP hS)
  · exact h.elim

theorem sn_goto (X : zCx G n0 nE nL cc own p R s m args c) {pc : Nat} {off : Int} (tgt : Nat) (hd : decode cc pc = .ok (.goto off, 3)) (ht : (pc : Int) + off = (tgt : Int)) : zSnd G n0 nE nL p l e R s m args below meth c Z pc (o_goto tgt) := by
  intro k hk ls st n mem h H locs lsC cs ss e1 e2 e3 hl hz hP hS
  exact lv_goto X.1 X.2.1 hd ht (hk _ _ _ _ _ h H locs lsC cs ss e1 e2 e3 hl hz hP hS)
theorem sn_dup (X : zCx G n0 nE nL cc own p R s m args c) {pc : Nat} (hd : decode cc pc = .ok (.dup, 1)) : zSnd G n0 nE nL p l e R s m args below meth c Z pc (o_dup (pc + 1)) := by
  intro k hk ls st n mem h H locs lsC cs ss e1 e2 e3 hl hz hP hS
  unfold o_dup at h
  split at h
  · exact lv_dup X.1 X.2.1 hd rfl (hk _ _ _ _ _ h H locs lsC cs ss e1 e2 e3 hl hz hP hS)
  · exact lv_dup X.1 X.2.1 hd rfl (hk _ _ _ _ _ h H locs lsC cs ss e1 e2 e3 hl hz hP hS)
  · exact h.elim
theorem sn_dup2 (X : zCx G n0 nE nL cc own p R s m args c) {pc : Nat} (hd : decode cc pc = .ok (.dup2, 1)) : zSnd G n0 nE nL p l e R s m args below meth c Z pc (o_dup2 (pc + 1)) := by
  intro k hk ls st n mem h H locs lsC cs ss e1 e2 e3 hl hz hP hS
  unfold o_dup2 at h
  split at h
  · exact lv_dup2_11 X.1 X.2.1 hd rfl rfl (hk _ _ _ _ _ h H locs lsC cs ss e1 e2 e3 hl hz hP hS)
  · exact h.elim
theorem sn_dupx1 (X : zCx G n0 nE nL cc own p R s m args c) {pc : Nat} (hd : decode cc pc = .ok (.dup_x1, 1)) : zSnd G n0 nE nL p l e R s m args below meth c Z pc (o_dupx1 (pc + 1)) := by
  intro k hk ls st n mem h H locs lsC cs ss e1 e2 e3 hl hz hP hS
  unfold o_dupx1 at h
  split at h
  · exact lv_dup_x1 X.1 X.2.1 hd rfl rfl (hk _ _ _ _ _ h H locs lsC cs ss e1 e2 e3 hl hz hP hS)
  · exact h.elim
theorem sn_dupx2 (X : zCx G n0 nE nL cc own p R s m args c) {pc : Nat} (hd : decode cc pc = .ok (.dup_x2, 1)) : zSnd G n0 nE nL p l e R s m args below meth c Z pc (o_dupx2 (pc + 1)) := by
  intro k hk ls st n mem h H locs lsC cs ss e1 e2 e3 hl hz hP hS
  unfold o_dupx2 at h
  split at h
  · exact lv_dup_x2 X.1 X.2.1 hd rfl rfl rfl (hk _ _ _ _ _ h H locs lsC cs ss e1 e2 e3 hl hz hP hS)
  · exact h.elim
theorem sn_pop (X : zCx G n0 nE nL cc own p R s m args c) {pc : Nat} (hd : decode cc pc = .ok (.pop, 1)) : zSnd G n0 nE nL p l e R s m args below meth c Z pc (o_pop (pc + 1)) := by
  intro k hk ls st n mem h H locs lsC cs ss e1 e2 e3 hl hz hP hS
  unfold o_pop at h
  split at h
  · exact lv_pop X.1 X.2.1 hd rfl (hk _ _ _ _ _ h H locs lsC cs ss e1 e2 e3 hl hz hP hS)
  · exact lv_pop X.1 X.2.1 hd rfl (hk _ _ _ _ _ h H locs lsC cs ss e1 e2 e3 hl hz hP hS)
  · exact h.elim
end Sound
