
/-! ===== methods that throw: the exception is one more cell, of the kind 12 ===== -/
abbrev nse : String := "java/util/NoSuchElementException"
abbrev nseN : List String := ["java/lang/RuntimeException", "java/lang/Exception"]
abbrev nseR : ByteArray := prog_29_method_4_code
abbrev nseB : List Cond := [.castable nse nse, .declares (Bundle.initS "java/lang/RuntimeException"), .declares (Bundle.initS "java/lang/Exception"), .declares (Bundle.initS Bundle.tN)]
def zX (G : zG) (U : State) : Prop := (∀ w ∈ nseB, va_Nw w U) ∧ vx_Zq Bundle.tN "UNASSIGNED_STACK" Bundle.steD (zA G) U U.heap ∧ vx_Zq Bundle.tN "SUPPRESSED_SENTINEL" Bundle.listD (zA G) U U.heap
theorem va_Nw_warmD {x : MethodName} {s U : State} (hW : s.WarmedH U.vm) (hZ : va_Nw (.declares x) s) : va_Nw (.declares x) U := va_tabs rfl (rfl : (s.setVm U.vm).vm = U.vm) (by rw [Cond.declares_setVm hW.alike]; exact hZ)
theorem zX_keep {G : zG} {s U : State} (hW : s.WarmedH U.vm) (hk : ∀ a : Nat, a < s.heap.size → ¬ zA G a → U.heap[a]? = s.heap[a]?) (h : zX G s) : zX G U := by
  refine ⟨fun w hw => ?_, (vx_Zq.moved hW.alike h.2.1).kept hk, (vx_Zq.moved hW.alike h.2.2).kept hk⟩
  have h1 := h.1 w hw
  simp only [nseB, List.mem_cons, List.not_mem_nil, or_false] at hw
  rcases hw with rfl | rfl | rfl | rfl
  · exact va_Nw.warmC hW h1
  · exact va_Nw_warmD hW h1
  · exact va_Nw_warmD hW h1
  · exact va_Nw_warmD hW h1
theorem zX_calling {G : zG} {U : State} {g : JFrame} {mk : MethodId} {a : Array Value} (h : zX G U) : zX G (U.calling g mk a) := zX_keep (s := U) (U := U.calling g mk a) (State.WarmedH.refl U) (fun _ _ _ => rfl) h
def zPX (G : zG) (as : List Value) (n : Nat) (mem : zM) : Array Value → State → Prop := fun v U => zP G as n mem v U ∧ zX G U
theorem zPX_blind {G : zG} {as : List Value} {n : Nat} {mem : zM} : FrameBlind (zPX G as n mem) := fun _ _ _ _ h => ⟨zP_blind _ _ _ _ h.1, zX_calling h.2⟩
def zXC (G : zG) (nE : Nat) (QX : zM → Prop) : String → State → State → Prop := fun E st t => ∃ mem : zM, (QX mem ∧ E = nse ∧ t.heap.size = G.1 + nE ∧ va_P (zD G) zcls (zcells G nE mem) t.heap) ∧ va_F (zA G) st t
theorem w_nseL : Cond.classLink RX10 115 nse ∈ zTs := zmem 953 (by decide +kernel) (by decide +kernel)
theorem w_nseI : Cond.initialized nse ∈ zTs := zmem 110 (by decide +kernel) (by decide +kernel)
theorem w_nse_0 : decode nseR 0 = .ok (.aload_n 0, 1) := by decide +kernel
theorem w_nse_1 : decode nseR 1 = .ok (.aload_n 1, 1) := by decide +kernel
theorem w_nse_2 : decode nseR 2 = .ok (.invokespecial 13, 3) := by decide +kernel
theorem w_nse_5 : decode nseR 5 = .ok (.return_, 1) := by decide +kernel
abbrev nseL : List Cond := zx_at RX10 119 nse 13 nseR nseN
theorem w_nseP : nseL.filter goodWord = [107, 975, 984, 986, 989, 991, 976, 977, 117, 118, 978, 983, 987, 1007, 965, 1008, 967, 1009, 969, 979, 981, 971, 1003, 1004, 1006, 971, 994, 995, 996, 997, 997, 998, 999, 1000, 1000, 1001, 1002, 1003, 993, 954, 962, 963, 964, 966, 968, 970, 974, 973, 972].filterMap (fun i => lw_tbl[i]?) := by decide +kernel
theorem w_nseA : ∀ w ∈ nseL.filter goodWord, w ∈ lw_tbl := by
  intro w hw
  rw [w_nseP] at hw
  obtain ⟨i, -, hi⟩ := List.mem_filterMap.mp hw
  exact List.mem_of_getElem? hi
theorem w_nseB : ∀ w ∈ nseL.filter (fun w => !goodWord w), w ∈ nseB := by decide +kernel
theorem w_nseC : ∀ w ∈ Cond.classLink RX10 115 nse :: Cond.initialized nse :: nseL, vx_ot w = true := by decide +kernel
theorem w_nseD : ∀ n ∈ nseN, Bundle.fit n = true := by decide +kernel
def o_mk (nE nx : Nat) : zOp := fun k ls st n mem => n + 1 ≤ nE ∧ zkd (100 + n) = .inl 12 ∧ st = [] ∧ k nx ls [.ref (100 + n)] (n + 1) mem
def o_athrow (n0 : Nat) (QX : zM → Prop) : zOp := fun _ _ st n mem => st = [.ref (100 + n0)] ∧ n = n0 + 1 ∧ zkd (100 + n0) = .inl 12 ∧ QX mem
theorem zc_nse {G : zG} {mem : zM} {i : Nat} (h : zkd i = .inl 12) : zc G mem i = .inr (12, []) := by
  unfold zc; rw [h]; rfl
theorem zS_nse {n : Nat} (h : zkd (100 + n) = .inl 12) : zS (n + 1) = zS n + 6 := by
  show zS n + zsz (100 + n) = _
  unfold zsz; rw [h]; rfl
theorem zX_use {G : zG} {s : State} {args : Array Value} (h : zX G s) {w : Cond} (hw : w ∈ nseB) : w.before args s = true := by
  have h1 := h.1 w hw
  simp only [nseB, List.mem_cons, List.not_mem_nil, or_false] at hw
  rcases hw with rfl | rfl | rfl | rfl <;> exact va_Nw.use (A := args) rfl h1
section Throws
variable {G : zG} {n0 nE nL : Nat} {cc : ByteArray} {own : String} {p : Program} {l : Launch} {e : Env} {R : Room} {s : State} {m : MethodId} {args : Array Value} {below : List Frame} {meth : Method} {c : Code} {Z : State → Prop}
theorem sn_mk (X : zCx G n0 nE nL cc RX10 p R s m args c) (hE : zX G s) (hl : l.stackTraces = false) (hR : 6 ≤ R.frames ∧ 82 ≤ R.locals) {pc is : Nat} (q : Nat) (hq : q < 25) (hqs : (zso q).1 = RX10 ∧ (zso q).2.1 = is) (d0 : decode cc pc = .ok (.new 115, 3)) (d3 : decode cc (pc + 3) = .ok (.dup, 1)) (d4 : decode cc (pc + 4) = .ok (.ldc is, 2)) (d6 : decode cc (pc + 6) = .ok (.invokespecial 119, 3)) : zSnd G n0 nE nL p l e R s m args below meth c Z pc (o_mk nE (pc + 9)) := by
  intro k hk ls st n mem h H locs lsC cs ss e1 e2 e3 hl0 hz hP hS
  obtain ⟨h1, h2, h3, h4⟩ := h
  subst h3
  have hsz := zS_nse h2
  have hc := zcs_le X (n := n + 1) (cs := cs + 1) (ss := ss + 6) (by omega) (by omega) h1
  have hstr := X.2.2.2.2.2.1.2.2.2.2.2.2.2.2.1 q hq
  rw [hqs.1, hqs.2] at hstr
  have hsh : s.heap.size = G.1 + n0 := X.2.2.2.2.2.2.1
  refine zx_make (ci := 12) (T0 := TX8) (names := nseN) (rest := []) (ix := 13) (rx := nseR) X.1 X.2.1 hl w_nse_0 w_nse_1 w_nse_2 w_nse_5 X.2.2.2.1 (by decide +kernel) w_nseD (X.2.2.2.2.1 _ w_nseL) (X.2.2.2.2.1 _ w_nseI) hstr
    (vx_hat (fun w hw => X.2.2.2.2.1 _ (List.mem_filter.mpr ⟨w_nseA w hw, (List.mem_filter.mp hw).2⟩)) w_nseB (fun w hw => zX_use hE hw)) w_nseC hE.2.1 hE.2.2 hS (hl0.1.trans X.2.2.1.symm) d0 d3 d4 d6
    X.2.2.2.2.2.1.1 hP zcells_D (fun q hq => by show G.1 ≤ q; omega) rfl (by show 2 + 3 < R.frames; omega) (by show 0 + (13 * (2 + 1) + 43) ≤ R.locals; omega) hc.1 hc.2 ?_
  intro q9 H1 hP1 hD1 hS1 T hT Xs
  have hlast : (zcells G n mem ++ [(q9, Sum.inr (12, []))])[n]? = some (q9, Sum.inr (12, [])) := by
    rw [List.getElem?_append_right (by rw [zcells_len]; exact Nat.le_refl _), zcells_len, Nat.sub_self]; rfl
  have g1 : q9 < H1.size := vx_lt hP1 hlast
  have g2 : G.1 ≤ q9 := hD1.2 n _ hlast
  have g3 : ¬ q9 < G.1 + n := by
    intro hlt
    have hk9 : q9 - G.1 < n := by omega
    have hget : (zcells G n mem ++ [(q9, Sum.inr (12, []))])[q9 - G.1]? = some (G.1 + (q9 - G.1), zc G mem (100 + (q9 - G.1))) := by
      rw [List.getElem?_append_left (by rw [zcells_len]; exact hk9)]; exact zcells_get hk9
    have := hD1.1 (q9 - G.1) n _ _ hget hlast (by show G.1 + (q9 - G.1) = q9; omega)
    omega
  have g4 := Xs.heapSize
  rw [hT] at g4
  have hq9 : q9 = G.1 + n := by omega
  have hz1 : H1.size = G.1 + (n + 1) := by omega
  subst hq9
  have hP2 : va_P (zD G) zcls (zcells G (n + 1) mem) H1 := by rw [zcells_push, zc_nse h2]; exact hP1
  have had : zAd G (100 + n) = G.1 + n := by
    have : Nat.ble 100 (100 + n) = true := Nat.ble_eq.mpr (by omega)
    unfold zAd; rw [this]; show G.1 + (100 + n - 100) = _; omega
  have h5 := hk _ _ _ _ _ h4 H1 locs lsC (cs + 1) (ss + 6) (by omega) (by omega) h1 hl0 hz1 hP2 hS1 T hT Xs
  have h6 : ([Value.ref (100 + n)].map (zV G)) = [Value.ref (G.1 + n)] := by show [Value.ref (zAd G (100 + n))] = _; rw [had]
  rw [h6] at h5
  exact h5
theorem sx_retI {Q : zPo} {QX : zM → Prop} (X : zCx G n0 (n0 + 1) nL cc own p R s m args c) (hr : meth.sig.returnType = some .int) (hlk : meth.locks = false) {pc : Nat} (hd : decode cc pc = .ok (.ireturn, 1)) : zSnd G n0 (n0 + 1) nL p l e R s m args below meth c (vx_MQ below (zQ G n0 Q) (zXC G (n0 + 1) QX) args s 1 6 (zA G)) pc (o_retI n0 Q) := by
  intro k hk ls st n mem h H locs lsC cs ss e1 e2 e3 hl hz hP hS
  unfold o_retI at h
  split at h
  · obtain ⟨h1, h2⟩ := h
    subst h1
    refine vx_ret (W.widen (k := 1) (n := 6) (by omega) (by omega) ?_)
    refine W.iret X.1 X.2.1 hr (fun t ht hW => ?_) hS.2.2 hd hlk
    exact ⟨⟨some (.int _), mem, rfl, h2, by rw [ht]; exact hz, by rw [ht]; exact hP, zE_keep hW (fun a h1 h2 => by rw [ht]; exact hS.2.1 a h1 h2) X.2.2.2.2.2.1⟩, hS.F ht⟩
  · exact h.elim
theorem sx_athrow {Q : zPo} {QX : zM → Prop} (X : zCx G n0 (n0 + 1) nL cc own p R s m args c) (hout : ∀ x ∈ c.exceptionTable.toList, False) (hlk : meth.locks = false) {pc : Nat} (hd : decode cc pc = .ok (.athrow, 1)) : zSnd G n0 (n0 + 1) nL p l e R s m args below meth c (vx_MQ below (zQ G n0 Q) (zXC G (n0 + 1) QX) args s 1 6 (zA G)) pc (o_athrow n0 QX) := by
  intro k hk ls st n mem h H locs lsC cs ss e1 e2 e3 hl hz hP hS
  obtain ⟨h1, h2, h3, h4⟩ := h
  subst h1; subst h2
  have hsz := zS_nse h3
  have hget : (zcells G (n0 + 1) mem)[n0]? = some (G.1 + n0, .inr (12, [])) := by rw [zcells_get (by omega), zc_nse h3]
  obtain ⟨q', k1, cell, g1, g2, g3, -⟩ := hP n0 _ hget
  have had : zAd G (100 + n0) = G.1 + n0 := by
    have : Nat.ble 100 (100 + n0) = true := Nat.ble_eq.mpr (by omega)
    unfold zAd; rw [this]; show G.1 + (100 + n0 - 100) = _; omega
  show W p l e R s m args below meth c H locs cs ss _ (F0 m pc lsC [Value.ref (zAd G (100 + n0))])
  rw [had]
  refine vx_athrow X.1 X.2.1 hd (vx_out (E := nse) (ce := cell) (fun x hx => (hout x hx).elim) hlk g1 g3 ?_ (fun t ht hA => ?_) hS.2.2 (by omega) (by omega))
  · rw [g2]
    exact (X.2.2.2.2.2.1.1.1 12 _ rfl).2.1
  · exact ⟨mem, ⟨h4, rfl, by rw [ht]; exact hz, by rw [ht]; exact hP⟩, hS.F ht⟩
end Throws
