
section Sound5
variable {G : zG} {n0 nE nL : Nat} {cc : ByteArray} {own : String} {p : Program} {l : Launch} {e : Env} {R : Room} {s : State} {m : MethodId} {args : Array Value} {below : List Frame} {meth : Method} {c : Code} {Z : State → Prop}
theorem zPre (X : zCx G n0 nE nL cc own p R s m args c) {H : Heap} {locs : List Loc} {as : List Value} {n : Nat} {mem : zM} (hz : H.size = G.1 + n) (hP : va_P (zD G) zcls (zcells G n mem) H) (hS : va_S (zA G) s.heap H locs) : ∀ U : State, U.heap = H → s.WarmedH U.vm → zP G as n mem (as.map (zV G)).toArray U := by
  intro U hU hW
  refine ⟨rfl, by rw [hU]; exact hz, by rw [hU]; exact hP, zE_keep hW (fun a h1 h2 => by rw [hU]; exact hS.2.1 a h1 h2) X.2.2.2.2.2.1⟩
theorem z_go {H : Heap} {locs : List Loc} {lsC : Array Slot} {cs ss mc ms nQ pc : Nat} {st0 rest : List Value} {a : Array Value} {Q : zPo} (hr : va_Run p l e R s m args below meth c H locs cs ss mc ms (F0 m pc lsC st0) rest (zQ G nQ Q a) (zA G)) (hS : va_S (zA G) s.heap H locs)
    (kk : ∀ (r : Option Value) (mem : zM) (H1 : Heap) (locs1 : List Loc), Q r nQ mem → H1.size = G.1 + nQ → va_P (zD G) zcls (zcells G nQ mem) H1 → va_S (zA G) s.heap H1 locs1 → W p l e R s m args below meth c H1 locs1 (cs + mc) (ss + ms) Z (F0 m (pc + 3) lsC ((r.map (zV G)).toList ++ rest))) : W p l e R s m args below meth c H locs cs ss Z (F0 m pc lsC st0) := by
  intro T hT X
  obtain ⟨v, st₀, t, T', L, h0, X', hL, e1, e2, ⟨⟨r, mem, hv, hq, hw⟩, hz, hk⟩, st⟩ := hr T hT X
  cases hv
  rw [h0] at hz hk
  obtain ⟨t2, a1, b1⟩ := kk r mem T'.heap (locs ++ L) hq (by rw [e1]; exact hw.1) (by rw [e1]; exact hw.2.1)
    ⟨Nat.le_trans hS.1 (by rw [e1]; exact hz), fun q h1 h2 => by rw [e1, hk q (Nat.lt_of_lt_of_le h1 hS.1) h2]; exact hS.2.1 q h1 h2, fun q hq => by
      rcases List.mem_append.mp hq with h | h
      · exact hS.2.2 q h
      · exact hL q h⟩ T' rfl X'
  exact ⟨t2, st t2 a1, b1⟩
theorem zret_st {r : Option Value} {rest : List Value} : (r.map (zV G)).toList ++ rest.map (zV G) = (r.toList ++ rest).map (zV G) := by cases r <;> rfl
/-- what a call site gives -/
def zCB (y : MethodName) (bytes : ByteArray) (mL : Nat) (ret : Option FieldType) (n : Nat) : Prop := Cond.code y bytes mL ret ∈ zTs ∧ Cond.initialized y.cls ∈ zTs ∧ y.cls ≠ "java/lang/invoke/MethodHandle" ∧ y.cls ≠ "java/lang/invoke/VarHandle" ∧ (parseMethodDescriptor y.desc).map (fun d => d.parameters.length) = some n
theorem z_callB (X : zCx G n0 nE nL cc own p R s m args c) {y : MethodName} {bytes : ByteArray} {mL h mc ms na idx : Nat} {ret : Option FieldType} (hB : zCB y bytes mL ret na) (hl : Cond.methodLink own idx y ∈ zTs) (hR : h + 1 ≤ R.frames ∧ 8 + (mL + 11) + 40 * h ≤ R.locals) :
    CallB R s args own idx y bytes mL ret (.code y bytes mL ret :: zTs) { frames := h, cells := mc, slots := ms, locals := 40 * h } mc ms na :=
  callB_of na X.2.2.2.2.1 (zGoodIn hB.1) rfl rfl rfl (X.2.2.2.2.1 _ hB.2.1) (X.2.2.2.2.1 _ hl) hB.2.2 hR
theorem zcs_le (X : zCx G n0 nE nL cc own p R s m args c) {n cs ss : Nat} (e1 : n = n0 + cs) (e2 : zS n = zS n0 + ss) (h : n ≤ nE) : cs ≤ R.cells ∧ ss ≤ R.slots := by
  have h1 := X.2.2.2.2.2.2.2.1
  have h2 := X.2.2.2.2.2.2.2.2
  have h3 : zS n ≤ zS nE := zS_mono h
  omega
theorem sn_callS (X : zCx G n0 nE nL cc own p R s m args c) {pc idx : Nat} {y : MethodName} {bytes : ByteArray} {mL h : Nat} {ret : Option FieldType} {K : zCt} (na : Nat) (hK : zOK l G y bytes mL ret h 0 0 K) (hB : zCB y bytes mL ret na) (hl : Cond.methodLink own idx y ∈ zTs) (hst : Cond.static y ∈ zTs) (hR : h + 1 ≤ R.frames ∧ 8 + (mL + 11) + 40 * h ≤ R.locals) (hd : decode cc pc = .ok (.invokestatic idx, 3)) : zSnd G n0 nE nL p l e R s m args below meth c Z pc (o_callS K na (pc + 3)) := by
  intro k hk ls st n mem h H locs lsC cs ss e1 e2 e3 hl0 hz hP hS
  obtain ⟨h1, h2, h3⟩ := h
  have hc := zcs_le X e1 e2 e3
  refine z_go (nQ := n) (va_runS ⟨X.1, X.2.1, X.2.2.1, X.2.2.2.1, X.2.2.2.2.1⟩ (hK _ _ _ _ h3) ⟨z_callB X hB hl hR, X.2.2.2.2.1 _ hst⟩ ⟨zP_blind, zPre X hz hP hS⟩ rfl (zlen_take h1) hl0.1 zst_cut (lv_room (zrm_V h2)) hd ⟨by omega, by omega⟩) hS ?_
  intro r mem' H1 locs1 hq hz1 hP1 hS1
  rw [zret_st]
  exact hk _ _ _ _ _ hq H1 locs1 lsC cs ss e1 e2 e3 hl0 hz1 hP1 hS1
theorem sn_callSN (X : zCx G n0 nE nL cc own p R s m args c) {pc idx : Nat} {y : MethodName} {host : String} {bytes : ByteArray} {mL h : Nat} {ret : Option FieldType} {K : zCt} (na : Nat) (hK : zOK l G y bytes mL ret h 0 0 K) (hB : zCB y bytes mL ret na) (hl : Cond.methodLinkNest own idx y host ∈ lw_tbl) (hst : Cond.static y ∈ zTs) (hR : h + 1 ≤ R.frames ∧ 8 + (mL + 11) + 40 * h ≤ R.locals) (hd : decode cc pc = .ok (.invokestatic idx, 3)) : zSnd G n0 nE nL p l e R s m args below meth c Z pc (o_callS K na (pc + 3)) := by
  intro k hk ls st n mem h H locs lsC cs ss e1 e2 e3 hl0 hz hP hS
  obtain ⟨h1, h2, h3⟩ := h
  have hc := zcs_le X e1 e2 e3
  refine z_go (nQ := n) (va_runSN ⟨X.1, X.2.1, X.2.2.1, X.2.2.2.1, X.2.2.2.2.1⟩ (hK _ _ _ _ h3) ⟨va_cnB na X.2.2.2.2.1 (zGoodIn hB.1) rfl rfl rfl (X.2.2.2.2.2.1.2.1 _ hl rfl) (X.2.2.2.2.1 _ hB.2.1) hB.2.2 hR, X.2.2.2.2.1 _ hst, trivial⟩ ⟨zP_blind, zPre X hz hP hS⟩ rfl (zlen_take h1) hl0.1 zst_cut (lv_room (zrm_V h2)) hd ⟨by omega, by omega⟩) hS ?_
  intro r mem' H1 locs1 hq hz1 hP1 hS1
  rw [zret_st]
  exact hk _ _ _ _ _ hq H1 locs1 lsC cs ss e1 e2 e3 hl0 hz1 hP1 hS1
theorem sn_callV (X : zCx G n0 nE nL cc own p R s m args c) {pc idx : Nat} {y : MethodName} {bytes : ByteArray} {mL h : Nat} {ret : Option FieldType} {K : zCt} (ci na : Nat) {T : u_T} {N : Nat} (hC : zcls[ci]? = some (y.cls, T, N)) (hK : zOK l G y bytes mL ret h 0 0 K) (hB : zCB y bytes mL ret na) (hl : Cond.methodLink own idx y ∈ zTs) (hin : Cond.instanceMethod y ∈ zTs) (hsel : Cond.selects y.cls y y ∈ zTs) (hR : h + 1 ≤ R.frames ∧ 8 + (mL + 11) + 40 * h ≤ R.locals) (hd : decode cc pc = .ok (.invokevirtual idx, 3)) : zSnd G n0 nE nL p l e R s m args below meth c Z pc (o_callV ci K na (pc + 3)) := by
  intro k hk ls st n mem h H locs lsC cs ss e1 e2 e3 hl0 hz hP hS
  unfold o_callV at h
  split at h
  · rename_i i rest hdr
    obtain ⟨h0, h1, h2, h3⟩ := h
    have hc := zcs_le X e1 e2 e3
    have hPre := zPre X (as := .ref i :: (st.take na).reverse) hz hP hS
    refine z_go (nQ := n) (va_runV (C := y.cls) ⟨X.1, X.2.1, X.2.2.1, X.2.2.2.1, X.2.2.2.2.1⟩ (hK _ _ _ _ h3) ⟨z_callB X hB hl hR, X.2.2.2.2.1 _ hin, X.2.2.2.2.1 _ hsel⟩ ⟨zP_blind, va_recv X.2.2.2.2.2.1.1 hP hC (h0.obj (mem := mem)), hPre⟩ rfl (zlen_take h1) hl0.1 (zst_cutV hdr) (lv_room (zrm_V h2)) hd ⟨by omega, by omega⟩) hS ?_
    intro r mem' H1 locs1 hq hz1 hP1 hS1
    rw [zret_st]
    exact hk _ _ _ _ _ hq H1 locs1 lsC cs ss e1 e2 e3 hl0 hz1 hP1 hS1
  · exact h.elim
theorem sn_callT (X : zCx G n0 nE nL cc own p R s m args c) {pc idx : Nat} {y : MethodName} {bytes : ByteArray} {mL h : Nat} {ret : Option FieldType} {K : zCt} (na : Nat) (hy : y.cls = "java/lang/String") (hK : zOK l G y bytes mL ret h 0 0 K) (hB : zCB y bytes mL ret na) (hl : Cond.methodLink own idx y ∈ zTs) (hin : Cond.instanceMethod y ∈ zTs) (hsel : Cond.selects y.cls y y ∈ zTs) (hR : h + 1 ≤ R.frames ∧ 8 + (mL + 11) + 40 * h ≤ R.locals) (hd : decode cc pc = .ok (.invokevirtual idx, 3)) : zSnd G n0 nE nL p l e R s m args below meth c Z pc (o_callT K na (pc + 3)) := by
  intro k hk ls st n mem h H locs lsC cs ss e1 e2 e3 hl0 hz hP hS
  unfold o_callT at h
  split at h
  · rename_i i rest hdr
    obtain ⟨h0, h1, h2, h3⟩ := h
    have hc := zcs_le X e1 e2 e3
    have hPre := zPre X (as := .ref i :: (st.take na).reverse) hz hP hS
    obtain ⟨k1, k2, k3⟩ := zstr_lt h0
    have hO := ((X.2.2.2.2.2.1.2.2.2.2.2.2.2.1 _ k1).1).kept hS.2.1
    rw [k2] at hO
    have ead : zAd G i = G.2.1 i := by simp [zAd, k3]
    obtain ⟨cell, g1, g2, g3, -⟩ := hO
    rw [← ead] at g1
    refine z_go (nQ := n) (va_runV (C := y.cls) ⟨X.1, X.2.1, X.2.2.1, X.2.2.2.1, X.2.2.2.2.1⟩ (hK _ _ _ _ h3) ⟨z_callB X hB hl hR, X.2.2.2.2.1 _ hin, X.2.2.2.2.1 _ hsel⟩ ⟨zP_blind, ⟨cell, g1, g2, by rw [hy]; exact g3⟩, hPre⟩ rfl (zlen_take h1) hl0.1 (zst_cutV hdr) (lv_room (zrm_V h2)) hd ⟨by omega, by omega⟩) hS ?_
    intro r mem' H1 locs1 hq hz1 hP1 hS1
    rw [zret_st]
    exact hk _ _ _ _ _ hq H1 locs1 lsC cs ss e1 e2 e3 hl0 hz1 hP1 hS1
  · exact h.elim
theorem sn_callI (X : zCx G n0 nE nL cc own p R s m args c) {pc idx : Nat} {y : MethodName} {bytes : ByteArray} {mL h : Nat} {K : zCt} (mc ms na : Nat) (hy : y.name = "<init>") (hK : zOK l G y bytes mL none h mc ms K) (hB : zCB y bytes mL none na) (hl : Cond.methodLink own idx y ∈ zTs) (hin : Cond.instanceMethod y ∈ zTs) (hR : h + 1 ≤ R.frames ∧ 8 + (mL + 11) + 40 * h ≤ R.locals) (hd : decode cc pc = .ok (.invokespecial idx, 3)) : zSnd G n0 nE nL p l e R s m args below meth c Z pc (o_callI K mc ms nE na (pc + 3)) := by
  intro k hk ls st n mem h H locs lsC cs ss e1 e2 e3 hl0 hz hP hS
  unfold o_callI at h
  split at h
  · rename_i i rest hdr
    obtain ⟨h1, h2, h4, h5, h3⟩ := h
    have hc := zcs_le X (n := n + mc) (cs := cs + mc) (ss := ss + ms) (by omega) (by omega) h4
    have hPre := zPre X (as := .ref i :: (st.take na).reverse) hz hP hS
    refine z_go (nQ := n + mc) (va_runI ⟨X.1, X.2.1, X.2.2.1, X.2.2.2.1, X.2.2.2.2.1⟩ (hK _ _ _ _ h3) ⟨z_callB X hB hl hR, hy, X.2.2.2.2.1 _ hin⟩ ⟨zP_blind, hPre⟩ rfl (zlen_take h1) hl0.1 (zst_cutV hdr) (lv_room (zrm_V h2)) hd hc) hS ?_
    intro r mem' H1 locs1 hq hz1 hP1 hS1
    rw [zret_st]
    exact hk _ _ _ _ _ hq H1 locs1 lsC (cs + mc) (ss + ms) (by omega) (by omega) h4 hl0 hz1 hP1 hS1
  · exact h.elim
theorem sn_callIN (X : zCx G n0 nE nL cc own p R s m args c) {pc idx : Nat} {y : MethodName} {host : String} {bytes : ByteArray} {mL h : Nat} {K : zCt} (mc ms na : Nat) (hy : y.name = "<init>") (hK : zOK l G y bytes mL none h mc ms K) (hB : zCB y bytes mL none na) (hl : Cond.methodLinkNest own idx y host ∈ lw_tbl) (hin : Cond.instanceMethod y ∈ zTs) (hR : h + 1 ≤ R.frames ∧ 8 + (mL + 11) + 40 * h ≤ R.locals) (hd : decode cc pc = .ok (.invokespecial idx, 3)) : zSnd G n0 nE nL p l e R s m args below meth c Z pc (o_callI K mc ms nE na (pc + 3)) := by
  intro k hk ls st n mem h H locs lsC cs ss e1 e2 e3 hl0 hz hP hS
  unfold o_callI at h
  split at h
  · rename_i i rest hdr
    obtain ⟨h1, h2, h4, h5, h3⟩ := h
    have hc := zcs_le X (n := n + mc) (cs := cs + mc) (ss := ss + ms) (by omega) (by omega) h4
    have hPre := zPre X (as := .ref i :: (st.take na).reverse) hz hP hS
    refine z_go (nQ := n + mc) (va_runIN ⟨X.1, X.2.1, X.2.2.1, X.2.2.2.1, X.2.2.2.2.1⟩ (hK _ _ _ _ h3) ⟨va_cnB na X.2.2.2.2.1 (zGoodIn hB.1) rfl rfl rfl (X.2.2.2.2.2.1.2.1 _ hl rfl) (X.2.2.2.2.1 _ hB.2.1) hB.2.2 hR, hy, X.2.2.2.2.1 _ hin⟩ ⟨zP_blind, hPre⟩ rfl (zlen_take h1) hl0.1 (zst_cutV hdr) (lv_room (zrm_V h2)) hd hc) hS ?_
    intro r mem' H1 locs1 hq hz1 hP1 hS1
    rw [zret_st]
    exact hk _ _ _ _ _ hq H1 locs1 lsC (cs + mc) (ss + ms) (by omega) (by omega) h4 hl0 hz1 hP1 hS1
  · exact h.elim
end Sound5
section Ends
variable {G : zG} {n0 mc ms nL : Nat} {cc : ByteArray} {own : String} {p : Program} {l : Launch} {e : Env} {R : Room} {s : State} {m : MethodId} {args : Array Value} {below : List Frame} {meth : Method} {c : Code} {Q : zPo}
theorem z_end (X : zCx G n0 (n0 + mc) nL cc own p R s m args c) {H : Heap} {locs : List Loc} {r : Option Value} {mem : zM} (hQ : Q r (n0 + mc) mem) (hz : H.size = G.1 + (n0 + mc)) (hP : va_P (zD G) zcls (zcells G (n0 + mc) mem) H) (hS : va_S (zA G) s.heap H locs) : ∀ t : State, t.heap = H → s.WarmedH t.vm → zQ G (n0 + mc) Q args s (.returned (r.map (zV G))) t := by
  intro t ht hW
  exact ⟨⟨r, mem, rfl, hQ, by rw [ht]; exact hz, by rw [ht]; exact hP, zE_keep hW (fun a h1 h2 => by rw [ht]; exact hS.2.1 a h1 h2) X.2.2.2.2.2.1⟩, hS.F ht⟩
theorem sn_retV (X : zCx G n0 (n0 + mc) nL cc own p R s m args c) (hm : zS (n0 + mc) = zS n0 + ms) (hr : meth.sig.returnType = none) (hlk : meth.locks = false) {pc : Nat} (hd : decode cc pc = .ok (.return_, 1)) : zSnd G n0 (n0 + mc) nL p l e R s m args below meth c (MQ below (zQ G (n0 + mc) Q) args s mc ms (zA G)) pc (o_retV (n0 + mc) Q) := by
  intro k hk ls st n mem h H locs lsC cs ss e1 e2 e3 hl hz hP hS
  unfold o_retV at h
  split at h
  · obtain ⟨h1, h2⟩ := h
    subst h1
    have hcs : cs = mc := by omega
    have hss : ss = ms := by omega
    subst hcs; subst hss
    exact W.vret X.1 X.2.1 hr (z_end X (r := none) h2 hz hP hS) hS.2.2 hd hlk
  · exact h.elim
theorem sn_retI (X : zCx G n0 (n0 + mc) nL cc own p R s m args c) (hm : zS (n0 + mc) = zS n0 + ms) (hr : meth.sig.returnType = some .int) (hlk : meth.locks = false) {pc : Nat} (hd : decode cc pc = .ok (.ireturn, 1)) : zSnd G n0 (n0 + mc) nL p l e R s m args below meth c (MQ below (zQ G (n0 + mc) Q) args s mc ms (zA G)) pc (o_retI (n0 + mc) Q) := by
  intro k hk ls st n mem h H locs lsC cs ss e1 e2 e3 hl hz hP hS
  unfold o_retI at h
  split at h
  · obtain ⟨h1, h2⟩ := h
    subst h1
    have hcs : cs = mc := by omega
    have hss : ss = ms := by omega
    subst hcs; subst hss
    exact W.iret X.1 X.2.1 hr (z_end X (r := some (.int _)) h2 hz hP hS) hS.2.2 hd hlk
  · exact h.elim
theorem sn_retN (X : zCx G n0 (n0 + mc) nL cc own p R s m args c) (hm : zS (n0 + mc) = zS n0 + ms) (ty : FieldType) (hr : meth.sig.returnType = some ty) (hlk : meth.locks = false) {pc : Nat} (hd : decode cc pc = .ok (.ireturn, 1)) : zSnd G n0 (n0 + mc) nL p l e R s m args below meth c (MQ below (zQ G (n0 + mc) Q) args s mc ms (zA G)) pc (o_retN ty (n0 + mc) Q) := by
  intro k hk ls st n mem h H locs lsC cs ss e1 e2 e3 hl hz hP hS
  unfold o_retN at h
  split at h
  · obtain ⟨h0, h1, h2⟩ := h
    subst h1
    have hcs : cs = mc := by omega
    have hss : ss = ms := by omega
    subst hcs; subst hss
    exact W.zret X.1 X.2.1 hr h0 (z_end X (r := some (.int _)) h2 hz hP hS) hS.2.2 hd hlk
  · exact h.elim
theorem sn_retZ (X : zCx G n0 (n0 + mc) nL cc own p R s m args c) (hm : zS (n0 + mc) = zS n0 + ms) (hr : meth.sig.returnType = some .boolean) (hlk : meth.locks = false) {pc : Nat} (hd : decode cc pc = .ok (.ireturn, 1)) : zSnd G n0 (n0 + mc) nL p l e R s m args below meth c (MQ below (zQ G (n0 + mc) Q) args s mc ms (zA G)) pc (o_retZ (n0 + mc) Q) := by
  intro k hk ls st n mem h
  refine sn_retN X hm .boolean hr hlk hd k hk ls st n mem ?_
  unfold o_retZ at h
  unfold o_retN
  split at h
  · exact ⟨by rcases h.1 with rfl | rfl <;> rfl, h.2⟩
  · exact h.elim
theorem sn_retR (X : zCx G n0 (n0 + mc) nL cc own p R s m args c) (hm : zS (n0 + mc) = zS n0 + ms) {x : String} (hr : meth.sig.returnType = some (.object x)) (hlk : meth.locks = false) {pc : Nat} (hd : decode cc pc = .ok (.areturn, 1)) : zSnd G n0 (n0 + mc) nL p l e R s m args below meth c (MQ below (zQ G (n0 + mc) Q) args s mc ms (zA G)) pc (o_retR (n0 + mc) Q) := by
  intro k hk ls st n mem h H locs lsC cs ss e1 e2 e3 hl hz hP hS
  unfold o_retR at h
  split at h
  · obtain ⟨h1, h2⟩ := h
    subst h1
    have hcs : cs = mc := by omega
    have hss : ss = ms := by omega
    subst hcs; subst hss
    exact W.aret X.1 X.2.1 hr (Or.inl ⟨x, rfl⟩) (Or.inr ⟨_, rfl⟩) (z_end X (r := some (.ref _)) h2 hz hP hS) hS.2.2 hd hlk
  · exact h.elim
end Ends
theorem zL_args {G : zG} : ∀ {as : List Value} {i k : Nat}, (∀ v ∈ as, v.category = 1) → ∀ q ∈ zL G i (as ++ List.replicate k .null), q ∈ lv_args i (as.map (zV G)) := by
  intro as
  induction as with
  | nil =>
    intro i k _ q hq
    exfalso
    obtain ⟨j, h1, -⟩ := zL_mem.mp hq
    apply h1
    have : ∀ (k j : Nat), zg (List.replicate k .null) j = .null := by
      intro k
      induction k with
      | zero => intro j; rfl
      | succ k ih =>
        intro j
        cases j with
        | zero => rfl
        | succ j => exact ih j
    exact this k j
  | cons v vs ih =>
    intro i k hc q hq
    have hv : v.category = 1 := hc v List.mem_cons_self
    have hne : lv_args i ((v :: vs).map (zV G)) = (i, zV G v) :: lv_args (i + 1) (vs.map (zV G)) := by
      show (i, zV G v) :: lv_args (if (zV G v).category = 2 then i + 2 else i + 1) (vs.map (zV G)) = _
      rw [zV_cat, hv]; rfl
    rw [hne]
    have step := ih (i := i + 1) (k := k) (fun w hw => hc w (List.mem_cons_of_mem _ hw)) q
    by_cases hn : v = .null
    · subst hn
      exact List.mem_cons_of_mem _ (step hq)
    · have e : zL G i ((v :: vs) ++ List.replicate k .null) = (i, zV G v) :: zL G (i + 1) (vs ++ List.replicate k .null) := by
        show zL G i (v :: (vs ++ List.replicate k .null)) = _
        cases v <;> first | rfl | exact absurd rfl hn
      rw [e] at hq
      rcases List.mem_cons.mp hq with h | h
      · rw [h]; exact List.mem_cons_self
      · exact List.mem_cons_of_mem _ (step h)
def zin (mL : Nat) (as : List Value) : List Value := as ++ List.replicate (mL - as.length) .null
theorem zsl_len {G : zG} : ∀ {as : List Value}, (∀ v ∈ as, v.category = 1) → (lg_sl (as.map (zV G))).length = as.length := by
  intro as
  induction as with
  | nil => intro _; rfl
  | cons v vs ih =>
    intro hc
    have hv : v.category = 1 := hc v List.mem_cons_self
    show ((zV G v :: vs.map (zV G)).flatMap _).length = _
    rw [List.flatMap_cons, List.length_append, zV_cat, hv]
    have := ih (fun w hw => hc w (List.mem_cons_of_mem _ hw))
    unfold lg_sl at this
    rw [this]; simp; omega
/-- a method out of its table: sound rows, and the walk over them -/
theorem z_met {l : Launch} {G : zG} {y : MethodName} {cc : ByteArray} {mL h mc ms n : Nat} {ret : Option FieldType} {as : List Value} {mem : zM} {Q : zPo} (hy : plainName y.cls = true) (hcat : ∀ v ∈ as, v.category = 1) (hlen : as.length ≤ mL) (hm : zS (n + mc) = zS n + ms) (tab : Nat → zOp)
    (hs : ∀ (p : Program) (e : Env) (s : State) (m : MethodId) (args : Array Value) (below : List Frame) (meth : Method) (c : Code), zCx G n (n + mc) mL cc y.cls p { frames := h, cells := mc, slots := ms, locals := 40 * h } s m args c → meth.sig.returnType = ret → meth.locks = false → meth.name = y.name →
      zAll G n (n + mc) mL p l e { frames := h, cells := mc, slots := ms, locals := 40 * h } s m args below meth c (MQ below (zQ G (n + mc) Q) args s mc ms (zA G)) tab)
    (hw : ∀ P : zKt, (∀ pc ls st n mem, tab pc P ls st n mem → P pc ls st n mem) → P 0 (zin mL as) [] n mem) : zMet l G y cc mL ret h mc ms as n mem Q := by
  refine Met.ofW (cc := cc) (maxL := mL) (ret := ret) hy rfl ?_
  intro p e s m args below meth c s₁ B hml hv
  obtain ⟨ha, hz, hP, hE⟩ := hv
  subst ha
  have hts0 := atoms_spec (ws := (.code y cc mL ret :: zTs)) B.pre
  have X : zCx G n (n + mc) mL cc y.cls p { frames := h, cells := mc, slots := ms, locals := 40 * h } s m (as.map (zV G)).toArray c := ⟨B.exec, B.bytes, hml, findClass_of_methodNamed B.named, fun w hw => hts0 w (List.mem_cons_of_mem _ hw), hE, hz, Nat.le_refl _, Nat.le_of_eq hm⟩
  have hall := hs p e s m _ below meth c X B.returns B.notSynchronized (name_of_methodNamed B.named B.method).1
  have good := hw (zGood G n (n + mc) mL p l e { frames := h, cells := mc, slots := ms, locals := 40 * h } s m (as.map (zV G)).toArray below meth c (MQ below (zQ G (n + mc) Q) (as.map (zV G)).toArray s mc ms (zA G))) (fun pc ls st n mem hop => hall pc _ (fun _ _ _ _ _ z => z) ls st n mem hop)
  have hl := lv_entry (as.map (zV G)) (n := mL) (by rw [zsl_len hcat]; exact hlen)
  rw [lg_entry_eq]
  exact good s.heap [] _ 0 0 rfl rfl (Nat.le_add_right _ _) ⟨hl.1, hl.2.1, fun q hq => hl.2.2 q (zL_args hcat q hq)⟩ hz hP va_S.rf
