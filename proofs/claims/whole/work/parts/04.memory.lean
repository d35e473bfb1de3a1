
/-- a class of ours: its number, name, fields -/
def zCl (ci : Nat) (C : String) (T : u_T) (N : Nat) : Prop := zcls[ci]? = some (C, T, N) ∧ N = znF ci ∧ (∀ w ∈ u_ws C T N, w ∈ zTs) ∧ (∀ k, k < N → parseFieldDescriptor (T k).2.2.1 = some (zty ci k)) ∧ (∀ a, a < N → ∀ b, b < N → a ≠ b → (T a).2.1 ≠ (T b).2.1)
def zfresh (mem : zM) (i : Nat) : Prop := ∀ j, mem.1 i j = 0 ∧ mem.2.1 i j = 0 ∧ mem.2.2 i j = 0
def zokt : FieldType → Bool
  | .float => false
  | .double => false
  | _ => true
theorem zfv_default {G : zG} {mem : zM} {t : FieldType} {i j : Nat} (h : zfresh mem i) (ht : zokt t = true) : defaultValue t = zfv G mem t i j := by
  obtain ⟨h1, h2, h3⟩ := h j
  cases t <;> first | (exact absurd ht (by decide)) | (simp [zfv, h1, h2, h3, zro, va_rf, defaultValue])
def zrm (st : List Value) : Prop := (st.map fun v => v.category).sum ≤ 8
theorem zrm_V {G : zG} {st : List Value} (h : zrm st) : ((st.map (zV G)).map fun v => v.category).sum ≤ 8 := by
  have : (st.map (zV G)).map (fun v => v.category) = st.map (fun v => v.category) := by rw [List.map_map]; exact List.map_congr_left fun v _ => zV_cat v
  rw [this]; exact h
def o_new (ci nE nx : Nat) : zOp := fun k ls st n mem => zkd (100 + n) = .inl ci ∧ n + 1 ≤ nE ∧ zfresh mem (100 + n) ∧ k nx ls (.ref (100 + n) :: st) (n + 1) mem
def o_newa (t nE nx : Nat) : zOp := fun k ls st n mem => match st with
  | .int len :: st => ∃ N, len = nI N ∧ N ≤ 1000 ∧ zkd (100 + n) = .inr (t, N) ∧ n + 1 ≤ nE ∧ zfresh mem (100 + n) ∧ k nx ls (.ref (100 + n) :: st) (n + 1) mem
  | _ => False
def o_objInit (nx : Nat) : zOp := fun k ls st n mem => match st with
  | .ref _ :: st => zrm st ∧ k nx ls st n mem
  | _ => False
/-- a static call of a method that makes nothing -/
def o_callS (K : zCt) (na nx : Nat) : zOp := fun k ls st n mem => na ≤ st.length ∧ zrm (st.drop na) ∧ K (st.take na).reverse n mem (fun r n' mem' => k nx ls (r.toList ++ st.drop na) n' mem')
/-- a call on a cell of ours -/
def o_callV (ci : Nat) (K : zCt) (na nx : Nat) : zOp := fun k ls st n mem => match st.drop na with
  | .ref i :: rest => zis n i (.inl ci) ∧ na ≤ st.length ∧ zrm rest ∧ K (.ref i :: (st.take na).reverse) n mem (fun r n' mem' => k nx ls (r.toList ++ rest) n' mem')
  | _ => False
/-- a text -/
def zstr (i : Nat) : Prop := 20 ≤ i ∧ i < 45
theorem zstr_lt {i : Nat} (h : zstr i) : i - 20 < 25 ∧ 20 + (i - 20) = i ∧ Nat.ble 100 i = false := by
  obtain ⟨h1, h2⟩ := h
  refine ⟨by omega, by omega, ?_⟩
  cases hb : Nat.ble 100 i with
  | false => rfl
  | true => exact absurd (Nat.le_of_ble_eq_true hb) (by omega)
def o_callT (K : zCt) (na nx : Nat) : zOp := fun k ls st n mem => match st.drop na with
  | .ref i :: rest => zstr i ∧ na ≤ st.length ∧ zrm rest ∧ K (.ref i :: (st.take na).reverse) n mem (fun r n' mem' => k nx ls (r.toList ++ rest) n' mem')
  | _ => False
/-- a constructor that makes mc cells of ms slots -/
def o_callI (K : zCt) (mc ms nE na nx : Nat) : zOp := fun k ls st n mem => match st.drop na with
  | .ref i :: rest => na ≤ st.length ∧ zrm rest ∧ n + mc ≤ nE ∧ zS (n + mc) = zS n + ms ∧ K (.ref i :: (st.take na).reverse) n mem (fun r n' mem' => k nx ls (r.toList ++ rest) n' mem')
  | _ => False
def o_retV (nE : Nat) (Q : zPo) : zOp := fun _ _ st n mem => match st with
  | [] => n = nE ∧ Q none n mem
  | _ => False
def o_retI (nE : Nat) (Q : zPo) : zOp := fun _ _ st n mem => match st with
  | [.int v] => n = nE ∧ Q (some (.int v)) n mem
  | _ => False
def o_retZ (nE : Nat) (Q : zPo) : zOp := fun _ _ st n mem => match st with
  | [.int v] => (v = 0 ∨ v = 1) ∧ n = nE ∧ Q (some (.int v)) n mem
  | _ => False
def o_retN (ty : FieldType) (nE : Nat) (Q : zPo) : zOp := fun _ _ st n mem => match st with
  | [.int v] => narrow ty (.int v) = .int v ∧ n = nE ∧ Q (some (.int v)) n mem
  | _ => False
def o_retR (nE : Nat) (Q : zPo) : zOp := fun _ _ st n mem => match st with
  | [.ref v] => n = nE ∧ Q (some (.ref v)) n mem
  | _ => False
theorem zGoodIn {y : MethodName} {bytes : ByteArray} {mL : Nat} {ret : Option FieldType} (hc : Cond.code y bytes mL ret ∈ zTs) : GoodIn zTs (.code y bytes mL ret :: zTs) := by
  have key : ∀ w ∈ zTs, w ∈ zTs ∧ ((w.onTables && w.keeps) = true ∨ ∃ ty, w = .arrayClass ty) := fun w hw => ⟨hw, good_of_word (List.mem_filter.mp hw).2⟩
  intro w hw
  rcases List.mem_cons.mp hw with rfl | h
  · exact key _ hc
  · exact key _ h
theorem zst_cut {G : zG} {st : List Value} {na : Nat} : st.map (zV G) = (((st.take na).reverse).map (zV G)).reverse ++ (st.drop na).map (zV G) := by
  rw [List.map_reverse, List.reverse_reverse, ← List.map_append, List.take_append_drop]
theorem zst_cutV {G : zG} {st rest : List Value} {i na : Nat} (h : st.drop na = .ref i :: rest) : st.map (zV G) = (((st.take na).reverse).map (zV G)).reverse ++ .ref (zAd G i) :: rest.map (zV G) := by
  rw [zst_cut (na := na), h]; rfl
theorem zlen_take {G : zG} {st : List Value} {na : Nat} (h : na ≤ st.length) : (((st.take na).reverse).map (zV G)).length = na := by simp [h]
section Sound4
variable {G : zG} {n0 nE nL : Nat} {cc : ByteArray} {own : String} {p : Program} {l : Launch} {e : Env} {R : Room} {s : State} {m : MethodId} {args : Array Value} {below : List Frame} {meth : Method} {c : Code} {Z : State → Prop}
theorem sn_getI (X : zCx G n0 nE nL cc own p R s m args c) {pc idx : Nat} (ci j : Nat) {C : String} {T : u_T} {N : Nat} (hC : zCl ci C T N) (hj : j < N) (hw : Cond.fieldLink own idx (T j).1 (T j).2.1 (T j).2.2.1 ∈ zTs) (ht : ∀ (G : zG) (mem : zM) (i : Nat), zfv G mem (zty ci j) i j = .int (mem.1 i j)) (hd : decode cc pc = .ok (.getfield idx, 3)) : zSnd G n0 nE nL p l e R s m args below meth c Z pc (o_getI ci j (pc + 3)) := by
  intro k hk ls st n mem h H locs lsC cs ss e1 e2 e3 hl hz hP hS
  unfold o_getI at h
  split at h
  · rename_i i0 st0
    obtain ⟨h1, h2⟩ := h
    have hv := zfs_get (G := G) (mem := mem) (i := i0) (hC.2.1 ▸ hj)
    rw [ht] at hv
    exact va_get X.1 X.2.1 X.2.2.2.2.1 hC.2.2.1 X.2.2.2.1 X.2.2.2.2.2.1.1 hP _ h1.obj hC.1 j hj (X.2.2.2.2.1 _ hw) (fun _ z => z) hv hd (hk _ _ _ _ _ h2 H locs lsC cs ss e1 e2 e3 hl hz hP hS)
  · exact h.elim
theorem sn_getJ (X : zCx G n0 nE nL cc own p R s m args c) {pc idx : Nat} (ci j : Nat) {C : String} {T : u_T} {N : Nat} (hC : zCl ci C T N) (hj : j < N) (hw : Cond.fieldLink own idx (T j).1 (T j).2.1 (T j).2.2.1 ∈ zTs) (ht : ∀ (G : zG) (mem : zM) (i : Nat), zfv G mem (zty ci j) i j = .long (mem.2.1 i j)) (hd : decode cc pc = .ok (.getfield idx, 3)) : zSnd G n0 nE nL p l e R s m args below meth c Z pc (o_getJ ci j (pc + 3)) := by
  intro k hk ls st n mem h H locs lsC cs ss e1 e2 e3 hl hz hP hS
  unfold o_getJ at h
  split at h
  · rename_i i0 st0
    obtain ⟨h1, h2⟩ := h
    have hv := zfs_get (G := G) (mem := mem) (i := i0) (hC.2.1 ▸ hj)
    rw [ht] at hv
    exact va_get X.1 X.2.1 X.2.2.2.2.1 hC.2.2.1 X.2.2.2.1 X.2.2.2.2.2.1.1 hP _ h1.obj hC.1 j hj (X.2.2.2.2.1 _ hw) (fun _ z => z) hv hd (hk _ _ _ _ _ h2 H locs lsC cs ss e1 e2 e3 hl hz hP hS)
  · exact h.elim
theorem zro_pos {G : zG} {t : Nat} (h : t ≠ 0) : va_rf (zro G t) = .ref (zAd G t) := by
  cases t with
  | zero => exact absurd rfl h
  | succ t => rfl
theorem sn_getR (X : zCx G n0 nE nL cc own p R s m args c) {pc idx : Nat} (ci j : Nat) {C : String} {T : u_T} {N : Nat} (hC : zCl ci C T N) (hj : j < N) (hw : Cond.fieldLink own idx (T j).1 (T j).2.1 (T j).2.2.1 ∈ zTs) (ht : ∀ (G : zG) (mem : zM) (i : Nat), zfv G mem (zty ci j) i j = va_rf (zro G (mem.2.2 i j))) (hd : decode cc pc = .ok (.getfield idx, 3)) : zSnd G n0 nE nL p l e R s m args below meth c Z pc (o_getR ci j (pc + 3)) := by
  intro k hk ls st n mem h H locs lsC cs ss e1 e2 e3 hl hz hP hS
  unfold o_getR at h
  split at h
  · rename_i i0 st0
    obtain ⟨h1, t, h2, h3, h4⟩ := h
    have hv := zfs_get (G := G) (mem := mem) (i := i0) (hC.2.1 ▸ hj)
    rw [ht, h2, zro_pos h3] at hv
    exact va_get X.1 X.2.1 X.2.2.2.2.1 hC.2.2.1 X.2.2.2.1 X.2.2.2.2.2.1.1 hP _ h1.obj hC.1 j hj (X.2.2.2.2.1 _ hw) (fun _ z => z) hv hd (hk _ _ _ _ _ h4 H locs lsC cs ss e1 e2 e3 hl hz hP hS)
  · exact h.elim
theorem z_put {H : Heap} {locs : List Loc} {lsC : Array Slot} {cs ss n : Nat} {rest : List Value} {v : Value} {mem mem' : zM} {i : Nat} (X : zCx G n0 nE nL cc own p R s m args c) {pc idx : Nat} (ci j : Nat) {C : String} {T : u_T} {N : Nat} (hC : zCl ci C T N) (hj : j < N) (hw : Cond.fieldLink own idx (T j).1 (T j).2.1 (T j).2.2.1 ∈ zTs) (hfin : (T j).2.2.2 = false ∨ ((T j).2.2.2 = true ∧ meth.name = "<init>" ∧ (T j).1 = own)) (hn : narrow (zty ci j) v = v) (hfit : fits (zty ci j) v = true) (hd : decode cc pc = .ok (.putfield idx, 3))
    (his : zis n i (.inl ci)) (hrow : (zfs G mem ci i).set j v = zfs G mem' ci i) (hoth : ∀ a, a ≠ i → zc G mem a = zc G mem' a) (hP : va_P (zD G) zcls (zcells G n mem) H) (hS : va_S (zA G) s.heap H locs)
    (kk : ∀ (H1 : Heap) (locs1 : List Loc), H1.size = H.size → va_P (zD G) zcls (zcells G n mem') H1 → va_S (zA G) s.heap H1 locs1 → W p l e R s m args below meth c H1 locs1 cs ss Z (F0 m (pc + 3) lsC rest)) : W p l e R s m args below meth c H locs cs ss Z (F0 m pc lsC (v :: .ref (zAd G i) :: rest)) := by
  have hts := X.2.2.2.2.1
  have hK := X.2.2.2.2.2.1.1
  obtain ⟨hc, hNe, hin, hty, hnm⟩ := hC
  have hap := va_apart (own := own) hts hin (zty ci) hty hnm hK hc
  have he := his.obj (G := G) (mem := mem)
  obtain ⟨r, h1, cell, q1, q2, q3, q4⟩ := hP _ _ he
  have hr : r = (C, T, N) := Option.some.inj (h1.symm.trans hc)
  subst hr
  obtain ⟨hS0, hfc, kC, hkC, hkind⟩ := hK.1 ci _ hc
  obtain ⟨cf, kf, fi, f, hi, hsl⟩ := hS0 j hj
  have hlay := hts _ (hin _ (u_in_lay hj))
  unfold u_lay at hlay
  have hst := (u_facts hfc hkC (u_lays hts hin hj) hi).1
  have hl : j < (zfs G mem ci i).length := by rw [zfs_len, ← hNe]; exact hj
  have fin : ∀ H' : Heap, H'[zAd G i]? = some (cell.setSlot f.slot v) → H'.size = H.size → (∀ q, q ≠ zAd G i → H'[q]? = H[q]?) → W p l e R s m args below meth c H' (locs ++ [⟨zAd G i, f.slot⟩]) cs ss Z (F0 m (pc + 3) lsC rest) := by
    intro H' a1 a2 a3
    have hP' := hP.set (zcells_D (G := G)) he (e := .inr (ci, (zfs G mem ci i).set j v)) ⟨_, hc, t_OB.to (V := updV (vp_V (zfs G mem ci i)) j v) ⟨_, a1, q2, q3, by rw [hsl]; exact t_set q4 hap hj v⟩ (fun x _ => vp_updV_set hl v x)⟩ a3
    rw [hrow, his.setO hoth] at hP'
    exact kk H' _ a2 hP' (hS.put a2 a3 ((zcells_D (G := G)).2 _ _ he))
  rcases hfin with hf | ⟨hf, hin2, hdecl⟩
  · rw [if_neg (by rw [hf]; decide)] at hlay
    have h6 := u_store hfc hkC hkind hlay hi (hty j hj) hn hfit
    exact W.putK X.1 X.2.1 (f := f) ⟨X.2.2.2.1, hts _ hw, ⟨_, _, _, hi⟩, hst⟩ (by rw [q2]; exact h6) q1 q3 (by rw [hsl]; exact k2_hasslot (q4 j hj)) rfl rfl hd fin
  · rw [if_pos hf] at hlay
    have hcf : m.cls = cf := by
      obtain ⟨_, _, c', _, _, _, -, -, hf', -, -, -, hown2, -⟩ := Cond.laysFinal_spec hlay
      have e1 : c' = cf := by have := hi.symm.trans hf'; simp at this; exact this.1.symm
      rw [hdecl] at hown2
      rw [← e1]; exact Option.some.inj (X.2.2.2.1.symm.trans hown2)
    have h6 := u_fits hfc hkC hkind (Or.inr hlay) hi (hty j hj) hn hfit
    exact W.putFinK X.1 X.2.1 X.2.2.2.1 (hts _ hw) hi hst hcf hin2 (by rw [q2]; exact h6) q1 q3 (by rw [hsl]; exact k2_hasslot (q4 j hj)) rfl rfl hd fin
theorem sn_putI (X : zCx G n0 nE nL cc own p R s m args c) {pc idx : Nat} (ci j : Nat) {C : String} {T : u_T} {N : Nat} (hC : zCl ci C T N) (hj : j < N) (hw : Cond.fieldLink own idx (T j).1 (T j).2.1 (T j).2.2.1 ∈ zTs) (hfin : (T j).2.2.2 = false ∨ ((T j).2.2.2 = true ∧ meth.name = "<init>" ∧ (T j).1 = own)) (ht : zty ci j = .int) (hd : decode cc pc = .ok (.putfield idx, 3)) : zSnd G n0 nE nL p l e R s m args below meth c Z pc (o_putI ci j (pc + 3)) := by
  intro k hk ls st n mem h H locs lsC cs ss e1 e2 e3 hl hz hP hS
  unfold o_putI at h
  split at h
  · obtain ⟨h1, h2⟩ := h
    exact z_put X ci j hC hj hw hfin (by rw [ht]; rfl) (by rw [ht]; rfl) hd h1 (zfs_set (hC.2.1 ▸ hj) (by rw [ht]; simp [zfv, zI, zup, zV]) (fun a ha => zfv_I ha)) (fun a ha => zI_other ha) hP hS (fun H1 locs1 z1 hP1 hS1 => hk _ _ _ _ _ h2 H1 locs1 lsC cs ss e1 e2 e3 hl (z1.trans hz) hP1 hS1)
  · exact h.elim
theorem sn_putZ (X : zCx G n0 nE nL cc own p R s m args c) {pc idx : Nat} (ci j : Nat) {C : String} {T : u_T} {N : Nat} (hC : zCl ci C T N) (hj : j < N) (hw : Cond.fieldLink own idx (T j).1 (T j).2.1 (T j).2.2.1 ∈ zTs) (hfin : (T j).2.2.2 = false ∨ ((T j).2.2.2 = true ∧ meth.name = "<init>" ∧ (T j).1 = own)) (ht : zty ci j = .boolean) (hd : decode cc pc = .ok (.putfield idx, 3)) : zSnd G n0 nE nL p l e R s m args below meth c Z pc (o_putZ ci j (pc + 3)) := by
  intro k hk ls st n mem h H locs lsC cs ss e1 e2 e3 hl hz hP hS
  unfold o_putZ at h
  split at h
  · obtain ⟨h0, h1, h2⟩ := h
    exact z_put X ci j hC hj hw hfin (by rw [ht]; rcases h0 with rfl | rfl <;> rfl) (by rw [ht]; rcases h0 with rfl | rfl <;> rfl) hd h1 (zfs_set (hC.2.1 ▸ hj) (by rw [ht]; simp [zfv, zI, zup, zV]) (fun a ha => zfv_I ha)) (fun a ha => zI_other ha) hP hS (fun H1 locs1 z1 hP1 hS1 => hk _ _ _ _ _ h2 H1 locs1 lsC cs ss e1 e2 e3 hl (z1.trans hz) hP1 hS1)
  · exact h.elim
theorem sn_putJ (X : zCx G n0 nE nL cc own p R s m args c) {pc idx : Nat} (ci j : Nat) {C : String} {T : u_T} {N : Nat} (hC : zCl ci C T N) (hj : j < N) (hw : Cond.fieldLink own idx (T j).1 (T j).2.1 (T j).2.2.1 ∈ zTs) (hfin : (T j).2.2.2 = false ∨ ((T j).2.2.2 = true ∧ meth.name = "<init>" ∧ (T j).1 = own)) (ht : zty ci j = .long) (hd : decode cc pc = .ok (.putfield idx, 3)) : zSnd G n0 nE nL p l e R s m args below meth c Z pc (o_putJ ci j (pc + 3)) := by
  intro k hk ls st n mem h H locs lsC cs ss e1 e2 e3 hl hz hP hS
  unfold o_putJ at h
  split at h
  · obtain ⟨h1, h2⟩ := h
    exact z_put X ci j hC hj hw hfin (by rw [ht]; rfl) (by rw [ht]; rfl) hd h1 (zfs_set (hC.2.1 ▸ hj) (by rw [ht]; simp [zfv, zJ, zup, zV]) (fun a ha => zfv_J ha)) (fun a ha => zJ_other ha) hP hS (fun H1 locs1 z1 hP1 hS1 => hk _ _ _ _ _ h2 H1 locs1 lsC cs ss e1 e2 e3 hl (z1.trans hz) hP1 hS1)
  · exact h.elim
theorem sn_putR (X : zCx G n0 nE nL cc own p R s m args c) {pc idx : Nat} (ci j : Nat) {C : String} {T : u_T} {N : Nat} (hC : zCl ci C T N) (hj : j < N) (hw : Cond.fieldLink own idx (T j).1 (T j).2.1 (T j).2.2.1 ∈ zTs) (hfin : (T j).2.2.2 = false ∨ ((T j).2.2.2 = true ∧ meth.name = "<init>" ∧ (T j).1 = own)) (ht : (∃ x, zty ci j = .object x) ∨ ∃ x, zty ci j = .array x) (hd : decode cc pc = .ok (.putfield idx, 3)) : zSnd G n0 nE nL p l e R s m args below meth c Z pc (o_putR ci j (pc + 3)) := by
  intro k hk ls st n mem h H locs lsC cs ss e1 e2 e3 hl hz hP hS
  unfold o_putR at h
  split at h
  · obtain ⟨h1, h2⟩ := h
    exact z_put X ci j hC hj hw hfin (by rcases ht with ⟨x, ht⟩ | ⟨x, ht⟩ <;> rw [ht] <;> rfl) (by rcases ht with ⟨x, ht⟩ | ⟨x, ht⟩ <;> rw [ht] <;> rfl) hd h1 (zfs_set (hC.2.1 ▸ hj) (by rcases ht with ⟨x, ht⟩ | ⟨x, ht⟩ <;> rw [ht] <;> simp [zfv, zR, zup, zro, va_rf, zV]) (fun a ha => zfv_R ha)) (fun a ha => zR_other ha) hP hS (fun H1 locs1 z1 hP1 hS1 => hk _ _ _ _ _ h2 H1 locs1 lsC cs ss e1 e2 e3 hl (z1.trans hz) hP1 hS1)
  · exact h.elim
-- arrays
theorem ztys_0 {G : zG} : (ztys G)[0]? = some (G.2.2.2.2 0, .int) := rfl
theorem ztys_1 {G : zG} : (ztys G)[1]? = some (G.2.2.2.2 1, .byte) := rfl
theorem ztys_2 {G : zG} : (ztys G)[2]? = some (G.2.2.2.2 2, .long) := rfl
theorem ztys_at {G : zG} {t : Nat} (ht : t < 6) : (ztys G)[t]? = some (G.2.2.2.2 t, zat t) := by
  rcases (show t = 0 ∨ t = 1 ∨ t = 2 ∨ t = 3 ∨ t = 4 ∨ t = 5 by omega) with rfl | rfl | rfl | rfl | rfl | rfl <;> rfl
theorem sn_iald (X : zCx G n0 nE nL cc own p R s m args c) {pc : Nat} (hd : decode cc pc = .ok (.iaload, 1)) : zSnd G n0 nE nL p l e R s m args below meth c Z pc (o_ald 0 (pc + 1)) := by
  intro k hk ls st n mem h H locs lsC cs ss e1 e2 e3 hl hz hP hS
  unfold o_ald at h
  split at h
  · obtain ⟨len, j, h1, rfl, hj, h3⟩ := h
    obtain ⟨h2, hc⟩ := zix h1 hj
    rw [← hc] at h3
    exact va_iald X.1 X.2.1 X.2.2.2.2.2.1.1 hP _ 0 (h1.arr (mem := mem)) rfl h2 hd (hk _ _ _ _ _ h3 H locs lsC cs ss e1 e2 e3 hl hz hP hS)
  · exact h.elim
theorem sn_bald (X : zCx G n0 nE nL cc own p R s m args c) {pc : Nat} (hd : decode cc pc = .ok (.baload, 1)) : zSnd G n0 nE nL p l e R s m args below meth c Z pc (o_ald 1 (pc + 1)) := by
  intro k hk ls st n mem h H locs lsC cs ss e1 e2 e3 hl hz hP hS
  unfold o_ald at h
  split at h
  · obtain ⟨len, j, h1, rfl, hj, h3⟩ := h
    obtain ⟨h2, hc⟩ := zix h1 hj
    rw [← hc] at h3
    exact va_bald X.1 X.2.1 X.2.2.2.2.2.1.1 hP _ 1 (h1.arr (mem := mem)) rfl h2 hd (hk _ _ _ _ _ h3 H locs lsC cs ss e1 e2 e3 hl hz hP hS)
  · exact h.elim
theorem sn_lald (X : zCx G n0 nE nL cc own p R s m args c) {pc : Nat} (hd : decode cc pc = .ok (.laload, 1)) : zSnd G n0 nE nL p l e R s m args below meth c Z pc (o_aldJ (pc + 1)) := by
  intro k hk ls st n mem h H locs lsC cs ss e1 e2 e3 hl hz hP hS
  unfold o_aldJ at h
  split at h
  · obtain ⟨len, j, h1, rfl, hj, h3⟩ := h
    obtain ⟨h2, hc⟩ := zix h1 hj
    rw [← hc] at h3
    exact va_lald X.1 X.2.1 X.2.2.2.2.2.1.1 hP _ 2 (h1.arr (mem := mem)) rfl h2 hd (hk _ _ _ _ _ h3 H locs lsC cs ss e1 e2 e3 hl hz hP hS)
  · exact h.elim
theorem sn_aald (X : zCx G n0 nE nL cc own p R s m args c) {pc : Nat} (t : Nat) {C : String} (ht : zat t = .object C) (ht2 : 3 ≤ t ∧ t < 6) (hd : decode cc pc = .ok (.aaload, 1)) : zSnd G n0 nE nL p l e R s m args below meth c Z pc (o_aldR t (pc + 1)) := by
  intro k hk ls st n mem h H locs lsC cs ss e1 e2 e3 hl hz hP hS
  unfold o_aldR at h
  split at h
  · rename_i i0 a0 st0
    obtain ⟨len, j, h1, rfl, hj, r, h3, h4, h5⟩ := h
    obtain ⟨h2, hc⟩ := zix h1 hj
    rw [← hc] at h3
    have ha := h1.arr (G := G) (mem := mem)
    have hz2 : zac G mem t a0 = .inr (.inr (.inr (.inr fun j => zro G (mem.2.2 a0 j)))) := by
      rcases (show t = 3 ∨ t = 4 ∨ t = 5 by omega) with rfl | rfl | rfl <;> rfl
    rw [hz2] at ha
    refine va_aldq X.1 X.2.1 X.2.2.2.2.2.1.1 hP _ t ha (by rw [ztys_at ht2.2, ht]) h2 hd ?_
    rw [h3, zro_pos h4]
    exact hk _ _ _ _ _ h5 H locs lsC cs ss e1 e2 e3 hl hz hP hS
  · exact h.elim
theorem z_setA {H H1 : Heap} {n i t len : Nat} {mem mem' : zM} (his : zis n i (.inr (t, len))) (hoth : ∀ a, a ≠ i → zc G mem a = zc G mem' a) (hP : va_P (zD G) zcls (zcells G n mem) H) (e : H1[zAd G i]? = some (vp_cell (G.2.2.2.2 t) (len, zac G mem' t i))) (oq : ∀ q, q ≠ zAd G i → H1[q]? = H[q]?) : va_P (zD G) zcls (zcells G n mem') H1 := by
  have h := hP.set (zcells_D (G := G)) (his.arr (mem := mem)) (e := .inl (G.2.2.2.2 t, len, zac G mem' t i)) e oq
  rw [his.setA hoth] at h
  exact h
theorem sn_iast (X : zCx G n0 nE nL cc own p R s m args c) {pc : Nat} (hd : decode cc pc = .ok (.iastore, 1)) : zSnd G n0 nE nL p l e R s m args below meth c Z pc (o_ast (pc + 1)) := by
  intro k hk ls st n mem h H locs lsC cs ss e1 e2 e3 hl hz hP hS
  unfold o_ast at h
  split at h
  · rename_i v i a st
    obtain ⟨len, j0, h1, rfl, hj, h3⟩ := h
    obtain ⟨h2, hc⟩ := zix h1 hj
    rw [← hc] at h3
    generalize nI j0 = i at h2 h3 hc ⊢
    refine W.iast X.1 X.2.1 (hP _ _ (h1.arr (mem := mem))) ((X.2.2.2.2.2.1.1.2 0 _ rfl).1 len (fun j => .int (mem.1 a j))) (fun q => by cases q) (by show ¬ (i < 0 ∨ (arrV _ _ _).slots.size ≤ _); rw [arrV_size]; exact h2) rfl rfl hd fun H1 e z oq => ?_
    refine hk _ _ _ _ _ h3 H1 _ lsC cs ss e1 e2 e3 hl (z.trans hz) (z_setA h1 (fun b hb => zI_other hb) hP ?_ oq) (hS.put z oq ((zcells_D (G := G)).2 _ _ (h1.arr (mem := mem))))
    rw [e]
    show some (Cell.setSlot (vp_cell _ (len, .inl (mem.1 a))) _ _) = some (vp_cell _ (len, .inl _))
    rw [vp_cell_i, vp_cell_i, arrV_store]
    congr 2
    funext q
    by_cases hq : q = i.toNatClampNeg
    · subst hq
      simp [updV, zI, zup]
    · simp [updV, zI, zup, hq]
  · exact h.elim
theorem sn_bast (X : zCx G n0 nE nL cc own p R s m args c) {pc : Nat} (hd : decode cc pc = .ok (.bastore, 1)) : zSnd G n0 nE nL p l e R s m args below meth c Z pc (o_astB (pc + 1)) := by
  intro k hk ls st n mem h H locs lsC cs ss e1 e2 e3 hl hz hP hS
  unfold o_astB at h
  split at h
  · rename_i v i a st
    obtain ⟨len, j0, h1, rfl, hj, h3⟩ := h
    obtain ⟨h2, hc⟩ := zix h1 hj
    rw [← hc] at h3
    generalize nI j0 = i at h2 h3 hc ⊢
    refine W.bast X.1 X.2.1 (hP _ _ (h1.arr (mem := mem))) ((X.2.2.2.2.2.1.1.2 1 _ rfl).1 len (fun j => .int (mem.1 a j))) (fun q => by cases q) (by show ¬ (i < 0 ∨ (arrV _ _ _).slots.size ≤ _); rw [arrV_size]; exact h2) rfl rfl hd fun H1 e z oq => ?_
    refine hk _ _ _ _ _ h3 H1 _ lsC cs ss e1 e2 e3 hl (z.trans hz) (z_setA h1 (fun b hb => zI_other hb) hP ?_ oq) (hS.put z oq ((zcells_D (G := G)).2 _ _ (h1.arr (mem := mem))))
    rw [e]
    show some (Cell.setSlot (vp_cell _ (len, .inl (mem.1 a))) _ _) = some (vp_cell _ (len, .inl _))
    rw [vp_cell_i, vp_cell_i, arrV_store]
    congr 2
    funext q
    by_cases hq : q = i.toNatClampNeg
    · subst hq
      simp [updV, zI, zup, vp_nar, narrow]
    · simp [updV, zI, zup, hq]
  · exact h.elim
theorem sn_last (X : zCx G n0 nE nL cc own p R s m args c) {pc : Nat} (hd : decode cc pc = .ok (.lastore, 1)) : zSnd G n0 nE nL p l e R s m args below meth c Z pc (o_astJ (pc + 1)) := by
  intro k hk ls st n mem h H locs lsC cs ss e1 e2 e3 hl hz hP hS
  unfold o_astJ at h
  split at h
  · rename_i v i a st
    obtain ⟨len, j0, h1, rfl, hj, h3⟩ := h
    obtain ⟨h2, hc⟩ := zix h1 hj
    rw [← hc] at h3
    generalize nI j0 = i at h2 h3 hc ⊢
    refine W.last X.1 X.2.1 (hP _ _ (h1.arr (mem := mem))) ((X.2.2.2.2.2.1.1.2 2 _ rfl).1 len (fun j => .long (mem.2.1 a j))) (fun q => by cases q) (by show ¬ (i < 0 ∨ (arrV _ _ _).slots.size ≤ _); rw [arrV_size]; exact h2) rfl rfl hd fun H1 e z oq => ?_
    refine hk _ _ _ _ _ h3 H1 _ lsC cs ss e1 e2 e3 hl (z.trans hz) (z_setA h1 (fun b hb => zJ_other hb) hP ?_ oq) (hS.put z oq ((zcells_D (G := G)).2 _ _ (h1.arr (mem := mem))))
    rw [e]
    show some (Cell.setSlot (vp_cell _ (len, .inr (.inl (mem.2.1 a)))) _ _) = some (vp_cell _ (len, .inr (.inl _)))
    rw [vp_cell_l, vp_cell_l, arrV_store]
    congr 2
    funext q
    by_cases hq : q = i.toNatClampNeg
    · subst hq
      simp [updV, zJ, zup]
    · simp [updV, zJ, zup, hq]
  · exact h.elim
theorem zassign (vm : Vm) (c : ClassId) : vm.assignable c c = true := by
  rw [Vm.assignable, show (256 : Nat) = 255 + 1 from rfl, Vm.assignableAux, beq_self_eq_true, Bool.true_or]
theorem z_aast {H : Heap} {locs : List Loc} {lsC : Array Slot} {cs ss n : Nat} {rest : List Value} {mem : zM} {a v : Nat} {i : Int32} {len : Nat} (X : zCx G n0 nE nL cc own p R s m args c) {pc : Nat} (t : Nat) {C : String} (ht : zat t = .object C) (ht2 : 3 ≤ t ∧ t < 6) (hd : decode cc pc = .ok (.aastore, 1)) (h1 : zis n a (.inr (t, len))) (h2 : vp_in i len)
    (hv : ∃ cv : Cell, H[zAd G (v + 1)]? = some cv ∧ cv.vm.isStatics = false ∧ s.vm.findClass C = some cv.cls) (hP : va_P (zD G) zcls (zcells G n mem) H) (hS : va_S (zA G) s.heap H locs)
    (kk : ∀ (H1 : Heap) (locs1 : List Loc), H1.size = H.size → va_P (zD G) zcls (zcells G n (zR mem a i.toNatClampNeg (v + 1))) H1 → va_S (zA G) s.heap H1 locs1 → W p l e R s m args below meth c H1 locs1 cs ss Z (F0 m (pc + 1) lsC rest)) : W p l e R s m args below meth c H locs cs ss Z (F0 m pc lsC (.ref (zAd G (v + 1)) :: .int i :: .ref (zAd G a) :: rest)) := by
  have ha := h1.arr (G := G) (mem := mem)
  have hz2 : ∀ mem : zM, zac G mem t a = .inr (.inr (.inr (.inr fun j => zro G (mem.2.2 a j)))) := by
    intro mem
    rcases (show t = 3 ∨ t = 4 ∨ t = 5 by omega) with rfl | rfl | rfl <;> rfl
  have hlt : i.toNatClampNeg < len := Nat.not_le.mp fun q => h2 (Or.inr q)
  have h0 : ¬ i < 0 := fun q => h2 (Or.inl q)
  obtain ⟨cv, g1, g2, g3⟩ := hv
  have hra := (X.2.2.2.2.2.1.1.2 t _ (ztys_at ht2.2)).2
  rw [ht] at hra
  obtain ⟨kA, comp, k1, k2, k3, -⟩ := hra
  have hcomp : comp = cv.cls := Option.some.inj (k3.symm.trans g3)
  subst hcomp
  obtain ⟨kC, hkC, -⟩ := Vm.findClass_spec g3
  have hcell := hP _ _ ha
  have hA0 : zA G (zAd G a) := (zcells_D (G := G)).2 _ _ ha
  rw [hz2] at hcell
  refine W.aast X.1 X.2.1 hcell (fun q h => by cases h) (fun h => by cases h) k1 k2 rfl hkC ⟨h0, by show _ < (arrV _ _ _).slots.size; rw [arrV_size]; exact hlt⟩ g1 (fun q h => by rw [h] at g2; cases g2) hkC (zassign _ _) rfl rfl hd fun H1 e z oq => ?_
  refine kk H1 _ z (z_setA h1 (fun b hb => zR_other hb) hP ?_ oq) (hS.put z oq hA0)
  rw [e, hz2]
  show some (Cell.setSlot (vp_cell _ (len, .inr (.inr (.inr (.inr _))))) _ _) = some (vp_cell _ (len, .inr (.inr (.inr (.inr _)))))
  rw [vp_cell_q, vp_cell_q, arrV_store]
  congr 2
  funext q
  by_cases hq : q = i.toNatClampNeg
  · subst hq
    simp [updV, zR, zup, zro, va_rf]
  · simp [updV, zR, zup, hq]
theorem sn_aast (X : zCx G n0 nE nL cc own p R s m args c) {pc : Nat} (t ci : Nat) {C : String} {T : u_T} {N : Nat} (hC : zcls[ci]? = some (C, T, N)) (ht : zat t = .object C) (ht2 : 3 ≤ t ∧ t < 6) (hd : decode cc pc = .ok (.aastore, 1)) : zSnd G n0 nE nL p l e R s m args below meth c Z pc (o_astR t ci (pc + 1)) := by
  intro k hk ls st n mem h H locs lsC cs ss e1 e2 e3 hl hz hP hS
  unfold o_astR at h
  split at h
  · obtain ⟨len, j, h1, rfl, hj, h4, h3⟩ := h
    obtain ⟨h2, hc⟩ := zix h1 hj
    rw [← hc] at h3
    exact z_aast X t ht ht2 hd h1 h2 (va_recv X.2.2.2.2.2.1.1 hP hC (h4.obj (mem := mem))) hP hS (fun H1 locs1 z1 hP1 hS1 => hk _ _ _ _ _ h3 H1 locs1 lsC cs ss e1 e2 e3 hl (z1.trans hz) hP1 hS1)
  · exact h.elim
theorem sn_alen (X : zCx G n0 nE nL cc own p R s m args c) {pc : Nat} (hd : decode cc pc = .ok (.arraylength, 1)) : zSnd G n0 nE nL p l e R s m args below meth c Z pc (o_alen (pc + 1)) := by
  intro k hk ls st n mem h H locs lsC cs ss e1 e2 e3 hl hz hP hS
  unfold o_alen at h
  split at h
  · obtain ⟨t, len, h1, h2, h3⟩ := h
    exact va_alen X.1 X.2.1 X.2.2.2.2.2.1.1 hP _ t (h1.arr (mem := mem)) (ztys_at h2) rfl hd (hk _ _ _ _ _ h3 H locs lsC cs ss e1 e2 e3 hl hz hP hS)
  · exact h.elim
-- making
theorem zcx_room (X : zCx G n0 nE nL cc own p R s m args c) {n cs ss : Nat} (e1 : n = n0 + cs) (e2 : zS n = zS n0 + ss) (h : n + 1 ≤ nE) : cs + 1 ≤ R.cells ∧ ss + zsz (100 + n) ≤ R.slots := by
  have h1 := X.2.2.2.2.2.2.2.1
  have h2 := X.2.2.2.2.2.2.2.2
  have h3 : zS n + zsz (100 + n) ≤ zS nE := zS_mono (a := n + 1) h
  omega
theorem z_born {H H1 : Heap} {n : Nat} {mem : zM} (hz : H.size = G.1 + n) (hP : va_P (zD G) zcls (zcells G n mem) H) (hat : va_at (zD G) zcls (G.1 + n, zc G mem (100 + n)) H1) (o1 : ∀ q, q < H.size → H1[q]? = H[q]?) : va_P (zD G) zcls (zcells G (n + 1) mem) H1 := by
  rw [zcells_push]
  refine (hP.kept fun k x hx => o1 x.1 ((hP k x hx).lt)).app fun k x hx => ?_
  have hz1 : k < 1 := (List.getElem?_eq_some_iff.mp hx).1
  rw [show k = 0 by omega] at hx
  cases hx
  exact hat
theorem va_S_grow {H H1 : Heap} {locs : List Loc} (hS : va_S (zA G) s.heap H locs) (hz : H1.size = H.size + 1) (o1 : ∀ q, q < H.size → H1[q]? = H[q]?) : va_S (zA G) s.heap H1 locs :=
  ⟨Nat.le_trans hS.1 (by omega), fun q h1 h2 => (o1 q (Nat.lt_of_lt_of_le h1 hS.1)).trans (hS.2.1 q h1 h2), hS.2.2⟩
theorem zAd_new {n : Nat} : zAd G (100 + n) = G.1 + n := by
  have : Nat.ble 100 (100 + n) = true := Nat.ble_eq.mpr (by omega)
  simp [zAd, this]
theorem sn_new (X : zCx G n0 nE nL cc own p R s m args c) {pc idx : Nat} (ci : Nat) {C : String} {T : u_T} {N : Nat} (hC : zCl ci C T N) (hci : ci < 12) (hok : ∀ j, j < N → zokt (zty ci j) = true) (hw1 : Cond.classLink own idx C ∈ zTs) (hw2 : Cond.instantiable C N ∈ zTs) (hw3 : Cond.initialized C ∈ zTs) (hd : decode cc pc = .ok (.new idx, 3)) : zSnd G n0 nE nL p l e R s m args below meth c Z pc (o_new ci nE (pc + 3)) := by
  intro k hk ls st n mem h H locs lsC cs ss e1 e2 e3 hl hz hP hS
  obtain ⟨h1, h2, h3, h4⟩ := h
  have hts := X.2.2.2.2.1
  obtain ⟨hc, hNe, hin, hty, hnm⟩ := hC
  have hKn := X.2.2.2.2.2.1.1.1 ci _ hc
  have hsz : zsz (100 + n) = N := by
    unfold zsz; rw [h1, hNe]
    rcases (show ci = 0 ∨ ci = 1 ∨ ci = 2 ∨ ci = 3 ∨ ci = 4 ∨ ci = 5 ∨ ci = 6 ∨ ci = 7 ∨ ci = 8 ∨ ci = 9 ∨ ci = 10 ∨ ci = 11 by omega) with rfl | rfl | rfl | rfl | rfl | rfl | rfl | rfl | rfl | rfl | rfl | rfl <;> rfl
  have hroom := zcx_room X e1 e2 h2
  rw [hsz] at hroom
  refine W.newcK X.1 X.2.1 X.2.2.2.1 (hts _ hw1) (hts _ hw2) (hts _ hw3) rfl hd hroom.1 hroom.2 hKn.2.1 rfl fun H1 kC hkC a1 z1 o1 => ?_
  have hat : va_at (zD G) zcls (G.1 + n, zc G mem (100 + n)) H1 := by
    have hzc : zc G mem (100 + n) = .inr (ci, zfs G mem ci (100 + n)) := by simp [zc, h1]
    rw [hzc, ← hz]
    refine ⟨_, hc, (u_born (zty ci) hts hin hKn hkC a1 hty).to fun j hj => ?_⟩
    rw [zfv_default (G := G) (i := 100 + n) (j := j) h3 (hok j hj)]
    have := zfs_get (G := G) (mem := mem) (i := 100 + n) (hNe ▸ hj)
    simp [vp_V, this]
  have key := hk _ _ _ _ _ h4 H1 locs lsC (cs + 1) (ss + N) (by omega) (by show zS n + zsz (100 + n) = _; rw [hsz, e2]; omega) h2 hl (by omega) (z_born hz hP hat o1) (va_S_grow hS z1 o1)
  have ead : H.size = zAd G (100 + n) := by rw [zAd_new, hz]
  rw [ead]
  exact key
theorem sn_newa (X : zCx G n0 nE nL cc own p R s m args c) {pc : Nat} {aty : ArrayType} (t : Nat) (ht2 : t < 3) (ht : newarray.typeOf aty = zat t) (hw : Cond.arrayClass (newarray.typeOf aty) ∈ zTs) (hd : decode cc pc = .ok (.newarray aty, 2)) : zSnd G n0 nE nL p l e R s m args below meth c Z pc (o_newa t nE (pc + 2)) := by
  intro k hk ls st n mem h H locs lsC cs ss e1 e2 e3 hl hz hP hS
  unfold o_newa at h
  split at h
  · rename_i len st
    obtain ⟨N, hN, hN2, h1, h2, h3, h4⟩ := h
    have hts := X.2.2.2.2.1
    have hsz : zsz (100 + n) = N := by unfold zsz; rw [h1]
    have hroom := zcx_room X e1 e2 h2
    rw [hsz] at hroom
    have hcb : componentBytes (newarray.typeOf aty) ≤ 8 := by rw [ht]; rcases (show t = 0 ∨ t = 1 ∨ t = 2 by omega) with rfl | rfl | rfl <;> decide
    refine va_newaK X.1 X.2.1 (hts _ hw) rfl hd rfl (by rw [hN]; exact nI_pos (by omega)) (by rw [hN]; exact nI_clamp (by omega)) (Nat.le_trans (Nat.mul_le_mul hN2 hcb) (by decide)) hroom.1 hroom.2 rfl fun H1 cA a1 z1 o1 _ hNm => ?_
    have hra := (X.2.2.2.2.2.1.1.2 t _ (ztys_at (by omega))).2
    have hcA : cA = G.2.2.2.2 t := by
      rw [ht] at hNm
      rcases (show t = 0 ∨ t = 1 ∨ t = 2 by omega) with rfl | rfl | rfl <;> exact Option.some.inj (hNm.symm.trans hra)
    have hat : va_at (zD G) zcls (G.1 + n, zc G mem (100 + n)) H1 := by
      have hzc : zc G mem (100 + n) = .inl (G.2.2.2.2 t, N, zac G mem t (100 + n)) := by simp [zc, h1]
      rw [hzc, ← hz]
      show H1[H.size]? = some (vp_cell _ _)
      rw [a1, hcA, ht]
      rcases (show t = 0 ∨ t = 1 ∨ t = 2 by omega) with rfl | rfl | rfl
      · show _ = some (vp_cell _ (N, .inl _)); rw [vp_cell_i]; congr 2; funext j; rw [(h3 j).1]; rfl
      · show _ = some (vp_cell _ (N, .inl _)); rw [vp_cell_i]; congr 2; funext j; rw [(h3 j).1]; rfl
      · show _ = some (vp_cell _ (N, .inr (.inl _))); rw [vp_cell_l]; congr 2; funext j; rw [(h3 j).2.1]; rfl
    have key := hk _ _ _ _ _ h4 H1 locs lsC (cs + 1) (ss + N) (by omega) (by show zS n + zsz (100 + n) = _; rw [hsz, e2]; omega) h2 hl (by omega) (z_born hz hP hat o1) (va_S_grow hS z1 o1)
    have ead : H.size = zAd G (100 + n) := by rw [zAd_new, hz]
    rw [ead]
    exact key
  · exact h.elim
theorem sn_newq (X : zCx G n0 nE nL cc own p R s m args c) {pc idx : Nat} (t : Nat) {C : String} (ht2 : 3 ≤ t ∧ t < 6) (ht : zat t = .object C) (hw : Cond.classLink own idx C ∈ zTs) (hd : decode cc pc = .ok (.anewarray idx, 3)) : zSnd G n0 nE nL p l e R s m args below meth c Z pc (o_newa t nE (pc + 3)) := by
  intro k hk ls st n mem h H locs lsC cs ss e1 e2 e3 hl hz hP hS
  unfold o_newa at h
  split at h
  · rename_i len st
    obtain ⟨N, hN, hN2, h1, h2, h3, h4⟩ := h
    have hts := X.2.2.2.2.1
    have hsz : zsz (100 + n) = N := by unfold zsz; rw [h1]
    have hroom := zcx_room X e1 e2 h2
    rw [hsz] at hroom
    have hAO : va_AO C s := by
      rcases (show t = 3 ∨ t = 4 ∨ t = 5 by omega) with rfl | rfl | rfl <;> cases ht
      · exact X.2.2.2.2.2.1.2.2.1.1
      · exact X.2.2.2.2.2.1.2.2.1.2.1
      · exact X.2.2.2.2.2.1.2.2.1.2.2
    have hcl : len.toNatClampNeg = N := by rw [hN]; exact nI_clamp (by omega)
    refine W.anew X.1 X.2.1 X.2.2.2.1 (hts _ hw) (va_AO.use hAO) rfl hd rfl (by rw [hN]; exact nI_pos (by omega)) (by rw [hcl]; omega) hroom.1 (by rw [hcl]; exact hroom.2) fun cA kA comp f1 f2 f3 f4 => ?_
    rw [hcl]
    generalize hH1 : H.push ({ cls := cA, slots := Array.replicate N .null, vm := .none } : Cell) = H1
    have z1 : H1.size = H.size + 1 := by rw [← hH1, Array.size_push]
    have a1 : H1[H.size]? = some (arrV cA N (fun _ => .null)) := by rw [← hH1, Array.getElem?_push_size, ← arrV_new]
    have o1 : ∀ q : Nat, q < H.size → H1[q]? = H[q]? := fun q hq => by rw [← hH1, Array.getElem?_push, if_neg (Nat.ne_of_lt hq)]
    have hra := (X.2.2.2.2.2.1.1.2 t _ (ztys_at ht2.2)).2
    rw [ht] at hra
    obtain ⟨kA', comp', k1, k2, k3, k4⟩ := hra
    have hcA : cA = G.2.2.2.2 t := Option.some.inj (f1.symm.trans k4)
    have hz2 : zac G mem t (100 + n) = .inr (.inr (.inr (.inr fun j => zro G (mem.2.2 (100 + n) j)))) := by
      rcases (show t = 3 ∨ t = 4 ∨ t = 5 by omega) with rfl | rfl | rfl <;> rfl
    have hat : va_at (zD G) zcls (G.1 + n, zc G mem (100 + n)) H1 := by
      have hzc : zc G mem (100 + n) = .inl (G.2.2.2.2 t, N, zac G mem t (100 + n)) := by simp [zc, h1]
      rw [hzc, ← hz, hz2]
      show H1[H.size]? = some (vp_cell _ _)
      rw [a1, hcA, vp_cell_q]
      congr 2; funext j; rw [(h3 j).2.2]; rfl
    have key := hk _ _ _ _ _ h4 H1 locs lsC (cs + 1) (ss + N) (by omega) (by show zS n + zsz (100 + n) = _; rw [hsz, e2]; omega) h2 hl (by omega) (z_born hz hP hat o1) (va_S_grow hS z1 o1)
    have ead : H.size = zAd G (100 + n) := by rw [zAd_new, hz]
    rw [ead]
    exact key
  · exact h.elim
theorem sn_objInit (X : zCx G n0 nE nL cc own p R s m args c) {pc idx : Nat} (hw1 : Cond.methodLink own idx objectInit ∈ zTs) (hw2 : Cond.instanceMethod objectInit ∈ zTs) (hw3 : Cond.code objectInit ⟨#[0xb1]⟩ 1 none ∈ zTs) (hR : 1 ≤ R.frames ∧ 20 ≤ R.locals) (hd : decode cc pc = .ok (.invokespecial idx, 3)) : zSnd G n0 nE nL p l e R s m args below meth c Z pc (o_objInit (pc + 3)) := by
  intro k hk ls st n mem h H locs lsC cs ss e1 e2 e3 hl hz hP hS
  unfold o_objInit at h
  split at h
  · rename_i i st
    have hts := X.2.2.2.2.1
    have hr := zrm_V (G := G) h.1
    refine W.objInit X.1 X.2.1 X.2.2.2.1 (hts _ hw1) (hts _ hw2) (hts _ hw3) rfl (by rw [X.2.2.1]; exact hl.1) rfl hd hR.1 (by have := lv_room (m := m) (pc := pc) (ls := lsC) (rest := st.map (zV G)) hr; show 2 * 0 + _ + 12 ≤ _; omega) ?_
    exact hk _ _ _ _ _ h.2 H locs lsC cs ss e1 e2 e3 hl hz hP hS
  · exact h.elim
end Sound4
