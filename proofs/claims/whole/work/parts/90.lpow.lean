
/-! ===== a method in segments: each is walked from a start of its own ===== -/
section Seg
variable {G : zG} {nL : Nat} {cc : ByteArray} {own : String} {p : Program} {l : Launch} {e : Env} {R : Room} {s : State} {m : MethodId} {args : Array Value} {below : List Frame} {meth : Method} {c : Code} {Z : State → Prop}
def zLW (G : zG) (nL : Nat) (p : Program) (l : Launch) (e : Env) (R : Room) (s : State) (m : MethodId) (args : Array Value) (below : List Frame) (meth : Method) (c : Code) (Z : State → Prop) (pc : Nat) (ls st : List Value) (n : Nat) (mem : zM) (cells slots : Nat) : Prop :=
  ∀ (H : Heap) (locs : List Loc) (lsC : Array Slot), lv_has lsC nL (zL G 0 ls) → H.size = G.1 + n → va_P (zD G) zcls (zcells G n mem) H → va_S (zA G) s.heap H locs → W p l e R s m args below meth c H locs cells slots Z (F0 m pc lsC (st.map (zV G)))
theorem z_back9 {T S : State} {R' : Room} {locs locs' : List Loc} {cells slots k n : Nat} (X : Stand p l e R s m args below meth c T locs cells slots) (Y : Stand p l e R' ((T.setVm s.vm).setFrames (.invoking m args :: below)) m args below meth c T [] 0 0) (Zs : Stand p l e R' ((T.setVm s.vm).setFrames (.invoking m args :: below)) m args below meth c S locs' k n) :
    Stand p l e R s m args below meth c S (locs ++ locs') (cells + k) (slots + n) := by
  have hW0 : s.WarmedH ((T.setVm s.vm).setFrames (.invoking m args :: below)).vm := State.WarmedH.refl s
  refine { admits := X.admits, cas := X.cas, clock := X.clock, frames := X.frames, room := X.room, hears := X.hears, method := X.method, code := X.code, here := Zs.here, tail := Zs.tail, warmed := State.WarmedH.trans hW0 Zs.warmed, limits := Zs.limits.trans (Y.limits.symm.trans X.limits), bytes := Zs.bytes.trans (Y.bytes.symm.trans X.bytes), same := ?_ }
  obtain ⟨e1, e2⟩ := Zs.same
  rw [State.setFrames_setFrames] at e1
  have h2 : (T.setVm s.vm).sameButNew (S.setVm s.vm) locs' k n := ⟨e1, e2⟩
  exact X.same.trans h2
theorem z_S_trans {A : Nat → Prop} {H0 H H' : Heap} {l1 l2 : List Loc} (h : va_S A H0 H l1) (h' : va_S A H H' l2) : va_S A H0 H' (l1 ++ l2) :=
  ⟨Nat.le_trans h.1 h'.1, fun q a b => (h'.2.1 q (Nat.lt_of_lt_of_le a h.1) b).trans (h.2.1 q a b), fun q hq => (List.mem_append.mp hq).elim (h.2.2 q) (h'.2.2 q)⟩
/-- what a method that is walked in segments needs -/
def zSgx (G : zG) (nL : Nat) (cc : ByteArray) (own : String) (p : Program) (s : State) (m : MethodId) (args : Array Value) (c : Code) : Prop := p.tables.exec = Jvm.exec ∧ c.code = cc ∧ c.maxLocals = nL ∧ s.vm.findClass own = some m.cls ∧ (∀ w ∈ zTs, w.before args s = true) ∧ zE G s
theorem z_seg (X0 : zSgx G nL cc own p s m args c) {pc0 : Nat} {ls0 st0 : List Value} {n : Nat} {mem : zM} {cells slots : Nat} (a b : Nat) (hm : zS (n + a) = zS n + b) (hc : cells + a ≤ R.cells) (hs : slots + b ≤ R.slots) (tab : Nat → zOp)
    (sound : ∀ s' : State, (∀ q : Nat, q < s.heap.size → ¬ zA G q → s'.heap[q]? = s.heap[q]?) → s.vm = s'.vm → zCx G n (n + a) nL cc own p { frames := R.frames, cells := a, slots := b, locals := R.locals } s' m args c → zAll G n (n + a) nL p l e { frames := R.frames, cells := a, slots := b, locals := R.locals } s' m args below meth c Z tab)
    (cut : zKt) (hcut : ∀ pc ls st n' mem', cut pc ls st n' mem' → ∀ k, n' = n + k → ∀ ss, zS n' = zS n + ss → zLW G nL p l e R s m args below meth c Z pc ls st n' mem' (cells + k) (slots + ss))
    (hw : ∀ P : zKt, (∀ pc ls st n' mem', tab pc P ls st n' mem' → P pc ls st n' mem') → (∀ pc ls st n' mem', cut pc ls st n' mem' → P pc ls st n' mem') → P pc0 ls0 st0 n mem) :
    zLW G nL p l e R s m args below meth c Z pc0 ls0 st0 n mem cells slots := by
  intro H locs lsC hl hz hP hS T hT X
  have Y := vx_rebase X (R' := { frames := R.frames, cells := a, slots := b, locals := R.locals }) (Nat.le_refl _) (Nat.le_refl _) hc hs
  have hvm : s.vm = ((T.setVm s.vm).setFrames (.invoking m args :: below)).vm := rfl
  have hhp : ((T.setVm s.vm).setFrames (.invoking m args :: below)).heap = H := hT
  have hW0 : s.WarmedH ((T.setVm s.vm).setFrames (.invoking m args :: below)).vm := State.WarmedH.refl s
  have hkp : ∀ q : Nat, q < s.heap.size → ¬ zA G q → ((T.setVm s.vm).setFrames (.invoking m args :: below)).heap[q]? = s.heap[q]? := fun q h1 h2 => by rw [hhp]; exact hS.2.1 q h1 h2
  obtain ⟨x1, x2, x3, x4, x5, x6⟩ := X0
  have X' : zCx G n (n + a) nL cc own p { frames := R.frames, cells := a, slots := b, locals := R.locals } ((T.setVm s.vm).setFrames (.invoking m args :: below)) m args c :=
    ⟨x1, x2, x3, x4, fun w hw => word_at hW0 (good_of_word (List.mem_filter.mp hw).2) (x5 w hw), zE_keep hW0 hkp x6, by rw [hhp]; exact hz, Nat.le_refl _, Nat.le_of_eq hm⟩
  have hall := sound _ hkp hvm X'
  have good := hw (zGood G n (n + a) nL p l e { frames := R.frames, cells := a, slots := b, locals := R.locals } ((T.setVm s.vm).setFrames (.invoking m args :: below)) m args below meth c Z) (fun pc ls st n mem hop => hall pc _ (fun _ _ _ _ _ z => z) ls st n mem hop)
    (fun pc ls st n' mem' hc' H' locs' lsC' cs ss e1 e2 e3 hl' hz' hP' hS' T' hT' Z' => by
      rw [hhp] at hS'
      exact hcut _ _ _ _ _ hc' cs e1 ss e2 H' (locs ++ locs') lsC' hl' hz' hP' (z_S_trans hS hS') T' hT' (z_back9 X Y Z'))
  exact good H [] lsC 0 0 rfl rfl (Nat.le_add_right _ _) hl hz hP ⟨Nat.le_of_eq (congrArg Array.size hhp), fun _ _ _ => by rw [hhp], fun _ h => nomatch h⟩ T hT Y
end Seg
def zQn (G : zG) (Q : zPo) : Array Value → State → Outcome → State → Prop := fun _ st o t => (∃ (r : Option Value) (n : Nat) (mem : zM), o = .returned (r.map (zV G)) ∧ Q r n mem ∧ t.heap.size = G.1 + n ∧ va_P (zD G) zcls (zcells G n mem) t.heap) ∧ va_F (zA G) st t
theorem z_ofWH {l : Launch} {y : MethodName} {ws ws' : List Cond} {rm : Room} {Pc : Array Value → State → Prop} {Qc : Array Value → State → Outcome → State → Prop} {mc ms : Nat} {free : Addr → Prop} {cc : ByteArray} {maxL : Nat} {ret : Option FieldType} {hh : List (Nat × Nat × Nat × Nat)}
    (hy : plainName y.cls = true) (hw : ws = Cond.codeWith y cc maxL ret hh :: ws')
    (body : ∀ p e s m args below meth c s₁, BodyLoose p l y (headSpec ws rm) cc maxL ret e s m args below meth c s₁ → c.maxLocals = maxL → Pc args s →
      W p l e (headSpec ws rm).room s m args below meth c s.heap [] 0 0 (MQ below Qc args s mc ms free) (entryFrame m args maxL)) : Met l y ws rm Pc Qc mc ms free := by
  refine MetFree.of_bodyS (code := cc) (maxLocals := maxL) (ret := ret) hy ?_ ?_
  · intro args s m h hn
    obtain ⟨m9, meth, c, hn9, h1, h2, h3, h4, -, h5, h6, -⟩ := Cond.codeWith_spec (atoms_spec (ws := ws) h _ (by rw [hw]; exact List.mem_cons_self))
    cases hn.symm.trans hn9
    exact ⟨meth, c, h1, h2, h3, h4, h5, h6⟩
  · intro p e s m args below meth c s₁ B hml hP _
    have hh0 : s₁.heap = s.heap := by rw [B.state]; rfl
    obtain ⟨t, a1, o, b1, b2, b3⟩ := body p e s m args below meth c s₁ B hml hP s₁ hh0 (Stand.of_body B)
    exact ⟨t, o, a1, b1, b2, ⟨b3.1, b3.2⟩⟩
theorem w_LnseL : Cond.classLink RL 13 nse ∈ zTs := zmem 948 (by decide +kernel) (by decide +kernel)
theorem cb_X10_act : zCB yX10_act cX10_act 4 (some .int) 2 := ⟨zmem 1025 (by decide +kernel) (by decide +kernel), zmem 87 (by decide +kernel) (by decide +kernel), by decide +kernel, by decide +kernel, by decide +kernel⟩
theorem cb_X10_power : zCB yX10_power cX10_power 4 (some .int) 2 := ⟨zmem 952 (by decide +kernel) (by decide +kernel), zmem 87 (by decide +kernel) (by decide +kernel), by decide +kernel, by decide +kernel, by decide +kernel⟩
theorem dL_power_0 : decode cL_power 0 = .ok (.aload_n 3, 1) := by decide +kernel
theorem dL_power_1 : decode cL_power 1 = .ok (.iconst 0, 1) := by decide +kernel
theorem dL_power_2 : decode cL_power 2 = .ok (.aload_n 0, 1) := by decide +kernel
theorem dL_power_3 : decode cL_power 3 = .ok (.iload_n 1, 1) := by decide +kernel
theorem dL_power_4 : decode cL_power 4 = .ok (.iload_n 2, 1) := by decide +kernel
theorem dL_power_5 : decode cL_power 5 = .ok (.invokevirtual 7, 3) := by decide +kernel
theorem dL_power_8 : decode cL_power 8 = .ok (.i2l, 1) := by decide +kernel
theorem dL_power_9 : decode cL_power 9 = .ok (.lastore, 1) := by decide +kernel
theorem dL_power_10 : decode cL_power 10 = .ok (.goto 7, 3) := by decide +kernel
theorem dL_power_13 : decode cL_power 13 = .ok (.astore 4, 2) := by decide +kernel
theorem dL_power_15 : decode cL_power 15 = .ok (.iconst 1, 1) := by decide +kernel
theorem dL_power_16 : decode cL_power 16 = .ok (.ireturn, 1) := by decide +kernel
theorem dL_power_17 : decode cL_power 17 = .ok (.iconst 0, 1) := by decide +kernel
theorem dL_power_18 : decode cL_power 18 = .ok (.ireturn, 1) := by decide +kernel
def tL_power : Nat → zOp := fun pc => (bif Nat.ble pc 3 then (bif Nat.ble pc 1 then (bif Nat.ble pc 0 then (bif Nat.beq pc 0 then o_loadR 3 1 else o_bad) else (bif Nat.beq pc 1 then o_push (.int 0) 2 else o_bad)) else (bif Nat.ble pc 2 then (bif Nat.beq pc 2 then o_loadR 0 3 else o_bad) else (bif Nat.beq pc 3 then o_loadI 1 4 else o_bad))) else (bif Nat.ble pc 8 then (bif Nat.ble pc 4 then (bif Nat.beq pc 4 then o_loadI 2 5 else o_bad) else (bif Nat.beq pc 8 then o_i2l 9 else o_bad)) else (bif Nat.ble pc 9 then (bif Nat.beq pc 9 then o_astJ 10 else o_bad) else (bif Nat.ble pc 10 then (bif Nat.beq pc 10 then o_goto 17 else o_bad) else (bif Nat.beq pc 17 then o_push (.int 0) 18 else o_bad)))))
theorem sL_power {G : zG} {n0 nE : Nat} {p : Program} {l : Launch} {e : Env} {R : Room} {s : State} {m : MethodId} {args : Array Value} {below : List Frame} {meth : Method} {c : Code} {Z : State → Prop} (X : zCx G n0 nE 5 cL_power RL p R s m args c) : zAll G n0 nE 5 p l e R s m args below meth c Z tL_power := (zAll_node (zAll_node (zAll_node (zAll_leaf (sn_aload_n X 3 dL_power_0 rfl)) (zAll_leaf (sn_iconst X 0 dL_power_1 (by decide)))) (zAll_node (zAll_leaf (sn_aload_n X 0 dL_power_2 rfl)) (zAll_leaf (sn_iload_n X 1 dL_power_3 rfl)))) (zAll_node (zAll_node (zAll_leaf (sn_iload_n X 2 dL_power_4 rfl)) (zAll_leaf (sn_i2l X dL_power_8))) (zAll_node (zAll_leaf (sn_last X dL_power_9)) (zAll_node (zAll_leaf (sn_goto X 17 dL_power_10 (by decide))) (zAll_leaf (sn_iconst X 0 dL_power_17 (by decide)))))))
theorem w_L_powerl : Cond.methodLink RL 7 yX10_power ∈ zTs := zmem 949 (by decide +kernel) (by decide +kernel)
theorem w_L_poweri : Cond.instanceMethod yX10_power ∈ zTs := zmem 950 (by decide +kernel) (by decide +kernel)
theorem w_L_powers : Cond.selects RX10 yX10_power yX10_power ∈ zTs := zmem 951 (by decide +kernel) (by decide +kernel)
def qL_power (n : Nat) (mem : zM) (p w : Int32) : zPo := fun r n' M => (r = some (.int 0) ∧ n' = n ∧ ¬ thP mem p w ∧ M = zJ mem 197 0 (mem.1 182 (8 * ix p + ix w)).toInt64) ∨ (r = some (.int 1) ∧ n' = n + 1 ∧ thP mem p w ∧ M = mem)
theorem ok_L_power {l : Launch} {G : zG} {n : Nat} {mem : zM} {p w : Int32} (hl : l.stackTraces = false) (hJ : J n mem) (hn8 : 98 ≤ n) : Met l yL_power (.codeWith yL_power cL_power 5 (some .int) [(0, 10, 13, 13)] :: zTs) { frames := 7, cells := 1, slots := 6, locals := 280 } (zPX G [.ref 100, .int p, .int w, .ref 197] n mem) (zQn G (qL_power n mem p w)) 1 6 (zA G) := by
  refine z_ofWH (hh := [(0, 10, 13, 13)]) (by decide +kernel) rfl ?_
  intro pr e s m args below meth c s₁ B hml hv
  obtain ⟨⟨ha, hz, hP, hE⟩, hZ⟩ := hv
  subst ha
  have hts0 := atoms_spec (ws := (.codeWith yL_power cL_power 5 (some .int) [(0, 10, 13, 13)] :: zTs)) B.pre
  have htab := vx_table (x := yL_power) B (hts0 _ List.mem_cons_self)
  have hown : s.vm.findClass RL = some m.cls := findClass_of_methodNamed B.named
  have hts : ∀ w9 ∈ zTs, w9.before (([.ref 100, .int p, .int w, .ref 197] : List Value).map (zV G)).toArray s = true := fun w hw => hts0 w (List.mem_cons_of_mem _ hw)
  have S : zSgx G 5 cL_power RL pr s m (([.ref 100, .int p, .int w, .ref 197] : List Value).map (zV G)).toArray c := ⟨B.exec, B.bytes, hml, hown, hts, hE⟩
  have hm1 : zS (n + 1) = zS n + 6 := zS_nse (zkd_nse hn8)
  have X1 : zCx G n (n + 1) 5 cL_power RL pr { frames := 7, cells := 1, slots := 6, locals := 280 } s m (([.ref 100, .int p, .int w, .ref 197] : List Value).map (zV G)).toArray c := ⟨B.exec, B.bytes, hml, hown, hts, hE, hz, Nat.le_refl _, Nat.le_of_eq hm1⟩
  have hr : meth.sig.returnType = some .int := B.returns
  have hlk : meth.locks = false := B.notSynchronized
  have hn97 : 97 ≤ n := by omega
  -- the end
  have fin : ∀ (v : Int32) (n' : Nat) (M : zM), qL_power n mem p w (some (.int v)) n' M → ∀ (pc : Nat), decode cL_power pc = .ok (.ireturn, 1) → ∀ ls, zLW G 5 pr l e { frames := 7, cells := 1, slots := 6, locals := 280 } s m (([.ref 100, .int p, .int w, .ref 197] : List Value).map (zV G)).toArray below meth c (MQ below (zQn G (qL_power n mem p w)) (([.ref 100, .int p, .int w, .ref 197] : List Value).map (zV G)).toArray s 1 6 (zA G)) pc ls [.int v] n' M 1 6 := by
    intro v n' M hq pc hd ls H locs lsC hl1 hz1 hP1 hS1
    exact W.iret B.exec B.bytes hr (fun t ht hW => ⟨⟨some (.int v), n', M, rfl, hq, by rw [ht]; exact hz1, by rw [ht]; exact hP1⟩, hS1.F ht⟩) hS1.2.2 hd hlk
  have seg2 : ∀ ls, ¬ thP mem p w → zLW G 5 pr l e { frames := 7, cells := 1, slots := 6, locals := 280 } s m (([.ref 100, .int p, .int w, .ref 197] : List Value).map (zV G)).toArray below meth c (MQ below (zQn G (qL_power n mem p w)) (([.ref 100, .int p, .int w, .ref 197] : List Value).map (zV G)).toArray s 1 6 (zA G)) 8 ls [.int (mem.1 182 (8 * ix p + ix w)), .int 0, .ref 197] n mem 1 6 := by
    intro ls hno
    refine z_seg S 0 0 rfl (Nat.le_refl _) (Nat.le_refl _) tL_power (fun s' _ _ X => sL_power X) (fun pc _ st n' M => pc = 18 ∧ st = [.int 0] ∧ n' = n ∧ M = zJ mem 197 0 (mem.1 182 (8 * ix p + ix w)).toInt64) ?_ ?_
    · rintro pc ls st n' M ⟨rfl, rfl, rfl, rfl⟩ k hk ss hss
      have h1 : k = 0 := by omega
      have h2 : ss = 0 := by omega
      subst h1; subst h2
      exact fin 0 _ _ (Or.inl ⟨rfl, rfl, hno, rfl⟩) 18 dL_power_18 ls
    · intro P hP2 hC
      refine hP2 _ _ _ _ _ ?_
      refine hP2 _ _ _ _ _ ⟨_, 0, ⟨rfl, by omega, by omega⟩, rfl, by decide, ?_⟩
      refine hP2 _ _ _ _ _ ?_
      refine hP2 _ _ _ _ _ ?_
      exact hC _ _ _ _ _ ⟨rfl, rfl, rfl, rfl⟩
  have seg1 : zLW G 5 pr l e { frames := 7, cells := 1, slots := 6, locals := 280 } s m (([.ref 100, .int p, .int w, .ref 197] : List Value).map (zV G)).toArray below meth c (MQ below (zQn G (qL_power n mem p w)) (([.ref 100, .int p, .int w, .ref 197] : List Value).map (zV G)).toArray s 1 6 (zA G)) 5 [.ref 100, .int p, .int w, .ref 197, .null] [.int w, .int p, .ref 100, .int 0, .ref 197] n mem 0 0 := by
    intro H locs lsC hl1 hz1 hP1 hS1
    have hPre : ∀ U : State, U.heap = H → s.WarmedH U.vm → zPX G [.ref 100, .int p, .int w] n mem (([.ref 100, .int p, .int w] : List Value).map (zV G)).toArray U := fun U hU hW => ⟨zPre X1 hz1 hP1 hS1 U hU hW, zX_keep hW (fun a h1 h2 => by rw [hU]; exact hS1.2.1 a h1 h2) hZ⟩
    have hrun := vx_runV (locs := locs) (below := below) (meth := meth) (e := e) (C := RX10) (rest := ([.int 0, .ref 197] : List Value).map (zV G)) (As := ([.int p, .int w] : List Value).map (zV G)) (g := F0 m 5 lsC (([.int w, .int p, .ref 100, .int 0, .ref 197] : List Value).map (zV G))) (cells := 0) (slots := 0) (R := { frames := 7, cells := 1, slots := 6, locals := 280 }) ⟨B.exec, B.bytes, hml, hown, hts⟩ (go_power hl hJ hn8) ⟨z_callB X1 cb_X10_power w_L_powerl ⟨by decide, by decide⟩, hts _ w_L_poweri, hts _ w_L_powers⟩ ⟨zPX_blind, va_recv hE.1 hP1 (ci := 10) rfl ((zi hn97 rfl rfl rfl : zis n 100 (.inl 10)).obj (mem := mem)), hPre⟩ rfl rfl hl1.1 rfl (by show 0 + _ ≤ 8; exact Nat.le_of_ble_eq_true rfl) dL_power_5 ⟨by decide, by decide⟩
    intro T hT X
    rcases hrun T hT X with ⟨v, st₀, t, T', L, h0, X', hL, e1, e2, ⟨⟨r, mem', hv, ⟨rfl, hno, rfl⟩, hw⟩, hz', hk⟩, st⟩ | ⟨q, st₀, t, T', L, E, ce, h0, X', hL, e1, e2, ⟨mem', ⟨⟨rfl, hth⟩, hEe, hw1, hw2⟩, hz', hk⟩, hce, hcv, hcl, st⟩
    · cases hv
      rw [h0] at hz' hk
      obtain ⟨t2, a1, b1⟩ := seg2 [.ref 100, .int p, .int w, .ref 197, .null] hno T'.heap (locs ++ L) lsC hl1 (by rw [e1]; exact hw.1) (by rw [e1]; exact hw.2.1)
        ⟨Nat.le_trans hS1.1 (by rw [e1]; exact hz'), fun q h1 h2 => by rw [e1, hk q (Nat.lt_of_lt_of_le h1 hS1.1) h2]; exact hS1.2.1 q h1 h2, fun q hq => (List.mem_append.mp hq).elim (hS1.2.2 q) (hL q)⟩ T' rfl X'
      exact ⟨t2, st t2 a1, b1⟩
    · subst hEe
      rw [h0] at hz' hk
      have hS2 : va_S (zA G) s.heap T'.heap (locs ++ L) := ⟨Nat.le_trans hS1.1 (by rw [e1]; exact hz'), fun q h1 h2 => by rw [e1, hk q (Nat.lt_of_lt_of_le h1 hS1.1) h2]; exact hS1.2.1 q h1 h2, fun q hq => (List.mem_append.mp hq).elim (hS1.2.2 q) (hL q)⟩
      have hW13 : W pr l e { frames := 7, cells := 1, slots := 6, locals := 280 } s m (([.ref 100, .int p, .int w, .ref 197] : List Value).map (zV G)).toArray below meth c T'.heap (locs ++ L) 1 6 (MQ below (zQn G (qL_power n mem' p w)) (([.ref 100, .int p, .int w, .ref 197] : List Value).map (zV G)).toArray s 1 6 (zA G)) (F0 m 13 lsC [.ref q]) := by
        refine lv_astore B.exec B.bytes dL_power_13 hl1 (by decide) rfl (fun ls' hl' => ?_)
        refine lv_iconst B.exec B.bytes dL_power_15 (v := 1) (by decide) ?_
        exact W.iret B.exec B.bytes hr (fun t9 ht hW => ⟨⟨some (.int 1), n + 1, mem', rfl, Or.inr ⟨rfl, rfl, hth, rfl⟩, by rw [ht, e1]; exact hw1, by rw [ht, e1]; exact hw2⟩, hS2.F ht⟩) hS2.2.2 dL_power_16 hlk
      have hcat := vx_catch (H := T'.heap) (pc := 5) (rest := ([.int 0, .ref 197] : List Value).map (zV G)) (own := RL) (name := nse) (E := nse) (ce := ce) (q := q) (ls := lsC) hown [] { startPc := 0, endPc := 10, handlerPc := 13, catchType := 13 } [] (by rw [htab]; rfl) (fun z hz => nomatch hz) (by decide) (by decide) (hts _ w_LnseL) (zX_use hZ (by simp)) (by rw [e1]; exact hce) hcv hcl hW13
      obtain ⟨t2, a1, b1⟩ := hcat T' rfl X'
      exact ⟨t2, st.trans a1, b1⟩
  have seg0 : zLW G 5 pr l e { frames := 7, cells := 1, slots := 6, locals := 280 } s m (([.ref 100, .int p, .int w, .ref 197] : List Value).map (zV G)).toArray below meth c (MQ below (zQn G (qL_power n mem p w)) (([.ref 100, .int p, .int w, .ref 197] : List Value).map (zV G)).toArray s 1 6 (zA G)) 0 [.ref 100, .int p, .int w, .ref 197, .null] [] n mem 0 0 := by
    refine z_seg S 0 0 rfl (by decide) (by decide) tL_power (fun s' _ _ X => sL_power X) (fun pc ls st n' M => pc = 5 ∧ ls = [.ref 100, .int p, .int w, .ref 197, .null] ∧ st = [.int w, .int p, .ref 100, .int 0, .ref 197] ∧ n' = n ∧ M = mem) ?_ ?_
    · rintro pc ls st n' M ⟨rfl, rfl, rfl, rfl, rfl⟩ k hk ss hss
      have h1 : k = 0 := by omega
      have h2 : ss = 0 := by omega
      subst h1; subst h2
      exact seg1
    · intro P hP2 hC
      refine hP2 _ _ _ _ _ ?_
      refine hP2 _ _ _ _ _ ?_
      refine hP2 _ _ _ _ _ ?_
      refine hP2 _ _ _ _ _ ?_
      refine hP2 _ _ _ _ _ ?_
      exact hC _ _ _ _ _ ⟨rfl, rfl, rfl, rfl, rfl⟩
  have hl2 := lv_entry (([.ref 100, .int p, .int w, .ref 197] : List Value).map (zV G)) (n := 5) (Nat.le_of_ble_eq_true rfl)
  rw [lg_entry_eq]
  exact seg0 s.heap [] _ ⟨hl2.1, hl2.2.1, fun q hq => hl2.2.2 q (zL_args (as := [.ref 100, .int p, .int w, .ref 197]) (k := 1) (List.forall_mem_cons.mpr ⟨rfl, List.forall_mem_cons.mpr ⟨rfl, List.forall_mem_cons.mpr ⟨rfl, List.forall_mem_cons.mpr ⟨rfl, fun _ h => absurd h List.not_mem_nil⟩⟩⟩⟩) q hq)⟩ hz hP va_S.rf
theorem dL_act_0 : decode cL_act 0 = .ok (.aload_n 3, 1) := by decide +kernel
theorem dL_act_1 : decode cL_act 1 = .ok (.iconst 0, 1) := by decide +kernel
theorem dL_act_2 : decode cL_act 2 = .ok (.aload_n 0, 1) := by decide +kernel
theorem dL_act_3 : decode cL_act 3 = .ok (.iload_n 1, 1) := by decide +kernel
theorem dL_act_4 : decode cL_act 4 = .ok (.iload_n 2, 1) := by decide +kernel
theorem dL_act_5 : decode cL_act 5 = .ok (.invokevirtual 15, 3) := by decide +kernel
theorem dL_act_8 : decode cL_act 8 = .ok (.i2l, 1) := by decide +kernel
theorem dL_act_9 : decode cL_act 9 = .ok (.lastore, 1) := by decide +kernel
theorem dL_act_10 : decode cL_act 10 = .ok (.goto 7, 3) := by decide +kernel
theorem dL_act_13 : decode cL_act 13 = .ok (.astore 4, 2) := by decide +kernel
theorem dL_act_15 : decode cL_act 15 = .ok (.iconst 1, 1) := by decide +kernel
theorem dL_act_16 : decode cL_act 16 = .ok (.ireturn, 1) := by decide +kernel
theorem dL_act_17 : decode cL_act 17 = .ok (.iconst 0, 1) := by decide +kernel
theorem dL_act_18 : decode cL_act 18 = .ok (.ireturn, 1) := by decide +kernel
def tL_act : Nat → zOp := fun pc => (bif Nat.ble pc 3 then (bif Nat.ble pc 1 then (bif Nat.ble pc 0 then (bif Nat.beq pc 0 then o_loadR 3 1 else o_bad) else (bif Nat.beq pc 1 then o_push (.int 0) 2 else o_bad)) else (bif Nat.ble pc 2 then (bif Nat.beq pc 2 then o_loadR 0 3 else o_bad) else (bif Nat.beq pc 3 then o_loadI 1 4 else o_bad))) else (bif Nat.ble pc 8 then (bif Nat.ble pc 4 then (bif Nat.beq pc 4 then o_loadI 2 5 else o_bad) else (bif Nat.beq pc 8 then o_i2l 9 else o_bad)) else (bif Nat.ble pc 9 then (bif Nat.beq pc 9 then o_astJ 10 else o_bad) else (bif Nat.ble pc 10 then (bif Nat.beq pc 10 then o_goto 17 else o_bad) else (bif Nat.beq pc 17 then o_push (.int 0) 18 else o_bad)))))
theorem sL_act {G : zG} {n0 nE : Nat} {p : Program} {l : Launch} {e : Env} {R : Room} {s : State} {m : MethodId} {args : Array Value} {below : List Frame} {meth : Method} {c : Code} {Z : State → Prop} (X : zCx G n0 nE 5 cL_act RL p R s m args c) : zAll G n0 nE 5 p l e R s m args below meth c Z tL_act := (zAll_node (zAll_node (zAll_node (zAll_leaf (sn_aload_n X 3 dL_act_0 rfl)) (zAll_leaf (sn_iconst X 0 dL_act_1 (by decide)))) (zAll_node (zAll_leaf (sn_aload_n X 0 dL_act_2 rfl)) (zAll_leaf (sn_iload_n X 1 dL_act_3 rfl)))) (zAll_node (zAll_node (zAll_leaf (sn_iload_n X 2 dL_act_4 rfl)) (zAll_leaf (sn_i2l X dL_act_8))) (zAll_node (zAll_leaf (sn_last X dL_act_9)) (zAll_node (zAll_leaf (sn_goto X 17 dL_act_10 (by decide))) (zAll_leaf (sn_iconst X 0 dL_act_17 (by decide)))))))
theorem w_L_actl : Cond.methodLink RL 15 yX10_act ∈ zTs := zmem 1022 (by decide +kernel) (by decide +kernel)
theorem w_L_acti : Cond.instanceMethod yX10_act ∈ zTs := zmem 1023 (by decide +kernel) (by decide +kernel)
theorem w_L_acts : Cond.selects RX10 yX10_act yX10_act ∈ zTs := zmem 1024 (by decide +kernel) (by decide +kernel)
def qL_act (n : Nat) (mem : zM) (p w : Int32) : zPo := fun r n' M => (r = some (.int 0) ∧ n' = n ∧ ¬ thA2 mem p w ∧ M = zJ mem 197 0 (mem.1 191 (9 * ix p + ix w)).toInt64) ∨ (r = some (.int 1) ∧ n' = n + 1 ∧ thA2 mem p w ∧ M = mem)
theorem ok_L_act {l : Launch} {G : zG} {n : Nat} {mem : zM} {p w : Int32} (hl : l.stackTraces = false) (hJ : J n mem) (hn8 : 98 ≤ n) : Met l yL_act (.codeWith yL_act cL_act 5 (some .int) [(0, 10, 13, 13)] :: zTs) { frames := 7, cells := 1, slots := 6, locals := 280 } (zPX G [.ref 100, .int p, .int w, .ref 197] n mem) (zQn G (qL_act n mem p w)) 1 6 (zA G) := by
  refine z_ofWH (hh := [(0, 10, 13, 13)]) (by decide +kernel) rfl ?_
  intro pr e s m args below meth c s₁ B hml hv
  obtain ⟨⟨ha, hz, hP, hE⟩, hZ⟩ := hv
  subst ha
  have hts0 := atoms_spec (ws := (.codeWith yL_act cL_act 5 (some .int) [(0, 10, 13, 13)] :: zTs)) B.pre
  have htab := vx_table (x := yL_act) B (hts0 _ List.mem_cons_self)
  have hown : s.vm.findClass RL = some m.cls := findClass_of_methodNamed B.named
  have hts : ∀ w9 ∈ zTs, w9.before (([.ref 100, .int p, .int w, .ref 197] : List Value).map (zV G)).toArray s = true := fun w hw => hts0 w (List.mem_cons_of_mem _ hw)
  have S : zSgx G 5 cL_act RL pr s m (([.ref 100, .int p, .int w, .ref 197] : List Value).map (zV G)).toArray c := ⟨B.exec, B.bytes, hml, hown, hts, hE⟩
  have hm1 : zS (n + 1) = zS n + 6 := zS_nse (zkd_nse hn8)
  have X1 : zCx G n (n + 1) 5 cL_act RL pr { frames := 7, cells := 1, slots := 6, locals := 280 } s m (([.ref 100, .int p, .int w, .ref 197] : List Value).map (zV G)).toArray c := ⟨B.exec, B.bytes, hml, hown, hts, hE, hz, Nat.le_refl _, Nat.le_of_eq hm1⟩
  have hr : meth.sig.returnType = some .int := B.returns
  have hlk : meth.locks = false := B.notSynchronized
  have hn97 : 97 ≤ n := by omega
  -- the end
  have fin : ∀ (v : Int32) (n' : Nat) (M : zM), qL_act n mem p w (some (.int v)) n' M → ∀ (pc : Nat), decode cL_act pc = .ok (.ireturn, 1) → ∀ ls, zLW G 5 pr l e { frames := 7, cells := 1, slots := 6, locals := 280 } s m (([.ref 100, .int p, .int w, .ref 197] : List Value).map (zV G)).toArray below meth c (MQ below (zQn G (qL_act n mem p w)) (([.ref 100, .int p, .int w, .ref 197] : List Value).map (zV G)).toArray s 1 6 (zA G)) pc ls [.int v] n' M 1 6 := by
    intro v n' M hq pc hd ls H locs lsC hl1 hz1 hP1 hS1
    exact W.iret B.exec B.bytes hr (fun t ht hW => ⟨⟨some (.int v), n', M, rfl, hq, by rw [ht]; exact hz1, by rw [ht]; exact hP1⟩, hS1.F ht⟩) hS1.2.2 hd hlk
  have seg2 : ∀ ls, ¬ thA2 mem p w → zLW G 5 pr l e { frames := 7, cells := 1, slots := 6, locals := 280 } s m (([.ref 100, .int p, .int w, .ref 197] : List Value).map (zV G)).toArray below meth c (MQ below (zQn G (qL_act n mem p w)) (([.ref 100, .int p, .int w, .ref 197] : List Value).map (zV G)).toArray s 1 6 (zA G)) 8 ls [.int (mem.1 191 (9 * ix p + ix w)), .int 0, .ref 197] n mem 1 6 := by
    intro ls hno
    refine z_seg S 0 0 rfl (Nat.le_refl _) (Nat.le_refl _) tL_act (fun s' _ _ X => sL_act X) (fun pc _ st n' M => pc = 18 ∧ st = [.int 0] ∧ n' = n ∧ M = zJ mem 197 0 (mem.1 191 (9 * ix p + ix w)).toInt64) ?_ ?_
    · rintro pc ls st n' M ⟨rfl, rfl, rfl, rfl⟩ k hk ss hss
      have h1 : k = 0 := by omega
      have h2 : ss = 0 := by omega
      subst h1; subst h2
      exact fin 0 _ _ (Or.inl ⟨rfl, rfl, hno, rfl⟩) 18 dL_act_18 ls
    · intro P hP2 hC
      refine hP2 _ _ _ _ _ ?_
      refine hP2 _ _ _ _ _ ⟨_, 0, ⟨rfl, by omega, by omega⟩, rfl, by decide, ?_⟩
      refine hP2 _ _ _ _ _ ?_
      refine hP2 _ _ _ _ _ ?_
      exact hC _ _ _ _ _ ⟨rfl, rfl, rfl, rfl⟩
  have seg1 : zLW G 5 pr l e { frames := 7, cells := 1, slots := 6, locals := 280 } s m (([.ref 100, .int p, .int w, .ref 197] : List Value).map (zV G)).toArray below meth c (MQ below (zQn G (qL_act n mem p w)) (([.ref 100, .int p, .int w, .ref 197] : List Value).map (zV G)).toArray s 1 6 (zA G)) 5 [.ref 100, .int p, .int w, .ref 197, .null] [.int w, .int p, .ref 100, .int 0, .ref 197] n mem 0 0 := by
    intro H locs lsC hl1 hz1 hP1 hS1
    have hPre : ∀ U : State, U.heap = H → s.WarmedH U.vm → zPX G [.ref 100, .int p, .int w] n mem (([.ref 100, .int p, .int w] : List Value).map (zV G)).toArray U := fun U hU hW => ⟨zPre X1 hz1 hP1 hS1 U hU hW, zX_keep hW (fun a h1 h2 => by rw [hU]; exact hS1.2.1 a h1 h2) hZ⟩
    have hrun := vx_runV (locs := locs) (below := below) (meth := meth) (e := e) (C := RX10) (rest := ([.int 0, .ref 197] : List Value).map (zV G)) (As := ([.int p, .int w] : List Value).map (zV G)) (g := F0 m 5 lsC (([.int w, .int p, .ref 100, .int 0, .ref 197] : List Value).map (zV G))) (cells := 0) (slots := 0) (R := { frames := 7, cells := 1, slots := 6, locals := 280 }) ⟨B.exec, B.bytes, hml, hown, hts⟩ (go_act hl hJ hn8) ⟨z_callB X1 cb_X10_act w_L_actl ⟨by decide, by decide⟩, hts _ w_L_acti, hts _ w_L_acts⟩ ⟨zPX_blind, va_recv hE.1 hP1 (ci := 10) rfl ((zi hn97 rfl rfl rfl : zis n 100 (.inl 10)).obj (mem := mem)), hPre⟩ rfl rfl hl1.1 rfl (by show 0 + _ ≤ 8; exact Nat.le_of_ble_eq_true rfl) dL_act_5 ⟨by decide, by decide⟩
    intro T hT X
    rcases hrun T hT X with ⟨v, st₀, t, T', L, h0, X', hL, e1, e2, ⟨⟨r, mem', hv, ⟨rfl, hno, rfl⟩, hw⟩, hz', hk⟩, st⟩ | ⟨q, st₀, t, T', L, E, ce, h0, X', hL, e1, e2, ⟨mem', ⟨⟨rfl, hth⟩, hEe, hw1, hw2⟩, hz', hk⟩, hce, hcv, hcl, st⟩
    · cases hv
      rw [h0] at hz' hk
      obtain ⟨t2, a1, b1⟩ := seg2 [.ref 100, .int p, .int w, .ref 197, .null] hno T'.heap (locs ++ L) lsC hl1 (by rw [e1]; exact hw.1) (by rw [e1]; exact hw.2.1)
        ⟨Nat.le_trans hS1.1 (by rw [e1]; exact hz'), fun q h1 h2 => by rw [e1, hk q (Nat.lt_of_lt_of_le h1 hS1.1) h2]; exact hS1.2.1 q h1 h2, fun q hq => (List.mem_append.mp hq).elim (hS1.2.2 q) (hL q)⟩ T' rfl X'
      exact ⟨t2, st t2 a1, b1⟩
    · subst hEe
      rw [h0] at hz' hk
      have hS2 : va_S (zA G) s.heap T'.heap (locs ++ L) := ⟨Nat.le_trans hS1.1 (by rw [e1]; exact hz'), fun q h1 h2 => by rw [e1, hk q (Nat.lt_of_lt_of_le h1 hS1.1) h2]; exact hS1.2.1 q h1 h2, fun q hq => (List.mem_append.mp hq).elim (hS1.2.2 q) (hL q)⟩
      have hW13 : W pr l e { frames := 7, cells := 1, slots := 6, locals := 280 } s m (([.ref 100, .int p, .int w, .ref 197] : List Value).map (zV G)).toArray below meth c T'.heap (locs ++ L) 1 6 (MQ below (zQn G (qL_act n mem' p w)) (([.ref 100, .int p, .int w, .ref 197] : List Value).map (zV G)).toArray s 1 6 (zA G)) (F0 m 13 lsC [.ref q]) := by
        refine lv_astore B.exec B.bytes dL_act_13 hl1 (by decide) rfl (fun ls' hl' => ?_)
        refine lv_iconst B.exec B.bytes dL_act_15 (v := 1) (by decide) ?_
        exact W.iret B.exec B.bytes hr (fun t9 ht hW => ⟨⟨some (.int 1), n + 1, mem', rfl, Or.inr ⟨rfl, rfl, hth, rfl⟩, by rw [ht, e1]; exact hw1, by rw [ht, e1]; exact hw2⟩, hS2.F ht⟩) hS2.2.2 dL_act_16 hlk
      have hcat := vx_catch (H := T'.heap) (pc := 5) (rest := ([.int 0, .ref 197] : List Value).map (zV G)) (own := RL) (name := nse) (E := nse) (ce := ce) (q := q) (ls := lsC) hown [] { startPc := 0, endPc := 10, handlerPc := 13, catchType := 13 } [] (by rw [htab]; rfl) (fun z hz => nomatch hz) (by decide) (by decide) (hts _ w_LnseL) (zX_use hZ (by simp)) (by rw [e1]; exact hce) hcv hcl hW13
      obtain ⟨t2, a1, b1⟩ := hcat T' rfl X'
      exact ⟨t2, st.trans a1, b1⟩
  have seg0 : zLW G 5 pr l e { frames := 7, cells := 1, slots := 6, locals := 280 } s m (([.ref 100, .int p, .int w, .ref 197] : List Value).map (zV G)).toArray below meth c (MQ below (zQn G (qL_act n mem p w)) (([.ref 100, .int p, .int w, .ref 197] : List Value).map (zV G)).toArray s 1 6 (zA G)) 0 [.ref 100, .int p, .int w, .ref 197, .null] [] n mem 0 0 := by
    refine z_seg S 0 0 rfl (by decide) (by decide) tL_act (fun s' _ _ X => sL_act X) (fun pc ls st n' M => pc = 5 ∧ ls = [.ref 100, .int p, .int w, .ref 197, .null] ∧ st = [.int w, .int p, .ref 100, .int 0, .ref 197] ∧ n' = n ∧ M = mem) ?_ ?_
    · rintro pc ls st n' M ⟨rfl, rfl, rfl, rfl, rfl⟩ k hk ss hss
      have h1 : k = 0 := by omega
      have h2 : ss = 0 := by omega
      subst h1; subst h2
      exact seg1
    · intro P hP2 hC
      refine hP2 _ _ _ _ _ ?_
      refine hP2 _ _ _ _ _ ?_
      refine hP2 _ _ _ _ _ ?_
      refine hP2 _ _ _ _ _ ?_
      refine hP2 _ _ _ _ _ ?_
      exact hC _ _ _ _ _ ⟨rfl, rfl, rfl, rfl, rfl⟩
  have hl2 := lv_entry (([.ref 100, .int p, .int w, .ref 197] : List Value).map (zV G)) (n := 5) (Nat.le_of_ble_eq_true rfl)
  rw [lg_entry_eq]
  exact seg0 s.heap [] _ ⟨hl2.1, hl2.2.1, fun q hq => hl2.2.2 q (zL_args (as := [.ref 100, .int p, .int w, .ref 197]) (k := 1) (List.forall_mem_cons.mpr ⟨rfl, List.forall_mem_cons.mpr ⟨rfl, List.forall_mem_cons.mpr ⟨rfl, List.forall_mem_cons.mpr ⟨rfl, fun _ h => absurd h List.not_mem_nil⟩⟩⟩⟩) q hq)⟩ hz hP va_S.rf
