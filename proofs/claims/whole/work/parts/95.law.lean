/-! ===== the law: from the head of its loop, from its start ===== -/
theorem law_back {L : Nat} {xs : Nat → Int32} {n : Nat} {i : Nat} {P : zKt} (hP : ∀ pc ls st n' mem', tL_law L xs n pc P ls st n' mem' → P pc ls st n' mem')
    (h23 : ∀ M w5 w6, J n M → P 23 [.ref 1, .ref 100, .ref 180, .ref 197, .int (nI (i + 6)), w5, w6] [] n M) : ∀ M w5 w6, J n M → P 1270 [.ref 1, .ref 100, .ref 180, .ref 197, .int (nI i), w5, w6] [] n M := by
  intro M w5 w6 hM
  refine hP _ _ _ _ _ ?_
  refine hP _ _ _ _ _ ?_
  show P 23 [.ref 1, .ref 100, .ref 180, .ref 197, .int (nI i + 6), w5, w6] [] n M
  rw [show nI i + 6 = nI (i + 6) from nI_add i 6]
  exact h23 M w5 w6 hM
theorem vinD {L i d : Nat} (hL : L ≤ 3072) (h : i + d < L) : vp_in (nI i + nI d) L := by rw [nI_add]; exact vinL hL h
theorem law_head {L : Nat} {xs : Nat → Int32} {n : Nat} {mem : zM} {i : Nat} {v5 v6 : Value} {P : zKt} (hL : L ≤ 3072) (hi : i ≤ 3072) (hn8 : 98 ≤ n) (hJ : J n mem) (hP : ∀ pc ls st n' mem', tL_law L xs n pc P ls st n' mem' → P pc ls st n' mem')
    (hout : ∀ ls, P 1277 ls [.int 1] n mem) (h23 : i + 6 ≤ L → ∀ M w5 w6, J n M → P 23 [.ref 1, .ref 100, .ref 180, .ref 197, .int (nI (i + 6)), w5, w6] [] n M) (h331 : i + 6 ≤ L → P 331 [.ref 1, .ref 100, .ref 180, .ref 197, .int (nI i), v5, v6] [.ref 197, .int (xs (nI i + 2).toNatClampNeg), .int (xs (nI i + 1).toNatClampNeg), .ref 100] n mem) (h510 : i + 6 ≤ L → P 510 [.ref 1, .ref 100, .ref 180, .ref 197, .int (nI i), v5, v6] [.ref 197, .int (xs (nI i + 2).toNatClampNeg), .int (xs (nI i + 1).toNatClampNeg), .ref 100] n mem) : P 23 [.ref 1, .ref 100, .ref 180, .ref 197, .int (nI i), v5, v6] [] n mem := by
  refine hP _ _ _ _ _ ?_
  refine hP _ _ _ _ _ ?_
  refine hP _ _ _ _ _ ⟨_, rfl, ?_⟩
  refine hP _ _ _ _ _ ?_
  refine hP _ _ _ _ _ ?_
  refine hP _ _ _ _ _ ⟨fun h30 => ?_, fun h30 => ?_⟩
  ·
    refine hP _ _ _ _ _ ?_
    exact hout _
  ·
    have hle : i + 6 ≤ L := sL_le hL hi h30
    have hend := law_back hP (h23 hle)
    have hin0 : vp_in (nI i) L := vinL hL (by omega)
    have hin1 : vp_in (nI i + 1) L := vinD (d := 1) hL (by omega)
    have hin2 : vp_in (nI i + 2) L := vinD (d := 2) hL (by omega)
    have hin3 : vp_in (nI i + 3) L := vinD (d := 3) hL (by omega)
    have hin4 : vp_in (nI i + 4) L := vinD (d := 4) hL (by omega)
    have hin5 : vp_in (nI i + 5) L := vinD (d := 5) hL (by omega)
    refine hP _ _ _ _ _ ?_
    refine hP _ _ _ _ _ ?_
    refine hP _ _ _ _ _ ⟨_, _, rfl, hin0, ?_⟩
    refine hP _ _ _ _ _ ?_
    refine hP _ _ _ _ _ ?_
    refine hP _ _ _ _ _ ⟨fun i40 hi40 hx40 => ?_, fun h40 => ?_⟩
    ·
      have hi40 : i40 < 28 := hi40
      rcases (show i40 = 0 ∨ i40 = 1 ∨ i40 = 2 ∨ i40 = 3 ∨ i40 = 4 ∨ i40 = 5 ∨ i40 = 6 ∨ i40 = 7 ∨ i40 = 8 ∨ i40 = 9 ∨ i40 = 10 ∨ i40 = 11 ∨ i40 = 12 ∨ i40 = 13 ∨ i40 = 14 ∨ i40 = 15 ∨ i40 = 16 ∨ i40 = 17 ∨ i40 = 18 ∨ i40 = 19 ∨ i40 = 20 ∨ i40 = 21 ∨ i40 = 22 ∨ i40 = 23 ∨ i40 = 24 ∨ i40 = 25 ∨ i40 = 26 ∨ i40 = 27 by omega) with rfl | rfl | rfl | rfl | rfl | rfl | rfl | rfl | rfl | rfl | rfl | rfl | rfl | rfl | rfl | rfl | rfl | rfl | rfl | rfl | rfl | rfl | rfl | rfl | rfl | rfl | rfl | rfl
      ·
        exact law_feed hn8 hJ hin1 hin2 hin3 hin4 hin5 hP (fun M hM => hend M _ _ hM)
      ·
        exact law_end hn8 hJ hin1 hin2 hin3 hin4 hin5 hP (fun M hM => hend M _ _ hM)
      ·
        exact law_text hn8 hJ hin1 hin2 hin3 hin4 hin5 hP (fun M hM => hend M _ _ hM)
      ·
        exact law_fault hn8 hJ hin1 hin2 hin3 hin4 hin5 hP (fun M hM => hend M _ _ hM)
      ·
        exact law_now hn8 hJ hin1 hin2 hin3 hin4 hin5 hP (fun M hM => hend M _ _ hM)
      ·
        exact law_power0 hn8 hin1 hin2 hP (h331 hle)
      ·
        exact law_scope hn8 hJ hin1 hin2 hin3 hin4 hin5 hP (fun M hM => hend M _ _ hM)
      ·
        exact law_over hn8 hJ hin1 hin2 hin3 hin4 hin5 hP (fun M hM => hend M _ _ hM)
      ·
        exact law_entry hn8 hJ hin1 hin2 hin3 hin4 hin5 hP (fun M hM => hend M _ _ hM)
      ·
        exact law_act0 hn8 hin1 hin2 hP (h510 hle)
      ·
        exact law_binds hn8 hJ hin1 hin2 hin3 hin4 hin5 hP (fun M hM => hend M _ _ hM)
      ·
        exact law_used hn8 hJ hin1 hin2 hin3 hin4 hin5 hP (fun M hM => hend M _ _ hM)
      ·
        exact law_can hn8 hJ hin1 hin2 hin3 hin4 hin5 hP (fun M hM => hend M _ _ hM)
      ·
        exact law_upTo hn8 hJ hin1 hin2 hin3 hin4 hin5 hP (fun M hM => hend M _ _ hM)
      ·
        exact law_alone hn8 hJ hin1 hin2 hin3 hin4 hin5 hP (fun M hM => hend M _ _ hM)
      ·
        exact law_fewest hn8 hJ hin1 hin2 hin3 hin4 hin5 hP (fun M hM => hend M _ _ hM)
      ·
        exact law_hang hn8 hJ hin1 hin2 hin3 hin4 hin5 hP (fun M hM => hend M _ _ hM)
      ·
        exact law_bound hn8 hJ hin1 hin2 hin3 hin4 hin5 hP (fun M hM => hend M _ _ hM)
      ·
        exact law_letter hn8 hJ hin1 hin2 hin3 hin4 hin5 hP (fun M hM => hend M _ _ hM)
      ·
        exact law_narrow hn8 hJ hin1 hin2 hin3 hin4 hin5 hP (fun M hM => hend M _ _ hM)
      ·
        exact law_finish hn8 hJ hin1 hin2 hin3 hin4 hin5 hP (fun M hM => hend M _ _ hM)
      ·
        exact law_enter hn8 hJ hin1 hin2 hin3 hin4 hin5 hP (fun M hM => hend M _ _ hM)
      ·
        exact law_notice hn8 hJ hin1 hin2 hin3 hin4 hin5 hP (fun M hM => hend M _ _ hM)
      ·
        exact law_die hn8 hJ hin1 hin2 hin3 hin4 hin5 hP (fun M hM => hend M _ _ hM)
      ·
        exact law_does hn8 hJ hin1 hin2 hin3 hin4 hin5 hP (fun M hM => hend M _ _ hM)
      ·
        exact law_approve hn8 hJ hin1 hin2 hin3 hin4 hin5 hP (fun M hM => hend M _ _ hM)
      ·
        exact law_giveUp hn8 hJ hin1 hin2 hin3 hin4 hin5 hP (fun M hM => hend M _ _ hM)
      ·
        exact law_days hn8 hJ hin1 hin2 hin3 hin4 hin5 hP (fun M hM => hend M _ _ hM)
    ·
      exact hend _ _ _ hJ
theorem zJ_s {mem : zM} {a b : Nat} {v : Int64} : (zJ mem a b v).2.1 a b = v := by simp [zJ, zup]
theorem zXs_of {G : zG} {b L : Nat} {xs : Nat → Int32} {s s' : State} (hX : va_X b L xs s s.heap) (hb1 : G.2.1 1 = b) (hG : s.heap.size = G.1) (hbl : b < s.heap.size) (hk : ∀ q : Nat, q < s.heap.size → ¬ zA G q → s'.heap[q]? = s.heap[q]?) (hvm : s.vm = s'.vm) : zXs G L xs s' := by
  obtain ⟨scr, h1, h2, h3⟩ := hX
  refine ⟨⟨scr, ?_, State.isArrayOf_alike (by rw [← hvm]; exact Vm.Alike.refl _) h2, h3⟩, by rw [hb1]; omega⟩
  rw [hb1, hk b hbl (by show ¬ G.1 ≤ b; omega)]; exact h1
section Law
variable {G : zG} {p : Program} {l : Launch} {e : Env} {s : State} {m : MethodId} {below : List Frame} {meth : Method} {c : Code} {b L : Nat} {xs : Nat → Int32}
theorem w_L_powerL : Cond.methodLink RL 46 yL_power ∈ zTs := zmem 945 (by decide +kernel) (by decide +kernel)
theorem w_L_powerS : Cond.static yL_power ∈ zTs := zmem 946 (by decide +kernel) (by decide +kernel)
theorem w_L_powerC : Cond.codeWith yL_power cL_power 5 (some .int) [(0, 10, 13, 13)] ∈ zTs := zmem 947 (by decide +kernel) (by decide +kernel)
theorem law_call_power (hl : l.stackTraces = false) (S : zSgx G 7 cL_law RL p s m #[Value.ref b] c) (hZ : zX G s) (hX : va_X b L xs s s.heap) (hb1 : G.2.1 1 = b) (hG : s.heap.size = G.1) (hbl : b < s.heap.size) (hL : L ≤ 3072) {i n cells slots : Nat} {mem : zM} {v5 v6 : Value} (hn8 : 98 ≤ n) (hJ : J n mem) (hle : i + 6 ≤ L) (hc : cells + 1 ≤ 601024) (hs : slots + 6 ≤ 7293034)
    (ih : ∀ n' M w5 w6, 98 ≤ n' → J n' M → zLW G 7 p l e room_1 s m #[Value.ref b] below meth c (lw_Z below #[Value.ref b] s) 23 [.ref 1, .ref 100, .ref 180, .ref 197, .int (nI (i + 6)), w5, w6] [] n' M (cells + 1) (slots + 6)) : zLW G 7 p l e room_1 s m #[Value.ref b] below meth c (lw_Z below #[Value.ref b] s) 331 [.ref 1, .ref 100, .ref 180, .ref 197, .int (nI i), v5, v6] [.ref 197, .int (xs (nI i + 2).toNatClampNeg), .int (xs (nI i + 1).toNatClampNeg), .ref 100] n mem cells slots := by
  intro H locs lsC hl1 hz1 hP1 hS1
  obtain ⟨hx, hb, hml, hown, hts, hE⟩ := id S
  have hPre : ∀ U : State, U.heap = H → s.WarmedH U.vm → zPX G [.ref 100, .int (xs (nI i + 1).toNatClampNeg), .int (xs (nI i + 2).toNatClampNeg), .ref 197] n mem (([.ref 100, .int (xs (nI i + 1).toNatClampNeg), .int (xs (nI i + 2).toNatClampNeg), .ref 197] : List Value).map (zV G)).toArray U := fun U hU hW => ⟨⟨rfl, by rw [hU]; exact hz1, by rw [hU]; exact hP1, zE_keep hW (fun a h1 h2 => by rw [hU]; exact hS1.2.1 a h1 h2) hE⟩, zX_keep hW (fun a h1 h2 => by rw [hU]; exact hS1.2.1 a h1 h2) hZ⟩
  have pay : ∀ w ∈ (Cond.codeWith yL_power cL_power 5 (some .int) [(0, 10, 13, 13)] :: zTs), ∀ (a' : Array Value) (U : State), s.WarmedH U.vm → w.before a' U = true := fun w hw a' U hW => by
    have hw' : w ∈ zTs := (List.mem_cons.mp hw).elim (fun z => by rw [z]; exact w_L_powerC) id
    exact word_at hW (good_of_word (List.mem_filter.mp hw').2) (hts w hw')
  have hrun := vx_runSW (l := l) (H := H) (locs := locs) (below := below) (meth := meth) (e := e) (cells := cells) (slots := slots) (R := room_1) (rest := []) (g := F0 m 331 lsC (([.ref 197, .int (xs (nI i + 2).toNatClampNeg), .int (xs (nI i + 1).toNatClampNeg), .ref 100] : List Value).map (zV G))) (As := ([.ref 100, .int (xs (nI i + 1).toNatClampNeg), .int (xs (nI i + 2).toNatClampNeg), .ref 197] : List Value).map (zV G)) (hh := [(0, 10, 13, 13)]) (bytes := cL_power) (maxL := 5) (ret := some .int) (n := 4) (Ts := zTs) ⟨hx, hb, hml, hown, hts⟩ (ok_L_power (G := G) (p := xs (nI i + 1).toNatClampNeg) (w := xs (nI i + 2).toNatClampNeg) hl hJ hn8) ⟨⟨rfl, rfl, by decide, by decide, pay, List.mem_cons_self⟩, hts _ w_L_powerC, hts _ (zmem 86 (by decide +kernel) (by decide +kernel)), ⟨by decide, by decide⟩, fun sig h => by have h2 : (parseMethodDescriptor yL_power.desc).map (fun d => d.parameters.length) = some 4 := (by decide +kernel); rw [h] at h2; exact (Option.some.inj h2).symm, hts _ w_L_powerL, hts _ w_L_powerS⟩ ⟨zPX_blind, hPre⟩ rfl rfl hl1.1 rfl (by show 0 + _ ≤ 8; exact Nat.le_of_ble_eq_true rfl) dL_law_331 ⟨hc, hs⟩
  have hin1 : vp_in (nI i + 1) L := vinD (d := 1) hL (by omega)
  have hin2 : vp_in (nI i + 2) L := vinD (d := 2) hL (by omega)
  have cont : ∀ (r : Int32) (n' : Nat) (M : zM), qL_power n mem (xs (nI i + 1).toNatClampNeg) (xs (nI i + 2).toNatClampNeg) (some (.int r)) n' M → zLW G 7 p l e room_1 s m #[Value.ref b] below meth c (lw_Z below #[Value.ref b] s) 334 [.ref 1, .ref 100, .ref 180, .ref 197, .int (nI i), v5, v6] [.int r] n' M (cells + 1) (slots + 6) := by
    intro r n' M hq
    have hn9 : 98 ≤ n' ∧ J n' M := by
      rcases hq with ⟨-, rfl, -, rfl⟩ | ⟨-, rfl, -, rfl⟩
      · exact ⟨hn8, J_zJ hJ⟩
      · exact ⟨by omega, J_up hJ⟩
    refine z_seg S 0 0 rfl hc hs (tL_law L xs n') (fun s' hk hvm X => sL_law ⟨rfl, rfl⟩ X (zXs_of hX hb1 hG hbl hk hvm)) (fun pc ls st n2 M2 => pc = 23 ∧ st = [] ∧ n2 = n' ∧ J n' M2 ∧ ∃ w5 w6, ls = [.ref 1, .ref 100, .ref 180, .ref 197, .int (nI (i + 6)), w5, w6]) ?_ ?_
    · rintro pc ls st n2 M2 ⟨rfl, rfl, rfl, hJ2, w5, w6, rfl⟩ k hk ss hss
      have h1 : k = 0 := by omega
      have h2 : ss = 0 := by omega
      subst h1; subst h2
      exact ih _ M2 w5 w6 hn9.1 hJ2
    · intro P hP hC
      have hend := law_back hP (fun M w5 w6 hM => hC _ _ _ _ _ ⟨rfl, rfl, rfl, hM, w5, w6, rfl⟩)
      rcases hq with ⟨hr, rfl, hno, rfl⟩ | ⟨hr, rfl, hth, rfl⟩
      · cases hr
        exact law_power1 hn9.1 hin1 hin2 hP hn9.2 hno (zJ_s) hend
      · cases hr
        exact law_power2 hn9.1 hin1 hin2 hP hn9.2 hth hend
  intro T hT X
  obtain ⟨v, st₀, t, T', L', h0, X', hL', e1, e2, ⟨⟨r, n', mem', hv, hq, hw1, hw2⟩, hz', hk⟩, st⟩ := hrun T hT X
  cases hv
  rw [h0] at hz' hk
  have hri : ∃ x, r = some (.int x) := by
    rcases hq with ⟨rfl, -⟩ | ⟨rfl, -⟩
    · exact ⟨0, rfl⟩
    · exact ⟨1, rfl⟩
  obtain ⟨x, rfl⟩ := hri
  obtain ⟨t2, a1, b1⟩ := cont x n' mem' hq T'.heap (locs ++ L') lsC hl1 (by rw [e1]; exact hw1) (by rw [e1]; exact hw2)
    ⟨Nat.le_trans hS1.1 (by rw [e1]; exact hz'), fun q h1 h2 => by rw [e1, hk q (Nat.lt_of_lt_of_le h1 hS1.1) h2]; exact hS1.2.1 q h1 h2, fun q hq => (List.mem_append.mp hq).elim (hS1.2.2 q) (hL' q)⟩ T' rfl X'
  exact ⟨t2, st t2 a1, b1⟩
theorem w_L_actL : Cond.methodLink RL 68 yL_act ∈ zTs := zmem 1019 (by decide +kernel) (by decide +kernel)
theorem w_L_actS : Cond.static yL_act ∈ zTs := zmem 1020 (by decide +kernel) (by decide +kernel)
theorem w_L_actC : Cond.codeWith yL_act cL_act 5 (some .int) [(0, 10, 13, 13)] ∈ zTs := zmem 1021 (by decide +kernel) (by decide +kernel)
theorem law_call_act (hl : l.stackTraces = false) (S : zSgx G 7 cL_law RL p s m #[Value.ref b] c) (hZ : zX G s) (hX : va_X b L xs s s.heap) (hb1 : G.2.1 1 = b) (hG : s.heap.size = G.1) (hbl : b < s.heap.size) (hL : L ≤ 3072) {i n cells slots : Nat} {mem : zM} {v5 v6 : Value} (hn8 : 98 ≤ n) (hJ : J n mem) (hle : i + 6 ≤ L) (hc : cells + 1 ≤ 601024) (hs : slots + 6 ≤ 7293034)
    (ih : ∀ n' M w5 w6, 98 ≤ n' → J n' M → zLW G 7 p l e room_1 s m #[Value.ref b] below meth c (lw_Z below #[Value.ref b] s) 23 [.ref 1, .ref 100, .ref 180, .ref 197, .int (nI (i + 6)), w5, w6] [] n' M (cells + 1) (slots + 6)) : zLW G 7 p l e room_1 s m #[Value.ref b] below meth c (lw_Z below #[Value.ref b] s) 510 [.ref 1, .ref 100, .ref 180, .ref 197, .int (nI i), v5, v6] [.ref 197, .int (xs (nI i + 2).toNatClampNeg), .int (xs (nI i + 1).toNatClampNeg), .ref 100] n mem cells slots := by
  intro H locs lsC hl1 hz1 hP1 hS1
  obtain ⟨hx, hb, hml, hown, hts, hE⟩ := id S
  have hPre : ∀ U : State, U.heap = H → s.WarmedH U.vm → zPX G [.ref 100, .int (xs (nI i + 1).toNatClampNeg), .int (xs (nI i + 2).toNatClampNeg), .ref 197] n mem (([.ref 100, .int (xs (nI i + 1).toNatClampNeg), .int (xs (nI i + 2).toNatClampNeg), .ref 197] : List Value).map (zV G)).toArray U := fun U hU hW => ⟨⟨rfl, by rw [hU]; exact hz1, by rw [hU]; exact hP1, zE_keep hW (fun a h1 h2 => by rw [hU]; exact hS1.2.1 a h1 h2) hE⟩, zX_keep hW (fun a h1 h2 => by rw [hU]; exact hS1.2.1 a h1 h2) hZ⟩
  have pay : ∀ w ∈ (Cond.codeWith yL_act cL_act 5 (some .int) [(0, 10, 13, 13)] :: zTs), ∀ (a' : Array Value) (U : State), s.WarmedH U.vm → w.before a' U = true := fun w hw a' U hW => by
    have hw' : w ∈ zTs := (List.mem_cons.mp hw).elim (fun z => by rw [z]; exact w_L_actC) id
    exact word_at hW (good_of_word (List.mem_filter.mp hw').2) (hts w hw')
  have hrun := vx_runSW (l := l) (H := H) (locs := locs) (below := below) (meth := meth) (e := e) (cells := cells) (slots := slots) (R := room_1) (rest := []) (g := F0 m 510 lsC (([.ref 197, .int (xs (nI i + 2).toNatClampNeg), .int (xs (nI i + 1).toNatClampNeg), .ref 100] : List Value).map (zV G))) (As := ([.ref 100, .int (xs (nI i + 1).toNatClampNeg), .int (xs (nI i + 2).toNatClampNeg), .ref 197] : List Value).map (zV G)) (hh := [(0, 10, 13, 13)]) (bytes := cL_act) (maxL := 5) (ret := some .int) (n := 4) (Ts := zTs) ⟨hx, hb, hml, hown, hts⟩ (ok_L_act (G := G) (p := xs (nI i + 1).toNatClampNeg) (w := xs (nI i + 2).toNatClampNeg) hl hJ hn8) ⟨⟨rfl, rfl, by decide, by decide, pay, List.mem_cons_self⟩, hts _ w_L_actC, hts _ (zmem 86 (by decide +kernel) (by decide +kernel)), ⟨by decide, by decide⟩, fun sig h => by have h2 : (parseMethodDescriptor yL_act.desc).map (fun d => d.parameters.length) = some 4 := (by decide +kernel); rw [h] at h2; exact (Option.some.inj h2).symm, hts _ w_L_actL, hts _ w_L_actS⟩ ⟨zPX_blind, hPre⟩ rfl rfl hl1.1 rfl (by show 0 + _ ≤ 8; exact Nat.le_of_ble_eq_true rfl) dL_law_510 ⟨hc, hs⟩
  have hin1 : vp_in (nI i + 1) L := vinD (d := 1) hL (by omega)
  have hin2 : vp_in (nI i + 2) L := vinD (d := 2) hL (by omega)
  have cont : ∀ (r : Int32) (n' : Nat) (M : zM), qL_act n mem (xs (nI i + 1).toNatClampNeg) (xs (nI i + 2).toNatClampNeg) (some (.int r)) n' M → zLW G 7 p l e room_1 s m #[Value.ref b] below meth c (lw_Z below #[Value.ref b] s) 513 [.ref 1, .ref 100, .ref 180, .ref 197, .int (nI i), v5, v6] [.int r] n' M (cells + 1) (slots + 6) := by
    intro r n' M hq
    have hn9 : 98 ≤ n' ∧ J n' M := by
      rcases hq with ⟨-, rfl, -, rfl⟩ | ⟨-, rfl, -, rfl⟩
      · exact ⟨hn8, J_zJ hJ⟩
      · exact ⟨by omega, J_up hJ⟩
    refine z_seg S 0 0 rfl hc hs (tL_law L xs n') (fun s' hk hvm X => sL_law ⟨rfl, rfl⟩ X (zXs_of hX hb1 hG hbl hk hvm)) (fun pc ls st n2 M2 => pc = 23 ∧ st = [] ∧ n2 = n' ∧ J n' M2 ∧ ∃ w5 w6, ls = [.ref 1, .ref 100, .ref 180, .ref 197, .int (nI (i + 6)), w5, w6]) ?_ ?_
    · rintro pc ls st n2 M2 ⟨rfl, rfl, rfl, hJ2, w5, w6, rfl⟩ k hk ss hss
      have h1 : k = 0 := by omega
      have h2 : ss = 0 := by omega
      subst h1; subst h2
      exact ih _ M2 w5 w6 hn9.1 hJ2
    · intro P hP hC
      have hend := law_back hP (fun M w5 w6 hM => hC _ _ _ _ _ ⟨rfl, rfl, rfl, hM, w5, w6, rfl⟩)
      rcases hq with ⟨hr, rfl, hno, rfl⟩ | ⟨hr, rfl, hth, rfl⟩
      · cases hr
        exact law_act1 hn9.1 hin1 hin2 hP hn9.2 hno (zJ_s) hend
      · cases hr
        exact law_act2 hn9.1 hin1 hin2 hP hn9.2 hth hend
  intro T hT X
  obtain ⟨v, st₀, t, T', L', h0, X', hL', e1, e2, ⟨⟨r, n', mem', hv, hq, hw1, hw2⟩, hz', hk⟩, st⟩ := hrun T hT X
  cases hv
  rw [h0] at hz' hk
  have hri : ∃ x, r = some (.int x) := by
    rcases hq with ⟨rfl, -⟩ | ⟨rfl, -⟩
    · exact ⟨0, rfl⟩
    · exact ⟨1, rfl⟩
  obtain ⟨x, rfl⟩ := hri
  obtain ⟨t2, a1, b1⟩ := cont x n' mem' hq T'.heap (locs ++ L') lsC hl1 (by rw [e1]; exact hw1) (by rw [e1]; exact hw2)
    ⟨Nat.le_trans hS1.1 (by rw [e1]; exact hz'), fun q h1 h2 => by rw [e1, hk q (Nat.lt_of_lt_of_le h1 hS1.1) h2]; exact hS1.2.1 q h1 h2, fun q hq => (List.mem_append.mp hq).elim (hS1.2.2 q) (hL' q)⟩ T' rfl X'
  exact ⟨t2, st t2 a1, b1⟩
end Law
