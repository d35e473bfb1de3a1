/-- who acts alone, or together, is one who lives -/
theorem act_bt {n : Nat} {mem : zM} {t np pw m na : Nat} (hj : jJ n mem t np pw m na) {q : Nat} (hq : q < np) : ∀ i, i < 32 → bt (actC mem t (nI q)) i = (decide (i < np) && (!bt (mem.1 180 14) i && (!decide (i = q) && !bt (deadM (mem.1 113) (nI m) 8) i))) := by
  have hC := hj.1.2.1
  have h8 := hC.2.2.1.2.2
  intro i hi
  unfold actC
  rw [hC.2.2.1.1, hC.2.2.2.2.1, hC.2.2.2.2.2.1.1, b_and, b_and, b_and, b_not _ hi, b_not _ hi, b_not _ hi, b_1shl (by omega) hi]
  have e : bt ((1 : Int32) <<< (nI np &&& 31) - 1) i = decide (i < np) := (by decide +kernel : ∀ np, np ≤ 8 → ∀ i, i < 32 → bt ((1 : Int32) <<< (nI np &&& 31) - 1) i = decide (i < np)) np h8 i hi
  rw [e, Bool.and_assoc, Bool.and_assoc]
/-- the view's persons, other persons instead -/
theorem vP_ps {mem : zM} {np pw k : Nat} {on wo th ps ps' kd am : Int32} (h : ∀ x, (!isby (mem.1 187 x) (nI k) && bt ps x) = (!isby (mem.1 187 x) (nI k) && bt ps' x)) : zVe2 pw (vP mem np k on wo th ps kd am) (vP mem np k on wo th ps' kd am) :=
  ⟨⟨rfl, rfl, rfl, rfl⟩, rfl, fun _ => rfl, h, fun p _ => ⟨congrFun (whyP_f (np := np) (f := fF (mem.1 180 14) (nI k) on 0 th ps kd am) (f' := fF (mem.1 180 14) (nI k) on 0 th ps' kd am) rfl rfl rfl rfl) p, rfl, rfl⟩⟩
theorem none_can {n : Nat} {mem : zM} {t np pw m na : Nat} (hj : jJ n mem t np pw m na) {ps kd am th : Int32} {q : Nat} (h : ∀ x, x < np → (!isby (mem.1 187 x) (nI m) && bt ps x) = false) : canP mem np pw m (mem.1 180 28) 0 th ps kd am q = -1 := by
  have hC := hj.1.2.1
  refine no_can hC.2.2.2.1.2.2 h (fun p hp => ?_) 3 q
  obtain ⟨a, h1, h2, e⟩ := (hj.1.2.2.1 p hp).2.1.2.2.1
  exact ⟨a, h1, by omega, e⟩
theorem go_alone {n : Nat} {mem : zM} {Q : zPo} {pt kd am : Int32} (hJ : J n mem) (hQ : ∀ r M, zTw k_X11_alone [.ref 180, .int pt, .int kd, .int am] n r M → Q (some (.int r)) n M) : k_X10_alone [.ref 100, .int pt, .int kd, .int am] n mem Q := by
  obtain ⟨t, np, pw, m, na, hj⟩ := hJ
  have hj0 := J_t hj
  obtain ⟨-, hC, hP, hE, hN⟩ := id hj.1
  have hT := hC.2.1
  have h20 := hC.2.2.2.1.2.2
  have h8 := hC.2.2.1.2.2
  have h16 := hC.2.2.2.2.2.2.2.2.2
  have e13 : mem.1 180 13 = nI np := hC.2.2.1.2.1
  have e15 : mem.1 180 15 = nI pw := hC.2.2.2.1.2.1
  have e27 : mem.1 180 27 = nI m := hC.2.2.2.2.2.1.2.1
  have e29 : mem.1 180 29 = nI na := hC.2.2.2.2.2.2.2.2.1
  refine ⟨pt, kd, am, t, np, pw, m, na, rfl, jB_Cs hj.1, ?_⟩
  by_cases hc : kaC mem t pt kd am = false
  · rw [if_pos hc]
    refine hQ _ _ fun Q2 hq => ⟨pt, kd, am, np, pw, m, na, rfl, hj.1.1, jB_Mi hj0.1, ?_⟩
    rw [← kasked_eq (M := zI mem 180 0 0) hj rfl, if_pos hc]
    exact hq _ ⟨t, np, pw, m, na, hj0⟩
  · rw [if_neg hc]
    intro M f
    have hjM := J_t (J_q hj (f.mono fun _ _ => sJ_Q))
    obtain ⟨h1, h2⟩ := q_hi f
    have hk := kasked_eq (M := zI M 180 0 0) hj (h2 13 (by omega)) (pt := pt) (kd := kd) (am := am)
    have hkt : kaskedM ((zI M 180 0 0).1 180) pt kd am = true := by rw [← hk]; simpa using hc
    obtain ⟨⟨q, hqn, rfl⟩, ⟨c, hc6, rfl⟩, ⟨a, ha9, rfl⟩⟩ := kasked_in ((h2 13 (by omega)).trans e13) h8 hkt
    refine hQ _ _ fun Q2 hq => ⟨nI q, nI c, nI a, np, pw, m, na, rfl, hjM.1.1, jB_Mi hjM.1, ?_⟩
    rw [← hk, if_neg hc]
    intro V fV
    rw [ix_nI (by omega)] at hq ⊢
    have key : ∀ p, p ≤ np → alM ((zI M 180 0 0).1 180) (zNow (zI M 180 0 0) np pw m) np pw q (nI c) (nI a) p = alC mem t np pw c (nI a) (nI q) p := by
      intro p
      induction p with
      | zero => intro _; rfl
      | succ p ih =>
        intro hp
        rw [alM, alC, ih (by omega)]
        have cond : (askedM ((zI M 180 0 0).1 180) (1 <<< (nI p &&& 31)) (nI q) (nI c) (nI a) = true ∧ ¬ canN (zNow (zI M 180 0 0) np pw m) np pw q (1 <<< (nI p &&& 31)) (nI c) (nI a) = -1) ↔ (bt (actC mem t (nI q)) p = true ∧ ¬ cF mem t np pw c (nI a) (1 <<< (nI p &&& 31)) (nI q) = -1) := by
          have hpw := shl_pow p (by omega)
          have hnpw := shl_pow np h8
          have hpos : 2 ^ p < 2 ^ np := Nat.pow_lt_pow_right (by omega) (by omega)
          have hle := pow8 np h8
          have a1 : decide ((1 : Int32) <<< (nI p &&& 31) ≤ 0) = false := decide_eq_false (by rw [hpw]; exact nI_nle (Nat.two_pow_pos p) (by omega))
          have a2 : decide ((1 : Int32) <<< (nI np &&& 31) ≤ 1 <<< (nI p &&& 31)) = false := decide_eq_false (by rw [hpw, hnpw]; exact nI_ge hpos (by omega))
          have a3 : askedM ((zI M 180 0 0).1 180) (1 <<< (nI p &&& 31)) (nI q) (nI c) (nI a) = (!bt (mem.1 180 14) p && !decide (p = q)) := by
            unfold kaskedM at hkt
            simp only [Bool.and_eq_true] at hkt
            unfold askedM
            rw [hkt.1, hkt.2.1, hkt.2.2, h2 13 (by omega), e13, h2 14 (by omega), a1, a2, and_or0 (by omega), b_1shl (by omega) (by omega)]
            have e : decide ((1 : Int32) <<< (nI p &&& 31) &&& mem.1 180 14 = 0) = !bt (mem.1 180 14) p := by
              cases hb : bt (mem.1 180 14) p with
              | true =>
                refine decide_eq_false fun z => ?_
                have := congrArg (fun x => bt x p) z
                simp only [b_and, b_1shl (show p < 32 by omega) (show p < 32 by omega), hb, b_0, decide_true, Bool.true_and] at this
                cases this
              | false =>
                refine decide_eq_true (b_ext fun i hi => ?_)
                rw [b_and, b_1shl (by omega) hi, b_0]
                by_cases z : i = p
                · subst z; rw [hb, Bool.and_false]
                · rw [decide_eq_false z, Bool.false_and]
            rw [e, show decide (q = p) = decide (p = q) from decide_eq_decide.mpr ⟨Eq.symm, Eq.symm⟩]; rfl
          rw [a3, act_bt hj hqn p (by omega), decide_eq_true (show p < np by omega), Bool.true_and]
          cases hfi : bt (mem.1 180 14) p with
          | true => exact ⟨fun z => (by cases z.1), fun z => (by cases z.1)⟩
          | false =>
            have hd : ∀ x, x < 8 → bt (mem.1 180 14) x = true → bt ((1 : Int32) <<< (nI p &&& 31)) x = false := fun x hx hb => by
              rw [b_1shl (by omega) (by omega)]
              exact decide_eq_false fun z => by rw [z, hfi] at hb; cases hb
            rw [can_eq hj f hc6 hqn hd]
            cases hdead : bt (deadM (mem.1 113) (nI m) 8) p with
            | false => rw [Bool.not_false, Bool.true_and, Bool.true_and, Bool.and_true]
            | true =>
              have hn : cF mem t np pw c (nI a) (1 <<< (nI p &&& 31)) (nI q) = -1 := by
                have e := (now_can hj.1 (c := c) (am := nI a) (th := -1) (by omega) (Or.inl rfl) hd (q := q) (by omega)).1
                unfold cF
                rw [e]
                refine none_can hj fun x hx => ?_
                rw [b_1shl (by omega) (by omega)]
                by_cases z : x = p
                · subst z; rw [← dead_bt hE (by omega), hdead]; rfl
                · rw [decide_eq_false z, Bool.and_false]
              exact ⟨fun z => absurd hn z.2, fun z => absurd hn z.2⟩
        by_cases hcc : bt (actC mem t (nI q)) p = true ∧ ¬ cF mem t np pw c (nI a) (1 <<< (nI p &&& 31)) (nI q) = -1
        · rw [if_pos (cond.mpr hcc), if_pos hcc]
        · rw [if_neg (fun z => hcc (cond.mp z)), if_neg hcc]
    rw [key np (Nat.le_refl _)]
    exact hq V ⟨t, np, pw, m, na, J_q hjM (fV.mono fun _ _ => sV_Q)⟩
theorem bt_nI {s i : Nat} (hi : i < 32) : bt (nI s) i = s.testBit i := by
  unfold bt
  show (BitVec.ofNat 32 s).getLsbD i = _
  rw [BitVec.getLsbD_ofNat, decide_eq_true hi, Bool.true_and]
theorem pcn_lt {x y : Int32} {b : Nat} (h : ∀ i, bt x i = true → bt y i = true) (hb : bt x b = false) (hb2 : bt y b = true) : ∀ i, pcn x i ≤ pcn y i ∧ (b < i → pcn x i < pcn y i) := by
  intro i
  induction i with
  | zero => exact ⟨Nat.le_refl _, fun z => by omega⟩
  | succ i ih =>
    rw [pcn, pcn]
    have e : (bt x i).toNat ≤ (bt y i).toNat := by
      cases hx : bt x i
      · exact Nat.zero_le _
      · rw [h i hx]; exact Nat.le_refl _
    refine ⟨by omega, fun hlt => ?_⟩
    by_cases z : b = i
    · subst z; rw [hb, hb2]; have := ih.1; show pcn x b + 0 < pcn y b + 1; omega
    · have := ih.2 (by omega); omega
