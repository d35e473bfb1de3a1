theorem go_fewest {n : Nat} {mem : zM} {Q : zPo} {pt kd am : Int32} (hJ : J n mem) (hQ : ∀ r M, zTw k_X11_fewest [.ref 180, .int pt, .int kd, .int am] n r M → Q (some (.int r)) n M) : k_X10_fewest [.ref 100, .int pt, .int kd, .int am] n mem Q := by
  obtain ⟨t, np, pw, m, na, hj⟩ := hJ
  have hj0 := J_t hj
  obtain ⟨-, hC, hP, hE, hN⟩ := id hj.1
  have hT := hC.2.1
  have h20 := hC.2.2.2.1.2.2
  have h8 := hC.2.2.1.2.2
  have h16 := hC.2.2.2.2.2.2.2.2.2
  have e13 : mem.1 180 13 = nI np := hC.2.2.1.2.1
  have e15 : mem.1 180 15 = nI pw := hC.2.2.2.1.2.1
  have e27 : mem.1 180 27 = nI m := hC.2.2.2.2.2.1.2.1
  have e29 : mem.1 180 29 = nI na := hC.2.2.2.2.2.2.2.2.1
  refine ⟨pt, kd, am, t, np, pw, m, na, rfl, jB_Cs hj.1, ?_⟩
  by_cases hc : kaC mem t pt kd am = false
  · rw [if_pos hc]
    refine hQ _ _ fun Q2 hq => ⟨pt, kd, am, np, pw, m, na, rfl, hj.1.1, jB_Mi hj0.1, ?_⟩
    rw [← kasked_eq (M := zI mem 180 0 0) hj rfl, if_pos hc]
    exact hq _ ⟨t, np, pw, m, na, hj0⟩
  · rw [if_neg hc]
    have hkt : kaskedM (mem.1 180) pt kd am = true := by rw [← kasked_eq hj rfl]; simpa using hc
    obtain ⟨⟨q, hqn, rfl⟩, ⟨c, hc6, rfl⟩, ⟨a, ha9, rfl⟩⟩ := kasked_in e13 h8 hkt
    have hle := pow8 np h8
    have icx : ix (nI c) = c := ix_nI (by omega)
    rw [icx]
    -- who is asked, by bits
    have askb : ∀ s, 1 ≤ s → s < 2 ^ np → (askedM (mem.1 180) (nI s) (nI q) (nI c) (nI a) = true ↔ ∀ i, i < 32 → bt (nI s) i = true → bt (mem.1 180 14) i = false ∧ i ≠ q) := by
      intro s h1 h2
      have hkt' := hkt
      unfold kaskedM at hkt'
      simp only [Bool.and_eq_true] at hkt'
      have a1 : decide (nI s ≤ 0) = false := decide_eq_false (nI_nle h1 (by omega))
      have a2 : decide ((1 : Int32) <<< (nI np &&& 31) ≤ nI s) = false := decide_eq_false (by rw [shl_pow np h8]; exact nI_ge h2 (by omega))
      unfold askedM
      rw [hkt'.1, hkt'.2.1, hkt'.2.2, e13, a1, a2, and_or0 (by omega)]
      simp only [Bool.true_and, Bool.not_false, Bool.and_eq_true, decide_eq_true_iff, Bool.not_eq_true']
      constructor
      · rintro ⟨g1, g2⟩ i hi hb
        refine ⟨?_, fun z => by rw [z, g2] at hb; cases hb⟩
        have e := congrArg (fun x => bt x i) g1
        simp only [b_and, hb, b_0, Bool.true_and] at e
        exact e
      · intro h
        refine ⟨b_ext fun i hi => ?_, ?_⟩
        · rw [b_and, b_0]
          cases hb : bt (nI s) i with
          | false => rfl
          | true => rw [(h i hi hb).1]; rfl
        · cases hb : bt (nI s) q with
          | false => rfl
          | true => exact absurd rfl (h q (by omega) hb).2
    have hi8 : ∀ s, s < 2 ^ np → ∀ i, i < 32 → np ≤ i → bt (nI s) i = false := fun s hs i hi hn => by
      rw [bt_nI hi]
      exact Nat.testBit_lt_two_pow (Nat.lt_of_lt_of_le hs (Nat.pow_le_pow_right (by omega) hn))
    have actb : ∀ s, s < 2 ^ np → (nI s &&& (actC mem t (nI q) ^^^ (-1)) = 0 ↔ ∀ i, i < 32 → bt (nI s) i = true → bt (mem.1 180 14) i = false ∧ i ≠ q ∧ bt (deadM (mem.1 113) (nI m) 8) i = false) := by
      intro s hs
      constructor
      · intro h i hi hb
        have e := congrArg (fun x => bt x i) h
        simp only [b_and, b_not _ hi, b_0, hb, Bool.true_and, Bool.not_eq_false'] at e
        rw [act_bt hj hqn i hi] at e
        simp only [Bool.and_eq_true, Bool.not_eq_true', decide_eq_false_iff_not] at e
        exact ⟨e.2.1, e.2.2.1, e.2.2.2⟩
      · intro h
        apply b_ext
        intro i hi
        rw [b_and, b_not _ hi, b_0]
        cases hb : bt (nI s) i with
        | false => rfl
        | true =>
          have hl : i < np := Nat.not_le.mp fun z => by rw [hi8 s hs i hi z] at hb; cases hb
          obtain ⟨g1, g2, g3⟩ := h i hi hb
          rw [act_bt hj hqn i hi, decide_eq_true hl, g1, decide_eq_false g2, g3]; rfl
    have ref : ∀ M, zfr sJ mem M → ∀ Q2 : zPo, ((∀ s, 1 ≤ s → s < 2 ^ np → fwC mem t np pw c (nI a) (nI q) s = false) → ∀ V, J n V → Q2 (some (.int (-2))) n V) → (∀ s, 1 ≤ s → s < 2 ^ np → fwC mem t np pw c (nI a) (nI q) s = true → (∀ s', 1 ≤ s' → s' < 2 ^ np → fwC mem t np pw c (nI a) (nI q) s' = true → pcI (nI s) < pcI (nI s') ∨ (pcI (nI s) = pcI (nI s') ∧ s ≤ s')) → ∀ V, J n V → Q2 (some (.int (nI s))) n V) → k_X11_fewest [.ref 180, .int (nI q), .int (nI c), .int (nI a)] n M Q2 := by
      intro M f Q2 q1 q2
      have hjM := J_t (J_q hj (f.mono fun _ _ => sJ_Q))
      obtain ⟨h1, h2⟩ := q_hi f
      have hk := kasked_eq (M := zI M 180 0 0) hj (h2 13 (by omega)) (pt := nI q) (kd := nI c) (am := nI a)
      have eask : ∀ s, askedM ((zI M 180 0 0).1 180) (nI s) (nI q) (nI c) (nI a) = askedM (mem.1 180) (nI s) (nI q) (nI c) (nI a) := fun s => by unfold askedM; rw [h2 13 (by omega), h2 14 (by omega)]
      -- fwG in the class's words
      have gG : ∀ s, 1 ≤ s → s < 2 ^ np → (fwG ((zI M 180 0 0).1 180) (zNow (zI M 180 0 0) np pw m) np pw q (nI c) (nI a) s = true ↔ askedM (mem.1 180) (nI s) (nI q) (nI c) (nI a) = true ∧ ¬ cF mem t np pw c (nI a) (nI s) (nI q) = -1) := by
        intro s hs1 hs2
        unfold fwG
        rw [eask s, Bool.and_eq_true]
        constructor
        · rintro ⟨g1, g2⟩
          refine ⟨g1, ?_⟩
          rw [can_eq hj f hc6 hqn (asked_pf g1)] at g2
          exact fun z => by rw [decide_eq_true z] at g2; cases g2
        · rintro ⟨g1, g2⟩
          refine ⟨g1, ?_⟩
          rw [can_eq hj f hc6 hqn (asked_pf g1), decide_eq_false g2]; rfl
      have gC' : ∀ s, 1 ≤ s → s < 2 ^ np → (fwC mem t np pw c (nI a) (nI q) s = true ↔ (askedM (mem.1 180) (nI s) (nI q) (nI c) (nI a) = true ∧ ¬ cF mem t np pw c (nI a) (nI s) (nI q) = -1) ∧ ∀ i, i < 32 → bt (nI s) i = true → bt (deadM (mem.1 113) (nI m) 8) i = false) := by
        intro s hs1 hs2
        unfold fwC
        rw [Bool.and_eq_true, decide_eq_true_iff, actb s hs2, askb s hs1 hs2]
        constructor
        · rintro ⟨g1, g2⟩
          exact ⟨⟨fun i hi hb => ⟨(g1 i hi hb).1, (g1 i hi hb).2.1⟩, fun z => by rw [decide_eq_true z] at g2; cases g2⟩, fun i hi hb => (g1 i hi hb).2.2⟩
        · rintro ⟨⟨g1, g2⟩, g3⟩
          exact ⟨fun i hi hb => ⟨(g1 i hi hb).1, (g1 i hi hb).2, g3 i hi hb⟩, by rw [decide_eq_false g2]; rfl⟩
      -- without the dead
      have live : ∀ s, 1 ≤ s → s < 2 ^ np → (askedM (mem.1 180) (nI s) (nI q) (nI c) (nI a) = true ∧ ¬ cF mem t np pw c (nI a) (nI s) (nI q) = -1) → ∃ y, 1 ≤ y ∧ y < 2 ^ np ∧ fwC mem t np pw c (nI a) (nI q) y = true ∧ (y = s ∨ pcI (nI y) < pcI (nI s)) := by
        rintro s hs1 hs2 ⟨g1, g2⟩
        have z8 : zs8 (nI s &&& (deadM (mem.1 113) (nI m) 8 ^^^ (-1))) := fun i h1 h2 => by rw [b_and, hi8 s hs2 i h2 (by omega)]; rfl
        obtain ⟨y, hy, ey⟩ := zs8_nI z8
        have by' : ∀ i, i < 32 → bt (nI y) i = (bt (nI s) i && !bt (deadM (mem.1 113) (nI m) 8) i) := fun i hi => by rw [← ey, b_and, b_not _ hi]
        have hy2 : y < 2 ^ np := by
          refine Nat.lt_pow_two_of_testBit y fun i hi => ?_
          rcases Nat.lt_or_ge i 32 with z | z
          · rw [← bt_nI z, by' i z, hi8 s hs2 i z hi]; rfl
          · exact Nat.testBit_lt_two_pow (Nat.lt_of_lt_of_le (Nat.lt_of_lt_of_le hy (by decide : 256 ≤ 2 ^ 32)) (Nat.pow_le_pow_right (by omega) z))
        have hps := (now_can hj.1 (c := c) (am := nI a) (th := -1) (by omega) (Or.inl rfl) (asked_pf g1) (q := q) (by omega)).1
        have hdy : ∀ x, x < 8 → bt (mem.1 180 14) x = true → bt (nI y) x = false := fun x hx hb => by rw [by' x (by omega), asked_pf g1 x hx hb]; rfl
        have hpy := (now_can hj.1 (c := c) (am := nI a) (th := -1) (by omega) (Or.inl rfl) hdy (q := q) (by omega)).1
        have ecan : cF mem t np pw c (nI a) (nI y) (nI q) = cF mem t np pw c (nI a) (nI s) (nI q) := by
          unfold cF
          rw [hps, hpy]
          unfold canP
          refine congrFun (canM_e2 (vP_ps fun x => ?_) 3) q
          rcases Nat.lt_or_ge x 32 with zx | zx
          · rw [by' x zx]
            rcases Nat.lt_or_ge x 8 with z | z
            · rw [dead_bt hE z]
              cases isby (mem.1 187 x) (nI m)
              · rw [Bool.not_false, Bool.and_true]
              · rfl
            · rw [hi8 s hs2 x zx (by omega)]; rfl
          · rw [b_big zx, b_big zx]
        have hy1 : 1 ≤ y := by
          refine Nat.pos_of_ne_zero fun z => g2 ?_
          rw [← ecan, z]
          unfold cF
          rw [z] at hpy
          rw [hpy]
          refine none_can hj fun x hx => ?_
          rw [show bt (nI 0) x = false from b_0 x, Bool.and_false]
        have hyF : fwC mem t np pw c (nI a) (nI q) y = true := by
          refine (gC' y hy1 hy2).mpr ⟨⟨(askb y hy1 hy2).mpr fun i hi hb => ?_, by rw [ecan]; exact g2⟩, fun i hi hb => ?_⟩
          · rw [by' i hi, Bool.and_eq_true] at hb
            exact (askb s hs1 hs2).mp g1 i hi hb.1
          · rw [by' i hi, Bool.and_eq_true] at hb
            simpa using hb.2
        refine ⟨y, hy1, hy2, hyF, ?_⟩
        by_cases hd : ∃ b, b < 32 ∧ bt (nI s) b = true ∧ bt (deadM (mem.1 113) (nI m) 8) b = true
        · right
          obtain ⟨b, hb32, hb1, hb2⟩ := hd
          have hb8 : b < 8 := by
            have : b < np := Nat.not_le.mp fun z => by rw [hi8 s hs2 b hb32 z] at hb1; cases hb1
            omega
          refine (pcn_lt (x := nI y) (y := nI s) (b := b) (fun i hi => ?_) (by rw [by' b hb32, hb2, Bool.not_true, Bool.and_false]) hb1 8).2 hb8
          rcases Nat.lt_or_ge i 32 with z | z
          · rw [by' i z, Bool.and_eq_true] at hi; exact hi.1
          · rw [b_big z] at hi; cases hi
        · left
          have : nI y = nI s := b_ext fun i hi => by
            rw [by' i hi]
            cases hb : bt (nI s) i with
            | false => rfl
            | true =>
              cases hdd : bt (deadM (mem.1 113) (nI m) 8) i with
              | false => rfl
              | true => exact absurd ⟨i, hi, hb, hdd⟩ hd
          exact (nI_eq (by omega) (by omega)).mp this
      refine ⟨nI q, nI c, nI a, np, pw, m, na, rfl, hjM.1.1, jB_Mi hjM.1, ?_⟩
      rw [← hk, if_neg hc, ix_nI (by omega)]
      refine ⟨fun hno V fV => q1 (fun s h1 h2 => ?_) V ⟨t, np, pw, m, na, J_q hjM (fV.mono fun _ _ => sV_Q)⟩, fun s h1 h2 hs hmin V fV => q2 s h1 h2 ?_ (fun s' h1' h2' hs' => ?_) V ⟨t, np, pw, m, na, J_q hjM (fV.mono fun _ _ => sV_Q)⟩⟩
      · cases hw : fwC mem t np pw c (nI a) (nI q) s with
        | false => rfl
        | true =>
          have := (gG s h1 h2).mpr ((gC' s h1 h2).mp hw).1
          rw [hno s h1 h2] at this; cases this
      · obtain ⟨y, hy1, hy2, hyF, hy⟩ := live s h1 h2 ((gG s h1 h2).mp hs)
        rcases hy with rfl | hlt
        · exact hyF
        · have := hmin y hy1 hy2 ((gG y hy1 hy2).mpr ((gC' y hy1 hy2).mp hyF).1)
          omega
      · exact hmin s' h1' h2' ((gG s' h1' h2').mpr ((gC' s' h1' h2').mp hs').1)
    have both : ∀ s s', (∀ x, 1 ≤ x → x < 2 ^ np → fwC mem t np pw c (nI a) (nI q) x = true → pcI (nI s) < pcI (nI x) ∨ (pcI (nI s) = pcI (nI x) ∧ s ≤ x)) → (∀ x, 1 ≤ x → x < 2 ^ np → fwC mem t np pw c (nI a) (nI q) x = true → pcI (nI s') < pcI (nI x) ∨ (pcI (nI s') = pcI (nI x) ∧ s' ≤ x)) → 1 ≤ s → s < 2 ^ np → fwC mem t np pw c (nI a) (nI q) s = true → 1 ≤ s' → s' < 2 ^ np → fwC mem t np pw c (nI a) (nI q) s' = true → s = s' := by
      intro s s' g1 g2 a1 a2 a3 b1 b2 b3
      have := g1 s' b1 b2 b3
      have := g2 s a1 a2 a3
      omega
    refine ⟨fun hno M f => hQ _ _ fun Q2 hq => ref M f Q2 (fun _ V hV => hq V hV) (fun s h1 h2 hs => ?_), fun s h1 h2 hs hmin M f => hQ _ _ fun Q2 hq => ref M f Q2 (fun hno => ?_) (fun s' h1' h2' hs' hmin' V hV => ?_)⟩
    · rw [hno s h1 h2] at hs; cases hs
    · rw [hno s h1 h2] at hs; cases hs
    · rw [both s' s hmin' hmin h1' h2' hs' h1 h2 hs]
      exact hq V hV
theorem go_hang {n : Nat} {mem : zM} {Q : zPo} {p : Int32} (hJ : J n mem) (hQ : ∀ r M, zTw k_X11_hang [.ref 180, .int p] n r M → Q (some (.int r)) n M) : k_X10_hang [.ref 100, .int p] n mem Q := by
  obtain ⟨t, np, pw, m, na, hj⟩ := hJ
  have hj0 := J_t hj
  obtain ⟨-, hC, hP, hE, hN⟩ := id hj.1
  have hT := hC.2.1
  have h20 := hC.2.2.2.1.2.2
  have h8 := hC.2.2.1.2.2
  have h16 := hC.2.2.2.2.2.2.2.2.2
  have e13 : mem.1 180 13 = nI np := hC.2.2.1.2.1
  have e15 : mem.1 180 15 = nI pw := hC.2.2.2.1.2.1
  have e27 : mem.1 180 27 = nI m := hC.2.2.2.2.2.1.2.1
  have e29 : mem.1 180 29 = nI na := hC.2.2.2.2.2.2.2.2.1
  refine ⟨p, t, np, pw, m, na, rfl, jB_Cs hj.1, ?_⟩
  rw [hC.2.2.2.1.1]
  cases hc : inC p (nI pw) with
  | false =>
    rw [if_pos rfl]
    refine hQ _ _ fun Q2 hq => ⟨p, np, pw, m, na, rfl, hj.1.1, jB_Mi hj0.1, jA_Aa hj0, ?_⟩
    rw [show (zI mem 180 0 0).1 180 15 = nI pw from e15, ← inC_in (by omega), hc, if_pos rfl]
    exact hq _ ⟨t, np, pw, m, na, hj0⟩
  | true =>
    rw [if_neg (by decide)]
    obtain ⟨j, hjp, rfl⟩ := inC_nI (by omega) hc
    have ij : ix (nI j) = j := ix_nI (by omega)
    rw [ij]
    intro M f
    have hjM := J_t (J_q hj (f.mono fun _ _ => sJ_Q))
    obtain ⟨h1, h2⟩ := q_hi f
    have hs : stab 400 mem (zI M 180 0 0) := by
      rw [stab, h1 182 (by omega) (by omega), h1 185 (by omega) (by omega), h1 186 (by omega) (by omega), h1 187 (by omega) (by omega), h1 188 (by omega) (by omega), h1 189 (by omega) (by omega), h1 190 (by omega) (by omega)]
      exact ⟨rfl, h2 14 (by omega), fun _ _ _ => rfl, fun _ _ _ => rfl, fun _ _ _ => rfl, fun _ _ => ⟨rfl, rfl, rfl⟩⟩
    have hmm := hC.2.2.2.2.2.1.2.2
    have key : ∀ a, a ≤ na → hgM (zI M 180 0 0) np pw (haM ((zI M 180 0 0).1 182) j (pw - 1 - j)) a = hgC mem t np pw (waF (gC mem t) j pw ^^^ (-1)) a := by
      intro a
      induction a with
      | zero => intro _; rfl
      | succ a ih =>
        intro ha
        rw [hgM, hgC, ih (by omega)]
        obtain ⟨hr, hAr, hw, hpf, h9, -, hop⟩ := hj.2.2 a (by omega)
        have st := bThen_stab hs (np := np) (pw := pw) (a := a) (fun x _ => by rw [h1 191 (by omega) (by omega)]) (by omega)
        rw [st.1, st.2.1, h9, h1 182 (by omega) (by omega)]
        have hr0 : mem.1 (120 + a) 0 = mem.1 191 (9 * a) := hr 0 (by omega)
        obtain ⟨⟨q, hq8, eq⟩, -, -, ⟨w, hw3, ew⟩⟩ := hAr
        have hal := wa_ha hj.1 hjp
        have mt : zMt (gC mem t) (mem.1 t 3) (mem.1 (120 + a) 11 &&& (waF (gC mem t) j pw ^^^ (-1))) (deadM (mem.1 113) (mem.1 (120 + a) 5) 8 ^^^ (-1)) (mem.1 (120 + a) 0) np pw (vAa mem np (haM (mem.1 182) j (pw - 1 - j)) (-1) a) := by
          refine ⟨fun x hx => ?_, fun x hx => ?_, hC.2.2.2.2.1, hr0, h8, h20, fun x hx hb => ?_⟩
          · obtain ⟨hrx, vx, -⟩ := hP x hx
            refine ⟨hrx 0 (by omega), hrx 1 (by omega), hrx 2 (by omega), ?_, fun i hi1 hi2 => ?_⟩
            · rw [b_and, b_not _ (by omega), hop x hx, hal x hx]
              have e0 : opM (vAa mem np (haM (mem.1 182) j (pw - 1 - j)) (-1) a) x = (bt ((vAa mem np 0 (-1) a).2.2.2.2.1 x) (ix ((vAa mem np 0 (-1) a).1 38)) && (!decide ((vAa mem np 0 (-1) a).2.2.2.2.2 x < (vAa mem np 0 (-1) a).1 39) && (!bt (haM (mem.1 182) j (pw - 1 - j)) x && decide ((vAa mem np 0 (-1) a).2.2.2.1 x = 0)))) := rfl
              have e1 : opM (vAa mem np 0 (-1) a) x = (bt ((vAa mem np 0 (-1) a).2.2.2.2.1 x) (ix ((vAa mem np 0 (-1) a).1 38)) && (!decide ((vAa mem np 0 (-1) a).2.2.2.2.2 x < (vAa mem np 0 (-1) a).1 39) && (!bt 0 x && decide ((vAa mem np 0 (-1) a).2.2.2.1 x = 0)))) := rfl
              rw [e0, e1, b_0, Bool.not_false, Bool.true_and]
              cases bt ((vAa mem np 0 (-1) a).2.2.2.2.1 x) (ix ((vAa mem np 0 (-1) a).1 38)) <;> cases decide ((vAa mem np 0 (-1) a).2.2.2.2.2 x < (vAa mem np 0 (-1) a).1 39) <;> cases bt (haM (mem.1 182) j (pw - 1 - j)) x <;> cases decide ((vAa mem np 0 (-1) a).2.2.2.1 x = 0) <;> rfl
            · show bt (mem.1 (t + 2 + x) 1) i = false
              rw [hrx 1 (by omega)]; exact vx.2.1 i hi1 hi2
          · rw [b_not _ (by omega), dead_bt hE hx, hr 5 (by omega), ew]
            show _ = !isby (mem.1 187 x) (nI (ix (mem.1 191 (9 * a + 5))))
            rw [ew, ix_nI (by omega)]
          · rw [hr0]; exact hpf x hx (by rw [← hC.2.2.2.2.1]; exact hb)
        have ec : haC mem t np pw (waF (gC mem t) j pw ^^^ (-1)) a = canA mem np pw (haM (mem.1 182) j (pw - 1 - j)) (-1) a := by
          rw [canA_eq]
          unfold haC
          rw [hr 1 (by omega), eq, ix_nI (by omega)]
          exact (core1 mt 3 q hq8).1
        rw [ec]
    refine hQ _ _ fun Q2 hq => ⟨nI j, np, pw, m, na, rfl, hjM.1.1, jB_Mi hjM.1, jA_Aa hjM, ?_⟩
    rw [h2 15 (by omega), e15, ← inC_in (by omega), hc, if_neg (by decide), ij]
    intro S fS
    rw [key na (Nat.le_refl _)]
    exact hq S ⟨t, np, pw, m, na, J_q hjM (fS.mono fun _ _ => sV_Q)⟩
