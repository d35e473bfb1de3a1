theorem vP_hi {mem M : zM} (h : ∀ a, 181 ≤ a → a ≤ 191 → M.1 a = mem.1 a) (h14 : M.1 180 14 = mem.1 180 14) (np k : Nat) (on wo th ps kd am : Int32) : vP M np k on wo th ps kd am = vP mem np k on wo th ps kd am := by
  unfold vP
  rw [h14, h 182 (by omega) (by omega), h 185 (by omega) (by omega), h 186 (by omega) (by omega), h 187 (by omega) (by omega), h 188 (by omega) (by omega), h 189 (by omega) (by omega), h 190 (by omega) (by omega)]
theorem kd_eq {c : Int32} : kdC c = isin c 0 5 := inC_in (p := c) (c := 6) (by omega)
theorem and_or0 {ps fi : Int32} {q : Nat} (hq : q < 32) : decide (ps &&& (fi ||| 1 <<< (nI q &&& 31)) = 0) = (decide (ps &&& fi = 0) && !bt ps q) := by
  rw [Bool.eq_iff_iff, Bool.and_eq_true, decide_eq_true_iff, decide_eq_true_iff]
  constructor
  · intro h
    have hb : ∀ i, i < 32 → (bt ps i && (bt fi i || decide (i = q))) = false := fun i hi => by
      have := congrArg (fun x => bt x i) h
      simp only [b_and, b_or, b_1shl hq hi, b_0] at this
      exact this
    refine ⟨b_ext fun i hi => ?_, ?_⟩
    · have := hb i hi
      rw [b_and, b_0]
      cases h1 : bt ps i <;> cases h2 : bt fi i <;> rw [h1, h2] at this <;> first | rfl | cases this
    · have := hb q hq
      rw [decide_eq_true rfl, Bool.or_true, Bool.and_true] at this
      rw [this]; rfl
  · rintro ⟨h1, h2⟩
    apply b_ext
    intro i hi
    have e := congrArg (fun x => bt x i) h1
    simp only [b_and, b_0] at e
    rw [b_and, b_or, b_1shl hq hi, b_0, Bool.and_or_distrib_left, e, Bool.false_or]
    by_cases z : i = q
    · subst z
      cases hb : bt ps i with
      | false => rfl
      | true => rw [hb] at h2; cases h2
    · rw [decide_eq_false z, Bool.and_false]
theorem asked_eq {n : Nat} {mem M : zM} {t np pw m na : Nat} (hj : jJ n mem t np pw m na) (h13 : M.1 180 13 = mem.1 180 13) (h14 : M.1 180 14 = mem.1 180 14) {ps pt kd am : Int32} : (mayC mem t ps pt && (kdC kd && amC am)) = askedM (M.1 180) ps pt kd am := by
  obtain ⟨-, hC, -⟩ := id hj.1
  have h8 := hC.2.2.1.2.2
  unfold mayC askedM
  rw [h13, h14, hC.2.2.1.1, hC.2.2.1.2.1, hC.2.2.2.2.1, ← inC_in (by omega), ← kd_eq, show isin am 0 999 = amC am from rfl]
  cases hp : inC pt (nI np) with
  | false => rfl
  | true =>
    obtain ⟨q, hq, rfl⟩ := inC_nI (by omega) hp
    rw [ix_nI (by omega), and_or0 (by omega)]
    cases kdC kd <;> cases amC am <;> cases decide (ps ≤ 0) <;> cases decide ((1 : Int32) <<< (nI np &&& 31) ≤ ps) <;> cases decide (ps &&& mem.1 180 14 = 0) <;> cases bt ps q <;> rfl
theorem kasked_eq {n : Nat} {mem M : zM} {t np pw m na : Nat} (hj : jJ n mem t np pw m na) (h13 : M.1 180 13 = mem.1 180 13) {pt kd am : Int32} : kaC mem t pt kd am = kaskedM (M.1 180) pt kd am := by
  obtain ⟨-, hC, -⟩ := id hj.1
  have h8 := hC.2.2.1.2.2
  unfold kaC kaskedM
  rw [h13, hC.2.2.1.1, hC.2.2.1.2.1, ← inC_in (by omega), ← kd_eq]
  rfl
/-- persons who are asked are no firms -/
theorem asked_pf {f : Nat → Int32} {ps pt kd am : Int32} (h : askedM f ps pt kd am = true) : ∀ x, x < 8 → bt (f 14) x = true → bt ps x = false := by
  unfold askedM at h
  simp only [Bool.and_eq_true] at h
  have h0 := of_decide_eq_true h.2.2.2.2.2
  intro x hx hb
  have e := congrArg (fun y => bt y x) h0
  simp only [b_and, b_or, b_0, hb, Bool.true_or, Bool.and_true] at e
  exact e
theorem asked_p {f : Nat → Int32} {np : Nat} (h13 : f 13 = nI np) (h8 : np ≤ 8) {ps pt kd am : Int32} (h : askedM f ps pt kd am = true) : (∃ q, q < np ∧ pt = nI q) ∧ (∃ c, c < 6 ∧ kd = nI c) ∧ ∃ a, a ≤ 999 ∧ am = nI a := asked_in h13 h8 h
/-- the reference's rows behind a question of the class -/
theorem q_hi {mem M : zM} (f : zfr sJ mem M) : (∀ a, 181 ≤ a → a ≤ 191 → (zI M 180 0 0).1 a = mem.1 a) ∧ (∀ b, b ≠ 0 → (zI M 180 0 0).1 180 b = mem.1 180 b) := by
  refine ⟨fun a h1 h2 => ?_, fun b hb => ?_⟩
  · rw [zI_ne (by omega)]; funext b; exact f.1 a b (by unfold sJ; omega)
  · rw [zI_o hb]; exact f.1 180 b (by unfold sJ; omega)
/-- the two judgements now -/
theorem can_eq {n : Nat} {mem M : zM} {t np pw m na : Nat} (hj : jJ n mem t np pw m na) (f : zfr sJ mem M) {c q : Nat} (hc : c < 6) (hq : q < np) {am ps : Int32} (hd : ∀ x, x < 8 → bt (mem.1 180 14) x = true → bt ps x = false) : canN (zNow (zI M 180 0 0) np pw m) np pw q ps (nI c) am = cF mem t np pw c am ps (nI q) := by
  have hC := hj.1.2.1
  have hjM := J_t (J_q hj (f.mono fun _ _ => sJ_Q))
  obtain ⟨h1, h2⟩ := q_hi f
  rw [canN_P (jB_zRo hjM.1) hC.2.2.2.2.2.1.2.2, h2 28 (by omega)]
  unfold canP
  rw [vP_hi h1 (h2 14 (by omega))]
  have := hC.2.2.1.2.2
  exact (now_can hj.1 (by omega) (Or.inl rfl) hd (by omega)).1.symm
theorem go_can {n : Nat} {mem : zM} {Q : zPo} {ps pt kd am : Int32} (hJ : J n mem) (hQ : ∀ r M, zTw k_X11_can [.ref 180, .int ps, .int pt, .int kd, .int am] n r M → Q (some (.int r)) n M) : k_X10_can [.ref 100, .int ps, .int pt, .int kd, .int am] n mem Q := by
  obtain ⟨t, np, pw, m, na, hj⟩ := hJ
  have hj0 := J_t hj
  obtain ⟨-, hC, hP, hE, hN⟩ := id hj.1
  have hT := hC.2.1
  have h20 := hC.2.2.2.1.2.2
  have h8 := hC.2.2.1.2.2
  have h16 := hC.2.2.2.2.2.2.2.2.2
  have e13 : mem.1 180 13 = nI np := hC.2.2.1.2.1
  have e15 : mem.1 180 15 = nI pw := hC.2.2.2.1.2.1
  have e27 : mem.1 180 27 = nI m := hC.2.2.2.2.2.1.2.1
  have e29 : mem.1 180 29 = nI na := hC.2.2.2.2.2.2.2.2.1
  refine ⟨ps, pt, kd, am, t, np, pw, m, na, rfl, jB_Cs hj.1, ?_⟩
  by_cases hc : (mayC mem t ps pt && (kdC kd && amC am)) = false
  · rw [if_pos hc]
    refine hQ _ _ fun Q2 hq => ⟨ps, pt, kd, am, np, pw, m, na, rfl, hj.1.1, jB_Mi hj0.1, ?_⟩
    rw [← asked_eq (M := zI mem 180 0 0) hj rfl rfl, if_pos hc]
    exact hq _ ⟨t, np, pw, m, na, hj0⟩
  · rw [if_neg hc]
    intro M f
    have hjM := J_t (J_q hj (f.mono fun _ _ => sJ_Q))
    obtain ⟨h1, h2⟩ := q_hi f
    have ha := asked_eq (M := zI M 180 0 0) hj (h2 13 (by omega)) (h2 14 (by omega)) (ps := ps) (pt := pt) (kd := kd) (am := am)
    have hat : askedM ((zI M 180 0 0).1 180) ps pt kd am = true := by rw [← ha]; simpa using hc
    obtain ⟨⟨q, hqn, rfl⟩, ⟨c, hc6, rfl⟩, -⟩ := asked_p ((h2 13 (by omega)).trans e13) h8 hat
    have hd : ∀ x, x < 8 → bt (mem.1 180 14) x = true → bt ps x = false := fun x hx hb => asked_pf hat x hx (by rw [h2 14 (by omega)]; exact hb)
    refine hQ _ _ fun Q2 hq => ⟨ps, nI q, nI c, am, np, pw, m, na, rfl, hjM.1.1, jB_Mi hjM.1, ?_⟩
    rw [if_neg (by rw [hat]; decide)]
    intro V fV
    rw [ix_nI (by omega), can_eq hj f hc6 hqn hd]
    rw [ix_nI (by omega)] at hq
    exact hq V ⟨t, np, pw, m, na, J_q hjM (fV.mono fun _ _ => sV_Q)⟩
theorem go_upTo {n : Nat} {mem : zM} {Q : zPo} {ps pt kd : Int32} (hJ : J n mem) (hQ : ∀ r M, zTw k_X11_upTo [.ref 180, .int ps, .int pt, .int kd] n r M → Q (some (.int r)) n M) : k_X10_upTo [.ref 100, .int ps, .int pt, .int kd] n mem Q := by
  obtain ⟨t, np, pw, m, na, hj⟩ := hJ
  have hj0 := J_t hj
  obtain ⟨-, hC, hP, hE, hN⟩ := id hj.1
  have hT := hC.2.1
  have h20 := hC.2.2.2.1.2.2
  have h8 := hC.2.2.1.2.2
  have h16 := hC.2.2.2.2.2.2.2.2.2
  have e13 : mem.1 180 13 = nI np := hC.2.2.1.2.1
  have e15 : mem.1 180 15 = nI pw := hC.2.2.2.1.2.1
  have e27 : mem.1 180 27 = nI m := hC.2.2.2.2.2.1.2.1
  have e29 : mem.1 180 29 = nI na := hC.2.2.2.2.2.2.2.2.1
  refine ⟨ps, pt, kd, t, np, pw, m, na, rfl, jB_Cs hj.1, ?_⟩
  have e0 : (mayC mem t ps pt && kdC kd) = (mayC mem t ps pt && (kdC kd && amC 0)) := by rw [show amC 0 = true from rfl, Bool.and_true]
  rw [e0]
  by_cases hc : (mayC mem t ps pt && (kdC kd && amC 0)) = false
  · rw [if_pos hc]
    refine hQ _ _ fun Q2 hq => ⟨ps, pt, kd, np, pw, m, na, rfl, hj.1.1, jB_Mi hj0.1, ?_⟩
    rw [← asked_eq (M := zI mem 180 0 0) hj rfl rfl, if_pos hc]
    exact hq _ ⟨t, np, pw, m, na, hj0⟩
  · rw [if_neg hc]
    have hat0 : askedM (mem.1 180) ps pt kd 0 = true := by rw [← asked_eq hj rfl rfl]; simpa using hc
    obtain ⟨⟨q, hqn, rfl⟩, ⟨c, hc6, rfl⟩, -⟩ := asked_p e13 h8 hat0
    have hd : ∀ x, x < 8 → bt (mem.1 180 14) x = true → bt ps x = false := asked_pf hat0
    have mono : ∀ a b, a ≤ b → b < 2 ^ 31 → cB mem t np pw c ps (nI q) b = true → cB mem t np pw c ps (nI q) a = true := by
      intro a b hab hb h
      unfold cB at h ⊢
      have key : ∀ x, cF mem t np pw c (nI x) ps (nI q) = canP mem np pw m (mem.1 180 28) 0 (-1) ps (nI c) (nI x) q := fun x => (now_can hj.1 (by omega) (Or.inl rfl) hd (by omega)).1
      rw [key] at h ⊢
      have hne : ¬ canP mem np pw m (mem.1 180 28) 0 (-1) ps (nI c) (nI b) q = -1 := fun z => by rw [decide_eq_true z] at h; cases h
      rw [decide_eq_false (can_am h20 h8 (nI_le hab hb) hne)]; rfl
    have ref : ∀ M, zfr sJ mem M → ∀ Q2 : zPo, (cB mem t np pw c ps (nI q) 0 = false → ∀ V, J n V → Q2 (some (.int (-2))) n V) → (∀ a, a < 1000 → cB mem t np pw c ps (nI q) a = true → (a + 1 = 1000 ∨ cB mem t np pw c ps (nI q) (a + 1) = false) → ∀ V, J n V → Q2 (some (.int (nI a))) n V) → k_X11_upTo [.ref 180, .int ps, .int (nI q), .int (nI c)] n M Q2 := by
      intro M f Q2 q1 q2
      have hjM := J_t (J_q hj (f.mono fun _ _ => sJ_Q))
      obtain ⟨h1, h2⟩ := q_hi f
      have ha := asked_eq (M := zI M 180 0 0) hj (h2 13 (by omega)) (h2 14 (by omega)) (ps := ps) (pt := nI q) (kd := nI c) (am := 0)
      have eb : ∀ a, cAt (zNow (zI M 180 0 0) np pw m) np pw q ps (nI c) (nI a) = cB mem t np pw c ps (nI q) a := fun a => by
        unfold cAt cB
        rw [can_eq hj f hc6 hqn hd]
      refine ⟨ps, nI q, nI c, np, pw, m, na, rfl, hjM.1.1, jB_Mi hjM.1, ?_⟩
      rw [← ha, if_neg hc, ix_nI (by omega)]
      refine ⟨fun h V fV => q1 ((eb 0).symm.trans h) V ⟨t, np, pw, m, na, J_q hjM (fV.mono fun _ _ => sV_Q)⟩, fun _ a ha ht hn V fV => q2 a ha ((eb a).symm.trans ht) (hn.imp id fun z => (eb (a + 1)).symm.trans z) V ⟨t, np, pw, m, na, J_q hjM (fV.mono fun _ _ => sV_Q)⟩⟩
    rw [ix_nI (by omega)]
    refine ⟨fun h0 M f => hQ _ _ fun Q2 hq => ref M f Q2 (fun _ V hV => hq V hV) (fun a ha ht _ => ?_), fun a ha ht hn M f => hQ _ _ fun Q2 hq => ref M f Q2 (fun z => ?_) (fun a' ha' ht' hn' V hV => ?_)⟩
    · rw [mono 0 a (by omega) (by omega) ht] at h0; cases h0
    · rw [mono 0 a (by omega) (by omega) ht] at z; cases z
    · have : a = a' := by
        rcases Nat.lt_trichotomy a a' with z | z | z
        · rcases hn with w | w
          · omega
          · rw [mono (a + 1) a' (by omega) (by omega) ht'] at w; cases w
        · exact z
        · rcases hn' with w | w
          · omega
          · rw [mono (a' + 1) a (by omega) (by omega) ht] at w; cases w
      subst this
      exact hq V hV
