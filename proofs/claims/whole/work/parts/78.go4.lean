theorem go_narrow {n : Nat} {mem : zM} {Q : zPo} {p k a : Int32} (hJ : J n mem) (hQ : ∀ r M, zTw k_X11_narrow [.ref 180, .int p, .int k, .int a] n r M → Q (some (.int r)) n M) : k_X10_narrow [.ref 100, .int p, .int k, .int a] n mem Q := by
  obtain ⟨t, np, pw, m, na, hj⟩ := hJ
  have hj0 := J_t hj
  obtain ⟨-, hC, hP, hE, hN⟩ := id hj.1
  have hT := hC.2.1
  have h20 := hC.2.2.2.1.2.2
  have h8 := hC.2.2.1.2.2
  have h16 := hC.2.2.2.2.2.2.2.2.2
  have e13 : mem.1 180 13 = nI np := hC.2.2.1.2.1
  have e15 : mem.1 180 15 = nI pw := hC.2.2.2.1.2.1
  have e27 : mem.1 180 27 = nI m := hC.2.2.2.2.2.1.2.1
  have e29 : mem.1 180 29 = nI na := hC.2.2.2.2.2.2.2.2.1
  refine ⟨p, k, a, t, np, pw, m, na, rfl, jB_Cs hj.1, ?_⟩
  unfold C_narrow
  rw [hC.2.2.2.1.1]
  have ek : inC k 64 = isin k 0 63 := inC_in (p := k) (c := 64) (by omega)
  have ea : amC a = isin a 0 999 := rfl
  have cond : ∀ M : zM, M.1 180 15 = nI pw → M.1 180 27 = nI m → ((isin p 0 (M.1 180 15 - 1) = false ∨ isin k 0 63 = false ∨ isin a 0 999 = false ∨ mfull M = true) ↔ (inC p (nI pw) = false ∨ inC k 64 = false ∨ amC a = false ∨ cfull mem = true)) := fun M x y => by
    rw [x, ← inC_in (by omega), full_eq hC.2.2.2.2.2.1.1 y hC.2.2.2.2.2.1.2.2, ek, ea]
  by_cases h1 : inC p (nI pw) = false ∨ inC k 64 = false ∨ amC a = false ∨ cfull mem = true
  · rw [if_pos h1]
    refine hQ _ _ fun Q2 hq => ⟨p, k, a, np, pw, m, na, rfl, hj.1.1, jB_Mc hj0.1, ?_⟩
    unfold T_narrow
    rw [if_pos ((cond (zI mem 180 0 0) e15 e27).mpr h1)]
    exact hq _ ⟨t, np, pw, m, na, hj0⟩
  rw [if_neg h1]
  have h1' := h1
  rw [not_or, not_or, not_or, Bool.not_eq_false, Bool.not_eq_true] at h1
  have hm : m < 300 := cfull_m hC.2.2.2.2.2.1.1 hC.2.2.2.2.2.1.2.2 h1.2.2.2
  obtain ⟨j, hjp, rfl⟩ := inC_nI (by omega) h1.1
  have ij : ix (nI j) = j := ix_nI (by omega)
  have e11 : mem.1 (t + 2 + j) 11 = mem.1 185 (3 * j) := (hE.1 j hjp 0 (by omega)).1
  rw [ij, e11]
  have T : ∀ (M : zM) (Q2 : zPo), (∀ a b, 180 ≤ a → M.1 a b = mem.1 a b) → (¬ mem.1 185 (3 * j) = -1 → Q2 (some (.int (-2))) n (zI M 180 0 0)) → (mem.1 185 (3 * j) = -1 → Q2 (some (.int (nI (m + 1)))) n (zI (zI (zI (zput (zI M 180 0 0) m) 188 (m + 1) (nI j)) 189 (m + 1) k) 190 (m + 1) a)) → T_narrow (zI M 180 0 0) (nI j) k a m (fun r mem => Q2 (some (.int r)) n mem) := by
    intro M Q2 hM q2 q4
    have eM : ∀ a b, 181 ≤ a → (zI M 180 0 0).1 a b = mem.1 a b := fun a b ha => by rw [zI_ne (by omega)]; exact hM a b (by omega)
    have eN : ∀ b, b ≠ 0 → (zI M 180 0 0).1 180 b = mem.1 180 b := fun b hb => by rw [zI_o hb]; exact hM 180 b (by omega)
    unfold T_narrow
    rw [if_neg (fun z => h1' ((cond _ ((eN 15 (by omega)).trans e15) ((eN 27 (by omega)).trans e27)).mp z)), ij, eM 185 _ (by omega)]
    by_cases h2 : mem.1 185 (3 * j) = -1
    · rw [if_neg (fun z => z h2)]; exact q4 h2
    · rw [if_pos h2]; exact q2 h2
  by_cases h2 : mem.1 185 (3 * j) = -1
  · rw [if_neg (fun z => z h2)]
    generalize hC0 : zI (zI (zI (cput (zI (zI mem (t + 2 + j) 9 (mem.1 (t + 2 + j) 9 &&& k)) (t + 2 + j) 10 (minC (mem.1 (t + 2 + j) 10) a)) m) 110 (m + 1) (nI j)) 111 (m + 1) k) 112 (m + 1) a = C
    have hhi : ∀ a b, 180 ≤ a → C.1 a b = mem.1 a b := fun a b ha => by
      rw [← hC0, zI_ne (by omega), zI_ne (by omega), zI_ne (by omega)]; unfold cput; rw [zI_ne (by omega), zI_ne (by omega), zI_ne (by omega), zI_ne (by omega), zI_ne (by omega)]
    have hst1 : zst n C := by rw [← hC0]; exact hj.1.1
    refine hQ _ _ fun Q2 hq => ⟨nI j, k, a, np, pw, m, na, rfl, hst1, Mc_hi hhi (jB_Mc hj.1), T C Q2 hhi (fun z => absurd h2 z) (fun _ => ?_)⟩
    generalize hN1 : zI (zI (zI (zput (zI C 180 0 0) m) 188 (m + 1) (nI j)) 189 (m + 1) k) 190 (m + 1) a = N
    have f : zfr (sEv m) mem N := by
      rw [← hN1, ← hC0]; unfold zput cput
      refine zfr.I (zfr.I (zfr.I (zfr.I (zfr.I (zfr.I (zfr.I (zfr.I (zfr.I (zfr.I (zfr.I (zfr.I (zfr.I (zfr.I zfr.rf ?_) ?_) ?_) ?_) ?_) ?_) ?_) ?_) ?_) ?_) ?_) ?_) ?_) ?_ <;> unfold sEv sQ <;> omega
    have rc : ∀ a, a < 180 → N.1 a = C.1 a := fun a ha => by rw [← hN1, zI_ne (by omega), zI_ne (by omega), zI_ne (by omega)]; unfold zput; rw [zI_ne (by omega), zI_ne (by omega), zI_ne (by omega)]
    have rr : ∀ a, (a = 100 ∨ a = 113 ∨ (120 ≤ a ∧ a < 136) ∨ a = 185 ∨ a = 186 ∨ a = 187 ∨ a = 191) → N.1 a = mem.1 a := fun x hx => by
      rcases Nat.lt_or_ge x 180 with z | z
      · rw [rc x z, ← hC0, zI_ne (by omega), zI_ne (by omega), zI_ne (by omega)]; unfold cput; rw [zI_ne (by omega), zI_ne (by omega), zI_ne (by omega), zI_ne (by omega), zI_ne (by omega)]
      · funext b
        rw [← hN1, zI_ne (by omega), zI_ne (by omega), zI_ne (by omega)]; unfold zput; rw [zI_ne (by omega), zI_ne (by omega), zI_ne (by omega)]; exact hhi x b z
    have rpw : ∀ q b, q < pw → N.1 (t + 2 + q) b = if q = j then (if b = 10 then minC (mem.1 (t + 2 + j) 10) a else if b = 9 then mem.1 (t + 2 + j) 9 &&& k else mem.1 (t + 2 + q) b) else mem.1 (t + 2 + q) b := fun q b hq => by
      rw [rc _ (by omega), ← hC0, zI_ne (by omega), zI_ne (by omega), zI_ne (by omega)]; unfold cput; rw [zI_ne (by omega), zI_ne (by omega), zI_ne (by omega)]
      by_cases z : q = j
      · subst z; rw [zI_at, zI_at, if_pos rfl, if_pos rfl, if_pos rfl]
      · rw [zI_ne (by omega), zI_ne (by omega), if_neg z]
    have v188 : N.1 188 (m + 1) = nI j := by rw [← hN1, zI_ne (by omega), zI_ne (by omega), zI_s]
    have v189 : N.1 189 (m + 1) = k := by rw [← hN1, zI_ne (by omega), zI_s]
    have v190 : N.1 190 (m + 1) = a := by rw [← hN1, zI_s]
    have key := ev_B hj.1 hm f (by rw [← hN1]; exact hst1) (na' := na) (by rw [rc 108 (by omega), ← hC0, zI_ne (by omega), zI_ne (by omega), zI_ne (by omega)]; unfold cput; rw [zI_ne (by omega), zI_ne (by omega), zI_s]) (by rw [← hN1, zI_ne (by omega), zI_ne (by omega), zI_ne (by omega)]; unfold zput; rw [zI_ne (by omega), zI_s]) (by rw [rc 109 (by omega), ← hC0, zI_ne (by omega), zI_ne (by omega), zI_ne (by omega)]; unfold cput; rw [zI_ne (by omega), zI_s, zI_ne (by omega), zI_ne (by omega)]) (by rw [← hN1, zI_ne (by omega), zI_ne (by omega), zI_ne (by omega)]; unfold zput; rw [zI_s, zI_o (by omega)]; exact hhi 180 28 (by omega)) ⟨by rw [rr 100 (by omega)]; exact hC.2.2.2.2.2.2.2.1, by rw [← hN1, zI_ne (by omega), zI_ne (by omega), zI_ne (by omega)]; unfold zput; rw [zI_ne (by omega), zI_o (by omega), zI_o (by omega)]; exact (hhi 180 29 (by omega)).trans e29, h16⟩ ⟨fun i => by rw [rr 185 (by omega)]; exact chg_r, fun i => by rw [rr 186 (by omega)]; exact chg_r, fun i => by rw [rr 187 (by omega)]; exact chg_r⟩ (fun q hq x hx => by rw [rpw q _ hq, if_neg (show ¬ 11 + x = 10 by omega), if_neg (show ¬ 11 + x = 9 by omega), ite_self, rr 185 (by omega)]; exact (hE.1 q hq x hx).1) (fun q hq x hx => by rw [rpw q _ hq, if_neg (show ¬ 14 = 10 by omega), if_neg (show ¬ 14 = 9 by omega), ite_self, rr 186 (by omega)]; exact (hE.2.1 q hq x hx).1) (fun q hq => by rw [rr 113 (by omega), rr 187 (by omega)]; exact (hE.2.2.1 q hq).1) (fun q h1 h2 => by rw [rr 187 (by omega)]; exact hE.2.2.2 q h1 h2) ⟨by rw [rc 110 (by omega), ← hC0, zI_ne (by omega), zI_ne (by omega), zI_s, v188], Or.inr ⟨⟨j, hjp, v188⟩, by rw [rc 111 (by omega), ← hC0, zI_ne (by omega), zI_s, v189], by rw [rc 112 (by omega), ← hC0, zI_s, v190]⟩⟩ (fun q hq => by
      rw [v188, v189, v190, rpw q 9 hq, rpw q 10 hq]
      by_cases z : q = j
      · subst z
        rw [if_pos rfl, if_pos rfl, if_pos rfl, if_pos rfl, if_neg (show ¬ 9 = 10 by omega), if_pos rfl, if_pos rfl]
        refine ⟨rfl, ?_⟩
        unfold minC
        by_cases w : a < mem.1 (t + 2 + q) 10
        · rw [if_pos w, if_neg (Int32.not_le.mpr w)]
        · rw [if_neg w, if_pos (Int32.not_lt.mp w)]
      · rw [if_neg z, if_neg z, if_neg (fun w => z ((nI_eq (by omega) (by omega)).mp w).symm), if_neg (fun w => z ((nI_eq (by omega) (by omega)).mp w).symm)]; exact ⟨rfl, rfl⟩)
    exact hq N ⟨t, np, pw, m + 1, na, key.1, ev_T f hj.2.1, ev_A key.2 (by omega) hj.2.2 (fun b hb x hx => by rw [rr (120 + b) (by omega), rr 191 (by omega)]; exact (hj.2.2 b hb).1 x hx) (fun b hb x hx => by rw [rr 191 (by omega)]) (fun b hb x hx hy => by rw [rr (120 + b) (by omega)])⟩
  · rw [if_pos h2]
    exact hQ _ _ fun Q2 hq => ⟨nI j, k, a, np, pw, m, na, rfl, hj.1.1, jB_Mc hj0.1, T mem Q2 (fun _ _ _ => rfl) (fun _ => hq _ ⟨t, np, pw, m, na, hj0⟩) (fun z => absurd z h2)⟩
theorem hk_eq {n : Nat} {mem : zM} {t np pw m na a : Nat} (hj : jJ n mem t np pw m na) (ha : a < na) (k : Int32) : hkC mem a k = bAt mem np pw a k := by
  obtain ⟨hr, -, -, -, h9, -⟩ := hj.2.2 a ha
  unfold hkC bAt
  rw [h9, hr 7 (by omega)]
  by_cases h0 : bThen mem np pw a = 0
  · rw [if_pos h0]
    by_cases hb : isby (mem.1 191 (9 * a + 7)) k = true
    · rw [if_pos hb, if_pos ⟨h0, hb⟩]
    · rw [if_neg hb, if_neg (fun z => hb z.2), h0]
  · rw [if_neg h0, if_neg (fun z => h0 z.1)]
theorem hk_0 {mem : zM} {a : Nat} {v k : Int32} (ha : a < 16) : hkC (zI mem 180 0 v) a k = hkC mem a k := by
  unfold hkC
  rw [zI_ne (by omega)]
theorem jA_Aa {n : Nat} {mem : zM} {t np pw m na : Nat} (hj : jJ n mem t np pw m na) : zAa mem na := fun a ha => ⟨(hj.2.2 a ha).2.1, (hj.2.2 a ha).2.2.2.1⟩
theorem go_giveUp {n : Nat} {mem : zM} {Q : zPo} {a : Int32} (hJ : J n mem) (hQ : ∀ r M, zTw k_X11_giveUp [.ref 180, .int a] n r M → Q (some (.int r)) n M) : k_X10_giveUp [.ref 100, .int a] n mem Q := by
  obtain ⟨t, np, pw, m, na, hj⟩ := hJ
  have hj0 := J_t hj
  obtain ⟨-, hC, hP, hE, hN⟩ := id hj.1
  have hT := hC.2.1
  have h20 := hC.2.2.2.1.2.2
  have h8 := hC.2.2.1.2.2
  have h16 := hC.2.2.2.2.2.2.2.2.2
  have e13 : mem.1 180 13 = nI np := hC.2.2.1.2.1
  have e15 : mem.1 180 15 = nI pw := hC.2.2.2.1.2.1
  have e27 : mem.1 180 27 = nI m := hC.2.2.2.2.2.1.2.1
  have e29 : mem.1 180 29 = nI na := hC.2.2.2.2.2.2.2.2.1
  refine ⟨a, t, np, pw, m, na, rfl, jB_Cs hj.1, ?_⟩
  unfold C_giveUp
  rw [hC.2.2.2.2.2.2.2.1]
  have cond : ∀ M : zM, M.1 180 29 = nI na → M.1 180 27 = nI m → ((isin a 0 (M.1 180 29 - 1) = false ∨ mfull M = true) ↔ (inC a (nI na) = false ∨ cfull mem = true)) := fun M a b => by
    rw [a, ← inC_in (by omega), full_eq hC.2.2.2.2.2.1.1 b hC.2.2.2.2.2.1.2.2]
  by_cases h1 : inC a (nI na) = false ∨ cfull mem = true
  · rw [if_pos h1]
    refine hQ _ _ fun Q2 hq => ⟨a, np, pw, m, na, rfl, hj.1.1, jB_Mi hj0.1, jA_Aa hj0, ?_⟩
    unfold T_giveUp
    rw [if_pos ((cond (zI mem 180 0 0) e29 e27).mpr h1)]
    exact hq _ ⟨t, np, pw, m, na, hj0⟩
  rw [if_neg h1]
  have h1' := h1
  rw [not_or, Bool.not_eq_false, Bool.not_eq_true] at h1
  have hm : m < 300 := cfull_m hC.2.2.2.2.2.1.1 hC.2.2.2.2.2.1.2.2 h1.2
  obtain ⟨j, hjp, rfl⟩ := inC_nI (by omega) h1.1
  have ij : ix (nI j) = j := ix_nI (by omega)
  have er := (hj.2.2 j hjp).1
  rw [ij, er 8 (by omega), hC.2.2.2.2.2.1.1]
  have eb0 : bAt (zI mem 180 0 0) np pw j (nI m) = hkC mem j (nI m) := by rw [← hk_eq hj0 hjp, hk_0 (by omega)]
  by_cases h2 : mem.1 191 (9 * j + 8) = -1
  · rw [if_neg (fun z => z h2)]
    by_cases h3 : hkC mem j (nI m) = 0
    · rw [if_neg (fun z => z h3)]
      have hcl : clsE mem (zI (cput mem m) (120 + j) 8 (nI (m + 1))) m (120 + j) 8 (nI (m + 1)) := clsE1
      have h2m : (zI (cput mem m) (120 + j) 8 (nI (m + 1))).2 = mem.2 := rfl
      generalize zI (cput mem m) (120 + j) 8 (nI (m + 1)) = C at hcl h2m
      have hhi := cls_hi (by omega) hcl
      have hst1 : zst n C := ⟨hj.1.1.1, by unfold zFx; rw [h2m]; exact hj.1.1.2⟩
      have eM : ∀ a, 181 ≤ a → (zI C 180 0 0).1 a = mem.1 a := fun a ha => by funext b; rw [zI_ne (by omega)]; exact hhi a b (by omega)
      have eN : ∀ b, b ≠ 0 → (zI C 180 0 0).1 180 b = mem.1 180 b := fun b hb => by rw [zI_o hb]; exact hhi 180 b (by omega)
      have hs : stab 400 mem (zI C 180 0 0) := by
        rw [stab, eM 182 (by omega), eM 185 (by omega), eM 186 (by omega), eM 187 (by omega), eM 188 (by omega), eM 189 (by omega), eM 190 (by omega)]
        exact ⟨rfl, eN 14 (by omega), fun _ _ _ => rfl, fun _ _ _ => rfl, fun _ _ _ => rfl, fun _ _ => ⟨rfl, rfl, rfl⟩⟩
      have st := bThen_stab hs (np := np) (pw := pw) (a := j) (fun x _ => by rw [eM 191 (by omega)]) (by have := (hj.2.2 j hjp).2.2.1; omega)
      have ebC : bAt (zI C 180 0 0) np pw j (nI m) = 0 := by
        have e : bAt (zI C 180 0 0) np pw j (nI m) = bAt mem np pw j (nI m) := by
          unfold bAt
          rw [st.2.1, eM 191 (by omega)]
        rw [e, ← hk_eq hj hjp]; exact h3
      refine hQ _ _ fun Q2 hq => ⟨nI j, np, pw, m, na, rfl, hst1, ⟨hst1, Mc_hi hhi (jB_Mc hj.1), ?_⟩, fun i hi => ?_, ?_⟩
      · have hR := jB_zRo hj.1
        obtain ⟨a1, a2, a3, a4, a5, a6⟩ := hR
        rw [eM 182 (by omega), eM 188 (by omega)]
        exact ⟨(eN 13 (by omega)).trans a1, a2, (eN 15 (by omega)).trans a3, a4, a5, a6⟩
      · have := jA_Aa hj i hi
        rw [eM 191 (by omega), eN 14 (by omega)]; exact this
      · unfold T_giveUp
        rw [if_neg (fun z => h1' ((cond _ ((eN 29 (by omega)).trans e29) ((eN 27 (by omega)).trans e27)).mp z)), ij, eM 191 (by omega), if_neg (fun z => z h2), eN 27 (by omega), e27, if_neg (fun z => z ebC)]
        intro S fS
        exact hq _ (ev_act hj hm hjp (Or.inr rfl) hcl h2m ((zfr.rf.I (Or.inl ⟨rfl, Or.inl rfl⟩)).tr fS) rfl)
    · rw [if_pos h3]
      refine hQ _ _ fun Q2 hq => ⟨nI j, np, pw, m, na, rfl, hj.1.1, jB_Mi hj0.1, jA_Aa hj0, ?_⟩
      unfold T_giveUp
      rw [if_neg (fun z => h1' ((cond (zI mem 180 0 0) e29 e27).mp z)), ij, if_neg (fun z => z (show (zI mem 180 0 0).1 191 (9 * j + 8) = -1 from h2)), show (zI mem 180 0 0).1 180 27 = nI m from e27, if_pos (by rw [eb0]; exact h3)]
      exact fun S fS => hq _ ⟨t, np, pw, m, na, J_q hj0 (fS.mono fun _ _ => sV_Q)⟩
  · rw [if_pos h2]
    refine hQ _ _ fun Q2 hq => ⟨nI j, np, pw, m, na, rfl, hj.1.1, jB_Mi hj0.1, jA_Aa hj0, ?_⟩
    unfold T_giveUp
    rw [if_neg (fun z => h1' ((cond (zI mem 180 0 0) e29 e27).mp z)), ij, if_pos (show ¬ (zI mem 180 0 0).1 191 (9 * j + 8) = -1 from h2)]
    exact hq _ ⟨t, np, pw, m, na, hj0⟩
theorem go_binds {n : Nat} {mem : zM} {Q : zPo} {a w : Int32} (hJ : J n mem) (hQ : ∀ r M, zTw k_X11_binds [.ref 180, .int a, .int w] n r M → Q (some (.int r)) n M) : k_X10_binds [.ref 100, .int a, .int w] n mem Q := by
  obtain ⟨t, np, pw, m, na, hj⟩ := hJ
  have hj0 := J_t hj
  obtain ⟨-, hC, hP, hE, hN⟩ := id hj.1
  have hT := hC.2.1
  have h20 := hC.2.2.2.1.2.2
  have h8 := hC.2.2.1.2.2
  have h16 := hC.2.2.2.2.2.2.2.2.2
  have e13 : mem.1 180 13 = nI np := hC.2.2.1.2.1
  have e15 : mem.1 180 15 = nI pw := hC.2.2.2.1.2.1
  have e27 : mem.1 180 27 = nI m := hC.2.2.2.2.2.1.2.1
  have e29 : mem.1 180 29 = nI na := hC.2.2.2.2.2.2.2.2.1
  refine ⟨a, w, t, np, pw, m, na, rfl, jB_Cs hj.1, hQ _ _ fun Q2 hq => ⟨a, w, np, pw, m, na, rfl, hj.1.1, jB_Mi hj0.1, jA_Aa hj0, ?_⟩⟩
  rw [show (zI mem 180 0 0).1 180 29 = nI na from e29, show (zI mem 180 0 0).1 180 27 = nI m from e27, ← inC_in (by omega)]
  rw [hC.2.2.2.2.2.2.2.1, hC.2.2.2.2.2.1.1] at hq
  cases h1 : inC a (nI na) with
  | false => rw [if_pos (Or.inl rfl)]; rw [h1, if_pos (Or.inl rfl)] at hq; exact hq _ ⟨t, np, pw, m, na, hj0⟩
  | true =>
    obtain ⟨j, hjp, rfl⟩ := inC_nI (by omega) h1
    have ij : ix (nI j) = j := ix_nI (by omega)
    rw [h1, ij, (hj.2.2 j hjp).1 5 (by omega)] at hq
    rw [ij]
    by_cases hc : true = false ∨ isin w 0 (nI m) = false ∨ w < mem.1 191 (9 * j + 5)
    · rw [if_pos hc] at hq
      rw [if_pos (show true = false ∨ isin w 0 (nI m) = false ∨ w < (zI mem 180 0 0).1 191 (9 * j + 5) from hc)]
      exact hq _ ⟨t, np, pw, m, na, hj0⟩
    · rw [if_neg hc] at hq
      rw [if_neg (show ¬ (true = false ∨ isin w 0 (nI m) = false ∨ w < (zI mem 180 0 0).1 191 (9 * j + 5)) from hc)]
      intro S fS
      rw [← hk_eq hj0 hjp, hk_0 (by omega)]
      exact hq _ ⟨t, np, pw, m, na, J_q hj0 (fS.mono fun _ _ => sV_Q)⟩
theorem go_used {n : Nat} {mem : zM} {Q : zPo} {a : Int32} (hJ : J n mem) (hQ : ∀ r M, zTw k_X11_used [.ref 180, .int a] n r M → Q (some (.int r)) n M) : k_X10_used [.ref 100, .int a] n mem Q := by
  obtain ⟨t, np, pw, m, na, hj⟩ := hJ
  have hj0 := J_t hj
  obtain ⟨-, hC, hP, hE, hN⟩ := id hj.1
  have hT := hC.2.1
  have h20 := hC.2.2.2.1.2.2
  have h8 := hC.2.2.1.2.2
  have h16 := hC.2.2.2.2.2.2.2.2.2
  have e13 : mem.1 180 13 = nI np := hC.2.2.1.2.1
  have e15 : mem.1 180 15 = nI pw := hC.2.2.2.1.2.1
  have e27 : mem.1 180 27 = nI m := hC.2.2.2.2.2.1.2.1
  have e29 : mem.1 180 29 = nI na := hC.2.2.2.2.2.2.2.2.1
  refine ⟨a, t, np, pw, m, na, rfl, jB_Cs hj.1, hQ _ _ fun Q2 hq => ⟨a, np, pw, m, na, rfl, hj.1.1, jB_Mi hj0.1, jA_Aa hj0, ?_⟩⟩
  rw [show (zI mem 180 0 0).1 180 29 = nI na from e29, ← inC_in (by omega)]
  rw [hC.2.2.2.2.2.2.2.1] at hq
  cases h1 : inC a (nI na) with
  | false => rw [if_pos rfl]; rw [h1, if_pos rfl] at hq; exact hq _ ⟨t, np, pw, m, na, hj0⟩
  | true =>
    obtain ⟨j, hjp, rfl⟩ := inC_nI (by omega) h1
    have ij : ix (nI j) = j := ix_nI (by omega)
    rw [h1, if_neg (by decide), ij] at hq
    rw [if_neg (by decide), ij]
    intro S fS
    have e10 := (hj0.2.2 j hjp).2.2.2.2.2.1
    rw [zI_ne (show 120 + j ≠ 180 by omega)] at e10
    rw [e10] at hq
    exact hq _ ⟨t, np, pw, m, na, J_q hj0 (fS.mono fun _ _ => sV_Q)⟩
theorem bAt_4 {mem : zM} {np pw a : Nat} {k : Int32} : bAt mem np pw a k ≤ 0 ↔ bAt mem np pw a k = 0 := by
  unfold bAt
  by_cases h : bThen mem np pw a = 0 ∧ isby (mem.1 191 (9 * a + 7)) k = true
  · rw [if_pos h]; decide
  · rw [if_neg h]
    unfold bThen
    by_cases c1 : canA mem np pw 0 (-1) a = -1
    · rw [if_pos c1]
      by_cases c2 : canA mem np pw 0 (mem.1 191 (9 * a + 2)) a = -1
      · rw [if_pos c2]; decide
      · rw [if_neg c2]; decide
    · rw [if_neg c1]; decide
theorem go_bound {n : Nat} {mem : zM} {Q : zPo} {pt how : Int32} (hJ : J n mem) (hQ : ∀ r M, zTw k_X11_bound [.ref 180, .int pt, .int how] n r M → Q (some (.int r)) n M) : k_X10_bound [.ref 100, .int pt, .int how] n mem Q := by
  obtain ⟨t, np, pw, m, na, hj⟩ := hJ
  have hj0 := J_t hj
  obtain ⟨-, hC, hP, hE, hN⟩ := id hj.1
  have hT := hC.2.1
  have h20 := hC.2.2.2.1.2.2
  have h8 := hC.2.2.1.2.2
  have h16 := hC.2.2.2.2.2.2.2.2.2
  have e13 : mem.1 180 13 = nI np := hC.2.2.1.2.1
  have e15 : mem.1 180 15 = nI pw := hC.2.2.2.1.2.1
  have e27 : mem.1 180 27 = nI m := hC.2.2.2.2.2.1.2.1
  have e29 : mem.1 180 29 = nI na := hC.2.2.2.2.2.2.2.2.1
  refine ⟨pt, how, t, np, pw, m, na, rfl, jB_Cs hj.1, hQ _ _ fun Q2 hq => ⟨pt, how, np, pw, m, na, rfl, hj.1.1, jB_Mi hj0.1, jA_Aa hj0, ?_⟩⟩
  rw [show (zI mem 180 0 0).1 180 13 = nI np from e13, show (zI mem 180 0 0).1 180 27 = nI m from e27, ← inC_in (by omega)]
  rw [hC.2.2.1.1, hC.2.2.2.2.2.1.1] at hq
  by_cases hc : inC pt (nI np) = false ∨ isin how 0 3 = false
  · rw [if_pos hc] at hq ⊢; exact hq _ ⟨t, np, pw, m, na, hj0⟩
  · rw [if_neg hc] at hq ⊢
    have key : ∀ a, a ≤ na → bdM (zI mem 180 0 0) np pw pt how (nI m) a = bdC mem pt how (nI m) a := by
      intro a
      induction a with
      | zero => intro _; rfl
      | succ a ih =>
        intro ha
        rw [bdM, bdC, ih (by omega)]
        have eh : hkC mem a (nI m) = bAt (zI mem 180 0 0) np pw a (nI m) := by rw [← hk_eq hj0 (by omega), hk_0 (by omega)]
        rw [eh, (hj.2.2 a (by omega)).1 1 (by omega), (hj.2.2 a (by omega)).1 4 (by omega)]
        unfold bdA
        by_cases hp : mem.1 191 (9 * a + 1) = pt
        · have hp' : (zI mem 180 0 0).1 191 (9 * a + 1) = pt := hp
          simp only [if_pos hp']
          by_cases hb : bAt (zI mem 180 0 0) np pw a (nI m) = 0
          · rw [if_pos (bAt_4.mpr hb), if_neg (fun z => z.2.1 hb)]
          · rw [if_neg (fun z => hb (bAt_4.mp z))]
            by_cases hh : how = 0 ∨ how = bAt (zI mem 180 0 0) np pw a (nI m)
            · rw [if_pos hh, if_pos ⟨hp, hb, hh⟩]; rfl
            · rw [if_neg hh, if_neg (fun z => hh z.2.2)]
        · have hp' : ¬ (zI mem 180 0 0).1 191 (9 * a + 1) = pt := hp
          simp only [if_neg hp']
          rw [if_pos (by decide), if_neg (fun z => hp z.1)]
    intro S fS
    rw [key na (Nat.le_refl _)]
    exact hq _ ⟨t, np, pw, m, na, J_q hj0 (fS.mono fun _ _ => sV_Q)⟩
theorem go_scope {n : Nat} {mem : zM} {Q : zPo} {p w z : Int32} (hJ : J n mem) (hQ : ∀ r M, zTw k_X11_scope [.ref 180, .int p, .int w, .int z] n r M → Q (some (.int r)) n M) : k_X10_scope [.ref 100, .int p, .int w, .int z] n mem Q := by
  obtain ⟨t, np, pw, m, na, hj⟩ := hJ
  have hj0 := J_t hj
  obtain ⟨-, hC, hP, hE, hN⟩ := id hj.1
  have hT := hC.2.1
  have h20 := hC.2.2.2.1.2.2
  have h8 := hC.2.2.1.2.2
  have h16 := hC.2.2.2.2.2.2.2.2.2
  have e13 : mem.1 180 13 = nI np := hC.2.2.1.2.1
  have e15 : mem.1 180 15 = nI pw := hC.2.2.2.1.2.1
  have e27 : mem.1 180 27 = nI m := hC.2.2.2.2.2.1.2.1
  have e29 : mem.1 180 29 = nI na := hC.2.2.2.2.2.2.2.2.1
  refine ⟨p, w, z, t, np, pw, m, na, rfl, jB_Cs hj.1, hQ _ _ fun Q2 hq => ⟨p, w, z, np, pw, m, na, rfl, hj.1.1, jB_Mi hj0.1, ?_⟩⟩
  rw [show (zI mem 180 0 0).1 180 15 = nI pw from e15, show (zI mem 180 0 0).1 180 27 = nI m from e27, ← inC_in (by omega)]
  rw [hC.2.2.2.1.1, hC.2.2.2.2.2.1.1] at hq
  have hmm := hC.2.2.2.2.2.1.2.2
  by_cases hc : inC p (nI pw) = false ∨ isin w 0 (nI m) = false
  · rw [if_pos hc] at hq
    rw [if_pos (hc.imp id Or.inl)]
    exact hq _ ⟨t, np, pw, m, na, hj0⟩
  · rw [if_neg hc] at hq
    rw [not_or, Bool.not_eq_false, Bool.not_eq_false] at hc
    cases hz : isin z 0 2 with
    | false =>
      rw [if_pos (Or.inr (Or.inr rfl))]
      have n0 : ∀ k, k ≤ 2 → ¬ z = nI k := fun k hk e => by
        rw [e] at hz
        rw [show isin (nI k) 0 2 = true from in2_y (c := 2) (by omega) hk] at hz; cases hz
      rw [if_neg (n0 0 (by omega)), if_neg (n0 1 (by omega)), if_neg (n0 2 (by omega))] at hq
      exact hq _ ⟨t, np, pw, m, na, hj0⟩
    | true =>
      obtain ⟨j, hjp, rfl⟩ := inC_nI (by omega) hc.1
      obtain ⟨k, hk, rfl⟩ := isin_N (c := m) (by omega) hc.2
      have ij : ix (nI j) = j := ix_nI (by omega)
      have ik : ix (nI k) = k := ix_nI (by omega)
      rw [hc.1, hc.2, if_neg (by decide)]
      rw [ij, ik] at hq ⊢
      intro V hV
      have e109 : mem.1 109 k = (zI mem 180 0 0).1 184 k := hN.2.1 k hk
      generalize hM : zsee (zI mem 180 0 0) (nI k) ((zI mem 180 0 0).1 184 k) = M at hV
      have fM : zfr sV (zI mem 180 0 0) M := by rw [← hM]; exact fr_see zfr.rf
      have hR := zRo_fr fM (jB_zRo hj0.1)
      obtain ⟨r1, r2, r3⟩ := Vw_rows hR (k := k) (by omega) j hjp
      have rowM : ∀ a, (181 ≤ a ∧ a ≤ 191) → M.1 a = mem.1 a := fun a ha => (row_V fM ⟨by omega, by omega⟩).trans (zI_ne (by omega))
      rw [rowM 182 (by omega), rowM 185 (by omega), rowM 186 (by omega), rowM 187 (by omega)] at r1
      rw [rowM 182 (by omega), rowM 188 (by omega), rowM 189 (by omega)] at r2
      rw [rowM 182 (by omega), rowM 188 (by omega), rowM 190 (by omega)] at r3
      have f30 : M.1 180 30 = nI k := by rw [← hM]; rfl
      have f31 : M.1 180 31 = mem.1 109 k := by rw [e109, ← hM]; rfl
      have f32 : M.1 180 32 = 0 := by rw [← hM]; rfl
      have f33 : M.1 180 33 = -1 := by rw [← hM]; rfl
      have L := lv_eq hj.1 (f := M.1 180) f32 f33 hjp
      rw [f30, f31] at L
      have hJV : J n V := by rw [hV]; exact ⟨t, np, pw, m, na, J_q hj0 ((fr_vw fM).mono fun _ _ => sV_Q)⟩
      obtain ⟨c, hc2, rfl⟩ := isin_N (c := 2) (by omega) hz
      rcases (show c = 0 ∨ c = 1 ∨ c = 2 by omega) with rfl | rfl | rfl
      · rw [if_pos rfl, L] at hq
        have e : (!bt (V.1 180 32) j && decide (V.1 192 j = 0)) = decide (whyP np (M.1 180) (mem.1 182) (mem.1 185) (mem.1 186) (mem.1 187) j = 0) := by
          rw [hV, zVw_row nv180, f32, b_0, r1, Bool.not_false, Bool.true_and]
        rw [if_pos (show nI 0 = 0 from rfl), e]
        exact hq V hJV
      · rw [if_neg (by decide), if_pos rfl, k_eq hj.1 hk hjp] at hq
        rw [if_neg (by decide), if_pos (show nI 1 = 1 from rfl)]
        have e : V.1 193 j = kP (mem.1 182) (fun p => nkF (mem.1 182) (mem.1 188) (mem.1 189) p k) j := by rw [hV]; exact r2
        rw [e]
        exact hq V hJV
      · rw [if_neg (by decide), if_neg (by decide), if_pos rfl, m_eq hj.1 hk hjp] at hq
        rw [if_neg (by decide), if_neg (by decide)]
        have e : V.1 194 j = mP (mem.1 182) (fun p => nmF (mem.1 182) (mem.1 188) (mem.1 190) p k) j := by rw [hV]; exact r3
        rw [e]
        exact hq V hJV
theorem go_over {n : Nat} {mem : zM} {Q : zPo} {p : Int32} (hJ : J n mem) (hQ : ∀ r M, zTw k_X11_over [.ref 180, .int p] n r M → Q (some (.int r)) n M) : k_X10_over [.ref 100, .int p] n mem Q := by
  obtain ⟨t, np, pw, m, na, hj⟩ := hJ
  have hj0 := J_t hj
  obtain ⟨-, hC, hP, hE, hN⟩ := id hj.1
  have hT := hC.2.1
  have h20 := hC.2.2.2.1.2.2
  have h8 := hC.2.2.1.2.2
  have h16 := hC.2.2.2.2.2.2.2.2.2
  have e13 : mem.1 180 13 = nI np := hC.2.2.1.2.1
  have e15 : mem.1 180 15 = nI pw := hC.2.2.2.1.2.1
  have e27 : mem.1 180 27 = nI m := hC.2.2.2.2.2.1.2.1
  have e29 : mem.1 180 29 = nI na := hC.2.2.2.2.2.2.2.2.1
  refine ⟨p, t, np, pw, m, na, rfl, jB_Cs hj.1, hQ _ _ fun Q2 hq => ⟨p, np, pw, m, na, rfl, hj.1.1, jB_Mi hj0.1, ?_⟩⟩
  rw [show (zI mem 180 0 0).1 180 15 = nI pw from e15, ← inC_in (by omega)]
  rw [hC.2.2.2.1.1] at hq
  have hmm := hC.2.2.2.2.2.1.2.2
  cases hc : inC p (nI pw) with
  | false => rw [if_pos rfl]; rw [hc, if_pos rfl] at hq; exact hq _ ⟨t, np, pw, m, na, hj0⟩
  | true =>
    obtain ⟨j, hjp, rfl⟩ := inC_nI (by omega) hc
    have ij : ix (nI j) = j := ix_nI (by omega)
    rw [hc, if_neg (by decide), ij] at hq
    rw [if_neg (by decide), ij]
    unfold zNow
    generalize hM : zsee (zI mem 180 0 0) (nI m) ((zI mem 180 0 0).1 180 28) = M
    have fM : zfr sV (zI mem 180 0 0) M := by rw [← hM]; exact fr_see zfr.rf
    have hR := zRo_fr fM (jB_zRo hj0.1)
    obtain ⟨r1, -⟩ := Vw_rows hR (k := m) (by omega) j hjp
    have rowM : ∀ a, (181 ≤ a ∧ a ≤ 191) → M.1 a = mem.1 a := fun a ha => (row_V fM ⟨by omega, by omega⟩).trans (zI_ne (by omega))
    rw [rowM 182 (by omega), rowM 185 (by omega), rowM 186 (by omega), rowM 187 (by omega)] at r1
    have f30 : M.1 180 30 = mem.1 108 5 := by rw [hC.2.2.2.2.2.1.1, ← hM]; rfl
    have f31 : M.1 180 31 = mem.1 108 6 := by rw [hC.2.2.2.2.2.2.1, ← hM]; rfl
    have f32 : M.1 180 32 = 0 := by rw [← hM]; rfl
    have f33 : M.1 180 33 = -1 := by rw [← hM]; rfl
    have L := lv_eq hj.1 (f := M.1 180) f32 f33 hjp
    rw [f30, f31] at L
    have hb : ∀ p, p < pw → endedM (M.1 180) (mem.1 185) (mem.1 186) p = isby (mem.1 (t + 2 + p) 11) (M.1 180 30) := by
      intro p hp
      have e0 : mem.1 (t + 2 + p) 11 = mem.1 185 (3 * p) := (hE.1 p hp 0 (by omega)).1
      unfold endedM
      rw [f33, decide_eq_true rfl, Bool.true_or, Bool.and_true, e0]
    have W := why_all hj.1 hb hjp
    rw [f30, f31] at W
    have e : ovC mem t j = whyP np (M.1 180) (mem.1 182) (mem.1 185) (mem.1 186) (mem.1 187) j := by
      unfold ovC
      rw [L]
      by_cases h0 : rsC (mem.1 (t + 2 + j)) (isby (mem.1 (t + 2 + j) 11) (mem.1 108 5)) (mem.1 108 6) (deadM (mem.1 113) (mem.1 108 5) 8) = 0
      · rw [if_pos h0]
        rw [if_pos h0] at W
        generalize (decide (mem.1 182 (8 * j + 7) = -1) || (!bt (M.1 180 32) (ix (mem.1 182 (8 * j + 7))) && decide (whyP np (M.1 180) (mem.1 182) (mem.1 185) (mem.1 186) (mem.1 187) (ix (mem.1 182 (8 * j + 7))) = 0))) = c at W
        rw [W]
        cases c <;> decide
      · rw [if_neg h0]
        rw [if_neg h0] at W
        exact W.symm
    rw [r1, ← e]
    exact hq _ ⟨t, np, pw, m, na, J_q hj0 ((fr_vw fM).mono fun _ _ => sV_Q)⟩
