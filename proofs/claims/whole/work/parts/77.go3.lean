theorem go_die {n : Nat} {mem : zM} {Q : zPo} {p : Int32} (hJ : J n mem) (hQ : ∀ r M, zTw k_X11_die [.ref 180, .int p] n r M → Q (some (.int r)) n M) : k_X10_die [.ref 100, .int p] n mem Q := by
  obtain ⟨t, np, pw, m, na, hj⟩ := hJ
  have hj0 := J_t hj
  obtain ⟨-, hC, hP, hE, hN⟩ := id hj.1
  have hT := hC.2.1
  have h20 := hC.2.2.2.1.2.2
  have h8 := hC.2.2.1.2.2
  have h16 := hC.2.2.2.2.2.2.2.2.2
  have e13 : mem.1 180 13 = nI np := hC.2.2.1.2.1
  have e15 : mem.1 180 15 = nI pw := hC.2.2.2.1.2.1
  have e27 : mem.1 180 27 = nI m := hC.2.2.2.2.2.1.2.1
  have e29 : mem.1 180 29 = nI na := hC.2.2.2.2.2.2.2.2.1
  refine ⟨p, t, np, pw, m, na, rfl, jB_Cs hj.1, ?_⟩
  unfold C_die
  rw [hC.2.2.1.1]
  have cond : ∀ M : zM, M.1 180 13 = nI np → M.1 180 27 = nI m → ((isin p 0 (M.1 180 13 - 1) = false ∨ mfull M = true) ↔ (inC p (nI np) = false ∨ cfull mem = true)) := fun M a b => by
    rw [a, ← inC_in (by omega), full_eq hC.2.2.2.2.2.1.1 b hC.2.2.2.2.2.1.2.2]
  by_cases h1 : inC p (nI np) = false ∨ cfull mem = true
  · rw [if_pos h1]
    refine hQ _ _ fun Q2 hq => ⟨p, np, pw, m, na, rfl, hj.1.1, jB_Mc hj0.1, ?_⟩
    unfold T_die
    rw [if_pos ((cond (zI mem 180 0 0) e13 e27).mpr h1)]
    exact hq _ ⟨t, np, pw, m, na, hj0⟩
  rw [if_neg h1]
  have h1' := h1
  rw [not_or, Bool.not_eq_false, Bool.not_eq_true] at h1
  have hm : m < 300 := cfull_m hC.2.2.2.2.2.1.1 hC.2.2.2.2.2.1.2.2 h1.2
  obtain ⟨g, hg, rfl⟩ := inC_nI (by omega) h1.1
  have ij : ix (nI g) = g := ix_nI (by omega)
  rw [ij, (hE.2.2.1 g (by omega)).1]
  have T : ∀ (M : zM) (Q2 : zPo), (∀ a b, 180 ≤ a → M.1 a b = mem.1 a b) → (¬ mem.1 187 g = -1 → Q2 (some (.int (-2))) n (zI M 180 0 0)) → (mem.1 187 g = -1 → Q2 (some (.int (nI (m + 1)))) n (zI (zput (zI M 180 0 0) m) 187 g (nI (m + 1)))) → T_die (zI M 180 0 0) (nI g) m (fun r mem => Q2 (some (.int r)) n mem) := by
    intro M Q2 hM q2 q4
    have eM : ∀ a b, 181 ≤ a → (zI M 180 0 0).1 a b = mem.1 a b := fun a b ha => by rw [zI_ne (by omega)]; exact hM a b (by omega)
    have eN : ∀ b, b ≠ 0 → (zI M 180 0 0).1 180 b = mem.1 180 b := fun b hb => by rw [zI_o hb]; exact hM 180 b (by omega)
    unfold T_die
    rw [if_neg (fun z => h1' ((cond _ ((eN 13 (by omega)).trans e13) ((eN 27 (by omega)).trans e27)).mp z)), ij, eM 187 _ (by omega)]
    by_cases h2 : mem.1 187 g = -1
    · rw [if_neg (fun z => z h2)]; exact q4 h2
    · rw [if_pos h2]; exact q2 h2
  by_cases h2 : mem.1 187 g = -1
  · rw [if_neg (fun z => z h2)]
    have hcl : clsE mem (zI (cput mem m) 113 g (nI (m + 1))) m 113 g (nI (m + 1)) := clsE1
    have h2m : (zI (cput mem m) 113 g (nI (m + 1))).2 = mem.2 := rfl
    generalize zI (cput mem m) 113 g (nI (m + 1)) = C at hcl h2m
    have hhi := cls_hi (by omega) hcl
    have hst1 : zst n C := ⟨hj.1.1.1, by unfold zFx; rw [h2m]; exact hj.1.1.2⟩
    exact hQ _ _ fun Q2 hq => ⟨nI g, np, pw, m, na, rfl, hst1, Mc_hi hhi (jB_Mc hj.1), T C Q2 hhi (fun z => absurd h2 z) (fun _ => hq _ (ev_die hj hm hg h2 hcl h2m rfl))⟩
  · rw [if_pos h2]
    exact hQ _ _ fun Q2 hq => ⟨nI g, np, pw, m, na, rfl, hj.1.1, jB_Mc hj0.1, T mem Q2 (fun _ _ _ => rfl) (fun _ => hq _ ⟨t, np, pw, m, na, hj0⟩) (fun z => absurd z h2)⟩
theorem go_notice {n : Nat} {mem : zM} {Q : zPo} {q p : Int32} (hJ : J n mem) (hQ : ∀ r M, zTw k_X11_notice [.ref 180, .int q, .int p] n r M → Q (some (.int r)) n M) : k_X10_notice [.ref 100, .int q, .int p] n mem Q := by
  obtain ⟨t, np, pw, m, na, hj⟩ := hJ
  have hj0 := J_t hj
  obtain ⟨-, hC, hP, hE, hN⟩ := id hj.1
  have hT := hC.2.1
  have h20 := hC.2.2.2.1.2.2
  have h8 := hC.2.2.1.2.2
  have h16 := hC.2.2.2.2.2.2.2.2.2
  have e13 : mem.1 180 13 = nI np := hC.2.2.1.2.1
  have e15 : mem.1 180 15 = nI pw := hC.2.2.2.1.2.1
  have e27 : mem.1 180 27 = nI m := hC.2.2.2.2.2.1.2.1
  have e29 : mem.1 180 29 = nI na := hC.2.2.2.2.2.2.2.2.1
  refine ⟨q, p, t, np, pw, m, na, rfl, jB_Cs hj.1, ?_⟩
  unfold C_notice
  rw [hC.2.2.1.1, hC.2.2.2.1.1]
  have cond : ∀ M : zM, M.1 180 13 = nI np → M.1 180 15 = nI pw → M.1 180 27 = nI m → ((isin q 0 (M.1 180 13 - 1) = false ∨ isin p 0 (M.1 180 15 - 1) = false ∨ mfull M = true) ↔ (inC q (nI np) = false ∨ inC p (nI pw) = false ∨ cfull mem = true)) := fun M a b c => by
    rw [a, b, ← inC_in (by omega), ← inC_in (by omega), full_eq hC.2.2.2.2.2.1.1 c hC.2.2.2.2.2.1.2.2]
  by_cases h1 : inC q (nI np) = false ∨ inC p (nI pw) = false ∨ cfull mem = true
  · rw [if_pos h1]
    refine hQ _ _ fun Q2 hq => ⟨q, p, np, pw, m, na, rfl, hj.1.1, jB_Mc hj0.1, ?_⟩
    unfold T_notice
    rw [if_pos ((cond (zI mem 180 0 0) e13 e15 e27).mpr h1)]
    exact hq _ ⟨t, np, pw, m, na, hj0⟩
  rw [if_neg h1]
  have h1' := h1
  rw [not_or, not_or, Bool.not_eq_false, Bool.not_eq_false, Bool.not_eq_true] at h1
  have hm : m < 300 := cfull_m hC.2.2.2.2.2.1.1 hC.2.2.2.2.2.1.2.2 h1.2.2
  obtain ⟨g, hg, rfl⟩ := inC_nI (by omega) h1.1
  obtain ⟨j, hjp, rfl⟩ := inC_nI (by omega) h1.2.1
  have ig : ix (nI g) = g := ix_nI (by omega)
  have ij : ix (nI j) = j := ix_nI (by omega)
  have e11 : mem.1 (t + 2 + j) 11 = mem.1 185 (3 * j) := (hE.1 j hjp 0 (by omega)).1
  rw [ij, ig, e11, (hE.2.1 j hjp g (by omega)).1]
  have T : ∀ (M : zM) (Q2 : zPo), (∀ a b, 180 ≤ a → M.1 a b = mem.1 a b) → (¬ mem.1 186 (20 * g + j) = -1 → Q2 (some (.int (-2))) n (zI M 180 0 0)) → (mem.1 186 (20 * g + j) = -1 → mem.1 185 (3 * j) = -1 → Q2 (some (.int (-3))) n (zI M 180 0 0)) → (mem.1 186 (20 * g + j) = -1 → ¬ mem.1 185 (3 * j) = -1 → Q2 (some (.int (nI (m + 1)))) n (zI (zput (zI M 180 0 0) m) 186 (20 * g + j) (nI (m + 1)))) → T_notice (zI M 180 0 0) (nI g) (nI j) m (fun r mem => Q2 (some (.int r)) n mem) := by
    intro M Q2 hM q2 q3 q4
    have eM : ∀ a b, 181 ≤ a → (zI M 180 0 0).1 a b = mem.1 a b := fun a b ha => by rw [zI_ne (by omega)]; exact hM a b (by omega)
    have eN : ∀ b, b ≠ 0 → (zI M 180 0 0).1 180 b = mem.1 180 b := fun b hb => by rw [zI_o hb]; exact hM 180 b (by omega)
    unfold T_notice
    rw [if_neg (fun z => h1' ((cond _ ((eN 13 (by omega)).trans e13) ((eN 15 (by omega)).trans e15) ((eN 27 (by omega)).trans e27)).mp z)), ij, ig, eM 186 _ (by omega), eM 185 _ (by omega)]
    by_cases h2 : mem.1 186 (20 * g + j) = -1
    · rw [if_neg (fun z => z h2)]
      by_cases h3 : mem.1 185 (3 * j) = -1
      · rw [if_pos h3]; exact q3 h2 h3
      · rw [if_neg h3]; exact q4 h2 h3
    · rw [if_pos h2]; exact q2 h2
  by_cases h2 : mem.1 186 (20 * g + j) = -1
  · rw [decide_eq_true h2, if_neg (by decide)]
    by_cases h3 : mem.1 185 (3 * j) = -1
    · rw [if_pos h3]
      exact hQ _ _ fun Q2 hq => ⟨nI g, nI j, np, pw, m, na, rfl, hj.1.1, jB_Mc hj0.1, T mem Q2 (fun _ _ _ => rfl) (fun z => absurd h2 z) (fun _ _ => hq _ ⟨t, np, pw, m, na, hj0⟩) (fun _ z => absurd h3 z)⟩
    · rw [if_neg h3]
      have hcl : clsE mem (cput (zI mem (t + 2 + j) 14 (mem.1 (t + 2 + j) 14 ||| (1 <<< (nI g &&& 31)))) m) m (t + 2 + j) 14 (mem.1 (t + 2 + j) 14 ||| (1 <<< (nI g &&& 31))) := clsE2 (by omega)
      have h2m : (cput (zI mem (t + 2 + j) 14 (mem.1 (t + 2 + j) 14 ||| (1 <<< (nI g &&& 31)))) m).2 = mem.2 := rfl
      generalize cput (zI mem (t + 2 + j) 14 (mem.1 (t + 2 + j) 14 ||| (1 <<< (nI g &&& 31)))) m = C at hcl h2m
      have hhi := cls_hi (by omega) hcl
      have hst1 : zst n C := ⟨hj.1.1.1, by unfold zFx; rw [h2m]; exact hj.1.1.2⟩
      exact hQ _ _ fun Q2 hq => ⟨nI g, nI j, np, pw, m, na, rfl, hst1, Mc_hi hhi (jB_Mc hj.1), T C Q2 hhi (fun z => absurd h2 z) (fun _ z => absurd z h3) (fun _ _ => hq _ (ev_not hj hm hjp (by omega) h2 rfl hcl h2m rfl))⟩
  · rw [decide_eq_false h2, if_pos (by decide)]
    exact hQ _ _ fun Q2 hq => ⟨nI g, nI j, np, pw, m, na, rfl, hj.1.1, jB_Mc hj0.1, T mem Q2 (fun _ _ _ => rfl) (fun _ => hq _ ⟨t, np, pw, m, na, hj0⟩) (fun z => absurd z h2) (fun z => absurd z h2)⟩
theorem go_enter {n : Nat} {mem : zM} {Q : zPo} {p e : Int32} (hJ : J n mem) (hQ : ∀ r M, zTw k_X11_enter [.ref 180, .int p, .int e] n r M → Q (some (.int r)) n M) : k_X10_enter [.ref 100, .int p, .int e] n mem Q := by
  obtain ⟨t, np, pw, m, na, hj⟩ := hJ
  have hj0 := J_t hj
  obtain ⟨-, hC, hP, hE, hN⟩ := id hj.1
  have hT := hC.2.1
  have h20 := hC.2.2.2.1.2.2
  have h8 := hC.2.2.1.2.2
  have h16 := hC.2.2.2.2.2.2.2.2.2
  have e13 : mem.1 180 13 = nI np := hC.2.2.1.2.1
  have e15 : mem.1 180 15 = nI pw := hC.2.2.2.1.2.1
  have e27 : mem.1 180 27 = nI m := hC.2.2.2.2.2.1.2.1
  have e29 : mem.1 180 29 = nI na := hC.2.2.2.2.2.2.2.2.1
  refine ⟨p, e, t, np, pw, m, na, rfl, jB_Cs hj.1, ?_⟩
  rw [hC.2.2.2.1.1]
  have cond : ∀ M : zM, M.1 180 15 = nI pw → M.1 180 27 = nI m → ((isin p 0 (M.1 180 15 - 1) = false ∨ mfull M = true) ↔ (inC p (nI pw) = false ∨ cfull mem = true)) := fun M a b => by
    rw [a, ← inC_in (by omega), full_eq hC.2.2.2.2.2.1.1 b hC.2.2.2.2.2.1.2.2]
  by_cases h1 : inC p (nI pw) = false ∨ cfull mem = true
  · rw [if_pos h1]
    refine hQ _ _ fun Q2 hq => ⟨p, e, np, pw, m, na, rfl, hj.1.1, jB_Mc hj0.1, ?_⟩
    unfold T_enter
    rw [if_pos ((cond (zI mem 180 0 0) e15 e27).mpr h1)]
    exact hq _ ⟨t, np, pw, m, na, hj0⟩
  rw [if_neg h1]
  have h1' := h1
  rw [not_or, Bool.not_eq_false, Bool.not_eq_true] at h1
  have hm : m < 300 := cfull_m hC.2.2.2.2.2.1.1 hC.2.2.2.2.2.1.2.2 h1.2
  obtain ⟨j, hjp, rfl⟩ := inC_nI (by omega) h1.1
  have ij : ix (nI j) = j := ix_nI (by omega)
  have e11 : mem.1 (t + 2 + j) 11 = mem.1 185 (3 * j) := (hE.1 j hjp 0 (by omega)).1
  have e12 : mem.1 (t + 2 + j) 12 = mem.1 185 (3 * j + 1) := (hE.1 j hjp 1 (by omega)).1
  have e13' : mem.1 (t + 2 + j) 13 = mem.1 185 (3 * j + 2) := (hE.1 j hjp 2 (by omega)).1
  rw [ij]
  by_cases he : e = 0
  · rw [if_pos he]
    unfold C_enter1
    rw [e11, e12]
    have T : ∀ (M : zM) (Q2 : zPo), (∀ a b, 180 ≤ a → M.1 a b = mem.1 a b) → (¬ mem.1 185 (3 * j + 1) = -1 → Q2 (some (.int (-2))) n (zI M 180 0 0)) → (mem.1 185 (3 * j + 1) = -1 → ¬ mem.1 185 (3 * j) = -1 → Q2 (some (.int (-3))) n (zI M 180 0 0)) → (mem.1 185 (3 * j + 1) = -1 → mem.1 185 (3 * j) = -1 → Q2 (some (.int (nI (m + 1)))) n (zI (zput (zI M 180 0 0) m) 185 (3 * j + 1) (nI (m + 1)))) → T_enter (zI M 180 0 0) (nI j) e m (fun r mem => Q2 (some (.int r)) n mem) := by
      intro M Q2 hM q2 q3 q4
      have eM : ∀ a b, 181 ≤ a → (zI M 180 0 0).1 a b = mem.1 a b := fun a b ha => by rw [zI_ne (by omega)]; exact hM a b (by omega)
      have eN : ∀ b, b ≠ 0 → (zI M 180 0 0).1 180 b = mem.1 180 b := fun b hb => by rw [zI_o hb]; exact hM 180 b (by omega)
      unfold T_enter
      rw [if_neg (fun z => h1' ((cond _ ((eN 15 (by omega)).trans e15) ((eN 27 (by omega)).trans e27)).mp z)), ij]
      simp only [if_pos he, eM 185 _ (by omega)]
      by_cases h2 : mem.1 185 (3 * j + 1) = -1
      · rw [if_neg (fun z => z h2)]
        by_cases h3 : mem.1 185 (3 * j) = -1
        · rw [if_neg (fun z => z h3)]; exact q4 h2 h3
        · rw [if_pos h3]; exact q3 h2 h3
      · rw [if_pos h2]; exact q2 h2
    by_cases h2 : mem.1 185 (3 * j + 1) = -1
    · rw [if_neg (fun z => z h2)]
      by_cases h3 : mem.1 185 (3 * j) = -1
      · rw [if_neg (fun z => z h3)]
        have hcl : clsE mem (zI (cput mem m) (t + 2 + j) 12 (nI (m + 1))) m (t + 2 + j) 12 (nI (m + 1)) := clsE1
        have h2m : (zI (cput mem m) (t + 2 + j) 12 (nI (m + 1))).2 = mem.2 := rfl
        generalize zI (cput mem m) (t + 2 + j) 12 (nI (m + 1)) = C at hcl h2m
        have hhi := cls_hi (by omega) hcl
        have hst1 : zst n C := ⟨hj.1.1.1, by unfold zFx; rw [h2m]; exact hj.1.1.2⟩
        exact hQ _ _ fun Q2 hq => ⟨nI j, e, np, pw, m, na, rfl, hst1, Mc_hi hhi (jB_Mc hj.1), T C Q2 hhi (fun z => absurd h2 z) (fun _ z => absurd h3 z) (fun _ _ => hq _ (ev_ent hj hm hjp (e := 1) (by omega) h2 hcl h2m rfl))⟩
      · rw [if_pos h3]
        exact hQ _ _ fun Q2 hq => ⟨nI j, e, np, pw, m, na, rfl, hj.1.1, jB_Mc hj0.1, T mem Q2 (fun _ _ _ => rfl) (fun z => absurd h2 z) (fun _ _ => hq _ ⟨t, np, pw, m, na, hj0⟩) (fun _ z => absurd z h3)⟩
    · rw [if_pos h2]
      exact hQ _ _ fun Q2 hq => ⟨nI j, e, np, pw, m, na, rfl, hj.1.1, jB_Mc hj0.1, T mem Q2 (fun _ _ _ => rfl) (fun _ => hq _ ⟨t, np, pw, m, na, hj0⟩) (fun z => absurd z h2) (fun z => absurd z h2)⟩
  · rw [if_neg he]
    unfold C_enter2
    rw [e11, e12, e13']
    have T : ∀ (M : zM) (Q2 : zPo), (∀ a b, 180 ≤ a → M.1 a b = mem.1 a b) → (¬ mem.1 185 (3 * j + 2) = -1 → Q2 (some (.int (-2))) n (zI M 180 0 0)) → (mem.1 185 (3 * j + 2) = -1 → (mem.1 185 (3 * j) = -1 ∨ mem.1 185 (3 * j + 1) = -1) → Q2 (some (.int (-3))) n (zI M 180 0 0)) → (mem.1 185 (3 * j + 2) = -1 → ¬ (mem.1 185 (3 * j) = -1 ∨ mem.1 185 (3 * j + 1) = -1) → Q2 (some (.int (nI (m + 1)))) n (zI (zput (zI M 180 0 0) m) 185 (3 * j + 2) (nI (m + 1)))) → T_enter (zI M 180 0 0) (nI j) e m (fun r mem => Q2 (some (.int r)) n mem) := by
      intro M Q2 hM q2 q3 q4
      have eM : ∀ a b, 181 ≤ a → (zI M 180 0 0).1 a b = mem.1 a b := fun a b ha => by rw [zI_ne (by omega)]; exact hM a b (by omega)
      have eN : ∀ b, b ≠ 0 → (zI M 180 0 0).1 180 b = mem.1 180 b := fun b hb => by rw [zI_o hb]; exact hM 180 b (by omega)
      unfold T_enter
      rw [if_neg (fun z => h1' ((cond _ ((eN 15 (by omega)).trans e15) ((eN 27 (by omega)).trans e27)).mp z)), ij]
      simp only [if_neg he, eM 185 _ (by omega)]
      by_cases h2 : mem.1 185 (3 * j + 2) = -1
      · rw [if_neg (fun z => z h2)]
        by_cases h3 : mem.1 185 (3 * j) = -1 ∨ mem.1 185 (3 * j + 1) = -1
        · rw [if_pos h3]; exact q3 h2 h3
        · rw [if_neg h3]; exact q4 h2 h3
      · rw [if_pos h2]; exact q2 h2
    by_cases h2 : mem.1 185 (3 * j + 2) = -1
    · rw [if_neg (fun z => z h2)]
      by_cases h3 : mem.1 185 (3 * j) = -1 ∨ mem.1 185 (3 * j + 1) = -1
      · rw [if_pos h3]
        exact hQ _ _ fun Q2 hq => ⟨nI j, e, np, pw, m, na, rfl, hj.1.1, jB_Mc hj0.1, T mem Q2 (fun _ _ _ => rfl) (fun z => absurd h2 z) (fun _ _ => hq _ ⟨t, np, pw, m, na, hj0⟩) (fun _ z => absurd h3 z)⟩
      · rw [if_neg h3]
        have hcl : clsE mem (zI (cput mem m) (t + 2 + j) 13 (nI (m + 1))) m (t + 2 + j) 13 (nI (m + 1)) := clsE1
        have h2m : (zI (cput mem m) (t + 2 + j) 13 (nI (m + 1))).2 = mem.2 := rfl
        generalize zI (cput mem m) (t + 2 + j) 13 (nI (m + 1)) = C at hcl h2m
        have hhi := cls_hi (by omega) hcl
        have hst1 : zst n C := ⟨hj.1.1.1, by unfold zFx; rw [h2m]; exact hj.1.1.2⟩
        exact hQ _ _ fun Q2 hq => ⟨nI j, e, np, pw, m, na, rfl, hst1, Mc_hi hhi (jB_Mc hj.1), T C Q2 hhi (fun z => absurd h2 z) (fun _ z => absurd z h3) (fun _ _ => hq _ (ev_ent hj hm hjp (e := 2) (by omega) h2 hcl h2m rfl))⟩
    · rw [if_pos h2]
      exact hQ _ _ fun Q2 hq => ⟨nI j, e, np, pw, m, na, rfl, hj.1.1, jB_Mc hj0.1, T mem Q2 (fun _ _ _ => rfl) (fun _ => hq _ ⟨t, np, pw, m, na, hj0⟩) (fun z => absurd z h2) (fun z => absurd z h2)⟩
theorem go_approve {n : Nat} {mem : zM} {Q : zPo} {a : Int32} (hJ : J n mem) (hQ : ∀ r M, zTw k_X11_approve [.ref 180, .int a] n r M → Q (some (.int r)) n M) : k_X10_approve [.ref 100, .int a] n mem Q := by
  obtain ⟨t, np, pw, m, na, hj⟩ := hJ
  have hj0 := J_t hj
  obtain ⟨-, hC, hP, hE, hN⟩ := id hj.1
  have hT := hC.2.1
  have h20 := hC.2.2.2.1.2.2
  have h8 := hC.2.2.1.2.2
  have h16 := hC.2.2.2.2.2.2.2.2.2
  have e13 : mem.1 180 13 = nI np := hC.2.2.1.2.1
  have e15 : mem.1 180 15 = nI pw := hC.2.2.2.1.2.1
  have e27 : mem.1 180 27 = nI m := hC.2.2.2.2.2.1.2.1
  have e29 : mem.1 180 29 = nI na := hC.2.2.2.2.2.2.2.2.1
  have hNv : zNv mem na := fun i hi => (hj.2.2 i hi).2.1.1
  refine ⟨a, t, np, pw, m, na, rfl, jB_Cs hj.1, fun i hi => ?_, ?_⟩
  · obtain ⟨q, hq, e⟩ := hNv i hi
    exact ⟨q, hq, ((hj.2.2 i hi).1 1 (by omega)).trans e⟩
  unfold C_approve
  rw [hC.2.2.2.2.2.2.2.1]
  have cond : ∀ M : zM, M.1 180 29 = nI na → M.1 180 27 = nI m → ((isin a 0 (M.1 180 29 - 1) = false ∨ mfull M = true) ↔ (inC a (nI na) = false ∨ cfull mem = true)) := fun M a b => by
    rw [a, ← inC_in (by omega), full_eq hC.2.2.2.2.2.1.1 b hC.2.2.2.2.2.1.2.2]
  by_cases h1 : inC a (nI na) = false ∨ cfull mem = true
  · rw [if_pos h1]
    refine hQ _ _ fun Q2 hq => ⟨a, np, pw, m, na, rfl, hj.1.1, jB_Mc hj0.1, hNv, ?_⟩
    unfold T_approve
    rw [if_pos ((cond (zI mem 180 0 0) e29 e27).mpr h1)]
    exact hq _ ⟨t, np, pw, m, na, hj0⟩
  rw [if_neg h1]
  have h1' := h1
  rw [not_or, Bool.not_eq_false, Bool.not_eq_true] at h1
  have hm : m < 300 := cfull_m hC.2.2.2.2.2.1.1 hC.2.2.2.2.2.1.2.2 h1.2
  obtain ⟨j, hjp, rfl⟩ := inC_nI (by omega) h1.1
  have ij : ix (nI j) = j := ix_nI (by omega)
  have er := (hj.2.2 j hjp).1
  obtain ⟨g, hg, eg⟩ := hNv j hjp
  have ig : ix (nI g) = g := ix_nI (by omega)
  have ed := hE.2.2.1 g hg
  rw [ij, er 7 (by omega), er 8 (by omega), er 1 (by omega), eg, ig, ed.1]
  have T : ∀ (M : zM) (Q2 : zPo), (∀ a b, 180 ≤ a → M.1 a b = mem.1 a b) → (¬ mem.1 191 (9 * j + 7) = -1 → Q2 (some (.int (-2))) n (zI M 180 0 0)) → (mem.1 191 (9 * j + 7) = -1 → ¬ mem.1 191 (9 * j + 8) = -1 → Q2 (some (.int (-3))) n (zI M 180 0 0)) → (mem.1 191 (9 * j + 7) = -1 → mem.1 191 (9 * j + 8) = -1 → ¬ mem.1 187 g = -1 → Q2 (some (.int (-4))) n (zI M 180 0 0)) → (mem.1 191 (9 * j + 7) = -1 → mem.1 191 (9 * j + 8) = -1 → mem.1 187 g = -1 → Q2 (some (.int (nI (m + 1)))) n (zI (zput (zI M 180 0 0) m) 191 (9 * j + 7) (nI (m + 1)))) → T_approve (zI M 180 0 0) (nI j) m (fun r mem => Q2 (some (.int r)) n mem) := by
    intro M Q2 hM q2 q3 q4 q5
    have eM : ∀ a b, 181 ≤ a → (zI M 180 0 0).1 a b = mem.1 a b := fun a b ha => by rw [zI_ne (by omega)]; exact hM a b (by omega)
    have eN : ∀ b, b ≠ 0 → (zI M 180 0 0).1 180 b = mem.1 180 b := fun b hb => by rw [zI_o hb]; exact hM 180 b (by omega)
    unfold T_approve
    rw [if_neg (fun z => h1' ((cond _ ((eN 29 (by omega)).trans e29) ((eN 27 (by omega)).trans e27)).mp z)), ij, eM 191 _ (by omega), eM 191 _ (by omega), eM 191 _ (by omega), eg, ig, eM 187 _ (by omega), eN 27 (by omega), e27, isby_now hC.2.2.2.2.2.1.2.2 ed.2]
    by_cases h2 : mem.1 191 (9 * j + 7) = -1
    · rw [if_neg (fun z => z h2)]
      by_cases h3 : mem.1 191 (9 * j + 8) = -1
      · rw [if_neg (fun z => z h3)]
        by_cases h4 : mem.1 187 g = -1
        · rw [decide_eq_true h4, if_neg (by decide)]; exact q5 h2 h3 h4
        · rw [decide_eq_false h4, if_pos (by decide)]; exact q4 h2 h3 h4
      · rw [if_pos h3]; exact q3 h2 h3
    · rw [if_pos h2]; exact q2 h2
  have out : ∀ r, (∀ Q2 : zPo, (∀ M2, J n M2 → Q2 (some (.int r)) n M2) → T_approve (zI mem 180 0 0) (nI j) m (fun r mem => Q2 (some (.int r)) n mem)) → Q (some (.int r)) n mem := fun r h => hQ r mem fun Q2 hq => ⟨nI j, np, pw, m, na, rfl, hj.1.1, jB_Mc hj0.1, hNv, h Q2 hq⟩
  by_cases h2 : mem.1 191 (9 * j + 7) = -1
  · rw [if_neg (fun z => z h2)]
    by_cases h3 : mem.1 191 (9 * j + 8) = -1
    · rw [if_neg (fun z => z h3)]
      by_cases h4 : mem.1 187 g = -1
      · rw [if_neg (fun z => z h4)]
        have hcl : clsE mem (zI (cput mem m) (120 + j) 7 (nI (m + 1))) m (120 + j) 7 (nI (m + 1)) := clsE1
        have h2m : (zI (cput mem m) (120 + j) 7 (nI (m + 1))).2 = mem.2 := rfl
        generalize zI (cput mem m) (120 + j) 7 (nI (m + 1)) = C at hcl h2m
        have hhi := cls_hi (by omega) hcl
        have hst1 : zst n C := ⟨hj.1.1.1, by unfold zFx; rw [h2m]; exact hj.1.1.2⟩
        refine hQ _ _ fun Q2 hq => ⟨nI j, np, pw, m, na, rfl, hst1, Mc_hi hhi (jB_Mc hj.1), fun i hi => ?_, T C Q2 hhi (fun z => absurd h2 z) (fun _ z => absurd h3 z) (fun _ _ z => absurd h4 z) (fun _ _ _ => hq _ (ev_act hj hm hjp (Or.inl rfl) hcl h2m (zfr.rf.I (Or.inl ⟨rfl, Or.inl rfl⟩)) rfl))⟩
        obtain ⟨q, hq, e⟩ := hNv i hi
        exact ⟨q, hq, (hhi 191 _ (by omega)).trans e⟩
      · rw [if_pos h4]
        exact out _ fun Q2 hq => T mem Q2 (fun _ _ _ => rfl) (fun z => absurd h2 z) (fun _ z => absurd h3 z) (fun _ _ _ => hq _ ⟨t, np, pw, m, na, hj0⟩) (fun _ _ z => absurd z h4)
    · rw [if_pos h3]
      exact out _ fun Q2 hq => T mem Q2 (fun _ _ _ => rfl) (fun z => absurd h2 z) (fun _ _ => hq _ ⟨t, np, pw, m, na, hj0⟩) (fun _ z => absurd z h3) (fun _ z => absurd z h3)
  · rw [if_pos h2]
    exact out _ fun Q2 hq => T mem Q2 (fun _ _ _ => rfl) (fun _ => hq _ ⟨t, np, pw, m, na, hj0⟩) (fun z => absurd z h2) (fun z => absurd z h2) (fun z => absurd z h2)
