/-! ===== power and act: they answer as the reference, or throw where it refuses ===== -/
def thP (mem : zM) (p w : Int32) : Prop := isin p 0 (mem.1 180 15 - 1) = false ∨ isin w 0 7 = false
def thA2 (mem : zM) (a w : Int32) : Prop := isin a 0 (mem.1 180 29 - 1) = false ∨ isin w 0 8 = false
theorem go_power {l : Launch} {G : zG} {n : Nat} {mem : zM} {p w : Int32} (hl : l.stackTraces = false) (hJ : J n mem) (hn8 : 98 ≤ n) : zMetX l G yX10_power cX10_power 4 (some .int) 6 [.ref 100, .int p, .int w] n mem (fun r _ M => M = mem ∧ ¬ thP mem p w ∧ r = some (.int (mem.1 182 (8 * ix p + ix w)))) (fun M => M = mem ∧ thP mem p w) := by
  obtain ⟨t, np, pw, m, na, hj0⟩ := hJ
  obtain ⟨-, hC, hPp, hE, hNn⟩ := id hj0.1
  have hAa := hj0.2.2
  have e15 : mem.1 180 15 = nI pw := hC.2.2.2.1.2.1
  have e29 : mem.1 180 29 = nI na := hC.2.2.2.2.2.2.2.2.1
  obtain ⟨⟨hn, hF⟩, ht, hTl, hU, ⟨hm, hN⟩, hna, hna16⟩ := jB_Cs hj0.1
  obtain ⟨hT, hnp, hnp8, hpw, hw, hPs⟩ := id hTl
  have hth : thP mem p w ↔ (inC p (mem.1 t 2) = false ∨ isin w 0 7 = false) := by unfold thP; rw [e15, hpw, ← inC_in (by omega)]
  refine mtX10_power ok_X10_isPower (by decide) hl (by decide) (List.forall_mem_cons.mpr ⟨rfl, List.forall_mem_cons.mpr ⟨rfl, List.forall_mem_cons.mpr ⟨rfl, fun _ h => absurd h List.not_mem_nil⟩⟩⟩) (by simp) (zS_nse (zkd_nse hn8)) (fun P hP => ?_)
  show P 0 [.ref 100, .int p, .int w, .null] [] n mem
  refine hP _ _ _ _ _ ?_
  refine hP _ _ _ _ _ ?_
  refine hP _ _ _ _ _ ⟨(zi hn rfl rfl rfl), Nat.le_of_ble_eq_true rfl, Nat.le_of_ble_eq_true rfl, ?_⟩
  refine ⟨_, t, rfl, ⟨hn, hF⟩, ⟨ht, hT⟩, ?_⟩
  refine hP _ _ _ _ _ ⟨fun h5 => ?_, fun h5 => ?_⟩
  ·
    have h5 := zb_0.mp h5
    refine hP _ _ _ _ _ ⟨Nat.le_refl _, zkd_nse hn8, rfl, ?_⟩
    exact hP _ _ _ _ _ ⟨rfl, rfl, zkd_nse hn8, rfl, hth.mpr (Or.inl h5)⟩
  ·
    have h5 := zb_n.mp h5
    obtain ⟨j, hj, rfl⟩ := inC_nI (by omega) (hpw ▸ h5)
    have hx := ix_nI (j := j) (by omega)
    have h5 : inC (nI j) (nI pw) = true := hpw ▸ h5
    have hv : ∀ k, k < 8 → mem.1 (t + 2 + j) k = mem.1 182 (8 * j + ix (nI k)) := fun k hk => by rw [ix_nI (by omega)]; exact (hPp j hj).1 k hk
    have hno : ∀ k, k ≤ 7 → ¬ thP mem (nI j) (nI k) := fun k hk z => by unfold thP at z; rw [e15, ← inC_in (by omega)] at z; exact z.elim (fun y => by rw [h5] at y; cases y) (fun y => by rw [show isin (nI k) 0 7 = true from in2_y (c := 7) (by omega) hk] at y; cases y)
    refine hP _ _ _ _ _ ?_
    refine hP _ _ _ _ _ ⟨(zi hn rfl rfl rfl), _, ht, (by omega), ?_⟩
    refine hP _ _ _ _ _ ⟨(ztT hn hT), _, (fx_tp hF hT), (by omega), ?_⟩
    refine hP _ _ _ _ _ ?_
    refine hP _ _ _ _ _ ⟨_, j, (ztA hn hT), rfl, by omega, _, (fx_pw hF hT (by omega)), (by omega), ?_⟩
    refine hP _ _ _ _ _ ?_
    refine hP _ _ _ _ _ ?_
    refine hP _ _ _ _ _ ⟨fun i29 hi29 hx29 => ?_, fun h29 => ?_⟩
    ·
      have hi29 : i29 < 8 := hi29
      rcases (show i29 = 0 ∨ i29 = 1 ∨ i29 = 2 ∨ i29 = 3 ∨ i29 = 4 ∨ i29 = 5 ∨ i29 = 6 ∨ i29 = 7 by omega) with rfl | rfl | rfl | rfl | rfl | rfl | rfl | rfl
      ·
        refine hP _ _ _ _ _ ?_
        refine hP _ _ _ _ _ ⟨(ztP hn hT (by omega)), ?_⟩
        refine hP _ _ _ _ _ ?_
        exact ⟨rfl, rfl, by rw [hx29]; exact hno 0 (by omega), congrArg (fun x => some (Value.int x)) (by rw [hx29, hx]; exact hv 0 (by omega))⟩
      ·
        refine hP _ _ _ _ _ ?_
        refine hP _ _ _ _ _ ⟨(ztP hn hT (by omega)), ?_⟩
        refine hP _ _ _ _ _ ?_
        exact ⟨rfl, rfl, by rw [hx29]; exact hno 1 (by omega), congrArg (fun x => some (Value.int x)) (by rw [hx29, hx]; exact hv 1 (by omega))⟩
      ·
        refine hP _ _ _ _ _ ?_
        refine hP _ _ _ _ _ ⟨(ztP hn hT (by omega)), ?_⟩
        refine hP _ _ _ _ _ ?_
        exact ⟨rfl, rfl, by rw [hx29]; exact hno 2 (by omega), congrArg (fun x => some (Value.int x)) (by rw [hx29, hx]; exact hv 2 (by omega))⟩
      ·
        refine hP _ _ _ _ _ ?_
        refine hP _ _ _ _ _ ⟨(ztP hn hT (by omega)), ?_⟩
        refine hP _ _ _ _ _ ?_
        exact ⟨rfl, rfl, by rw [hx29]; exact hno 3 (by omega), congrArg (fun x => some (Value.int x)) (by rw [hx29, hx]; exact hv 3 (by omega))⟩
      ·
        refine hP _ _ _ _ _ ?_
        refine hP _ _ _ _ _ ⟨(ztP hn hT (by omega)), ?_⟩
        refine hP _ _ _ _ _ ?_
        exact ⟨rfl, rfl, by rw [hx29]; exact hno 4 (by omega), congrArg (fun x => some (Value.int x)) (by rw [hx29, hx]; exact hv 4 (by omega))⟩
      ·
        refine hP _ _ _ _ _ ?_
        refine hP _ _ _ _ _ ⟨(ztP hn hT (by omega)), ?_⟩
        refine hP _ _ _ _ _ ?_
        exact ⟨rfl, rfl, by rw [hx29]; exact hno 5 (by omega), congrArg (fun x => some (Value.int x)) (by rw [hx29, hx]; exact hv 5 (by omega))⟩
      ·
        refine hP _ _ _ _ _ ?_
        refine hP _ _ _ _ _ ⟨(ztP hn hT (by omega)), ?_⟩
        refine hP _ _ _ _ _ ⟨fun h110 => ?_, fun h110 => ?_⟩
        ·
          refine hP _ _ _ _ _ ?_
          refine hP _ _ _ _ _ ?_
          first | exact ⟨rfl, rfl, by rw [hx29]; exact hno 6 (by omega), congrArg (fun x => some (Value.int x)) (by rw [hx29, hx]; exact h110.symm.trans (hv 6 (by omega)))⟩ | exact ⟨rfl, rfl, by rw [hx29]; exact hno 6 (by omega), congrArg (fun x => some (Value.int x)) (by rw [hx29, hx, ← hv 6 (by omega)]; exact (((hPp j hj).2.1.2.2.2.2.2.2.1).elim (fun z => absurd (((hPp j hj).1 6 (by omega)).trans z) h110) (fun z => (((hPp j hj).1 6 (by omega)).trans z).symm)))⟩
        ·
          refine hP _ _ _ _ _ ?_
          refine hP _ _ _ _ _ ?_
          refine hP _ _ _ _ _ ?_
          first | exact ⟨rfl, rfl, by rw [hx29]; exact hno 6 (by omega), congrArg (fun x => some (Value.int x)) (by rw [hx29, hx]; exact h110.symm.trans (hv 6 (by omega)))⟩ | exact ⟨rfl, rfl, by rw [hx29]; exact hno 6 (by omega), congrArg (fun x => some (Value.int x)) (by rw [hx29, hx, ← hv 6 (by omega)]; exact (((hPp j hj).2.1.2.2.2.2.2.2.1).elim (fun z => absurd (((hPp j hj).1 6 (by omega)).trans z) h110) (fun z => (((hPp j hj).1 6 (by omega)).trans z).symm)))⟩
      ·
        refine hP _ _ _ _ _ ?_
        refine hP _ _ _ _ _ ⟨(ztP hn hT (by omega)), ?_⟩
        refine hP _ _ _ _ _ ?_
        exact ⟨rfl, rfl, by rw [hx29]; exact hno 7 (by omega), congrArg (fun x => some (Value.int x)) (by rw [hx29, hx]; exact hv 7 (by omega))⟩
    ·
      refine hP _ _ _ _ _ ⟨Nat.le_refl _, zkd_nse hn8, rfl, ?_⟩
      exact hP _ _ _ _ _ ⟨rfl, rfl, zkd_nse hn8, rfl, hth.mpr (Or.inr (show isin w 0 7 = false from in2_no (c := 7) (by omega) h29))⟩
theorem go_act {l : Launch} {G : zG} {n : Nat} {mem : zM} {p w : Int32} (hl : l.stackTraces = false) (hJ : J n mem) (hn8 : 98 ≤ n) : zMetX l G yX10_act cX10_act 4 (some .int) 6 [.ref 100, .int p, .int w] n mem (fun r _ M => M = mem ∧ ¬ thA2 mem p w ∧ r = some (.int (mem.1 191 (9 * ix p + ix w)))) (fun M => M = mem ∧ thA2 mem p w) := by
  obtain ⟨t, np, pw, m, na, hj0⟩ := hJ
  obtain ⟨-, hC, hPp, hE, hNn⟩ := id hj0.1
  have hAa := hj0.2.2
  have e15 : mem.1 180 15 = nI pw := hC.2.2.2.1.2.1
  have e29 : mem.1 180 29 = nI na := hC.2.2.2.2.2.2.2.2.1
  obtain ⟨⟨hn, hF⟩, ht, hTl, hU, ⟨hm, hN⟩, hna, hna16⟩ := jB_Cs hj0.1
  obtain ⟨hT, hnp, hnp8, hpw, hw, hPs⟩ := id hTl
  have hth : thA2 mem p w ↔ (inC p (nI na) = false ∨ isin w 0 8 = false) := by unfold thA2; rw [e29, ← inC_in (by omega)]
  refine mtX10_act ok_X10_isAct (by decide) hl (by decide) (List.forall_mem_cons.mpr ⟨rfl, List.forall_mem_cons.mpr ⟨rfl, List.forall_mem_cons.mpr ⟨rfl, fun _ h => absurd h List.not_mem_nil⟩⟩⟩) (by simp) (zS_nse (zkd_nse hn8)) (fun P hP => ?_)
  show P 0 [.ref 100, .int p, .int w, .null] [] n mem
  refine hP _ _ _ _ _ ?_
  refine hP _ _ _ _ _ ?_
  refine hP _ _ _ _ _ ⟨(zi hn rfl rfl rfl), Nat.le_of_ble_eq_true rfl, Nat.le_of_ble_eq_true rfl, ?_⟩
  refine ⟨_, rfl, ⟨hn, hF⟩, ?_⟩
  refine hP _ _ _ _ _ ⟨fun h5 => ?_, fun h5 => ?_⟩
  ·
    have h5 := zb_0.mp h5
    refine hP _ _ _ _ _ ⟨Nat.le_refl _, zkd_nse hn8, rfl, ?_⟩
    exact hP _ _ _ _ _ ⟨rfl, rfl, zkd_nse hn8, rfl, hth.mpr (Or.inl (hna ▸ h5))⟩
  ·
    have h5 := zb_n.mp h5
    obtain ⟨j, hj, rfl⟩ := inC_nI (by omega) (hna ▸ h5)
    have hx := ix_nI (j := j) (by omega)
    have h5 : inC (nI j) (nI na) = true := hna ▸ h5
    have hv : ∀ k, k < 9 → mem.1 (120 + j) k = mem.1 191 (9 * j + ix (nI k)) := fun k hk => by rw [ix_nI (by omega)]; exact (hAa j hj).1 k hk
    have hno : ∀ k, k ≤ 8 → ¬ thA2 mem (nI j) (nI k) := fun k hk z => by unfold thA2 at z; rw [e29, ← inC_in (by omega)] at z; exact z.elim (fun y => by rw [h5] at y; cases y) (fun y => by rw [show isin (nI k) 0 8 = true from in2_y (c := 8) (by omega) hk] at y; cases y)
    refine hP _ _ _ _ _ ?_
    refine hP _ _ _ _ _ ⟨(zi hn rfl rfl rfl), _, fx_Book_acts hF, (by decide), ?_⟩
    refine hP _ _ _ _ _ ?_
    refine hP _ _ _ _ _ ⟨_, j, (zi hn rfl rfl rfl), rfl, by omega, _, (fx_acts hF (by omega)), (by omega), ?_⟩
    refine hP _ _ _ _ _ ?_
    refine hP _ _ _ _ _ ?_
    refine hP _ _ _ _ _ ⟨fun i26 hi26 hx26 => ?_, fun h26 => ?_⟩
    ·
      have hi26 : i26 < 9 := hi26
      rcases (show i26 = 0 ∨ i26 = 1 ∨ i26 = 2 ∨ i26 = 3 ∨ i26 = 4 ∨ i26 = 5 ∨ i26 = 6 ∨ i26 = 7 ∨ i26 = 8 by omega) with rfl | rfl | rfl | rfl | rfl | rfl | rfl | rfl | rfl
      ·
        refine hP _ _ _ _ _ ?_
        refine hP _ _ _ _ _ ⟨(ziA hn (by omega)), ?_⟩
        refine hP _ _ _ _ _ ?_
        exact ⟨rfl, rfl, by rw [hx26]; exact hno 0 (by omega), congrArg (fun x => some (Value.int x)) (by rw [hx26, hx]; exact hv 0 (by omega))⟩
      ·
        refine hP _ _ _ _ _ ?_
        refine hP _ _ _ _ _ ⟨(ziA hn (by omega)), ?_⟩
        refine hP _ _ _ _ _ ?_
        exact ⟨rfl, rfl, by rw [hx26]; exact hno 1 (by omega), congrArg (fun x => some (Value.int x)) (by rw [hx26, hx]; exact hv 1 (by omega))⟩
      ·
        refine hP _ _ _ _ _ ?_
        refine hP _ _ _ _ _ ⟨(ziA hn (by omega)), ?_⟩
        refine hP _ _ _ _ _ ?_
        exact ⟨rfl, rfl, by rw [hx26]; exact hno 2 (by omega), congrArg (fun x => some (Value.int x)) (by rw [hx26, hx]; exact hv 2 (by omega))⟩
      ·
        refine hP _ _ _ _ _ ?_
        refine hP _ _ _ _ _ ⟨(ziA hn (by omega)), ?_⟩
        refine hP _ _ _ _ _ ?_
        exact ⟨rfl, rfl, by rw [hx26]; exact hno 3 (by omega), congrArg (fun x => some (Value.int x)) (by rw [hx26, hx]; exact hv 3 (by omega))⟩
      ·
        refine hP _ _ _ _ _ ?_
        refine hP _ _ _ _ _ ⟨(ziA hn (by omega)), ?_⟩
        refine hP _ _ _ _ _ ?_
        exact ⟨rfl, rfl, by rw [hx26]; exact hno 4 (by omega), congrArg (fun x => some (Value.int x)) (by rw [hx26, hx]; exact hv 4 (by omega))⟩
      ·
        refine hP _ _ _ _ _ ?_
        refine hP _ _ _ _ _ ⟨(ziA hn (by omega)), ?_⟩
        refine hP _ _ _ _ _ ?_
        exact ⟨rfl, rfl, by rw [hx26]; exact hno 5 (by omega), congrArg (fun x => some (Value.int x)) (by rw [hx26, hx]; exact hv 5 (by omega))⟩
      ·
        refine hP _ _ _ _ _ ?_
        refine hP _ _ _ _ _ ⟨(ziA hn (by omega)), ?_⟩
        refine hP _ _ _ _ _ ?_
        exact ⟨rfl, rfl, by rw [hx26]; exact hno 6 (by omega), congrArg (fun x => some (Value.int x)) (by rw [hx26, hx]; exact hv 6 (by omega))⟩
      ·
        refine hP _ _ _ _ _ ?_
        refine hP _ _ _ _ _ ⟨(ziA hn (by omega)), ?_⟩
        refine hP _ _ _ _ _ ?_
        exact ⟨rfl, rfl, by rw [hx26]; exact hno 7 (by omega), congrArg (fun x => some (Value.int x)) (by rw [hx26, hx]; exact hv 7 (by omega))⟩
      ·
        refine hP _ _ _ _ _ ?_
        refine hP _ _ _ _ _ ⟨(ziA hn (by omega)), ?_⟩
        refine hP _ _ _ _ _ ?_
        exact ⟨rfl, rfl, by rw [hx26]; exact hno 8 (by omega), congrArg (fun x => some (Value.int x)) (by rw [hx26, hx]; exact hv 8 (by omega))⟩
    ·
      refine hP _ _ _ _ _ ⟨Nat.le_refl _, zkd_nse hn8, rfl, ?_⟩
      exact hP _ _ _ _ _ ⟨rfl, rfl, zkd_nse hn8, rfl, hth.mpr (Or.inr (show isin w 0 8 = false from in2_no (c := 8) (by omega) h26))⟩
