/-! ===== the class's public methods: what is put down ===== -/
def zCs (n : Nat) (mem : zM) (t np pw m na : Nat) : Prop := zst n mem ∧ mem.2.2 100 8 = t ∧ zTl mem t np pw ∧ zUc mem t pw ∧ (mem.1 108 5 = nI m ∧ zNr mem m) ∧ mem.1 100 6 = nI na ∧ na ≤ 16
theorem cfull_m {mem : zM} {m : Nat} (h : mem.1 108 5 = nI m) (hm : m ≤ 300) (hf : cfull mem = false) : m < 300 := by
  rcases Nat.lt_or_ge m 300 with z | z
  · exact z
  · exact absurd (decide_eq_true (p := ¬ mem.1 108 5 < 300) (by rw [h]; exact nI_nlt (b := 300) z (by omega))) (by rw [show decide (¬ mem.1 108 5 < 300) = cfull mem from rfl, hf]; decide)
def k_X10_fault : zCt := fun as n mem Q => as = [.ref 100] ∧ zst n mem ∧ Q (some (.int (mem.1 100 7))) n mem
theorem ok_X10_fault {l : Launch} {G : zG} : zOK l G yX10_fault cX10_fault 1 (some .int) 0 0 0 k_X10_fault := by
  intro as n mem Q hK
  obtain ⟨rfl, ⟨hn, hF⟩, hQ⟩ := hK
  refine mtX10_fault (List.forall_mem_cons.mpr ⟨rfl, fun _ h => absurd h List.not_mem_nil⟩) (by simp) rfl (fun P hP => ?_)
  show P 0 [.ref 100] [] n mem
  refine hP _ _ _ _ _ ?_
  refine hP _ _ _ _ _ ⟨(zi hn rfl rfl rfl), ?_⟩
  refine hP _ _ _ _ _ ?_
  exact ⟨rfl, hQ⟩
def k_X10_end : zCt := fun as n mem Q => ∃ (c : Int32), as = [.ref 100, .int c] ∧ zst n mem ∧ (if c < 0 ∨ ¬ c ≤ mem.1 101 1 then Q (some (.int 0)) n mem else Q (some (.int 1)) n (zI mem 101 1 c))
theorem ok_X10_end {l : Launch} {G : zG} : zOK l G yX10_end cX10_end 2 (some .boolean) 0 0 0 k_X10_end := by
  intro as n mem Q hK
  obtain ⟨c, rfl, ⟨hn, hF⟩, hQ⟩ := hK
  refine mtX10_end (List.forall_mem_cons.mpr ⟨rfl, List.forall_mem_cons.mpr ⟨rfl, fun _ h => absurd h List.not_mem_nil⟩⟩) (by simp) rfl (fun P hP => ?_)
  show P 0 [.ref 100, .int c] [] n mem
  refine hP _ _ _ _ _ ?_
  refine hP _ _ _ _ _ ⟨fun h1 => ?_, fun h1 => ?_⟩
  ·
    refine hP _ _ _ _ _ ?_
    refine hP _ _ _ _ _ ?_
    exact ⟨by decide, rfl, by simpa [h1] using hQ⟩
  ·
    refine hP _ _ _ _ _ ?_
    refine hP _ _ _ _ _ ?_
    refine hP _ _ _ _ _ ⟨(zi hn rfl rfl rfl), _, fx_Book_tape hF, (by decide), ?_⟩
    refine hP _ _ _ _ _ ⟨(zi hn rfl rfl rfl), ?_⟩
    refine hP _ _ _ _ _ ⟨fun h12 => ?_, fun h12 => ?_⟩
    ·
      refine hP _ _ _ _ _ ?_
      refine hP _ _ _ _ _ ⟨(zi hn rfl rfl rfl), _, fx_Book_tape hF, (by decide), ?_⟩
      refine hP _ _ _ _ _ ?_
      refine hP _ _ _ _ _ ⟨(zi hn rfl rfl rfl), ?_⟩
      refine hP _ _ _ _ _ ?_
      refine hP _ _ _ _ _ ?_
      exact ⟨by decide, rfl, by simpa [h1, h12] using hQ⟩
    ·
      refine hP _ _ _ _ _ ?_
      refine hP _ _ _ _ _ ?_
      exact ⟨by decide, rfl, by simpa [h1, h12] using hQ⟩
def k_X10_days : zCt := fun as n mem Q => ∃ (v : Int32), as = [.ref 100, .int v] ∧ zst n mem ∧ (if isin v 1 99 = false ∨ ¬ mem.1 108 6 + v ≤ 999 then Q (some (.int (-1))) n mem else Q (some (.int (mem.1 108 6 + v))) n (zI mem 108 6 (mem.1 108 6 + v)))
theorem ok_X10_days {l : Launch} {G : zG} : zOK l G yX10_days cX10_days 2 (some .int) 0 0 0 k_X10_days := by
  intro as n mem Q hK
  obtain ⟨v, rfl, ⟨hn, hF⟩, hQ⟩ := hK
  refine mtX10_days (List.forall_mem_cons.mpr ⟨rfl, List.forall_mem_cons.mpr ⟨rfl, fun _ h => absurd h List.not_mem_nil⟩⟩) (by simp) rfl (fun P hP => ?_)
  show P 0 [.ref 100, .int v] [] n mem
  refine hP _ _ _ _ _ ?_
  refine hP _ _ _ _ _ ?_
  refine hP _ _ _ _ _ ⟨fun h2 => ?_, fun h2 => ?_⟩
  ·
    refine hP _ _ _ _ _ ?_
    refine hP _ _ _ _ _ ?_
    exact ⟨rfl, by simpa [isin, h2] using hQ⟩
  ·
    refine hP _ _ _ _ _ ?_
    refine hP _ _ _ _ _ ?_
    refine hP _ _ _ _ _ ⟨fun h8 => ?_, fun h8 => ?_⟩
    ·
      refine hP _ _ _ _ _ ?_
      refine hP _ _ _ _ _ ?_
      exact ⟨rfl, by simpa [isin, h2, h8] using hQ⟩
    ·
      refine hP _ _ _ _ _ ?_
      refine hP _ _ _ _ _ ⟨(zi hn rfl rfl rfl), _, fx_Book_log hF, (by decide), ?_⟩
      refine hP _ _ _ _ _ ⟨(zi hn rfl rfl rfl), ?_⟩
      refine hP _ _ _ _ _ ?_
      refine hP _ _ _ _ _ ?_
      refine hP _ _ _ _ _ ?_
      refine hP _ _ _ _ _ ⟨fun h23 => ?_, fun h23 => ?_⟩
      ·
        refine hP _ _ _ _ _ ?_
        refine hP _ _ _ _ _ ⟨(zi hn rfl rfl rfl), _, fx_Book_log hF, (by decide), ?_⟩
        refine hP _ _ _ _ _ ?_
        refine hP _ _ _ _ _ ⟨(zi hn rfl rfl rfl), ?_⟩
        refine hP _ _ _ _ _ ?_
        refine hP _ _ _ _ _ ?_
        refine hP _ _ _ _ _ ⟨(zi hn rfl rfl rfl), ?_⟩
        refine hP _ _ _ _ _ ?_
        refine hP _ _ _ _ _ ⟨(zi hn rfl rfl rfl), _, fx_Book_log hF, (by decide), ?_⟩
        refine hP _ _ _ _ _ ⟨(zi hn rfl rfl rfl), ?_⟩
        refine hP _ _ _ _ _ ?_
        exact ⟨rfl, by rw [if_neg (by simp [isin, h2, h8, h23])] at hQ; rw [zI_s]; exact hQ⟩
      ·
        refine hP _ _ _ _ _ ?_
        refine hP _ _ _ _ _ ?_
        exact ⟨rfl, by simpa [isin, h2, h8, h23] using hQ⟩
def nowC (mem : zM) (t : Nat) (w : Int32) : Int32 :=
  if w = nI 0 then mem.1 t 1 else if w = nI 1 then mem.1 t 2 else if w = nI 2 then mem.1 108 5 else if w = nI 3 then mem.1 108 6 else if w = nI 4 then mem.1 100 6 else if w = nI 5 then mem.1 t 3 else if w = nI 6 then deadM (mem.1 113) (mem.1 108 5) 8 else if w = nI 7 then mem.1 101 1 else -1
def k_X10_now : zCt := fun as n mem Q => ∃ (w : Int32) (t : Nat), as = [.ref 100, .int w] ∧ zst n mem ∧ zTd mem t ∧ Q (some (.int (nowC mem t w))) n mem
theorem ok_X10_now {l : Launch} {G : zG} : zOK l G yX10_now cX10_now 2 (some .int) 1 0 0 k_X10_now := by
  intro as n mem Q hK
  obtain ⟨w, t, rfl, ⟨hn, hF⟩, ⟨ht, hT⟩, hQ⟩ := hK
  refine mtX10_now ok_X4_deadBy (by decide) (List.forall_mem_cons.mpr ⟨rfl, List.forall_mem_cons.mpr ⟨rfl, fun _ h => absurd h List.not_mem_nil⟩⟩) (by simp) rfl (fun P hP => ?_)
  show P 0 [.ref 100, .int w] [] n mem
  refine hP _ _ _ _ _ ?_
  refine hP _ _ _ _ _ ⟨fun i1 hi1 hx1 => ?_, fun h1 => ?_⟩
  ·
    have hi1 : i1 < 8 := hi1
    rcases (show i1 = 0 ∨ i1 = 1 ∨ i1 = 2 ∨ i1 = 3 ∨ i1 = 4 ∨ i1 = 5 ∨ i1 = 6 ∨ i1 = 7 by omega) with rfl | rfl | rfl | rfl | rfl | rfl | rfl | rfl
    ·
      refine hP _ _ _ _ _ ?_
      refine hP _ _ _ _ _ ⟨(zi hn rfl rfl rfl), _, ht, (by omega), ?_⟩
      refine hP _ _ _ _ _ ⟨(ztT hn hT), ?_⟩
      refine hP _ _ _ _ _ ?_
      exact ⟨rfl, by rw [hx1] at hQ; exact hQ⟩
    ·
      refine hP _ _ _ _ _ ?_
      refine hP _ _ _ _ _ ⟨(zi hn rfl rfl rfl), _, ht, (by omega), ?_⟩
      refine hP _ _ _ _ _ ⟨(ztT hn hT), ?_⟩
      refine hP _ _ _ _ _ ?_
      exact ⟨rfl, by rw [hx1] at hQ; exact hQ⟩
    ·
      refine hP _ _ _ _ _ ?_
      refine hP _ _ _ _ _ ⟨(zi hn rfl rfl rfl), _, fx_Book_log hF, (by decide), ?_⟩
      refine hP _ _ _ _ _ ⟨(zi hn rfl rfl rfl), ?_⟩
      refine hP _ _ _ _ _ ?_
      exact ⟨rfl, by rw [hx1] at hQ; exact hQ⟩
    ·
      refine hP _ _ _ _ _ ?_
      refine hP _ _ _ _ _ ⟨(zi hn rfl rfl rfl), _, fx_Book_log hF, (by decide), ?_⟩
      refine hP _ _ _ _ _ ⟨(zi hn rfl rfl rfl), ?_⟩
      refine hP _ _ _ _ _ ?_
      exact ⟨rfl, by rw [hx1] at hQ; exact hQ⟩
    ·
      refine hP _ _ _ _ _ ?_
      refine hP _ _ _ _ _ ⟨(zi hn rfl rfl rfl), ?_⟩
      refine hP _ _ _ _ _ ?_
      exact ⟨rfl, by rw [hx1] at hQ; exact hQ⟩
    ·
      refine hP _ _ _ _ _ ?_
      refine hP _ _ _ _ _ ⟨(zi hn rfl rfl rfl), _, ht, (by omega), ?_⟩
      refine hP _ _ _ _ _ ⟨(ztT hn hT), ?_⟩
      refine hP _ _ _ _ _ ?_
      exact ⟨rfl, by rw [hx1] at hQ; exact hQ⟩
    ·
      refine hP _ _ _ _ _ ?_
      refine hP _ _ _ _ _ ⟨(zi hn rfl rfl rfl), _, fx_Book_log hF, (by decide), ?_⟩
      refine hP _ _ _ _ _ ?_
      refine hP _ _ _ _ _ ⟨(zi hn rfl rfl rfl), _, fx_Book_log hF, (by decide), ?_⟩
      refine hP _ _ _ _ _ ⟨(zi hn rfl rfl rfl), ?_⟩
      refine hP _ _ _ _ _ ⟨(zi hn rfl rfl rfl), Nat.le_of_ble_eq_true rfl, Nat.le_of_ble_eq_true rfl, ?_⟩
      refine ⟨_, rfl, ⟨hn, hF⟩, ?_⟩
      refine hP _ _ _ _ _ ?_
      exact ⟨rfl, by rw [hx1] at hQ; exact hQ⟩
    ·
      refine hP _ _ _ _ _ ?_
      refine hP _ _ _ _ _ ⟨(zi hn rfl rfl rfl), _, fx_Book_tape hF, (by decide), ?_⟩
      refine hP _ _ _ _ _ ⟨(zi hn rfl rfl rfl), ?_⟩
      refine hP _ _ _ _ _ ?_
      exact ⟨rfl, by rw [hx1] at hQ; exact hQ⟩
  ·
    refine hP _ _ _ _ _ ?_
    refine hP _ _ _ _ _ ?_
    exact ⟨rfl, by have o := fun (j : Nat) (hj : j < 8) => out_ne (c := 8) (by omega) h1 hj; unfold nowC at hQ; rw [if_neg (o 0 (by omega)), if_neg (o 1 (by omega)), if_neg (o 2 (by omega)), if_neg (o 3 (by omega)), if_neg (o 4 (by omega)), if_neg (o 5 (by omega)), if_neg (o 6 (by omega)), if_neg (o 7 (by omega))] at hQ; exact hQ⟩
def k_X10_entry : zCt := fun as n mem Q => ∃ (p w : Int32) (t np pw m na : Nat), as = [.ref 100, .int p, .int w] ∧ zCs n mem t np pw m na ∧ Q (some (.int (if inC p (mem.1 t 2) = false ∨ isin w 0 2 = false then -1 else mem.1 (t + 2 + ix p) (11 + ix w)))) n mem
theorem in2_no {w : Int32} {c : Nat} (hc : c < 1000) (h : w < 0 ∨ nI (c + 1) ≤ w) : isin w 0 (nI c) = false := by
  cases hb : isin w 0 (nI c) with
  | false => rfl
  | true =>
    obtain ⟨k, hk, rfl⟩ := isin_N (by omega) hb
    exact absurd rfl (out_ne (c := c + 1) (by omega) h (j := k) (by omega))
theorem in2_y {c k : Nat} (hc : c < 1000) (h : k ≤ c) : isin (nI k) 0 (nI c) = true := decide_eq_true ⟨nI_pos (by omega), nI_nlt h (by omega)⟩
theorem ok_X10_entry {l : Launch} {G : zG} : zOK l G yX10_entry cX10_entry 4 (some .int) 1 0 0 k_X10_entry := by
  intro as n mem Q hK
  obtain ⟨p, w, t, np, pw, m, na, rfl, ⟨⟨hn, hF⟩, ht, hTl, hU, ⟨hm, hN⟩, hna, hna16⟩, hQ⟩ := hK
  refine mtX10_entry ok_X10_isPower (by decide) (List.forall_mem_cons.mpr ⟨rfl, List.forall_mem_cons.mpr ⟨rfl, List.forall_mem_cons.mpr ⟨rfl, fun _ h => absurd h List.not_mem_nil⟩⟩⟩) (by simp) rfl (fun P hP => ?_)
  show P 0 [.ref 100, .int p, .int w, .null] [] n mem
  obtain ⟨hT, hnp, hnp8, hpw, hw, hPs⟩ := id hTl
  refine hP _ _ _ _ _ ?_
  refine hP _ _ _ _ _ ?_
  refine hP _ _ _ _ _ ⟨(zi hn rfl rfl rfl), Nat.le_of_ble_eq_true rfl, Nat.le_of_ble_eq_true rfl, ?_⟩
  refine ⟨_, t, rfl, ⟨hn, hF⟩, ⟨ht, hT⟩, ?_⟩
  refine hP _ _ _ _ _ ⟨fun h5 => ?_, fun h5 => ?_⟩
  ·
    have h5 := zb_0.mp h5
    refine hP _ _ _ _ _ ?_
    refine hP _ _ _ _ _ ?_
    exact ⟨rfl, by rw [if_pos (Or.inl h5)] at hQ; exact hQ⟩
  ·
    have h5 := zb_n.mp h5
    obtain ⟨j, hj, rfl⟩ := inC_nI (by omega) (hpw ▸ h5)
    have hx := ix_nI (j := j) (by omega)
    refine hP _ _ _ _ _ ?_
    refine hP _ _ _ _ _ ⟨(zi hn rfl rfl rfl), _, ht, (by omega), ?_⟩
    refine hP _ _ _ _ _ ⟨(ztT hn hT), _, (fx_tp hF hT), (by omega), ?_⟩
    refine hP _ _ _ _ _ ?_
    refine hP _ _ _ _ _ ⟨_, j, (ztA hn hT), rfl, by omega, _, (fx_pw hF hT (by omega)), (by omega), ?_⟩
    refine hP _ _ _ _ _ ?_
    refine hP _ _ _ _ _ ?_
    refine hP _ _ _ _ _ ⟨fun i21 hi21 hx21 => ?_, fun h21 => ?_⟩
    ·
      have hi21 : i21 < 3 := hi21
      rcases (show i21 = 0 ∨ i21 = 1 ∨ i21 = 2 by omega) with rfl | rfl | rfl
      ·
        refine hP _ _ _ _ _ ?_
        refine hP _ _ _ _ _ ⟨(ztP hn hT (by omega)), ?_⟩
        refine hP _ _ _ _ _ ?_
        exact ⟨rfl, by rw [hx21, hx, if_neg (fun z => z.elim (fun y => by rw [h5] at y; cases y) (fun y => absurd y (by decide)))] at hQ; exact hQ⟩
      ·
        refine hP _ _ _ _ _ ?_
        refine hP _ _ _ _ _ ⟨(ztP hn hT (by omega)), ?_⟩
        refine hP _ _ _ _ _ ?_
        exact ⟨rfl, by rw [hx21, hx, if_neg (fun z => z.elim (fun y => by rw [h5] at y; cases y) (fun y => absurd y (by decide)))] at hQ; exact hQ⟩
      ·
        refine hP _ _ _ _ _ ?_
        refine hP _ _ _ _ _ ⟨(ztP hn hT (by omega)), ?_⟩
        refine hP _ _ _ _ _ ?_
        exact ⟨rfl, by rw [hx21, hx, if_neg (fun z => z.elim (fun y => by rw [h5] at y; cases y) (fun y => absurd y (by decide)))] at hQ; exact hQ⟩
    ·
      refine hP _ _ _ _ _ ?_
      refine hP _ _ _ _ _ ?_
      exact ⟨rfl, by rw [if_pos (Or.inr (show isin w 0 2 = false from in2_no (c := 2) (by omega) h21))] at hQ; exact hQ⟩
def C_finish (mem : zM) (t : Nat) (p : Int32) (m : Nat) (Q : Int32 → zM → Prop) : Prop :=
  if inC p (mem.1 t 2) = false ∨ cfull mem = true then Q (-1) mem
  else if ¬ mem.1 (t + 2 + ix p) 11 = -1 then Q (-2) mem
  else if ¬ mem.1 113 (ix (mem.1 (t + 2 + ix p) 0)) = -1 then Q (-3) mem
  else Q (nI (m + 1)) (zI (cput mem m) (t + 2 + ix p) 11 (nI (m + 1)))
def k_X10_finish : zCt := fun as n mem Q => ∃ (p : Int32) (t np pw m na : Nat), as = [.ref 100, .int p] ∧ zCs n mem t np pw m na ∧ C_finish mem t p m (fun r mem => Q (some (.int r)) n mem)
theorem ok_X10_finish {l : Launch} {G : zG} : zOK l G yX10_finish cX10_finish 3 (some .int) 2 0 0 k_X10_finish := by
  intro as n mem Q hK
  obtain ⟨p, t, np, pw, m, na, rfl, ⟨⟨hn, hF⟩, ht, hTl, hU, ⟨hm, hN⟩, hna, hna16⟩, hQ⟩ := hK
  refine mtX10_finish ok_X10_isPower (by decide) ok_X4_isFull (by decide) ok_X4_putDown (by decide) (List.forall_mem_cons.mpr ⟨rfl, List.forall_mem_cons.mpr ⟨rfl, fun _ h => absurd h List.not_mem_nil⟩⟩) (by simp) rfl (fun P hP => ?_)
  show P 0 [.ref 100, .int p, .null] [] n mem
  obtain ⟨hT, hnp, hnp8, hpw, hw, hPs⟩ := id hTl
  unfold C_finish at hQ
  refine hP _ _ _ _ _ ?_
  refine hP _ _ _ _ _ ?_
  refine hP _ _ _ _ _ ⟨(zi hn rfl rfl rfl), Nat.le_of_ble_eq_true rfl, Nat.le_of_ble_eq_true rfl, ?_⟩
  refine ⟨_, t, rfl, ⟨hn, hF⟩, ⟨ht, hT⟩, ?_⟩
  refine hP _ _ _ _ _ ⟨fun h5 => ?_, fun h5 => ?_⟩
  ·
    have h5 := zb_0.mp h5
    refine hP _ _ _ _ _ ?_
    refine hP _ _ _ _ _ ?_
    exact ⟨rfl, by rw [if_pos (by simp [h5])] at hQ; exact hQ⟩
  ·
    have h5 := zb_n.mp h5
    refine hP _ _ _ _ _ ?_
    refine hP _ _ _ _ _ ⟨(zi hn rfl rfl rfl), _, fx_Book_log hF, (by decide), ?_⟩
    refine hP _ _ _ _ _ ⟨(zi hn rfl rfl rfl), Nat.le_of_ble_eq_true rfl, Nat.le_of_ble_eq_true rfl, ?_⟩
    refine ⟨rfl, ⟨hn, hF⟩, ?_⟩
    refine hP _ _ _ _ _ ⟨fun h15 => ?_, fun h15 => ?_⟩
    ·
      have h15 := zb_0.mp h15
      obtain ⟨j, hj, rfl⟩ := inC_nI (by omega) (hpw ▸ h5)
      have hx := ix_nI (j := j) (by omega)
      obtain ⟨⟨g, hg8, hg⟩, -⟩ := hPs j hj
      have hm3 := cfull_m hm hN.1 h15
      rw [hx, hg, ix_nI (j := g) (by omega), if_neg (by rw [h5, h15]; simp)] at hQ
      refine hP _ _ _ _ _ ?_
      refine hP _ _ _ _ _ ⟨(zi hn rfl rfl rfl), _, ht, (by omega), ?_⟩
      refine hP _ _ _ _ _ ⟨(ztT hn hT), _, (fx_tp hF hT), (by omega), ?_⟩
      refine hP _ _ _ _ _ ?_
      refine hP _ _ _ _ _ ⟨_, j, (ztA hn hT), rfl, by omega, _, (fx_pw hF hT (by omega)), (by omega), ?_⟩
      refine hP _ _ _ _ _ ?_
      refine hP _ _ _ _ _ ?_
      refine hP _ _ _ _ _ ⟨(ztP hn hT (by omega)), ?_⟩
      refine hP _ _ _ _ _ ?_
      refine hP _ _ _ _ _ ⟨fun h35 => ?_, fun h35 => ?_⟩
      ·
        refine hP _ _ _ _ _ ?_
        refine hP _ _ _ _ _ ⟨(zi hn rfl rfl rfl), _, fx_Book_log hF, (by decide), ?_⟩
        refine hP _ _ _ _ _ ⟨(zi hn rfl rfl rfl), _, fx_Log_diedAt hF, (by decide), ?_⟩
        refine hP _ _ _ _ _ ?_
        refine hP _ _ _ _ _ ⟨(ztP hn hT (by omega)), ?_⟩
        refine hP _ _ _ _ _ ⟨_, g, (zi hn rfl rfl rfl), hg, by omega, ?_⟩
        refine hP _ _ _ _ _ ?_
        refine hP _ _ _ _ _ ⟨fun h54 => ?_, fun h54 => ?_⟩
        ·
          refine hP _ _ _ _ _ ?_
          refine hP _ _ _ _ _ ?_
          refine hP _ _ _ _ _ ⟨(zi hn rfl rfl rfl), _, fx_Book_log hF, (by decide), ?_⟩
          refine hP _ _ _ _ _ ⟨(zi hn rfl rfl rfl), Nat.le_of_ble_eq_true rfl, Nat.le_of_ble_eq_true rfl, ?_⟩
          refine ⟨m, rfl, ⟨hn, hF⟩, hm, hm3, ?_⟩
          refine hP _ _ _ _ _ ⟨(ztP hn hT (by omega)), ?_⟩
          refine hP _ _ _ _ _ ?_
          refine hP _ _ _ _ _ ⟨(ztP hn hT (by omega)), ?_⟩
          refine hP _ _ _ _ _ ?_
          exact ⟨rfl, by rw [if_neg (fun z => z h35), if_neg (fun z => z h54)] at hQ; rw [zI_s]; exact hQ⟩
        ·
          refine hP _ _ _ _ _ ?_
          refine hP _ _ _ _ _ ?_
          exact ⟨rfl, by rw [if_neg (fun z => z h35), if_pos h54] at hQ; exact hQ⟩
      ·
        refine hP _ _ _ _ _ ?_
        refine hP _ _ _ _ _ ?_
        exact ⟨rfl, by rw [if_pos h35] at hQ; exact hQ⟩
    ·
      have h15 := zb_n.mp h15
      refine hP _ _ _ _ _ ?_
      refine hP _ _ _ _ _ ?_
      exact ⟨rfl, by rw [if_pos (by simp [h5, h15])] at hQ; exact hQ⟩
def C_die (mem : zM) (t : Nat) (p : Int32) (m : Nat) (Q : Int32 → zM → Prop) : Prop :=
  if inC p (mem.1 t 1) = false ∨ cfull mem = true then Q (-1) mem
  else if ¬ mem.1 113 (ix p) = -1 then Q (-2) mem
  else Q (nI (m + 1)) (zI (cput mem m) 113 (ix p) (nI (m + 1)))
def k_X10_die : zCt := fun as n mem Q => ∃ (p : Int32) (t np pw m na : Nat), as = [.ref 100, .int p] ∧ zCs n mem t np pw m na ∧ C_die mem t p m (fun r mem => Q (some (.int r)) n mem)
theorem ok_X10_die {l : Launch} {G : zG} : zOK l G yX10_die cX10_die 2 (some .int) 2 0 0 k_X10_die := by
  intro as n mem Q hK
  obtain ⟨p, t, np, pw, m, na, rfl, ⟨⟨hn, hF⟩, ht, hTl, hU, ⟨hm, hN⟩, hna, hna16⟩, hQ⟩ := hK
  refine mtX10_die ok_X10_isParty (by decide) ok_X4_isFull (by decide) ok_X4_putDown (by decide) (List.forall_mem_cons.mpr ⟨rfl, List.forall_mem_cons.mpr ⟨rfl, fun _ h => absurd h List.not_mem_nil⟩⟩) (by simp) rfl (fun P hP => ?_)
  show P 0 [.ref 100, .int p] [] n mem
  obtain ⟨hT, hnp, hnp8, hpw, hw, hPs⟩ := id hTl
  unfold C_die at hQ
  refine hP _ _ _ _ _ ?_
  refine hP _ _ _ _ _ ?_
  refine hP _ _ _ _ _ ⟨(zi hn rfl rfl rfl), Nat.le_of_ble_eq_true rfl, Nat.le_of_ble_eq_true rfl, ?_⟩
  refine ⟨_, t, rfl, ⟨hn, hF⟩, ⟨ht, hT⟩, ?_⟩
  refine hP _ _ _ _ _ ⟨fun h5 => ?_, fun h5 => ?_⟩
  ·
    have h5 := zb_0.mp h5
    refine hP _ _ _ _ _ ?_
    refine hP _ _ _ _ _ ?_
    exact ⟨rfl, by rw [if_pos (by simp [h5])] at hQ; exact hQ⟩
  ·
    have h5 := zb_n.mp h5
    refine hP _ _ _ _ _ ?_
    refine hP _ _ _ _ _ ⟨(zi hn rfl rfl rfl), _, fx_Book_log hF, (by decide), ?_⟩
    refine hP _ _ _ _ _ ⟨(zi hn rfl rfl rfl), Nat.le_of_ble_eq_true rfl, Nat.le_of_ble_eq_true rfl, ?_⟩
    refine ⟨rfl, ⟨hn, hF⟩, ?_⟩
    refine hP _ _ _ _ _ ⟨fun h15 => ?_, fun h15 => ?_⟩
    ·
      have h15 := zb_0.mp h15
      obtain ⟨j, hj, rfl⟩ := inC_nI (by omega) (hnp ▸ h5)
      have hx := ix_nI (j := j) (by omega)
      have hm3 := cfull_m hm hN.1 h15
      rw [hx, if_neg (by rw [h5, h15]; simp)] at hQ
      refine hP _ _ _ _ _ ?_
      refine hP _ _ _ _ _ ⟨(zi hn rfl rfl rfl), _, fx_Book_log hF, (by decide), ?_⟩
      refine hP _ _ _ _ _ ⟨(zi hn rfl rfl rfl), _, fx_Log_diedAt hF, (by decide), ?_⟩
      refine hP _ _ _ _ _ ?_
      refine hP _ _ _ _ _ ⟨_, j, (zi hn rfl rfl rfl), rfl, by omega, ?_⟩
      refine hP _ _ _ _ _ ?_
      refine hP _ _ _ _ _ ⟨fun h30 => ?_, fun h30 => ?_⟩
      ·
        refine hP _ _ _ _ _ ?_
        refine hP _ _ _ _ _ ⟨(zi hn rfl rfl rfl), _, fx_Book_log hF, (by decide), ?_⟩
        refine hP _ _ _ _ _ ⟨(zi hn rfl rfl rfl), _, fx_Log_diedAt hF, (by decide), ?_⟩
        refine hP _ _ _ _ _ ?_
        refine hP _ _ _ _ _ ?_
        refine hP _ _ _ _ _ ⟨(zi hn rfl rfl rfl), _, fx_Book_log hF, (by decide), ?_⟩
        refine hP _ _ _ _ _ ⟨(zi hn rfl rfl rfl), Nat.le_of_ble_eq_true rfl, Nat.le_of_ble_eq_true rfl, ?_⟩
        refine ⟨m, rfl, ⟨hn, hF⟩, hm, hm3, ?_⟩
        refine hP _ _ _ _ _ ⟨_, j, (zi hn rfl rfl rfl), rfl, by omega, ?_⟩
        refine hP _ _ _ _ _ ?_
        refine hP _ _ _ _ _ ⟨(zi hn rfl rfl rfl), _, fx_Book_log hF, (by decide), ?_⟩
        refine hP _ _ _ _ _ ⟨(zi hn rfl rfl rfl), _, fx_Log_diedAt hF, (by decide), ?_⟩
        refine hP _ _ _ _ _ ?_
        refine hP _ _ _ _ _ ⟨_, j, (zi hn rfl rfl rfl), rfl, by omega, ?_⟩
        refine hP _ _ _ _ _ ?_
        exact ⟨rfl, by rw [if_neg (fun z => z h30)] at hQ; rw [zI_s]; exact hQ⟩
      ·
        refine hP _ _ _ _ _ ?_
        refine hP _ _ _ _ _ ?_
        exact ⟨rfl, by rw [if_pos h30] at hQ; exact hQ⟩
    ·
      have h15 := zb_n.mp h15
      refine hP _ _ _ _ _ ?_
      refine hP _ _ _ _ _ ?_
      exact ⟨rfl, by rw [if_pos (by simp [h5, h15])] at hQ; exact hQ⟩
def C_enter1 (mem : zM) (x m : Nat) (Q : Int32 → zM → Prop) : Prop :=
  if ¬ mem.1 x 12 = -1 then Q (-2) mem
  else if ¬ mem.1 x 11 = -1 then Q (-3) mem
  else Q (nI (m + 1)) (zI (cput mem m) x 12 (nI (m + 1)))
def k_X10_enterStart : zCt := fun as n mem Q => ∃ (x m : Nat), as = [.ref 100, .ref x] ∧ zst n mem ∧ zis n x (.inl 5) ∧ mem.1 108 5 = nI m ∧ m < 300 ∧ C_enter1 mem x m (fun r mem => Q (some (.int r)) n mem)
theorem ok_X10_enterStart {l : Launch} {G : zG} : zOK l G yX10_enterStart cX10_enterStart 2 (some .int) 2 0 0 k_X10_enterStart := by
  intro as n mem Q hK
  obtain ⟨x, m, rfl, ⟨hn, hF⟩, hx, hm, hm3, hQ⟩ := hK
  refine mtX10_enterStart ok_X4_putDown (by decide) (List.forall_mem_cons.mpr ⟨rfl, List.forall_mem_cons.mpr ⟨rfl, fun _ h => absurd h List.not_mem_nil⟩⟩) (by simp) rfl (fun P hP => ?_)
  show P 0 [.ref 100, .ref x] [] n mem
  unfold C_enter1 at hQ
  refine hP _ _ _ _ _ ?_
  refine hP _ _ _ _ _ ⟨hx, ?_⟩
  refine hP _ _ _ _ _ ?_
  refine hP _ _ _ _ _ ⟨fun h5 => ?_, fun h5 => ?_⟩
  ·
    refine hP _ _ _ _ _ ?_
    refine hP _ _ _ _ _ ⟨hx, ?_⟩
    refine hP _ _ _ _ _ ?_
    refine hP _ _ _ _ _ ⟨fun h16 => ?_, fun h16 => ?_⟩
    ·
      refine hP _ _ _ _ _ ?_
      refine hP _ _ _ _ _ ?_
      refine hP _ _ _ _ _ ⟨(zi hn rfl rfl rfl), _, fx_Book_log hF, (by decide), ?_⟩
      refine hP _ _ _ _ _ ⟨(zi hn rfl rfl rfl), Nat.le_of_ble_eq_true rfl, Nat.le_of_ble_eq_true rfl, ?_⟩
      refine ⟨m, rfl, ⟨hn, hF⟩, hm, hm3, ?_⟩
      refine hP _ _ _ _ _ ⟨hx, ?_⟩
      refine hP _ _ _ _ _ ?_
      refine hP _ _ _ _ _ ⟨hx, ?_⟩
      refine hP _ _ _ _ _ ?_
      exact ⟨rfl, by rw [if_neg (fun z => z h5), if_neg (fun z => z h16)] at hQ; rw [zI_s]; exact hQ⟩
    ·
      refine hP _ _ _ _ _ ?_
      refine hP _ _ _ _ _ ?_
      exact ⟨rfl, by rw [if_neg (fun z => z h5), if_pos h16] at hQ; exact hQ⟩
  ·
    refine hP _ _ _ _ _ ?_
    refine hP _ _ _ _ _ ?_
    exact ⟨rfl, by rw [if_pos h5] at hQ; exact hQ⟩
def C_enter2 (mem : zM) (x m : Nat) (Q : Int32 → zM → Prop) : Prop :=
  if ¬ mem.1 x 13 = -1 then Q (-2) mem
  else if mem.1 x 11 = -1 ∨ mem.1 x 12 = -1 then Q (-3) mem
  else Q (nI (m + 1)) (zI (cput mem m) x 13 (nI (m + 1)))
def k_X10_enterEnd : zCt := fun as n mem Q => ∃ (x m : Nat), as = [.ref 100, .ref x] ∧ zst n mem ∧ zis n x (.inl 5) ∧ mem.1 108 5 = nI m ∧ m < 300 ∧ C_enter2 mem x m (fun r mem => Q (some (.int r)) n mem)
theorem ok_X10_enterEnd {l : Launch} {G : zG} : zOK l G yX10_enterEnd cX10_enterEnd 2 (some .int) 2 0 0 k_X10_enterEnd := by
  intro as n mem Q hK
  obtain ⟨x, m, rfl, ⟨hn, hF⟩, hx, hm, hm3, hQ⟩ := hK
  refine mtX10_enterEnd ok_X4_putDown (by decide) (List.forall_mem_cons.mpr ⟨rfl, List.forall_mem_cons.mpr ⟨rfl, fun _ h => absurd h List.not_mem_nil⟩⟩) (by simp) rfl (fun P hP => ?_)
  show P 0 [.ref 100, .ref x] [] n mem
  unfold C_enter2 at hQ
  refine hP _ _ _ _ _ ?_
  refine hP _ _ _ _ _ ⟨hx, ?_⟩
  refine hP _ _ _ _ _ ?_
  refine hP _ _ _ _ _ ⟨fun h5 => ?_, fun h5 => ?_⟩
  ·
    refine hP _ _ _ _ _ ?_
    refine hP _ _ _ _ _ ⟨hx, ?_⟩
    refine hP _ _ _ _ _ ?_
    refine hP _ _ _ _ _ ⟨fun h16 => ?_, fun h16 => ?_⟩
    ·
      refine hP _ _ _ _ _ ?_
      refine hP _ _ _ _ _ ?_
      exact ⟨rfl, by rw [if_neg (fun z => z h5), if_pos (by first | exact Or.inl h16 | exact Or.inr h24)] at hQ; exact hQ⟩
    ·
      refine hP _ _ _ _ _ ?_
      refine hP _ _ _ _ _ ⟨hx, ?_⟩
      refine hP _ _ _ _ _ ?_
      refine hP _ _ _ _ _ ⟨fun h24 => ?_, fun h24 => ?_⟩
      ·
        refine hP _ _ _ _ _ ?_
        refine hP _ _ _ _ _ ?_
        exact ⟨rfl, by rw [if_neg (fun z => z h5), if_pos (by first | exact Or.inl h16 | exact Or.inr h24)] at hQ; exact hQ⟩
      ·
        refine hP _ _ _ _ _ ?_
        refine hP _ _ _ _ _ ?_
        refine hP _ _ _ _ _ ⟨(zi hn rfl rfl rfl), _, fx_Book_log hF, (by decide), ?_⟩
        refine hP _ _ _ _ _ ⟨(zi hn rfl rfl rfl), Nat.le_of_ble_eq_true rfl, Nat.le_of_ble_eq_true rfl, ?_⟩
        refine ⟨m, rfl, ⟨hn, hF⟩, hm, hm3, ?_⟩
        refine hP _ _ _ _ _ ⟨hx, ?_⟩
        refine hP _ _ _ _ _ ?_
        refine hP _ _ _ _ _ ⟨hx, ?_⟩
        refine hP _ _ _ _ _ ?_
        exact ⟨rfl, by rw [if_neg (fun z => z h5), if_neg (fun z => z.elim h16 h24)] at hQ; rw [zI_s]; exact hQ⟩
  ·
    refine hP _ _ _ _ _ ?_
    refine hP _ _ _ _ _ ?_
    exact ⟨rfl, by rw [if_pos h5] at hQ; exact hQ⟩
theorem mono1 {mem : zM} {x m : Nat} {Q Q' : Int32 → zM → Prop} (h : ∀ r M, Q r M → Q' r M) (hc : C_enter1 mem x m Q) : C_enter1 mem x m Q' := by
  unfold C_enter1 at hc ⊢
  split at hc
  · rw [if_pos (by assumption)]; exact h _ _ hc
  · rw [if_neg (by assumption)]
    split at hc
    · rw [if_pos (by assumption)]; exact h _ _ hc
    · rw [if_neg (by assumption)]; exact h _ _ hc
theorem mono2 {mem : zM} {x m : Nat} {Q Q' : Int32 → zM → Prop} (h : ∀ r M, Q r M → Q' r M) (hc : C_enter2 mem x m Q) : C_enter2 mem x m Q' := by
  unfold C_enter2 at hc ⊢
  split at hc
  · rw [if_pos (by assumption)]; exact h _ _ hc
  · rw [if_neg (by assumption)]
    split at hc
    · rw [if_pos (by assumption)]; exact h _ _ hc
    · rw [if_neg (by assumption)]; exact h _ _ hc
def k_X10_enter : zCt := fun as n mem Q => ∃ (p e : Int32) (t np pw m na : Nat), as = [.ref 100, .int p, .int e] ∧ zCs n mem t np pw m na ∧ (if inC p (mem.1 t 2) = false ∨ cfull mem = true then Q (some (.int (-1))) n mem else if e = 0 then C_enter1 mem (t + 2 + ix p) m (fun r mem => Q (some (.int r)) n mem) else C_enter2 mem (t + 2 + ix p) m (fun r mem => Q (some (.int r)) n mem))
theorem ok_X10_enter {l : Launch} {G : zG} : zOK l G yX10_enter cX10_enter 3 (some .int) 3 0 0 k_X10_enter := by
  intro as n mem Q hK
  obtain ⟨p, e, t, np, pw, m, na, rfl, ⟨⟨hn, hF⟩, ht, hTl, hU, ⟨hm, hN⟩, hna, hna16⟩, hQ⟩ := hK
  refine mtX10_enter ok_X10_isPower (by decide) ok_X4_isFull (by decide) ok_X10_enterEnd (by decide) ok_X10_enterStart (by decide) (List.forall_mem_cons.mpr ⟨rfl, List.forall_mem_cons.mpr ⟨rfl, List.forall_mem_cons.mpr ⟨rfl, fun _ h => absurd h List.not_mem_nil⟩⟩⟩) (by simp) rfl (fun P hP => ?_)
  show P 0 [.ref 100, .int p, .int e] [] n mem
  obtain ⟨hT, hnp, hnp8, hpw, hw, hPs⟩ := id hTl
  refine hP _ _ _ _ _ ?_
  refine hP _ _ _ _ _ ?_
  refine hP _ _ _ _ _ ⟨(zi hn rfl rfl rfl), Nat.le_of_ble_eq_true rfl, Nat.le_of_ble_eq_true rfl, ?_⟩
  refine ⟨_, t, rfl, ⟨hn, hF⟩, ⟨ht, hT⟩, ?_⟩
  refine hP _ _ _ _ _ ⟨fun h5 => ?_, fun h5 => ?_⟩
  ·
    have h5 := zb_0.mp h5
    refine hP _ _ _ _ _ ?_
    refine hP _ _ _ _ _ ?_
    exact ⟨rfl, by rw [if_pos (by simp [h5])] at hQ; exact hQ⟩
  ·
    have h5 := zb_n.mp h5
    refine hP _ _ _ _ _ ?_
    refine hP _ _ _ _ _ ⟨(zi hn rfl rfl rfl), _, fx_Book_log hF, (by decide), ?_⟩
    refine hP _ _ _ _ _ ⟨(zi hn rfl rfl rfl), Nat.le_of_ble_eq_true rfl, Nat.le_of_ble_eq_true rfl, ?_⟩
    refine ⟨rfl, ⟨hn, hF⟩, ?_⟩
    refine hP _ _ _ _ _ ⟨fun h15 => ?_, fun h15 => ?_⟩
    ·
      have h15 := zb_0.mp h15
      obtain ⟨j, hj, rfl⟩ := inC_nI (by omega) (hpw ▸ h5)
      have hx := ix_nI (j := j) (by omega)
      have hm3 := cfull_m hm hN.1 h15
      rw [hx, if_neg (by rw [h5, h15]; simp)] at hQ
      refine hP _ _ _ _ _ ?_
      refine hP _ _ _ _ _ ⟨fun h21 => ?_, fun h21 => ?_⟩
      ·
        refine hP _ _ _ _ _ ?_
        refine hP _ _ _ _ _ ?_
        refine hP _ _ _ _ _ ⟨(zi hn rfl rfl rfl), _, ht, (by omega), ?_⟩
        refine hP _ _ _ _ _ ⟨(ztT hn hT), _, (fx_tp hF hT), (by omega), ?_⟩
        refine hP _ _ _ _ _ ?_
        refine hP _ _ _ _ _ ⟨_, j, (ztA hn hT), rfl, by omega, _, (fx_pw hF hT (by omega)), (by omega), ?_⟩
        refine hP _ _ _ _ _ ⟨(zi hn rfl rfl rfl), Nat.le_of_ble_eq_true rfl, Nat.le_of_ble_eq_true rfl, ?_⟩
        rw [if_pos h21] at hQ
        refine ⟨_, m, rfl, ⟨hn, hF⟩, ztP hn hT (by omega), hm, hm3, ?_⟩
        refine mono1 (fun r M h => ?_) hQ
        refine hP _ _ _ _ _ ?_
        exact ⟨rfl, h⟩
      ·
        refine hP _ _ _ _ _ ?_
        refine hP _ _ _ _ _ ?_
        refine hP _ _ _ _ _ ⟨(zi hn rfl rfl rfl), _, ht, (by omega), ?_⟩
        refine hP _ _ _ _ _ ⟨(ztT hn hT), _, (fx_tp hF hT), (by omega), ?_⟩
        refine hP _ _ _ _ _ ?_
        refine hP _ _ _ _ _ ⟨_, j, (ztA hn hT), rfl, by omega, _, (fx_pw hF hT (by omega)), (by omega), ?_⟩
        refine hP _ _ _ _ _ ⟨(zi hn rfl rfl rfl), Nat.le_of_ble_eq_true rfl, Nat.le_of_ble_eq_true rfl, ?_⟩
        rw [if_neg h21] at hQ
        refine ⟨_, m, rfl, ⟨hn, hF⟩, ztP hn hT (by omega), hm, hm3, ?_⟩
        refine mono2 (fun r M h => ?_) hQ
        refine hP _ _ _ _ _ ?_
        refine hP _ _ _ _ _ ?_
        exact ⟨rfl, h⟩
    ·
      have h15 := zb_n.mp h15
      refine hP _ _ _ _ _ ?_
      refine hP _ _ _ _ _ ?_
      exact ⟨rfl, by rw [if_pos (by simp [h5, h15])] at hQ; exact hQ⟩
