def ix (p : Int32) : Nat := p.toNatClampNeg
theorem ix_nI {j : Nat} (h : j < 2 ^ 31) : ix (nI j) = j := nI_clamp h
theorem isin_nI {p : Int32} {c : Nat} (hc : c ≤ 2000) (h : isin p 0 (nI c - 1) = true) : ∃ j, j < c ∧ p = nI j := by
  have h' := of_decide_eq_true h
  obtain ⟨j, hj, rfl⟩ := nI_of h'.1
  cases c with
  | zero =>
    exfalso
    apply h'.2
    have : nI 0 - 1 < nI 0 := by decide
    rcases Nat.eq_zero_or_pos j with q | q
    · rw [q]; exact this
    · exact Int32.lt_trans this (nI_lt q hj)
  | succ c =>
    rw [nI_pred] at h'
    refine ⟨j, ?_, rfl⟩
    rcases Nat.lt_or_ge c j with q | q
    · exact absurd (nI_lt q hj) h'.2
    · omega
theorem isin_N {p : Int32} {c : Nat} (hc : c ≤ 1000) (h : isin p 0 (nI c) = true) : ∃ j, j ≤ c ∧ p = nI j := by
  have := isin_nI (c := c + 1) (p := p) (by omega) (by rw [nI_pred]; exact h)
  obtain ⟨j, hj, e⟩ := this
  exact ⟨j, by omega, e⟩
def mfull (mem : zM) : Bool := decide (mem.1 180 27 = 300)
def k_X11_isFull : zCt := fun as n mem Q => as = [.ref 180] ∧ zst n mem ∧ Q (some (.int (zb (mfull mem)))) n mem
theorem ok_X11_isFull {l : Launch} {G : zG} : zOK l G yX11_isFull cX11_isFull 1 (some .boolean) 0 0 0 k_X11_isFull := by
  intro as n mem Q hK
  obtain ⟨rfl, ⟨hn, hF⟩, hQ⟩ := hK
  refine mtX11_isFull (List.forall_mem_cons.mpr ⟨rfl, fun _ h => absurd h List.not_mem_nil⟩) (by simp) rfl (fun P hP => ?_)
  show P 0 [.ref 180] [] n mem
  refine hP _ _ _ _ _ ?_
  refine hP _ _ _ _ _ ⟨(zi hn rfl rfl rfl), ?_⟩
  refine hP _ _ _ _ _ ?_
  refine hP _ _ _ _ _ ⟨fun h7 => ?_, fun h7 => ?_⟩
  ·
    refine hP _ _ _ _ _ ?_
    refine hP _ _ _ _ _ ?_
    refine hP _ _ _ _ _ ?_
    exact ⟨by decide, rfl, by simpa [zb, mfull, h7] using hQ⟩
  ·
    refine hP _ _ _ _ _ ?_
    refine hP _ _ _ _ _ ?_
    exact ⟨by decide, rfl, by simpa [zb, mfull, h7] using hQ⟩
/-- the reference's counts -/
def zMc (mem : zM) (np pw m na : Nat) : Prop := mem.1 180 13 = nI np ∧ np ≤ 8 ∧ mem.1 180 15 = nI pw ∧ pw ≤ 20 ∧ mem.1 180 27 = nI m ∧ m ≤ 300 ∧ mem.1 180 29 = nI na ∧ na ≤ 16
/-- a thing is put down -/
def zput (mem : zM) (m : Nat) : zM := zI (zI mem 180 27 (nI (m + 1))) 184 (m + 1) (mem.1 180 28)
/-- who gives a power is a party -/
def zGv (mem : zM) (pw : Nat) : Prop := ∀ j, j < pw → ∃ g, g < 8 ∧ mem.1 182 (8 * j) = nI g
/-- in whose name an act is, is a party -/
def zNv (mem : zM) (na : Nat) : Prop := ∀ a, a < na → ∃ g, g < 8 ∧ mem.1 191 (9 * a + 1) = nI g
theorem full_lt {mem : zM} {m : Nat} (h5 : mem.1 180 27 = nI m) (h6 : m ≤ 300) (h : mfull mem = false) : m < 300 := by
  rcases Nat.lt_or_ge m 300 with q | q
  · exact q
  · have : m = 300 := by omega
    subst this
    exact absurd h5 (of_decide_eq_false h)
def k_X11_days : zCt := fun as n mem Q => ∃ (v : Int32), as = [.ref 180, .int v] ∧ zst n mem ∧ (fun mem : zM => if isin v 1 99 = false ∨ ¬ mem.1 180 28 + v ≤ 999 then Q (some (.int (-1))) n mem else Q (some (.int (mem.1 180 28 + v))) n (zI mem 180 28 (mem.1 180 28 + v))) (zI mem 180 0 0)
theorem ok_X11_days {l : Launch} {G : zG} : zOK l G yX11_days cX11_days 2 (some .int) 1 0 0 k_X11_days := by
  intro as n mem Q hK
  obtain ⟨v, rfl, ⟨hn, hF⟩, hQ⟩ := hK
  refine mtX11_days ok_X11_isIn (by decide) (List.forall_mem_cons.mpr ⟨rfl, List.forall_mem_cons.mpr ⟨rfl, fun _ h => absurd h List.not_mem_nil⟩⟩) (by simp) rfl (fun P hP => ?_)
  show P 0 [.ref 180, .int v] [] n mem
  refine hP _ _ _ _ _ ?_
  refine hP _ _ _ _ _ ?_
  refine hP _ _ _ _ _ ⟨(zi hn rfl rfl rfl), ?_⟩
  show P 5 [.ref 180, .int v] [] n (zI mem 180 0 0)
  have hF : zFx (zI mem 180 0 0) := hF
  generalize zI mem 180 0 0 = mem at *
  refine hP _ _ _ _ _ ?_
  refine hP _ _ _ _ _ ?_
  refine hP _ _ _ _ _ ?_
  refine hP _ _ _ _ _ ⟨Nat.le_of_ble_eq_true rfl, Nat.le_of_ble_eq_true rfl, ?_⟩
  refine ⟨_, _, _, rfl, ?_⟩
  refine hP _ _ _ _ _ ⟨fun h12 => ?_, fun h12 => ?_⟩
  ·
    have h12 := zb_0.mp h12
    refine hP _ _ _ _ _ ?_
    refine hP _ _ _ _ _ ?_
    exact ⟨rfl, by simpa [zI_at, h12] using hQ⟩
  ·
    have h12 := zb_n.mp h12
    refine hP _ _ _ _ _ ?_
    refine hP _ _ _ _ _ ⟨(zi hn rfl rfl rfl), ?_⟩
    refine hP _ _ _ _ _ ?_
    refine hP _ _ _ _ _ ?_
    refine hP _ _ _ _ _ ?_
    refine hP _ _ _ _ _ ⟨fun h24 => ?_, fun h24 => ?_⟩
    ·
      refine hP _ _ _ _ _ ?_
      refine hP _ _ _ _ _ ?_
      refine hP _ _ _ _ _ ⟨(zi hn rfl rfl rfl), ?_⟩
      refine hP _ _ _ _ _ ?_
      refine hP _ _ _ _ _ ?_
      refine hP _ _ _ _ _ ⟨(zi hn rfl rfl rfl), ?_⟩
      refine hP _ _ _ _ _ ?_
      refine hP _ _ _ _ _ ⟨(zi hn rfl rfl rfl), ?_⟩
      refine hP _ _ _ _ _ ?_
      exact ⟨rfl, by simpa [zI_at, h12, h24] using hQ⟩
    ·
      refine hP _ _ _ _ _ ?_
      refine hP _ _ _ _ _ ?_
      exact ⟨rfl, by simpa [zI_at, h12, h24] using hQ⟩
def k_X11_entry : zCt := fun as n mem Q => ∃ (p w : Int32) (np pw m na : Nat), as = [.ref 180, .int p, .int w] ∧ zst n mem ∧ (fun mem : zM => zMc mem np pw m na ∧ Q (some (.int (if isin p 0 (mem.1 180 15 - 1) = false ∨ isin w 0 2 = false then -1 else mem.1 185 (3 * ix p + ix w)))) n mem) (zI mem 180 0 0)
theorem ok_X11_entry {l : Launch} {G : zG} : zOK l G yX11_entry cX11_entry 3 (some .int) 2 0 0 k_X11_entry := by
  intro as n mem Q hK
  obtain ⟨p, w, np, pw, m, na, rfl, ⟨hn, hF⟩, hQ⟩ := hK
  refine mtX11_entry ok_X11_isPower (by decide) ok_X11_isIn (by decide) (List.forall_mem_cons.mpr ⟨rfl, List.forall_mem_cons.mpr ⟨rfl, List.forall_mem_cons.mpr ⟨rfl, fun _ h => absurd h List.not_mem_nil⟩⟩⟩) (by simp) rfl (fun P hP => ?_)
  show P 0 [.ref 180, .int p, .int w] [] n mem
  refine hP _ _ _ _ _ ?_
  refine hP _ _ _ _ _ ?_
  refine hP _ _ _ _ _ ⟨(zi hn rfl rfl rfl), ?_⟩
  show P 5 [.ref 180, .int p, .int w] [] n (zI mem 180 0 0)
  have hF : zFx (zI mem 180 0 0) := hF
  generalize zI mem 180 0 0 = mem at *
  obtain ⟨⟨c1, c2, c3, c4, c5, c6, c7, c8⟩, hQ⟩ := hQ
  refine hP _ _ _ _ _ ?_
  refine hP _ _ _ _ _ ?_
  refine hP _ _ _ _ _ ⟨(zi hn rfl rfl rfl), Nat.le_of_ble_eq_true rfl, Nat.le_of_ble_eq_true rfl, ?_⟩
  refine ⟨_, rfl, ⟨hn, hF⟩, ?_⟩
  refine hP _ _ _ _ _ ⟨fun h10 => ?_, fun h10 => ?_⟩
  ·
    have h10 := zb_0.mp h10
    refine hP _ _ _ _ _ ?_
    refine hP _ _ _ _ _ ?_
    exact ⟨rfl, by simpa [h10] using hQ⟩
  ·
    have h10 := zb_n.mp h10
    refine hP _ _ _ _ _ ?_
    refine hP _ _ _ _ _ ?_
    refine hP _ _ _ _ _ ?_
    refine hP _ _ _ _ _ ⟨Nat.le_of_ble_eq_true rfl, Nat.le_of_ble_eq_true rfl, ?_⟩
    refine ⟨_, _, _, rfl, ?_⟩
    refine hP _ _ _ _ _ ⟨fun h19 => ?_, fun h19 => ?_⟩
    ·
      have h19 := zb_0.mp h19
      refine hP _ _ _ _ _ ?_
      refine hP _ _ _ _ _ ?_
      exact ⟨rfl, by simpa [h10, h19] using hQ⟩
    ·
      have h19 := zb_n.mp h19
      obtain ⟨j, hj, rfl⟩ := isin_nI (by omega) (c3 ▸ h10)
      obtain ⟨k, hk, rfl⟩ := isin_N (c := 2) (by omega) h19
      have hx := ix_nI (j := j) (by omega)
      have hy := ix_nI (j := k) (by omega)
      refine hP _ _ _ _ _ ?_
      refine hP _ _ _ _ _ ⟨(zi hn rfl rfl rfl), _, fx_Model_entries hF, (by decide), ?_⟩
      refine hP _ _ _ _ _ ?_
      refine hP _ _ _ _ _ ?_
      refine hP _ _ _ _ _ ?_
      refine hP _ _ _ _ _ ?_
      refine hP _ _ _ _ _ ?_
      refine hP _ _ _ _ _ ⟨_, 3 * j + k, (zi hn rfl rfl rfl), nlin 3 j k, by omega, ?_⟩
      refine hP _ _ _ _ _ ?_
      refine hP _ _ _ _ _ ?_
      exact ⟨rfl, by simpa [h10, h19, hx, hy] using hQ⟩
def k_X11_power : zCt := fun as n mem Q => ∃ (p w : Int32) (np pw m na : Nat), as = [.ref 180, .int p, .int w] ∧ zst n mem ∧ (fun mem : zM => zMc mem np pw m na ∧ (if isin p 0 (mem.1 180 15 - 1) = false ∨ isin w 0 7 = false then Q (some (.int 0)) n (zI mem 180 0 1) else Q (some (.int (mem.1 182 (8 * ix p + ix w)))) n mem)) (zI mem 180 0 0)
theorem ok_X11_power {l : Launch} {G : zG} : zOK l G yX11_power cX11_power 3 (some .int) 2 0 0 k_X11_power := by
  intro as n mem Q hK
  obtain ⟨p, w, np, pw, m, na, rfl, ⟨hn, hF⟩, hQ⟩ := hK
  refine mtX11_power ok_X11_isPower (by decide) ok_X11_isIn (by decide) ok_X11_refuse (by decide) (List.forall_mem_cons.mpr ⟨rfl, List.forall_mem_cons.mpr ⟨rfl, List.forall_mem_cons.mpr ⟨rfl, fun _ h => absurd h List.not_mem_nil⟩⟩⟩) (by simp) rfl (fun P hP => ?_)
  show P 0 [.ref 180, .int p, .int w] [] n mem
  refine hP _ _ _ _ _ ?_
  refine hP _ _ _ _ _ ?_
  refine hP _ _ _ _ _ ⟨(zi hn rfl rfl rfl), ?_⟩
  show P 5 [.ref 180, .int p, .int w] [] n (zI mem 180 0 0)
  have hF : zFx (zI mem 180 0 0) := hF
  generalize zI mem 180 0 0 = mem at *
  obtain ⟨⟨c1, c2, c3, c4, c5, c6, c7, c8⟩, hQ⟩ := hQ
  refine hP _ _ _ _ _ ?_
  refine hP _ _ _ _ _ ?_
  refine hP _ _ _ _ _ ⟨(zi hn rfl rfl rfl), Nat.le_of_ble_eq_true rfl, Nat.le_of_ble_eq_true rfl, ?_⟩
  refine ⟨_, rfl, ⟨hn, hF⟩, ?_⟩
  refine hP _ _ _ _ _ ⟨fun h10 => ?_, fun h10 => ?_⟩
  ·
    have h10 := zb_0.mp h10
    refine hP _ _ _ _ _ ?_
    refine hP _ _ _ _ _ ⟨(zi hn rfl rfl rfl), Nat.le_of_ble_eq_true rfl, Nat.le_of_ble_eq_true rfl, ?_⟩
    refine ⟨rfl, ⟨hn, hF⟩, ?_⟩
    refine hP _ _ _ _ _ ?_
    exact ⟨rfl, by simpa [h10] using hQ⟩
  ·
    have h10 := zb_n.mp h10
    refine hP _ _ _ _ _ ?_
    refine hP _ _ _ _ _ ?_
    refine hP _ _ _ _ _ ?_
    refine hP _ _ _ _ _ ⟨Nat.le_of_ble_eq_true rfl, Nat.le_of_ble_eq_true rfl, ?_⟩
    refine ⟨_, _, _, rfl, ?_⟩
    refine hP _ _ _ _ _ ⟨fun h20 => ?_, fun h20 => ?_⟩
    ·
      have h20 := zb_0.mp h20
      refine hP _ _ _ _ _ ?_
      refine hP _ _ _ _ _ ⟨(zi hn rfl rfl rfl), Nat.le_of_ble_eq_true rfl, Nat.le_of_ble_eq_true rfl, ?_⟩
      refine ⟨rfl, ⟨hn, hF⟩, ?_⟩
      refine hP _ _ _ _ _ ?_
      exact ⟨rfl, by simpa [h10, h20] using hQ⟩
    ·
      have h20 := zb_n.mp h20
      obtain ⟨j, hj, rfl⟩ := isin_nI (by omega) (c3 ▸ h10)
      obtain ⟨k, hk, rfl⟩ := isin_N (c := 7) (by omega) h20
      have hx := ix_nI (j := j) (by omega)
      have hy := ix_nI (j := k) (by omega)
      refine hP _ _ _ _ _ ?_
      refine hP _ _ _ _ _ ⟨(zi hn rfl rfl rfl), _, fx_Model_powers hF, (by decide), ?_⟩
      refine hP _ _ _ _ _ ?_
      refine hP _ _ _ _ _ ?_
      refine hP _ _ _ _ _ ?_
      refine hP _ _ _ _ _ ?_
      refine hP _ _ _ _ _ ?_
      refine hP _ _ _ _ _ ⟨_, 8 * j + k, (zi hn rfl rfl rfl), nlin 8 j k, by omega, ?_⟩
      refine hP _ _ _ _ _ ?_
      refine hP _ _ _ _ _ ?_
      exact ⟨rfl, by simpa [h10, h20, hx, hy] using hQ⟩
def k_X11_act : zCt := fun as n mem Q => ∃ (p w : Int32) (np pw m na : Nat), as = [.ref 180, .int p, .int w] ∧ zst n mem ∧ (fun mem : zM => zMc mem np pw m na ∧ (if isin p 0 (mem.1 180 29 - 1) = false ∨ isin w 0 8 = false then Q (some (.int 0)) n (zI mem 180 0 1) else Q (some (.int (mem.1 191 (9 * ix p + ix w)))) n mem)) (zI mem 180 0 0)
theorem ok_X11_act {l : Launch} {G : zG} : zOK l G yX11_act cX11_act 3 (some .int) 2 0 0 k_X11_act := by
  intro as n mem Q hK
  obtain ⟨p, w, np, pw, m, na, rfl, ⟨hn, hF⟩, hQ⟩ := hK
  refine mtX11_act ok_X11_isAct (by decide) ok_X11_isIn (by decide) ok_X11_its (by decide) ok_X11_refuse (by decide) (List.forall_mem_cons.mpr ⟨rfl, List.forall_mem_cons.mpr ⟨rfl, List.forall_mem_cons.mpr ⟨rfl, fun _ h => absurd h List.not_mem_nil⟩⟩⟩) (by simp) rfl (fun P hP => ?_)
  show P 0 [.ref 180, .int p, .int w] [] n mem
  refine hP _ _ _ _ _ ?_
  refine hP _ _ _ _ _ ?_
  refine hP _ _ _ _ _ ⟨(zi hn rfl rfl rfl), ?_⟩
  show P 5 [.ref 180, .int p, .int w] [] n (zI mem 180 0 0)
  have hF : zFx (zI mem 180 0 0) := hF
  generalize zI mem 180 0 0 = mem at *
  obtain ⟨⟨c1, c2, c3, c4, c5, c6, c7, c8⟩, hQ⟩ := hQ
  refine hP _ _ _ _ _ ?_
  refine hP _ _ _ _ _ ?_
  refine hP _ _ _ _ _ ⟨(zi hn rfl rfl rfl), Nat.le_of_ble_eq_true rfl, Nat.le_of_ble_eq_true rfl, ?_⟩
  refine ⟨_, rfl, ⟨hn, hF⟩, ?_⟩
  refine hP _ _ _ _ _ ⟨fun h10 => ?_, fun h10 => ?_⟩
  ·
    have h10 := zb_0.mp h10
    refine hP _ _ _ _ _ ?_
    refine hP _ _ _ _ _ ⟨(zi hn rfl rfl rfl), Nat.le_of_ble_eq_true rfl, Nat.le_of_ble_eq_true rfl, ?_⟩
    refine ⟨rfl, ⟨hn, hF⟩, ?_⟩
    refine hP _ _ _ _ _ ?_
    exact ⟨rfl, by simpa [h10] using hQ⟩
  ·
    have h10 := zb_n.mp h10
    refine hP _ _ _ _ _ ?_
    refine hP _ _ _ _ _ ?_
    refine hP _ _ _ _ _ ?_
    refine hP _ _ _ _ _ ⟨Nat.le_of_ble_eq_true rfl, Nat.le_of_ble_eq_true rfl, ?_⟩
    refine ⟨_, _, _, rfl, ?_⟩
    refine hP _ _ _ _ _ ⟨fun h20 => ?_, fun h20 => ?_⟩
    ·
      have h20 := zb_0.mp h20
      refine hP _ _ _ _ _ ?_
      refine hP _ _ _ _ _ ⟨(zi hn rfl rfl rfl), Nat.le_of_ble_eq_true rfl, Nat.le_of_ble_eq_true rfl, ?_⟩
      refine ⟨rfl, ⟨hn, hF⟩, ?_⟩
      refine hP _ _ _ _ _ ?_
      exact ⟨rfl, by simpa [h10, h20] using hQ⟩
    ·
      have h20 := zb_n.mp h20
      refine hP _ _ _ _ _ ?_
      refine hP _ _ _ _ _ ?_
      refine hP _ _ _ _ _ ?_
      refine hP _ _ _ _ _ ⟨(zi hn rfl rfl rfl), Nat.le_of_ble_eq_true rfl, Nat.le_of_ble_eq_true rfl, ?_⟩
      obtain ⟨j, hj, rfl⟩ := isin_nI (by omega) (c7 ▸ h10)
      obtain ⟨k, hk, rfl⟩ := isin_N (c := 8) (by omega) h20
      have hx := ix_nI (j := j) (by omega)
      have hy := ix_nI (j := k) (by omega)
      refine ⟨j, k, rfl, by omega, by omega, ⟨hn, hF⟩, ?_⟩
      refine hP _ _ _ _ _ ?_
      refine hP _ _ _ _ _ ?_
      exact ⟨rfl, by simpa [h10, h20, hx, hy] using hQ⟩
def T_finish (mem : zM) (p : Int32) (m : Nat) (Q : Int32 → zM → Prop) : Prop :=
  if isin p 0 (mem.1 180 15 - 1) = false ∨ mfull mem = true then Q (-1) mem
  else if ¬ mem.1 185 (3 * ix p) = -1 then Q (-2) mem
  else if isby (mem.1 187 (ix (mem.1 182 (8 * ix p)))) (mem.1 180 27) = true then Q (-3) mem
  else Q (nI (m + 1)) (zI (zput mem m) 185 (3 * ix p) (nI (m + 1)))
def k_X11_finish : zCt := fun as n mem Q => ∃ (p : Int32) (np pw m na : Nat), as = [.ref 180, .int p] ∧ zst n mem ∧ (fun mem : zM => zMc mem np pw m na ∧ zGv mem pw ∧ T_finish mem p m (fun r mem => Q (some (.int r)) n mem)) (zI mem 180 0 0)
theorem ok_X11_finish {l : Launch} {G : zG} : zOK l G yX11_finish cX11_finish 2 (some .int) 2 0 0 k_X11_finish := by
  intro as n mem Q hK
  obtain ⟨p, np, pw, m, na, rfl, ⟨hn, hF⟩, hQ⟩ := hK
  refine mtX11_finish ok_X11_isPower (by decide) ok_X11_isFull (by decide) ok_X11_hasDied (by decide) ok_X11_puts (by decide) (List.forall_mem_cons.mpr ⟨rfl, List.forall_mem_cons.mpr ⟨rfl, fun _ h => absurd h List.not_mem_nil⟩⟩) (by simp) rfl (fun P hP => ?_)
  show P 0 [.ref 180, .int p] [] n mem
  refine hP _ _ _ _ _ ?_
  refine hP _ _ _ _ _ ?_
  refine hP _ _ _ _ _ ⟨(zi hn rfl rfl rfl), ?_⟩
  show P 5 [.ref 180, .int p] [] n (zI mem 180 0 0)
  have hF : zFx (zI mem 180 0 0) := hF
  generalize zI mem 180 0 0 = mem at *
  obtain ⟨⟨c1, c2, c3, c4, c5, c6, c7, c8⟩, hG, hQ⟩ := hQ
  refine hP _ _ _ _ _ ?_
  refine hP _ _ _ _ _ ?_
  refine hP _ _ _ _ _ ⟨(zi hn rfl rfl rfl), Nat.le_of_ble_eq_true rfl, Nat.le_of_ble_eq_true rfl, ?_⟩
  refine ⟨_, rfl, ⟨hn, hF⟩, ?_⟩
  refine hP _ _ _ _ _ ⟨fun h10 => ?_, fun h10 => ?_⟩
  ·
    have h10 := zb_0.mp h10
    refine hP _ _ _ _ _ ?_
    refine hP _ _ _ _ _ ?_
    exact ⟨rfl, by simpa [T_finish, zput, zI_at, h10] using hQ⟩
  ·
    have h10 := zb_n.mp h10
    refine hP _ _ _ _ _ ?_
    refine hP _ _ _ _ _ ⟨(zi hn rfl rfl rfl), Nat.le_of_ble_eq_true rfl, Nat.le_of_ble_eq_true rfl, ?_⟩
    refine ⟨rfl, ⟨hn, hF⟩, ?_⟩
    refine hP _ _ _ _ _ ⟨fun h17 => ?_, fun h17 => ?_⟩
    ·
      have h17 := zb_0.mp h17
      obtain ⟨j, hj, rfl⟩ := isin_nI (by omega) (c3 ▸ h10)
      have hx := ix_nI (j := j) (by omega)
      obtain ⟨g, hg8, hg⟩ := hG j hj
      have hxg := ix_nI (j := g) (by omega)
      have hm := full_lt c5 c6 h17
      refine hP _ _ _ _ _ ?_
      refine hP _ _ _ _ _ ⟨(zi hn rfl rfl rfl), _, fx_Model_entries hF, (by decide), ?_⟩
      refine hP _ _ _ _ _ ?_
      refine hP _ _ _ _ _ ?_
      refine hP _ _ _ _ _ ?_
      refine hP _ _ _ _ _ ⟨_, 3 * j, (zi hn rfl rfl rfl), nmul 3 j, by omega, ?_⟩
      refine hP _ _ _ _ _ ?_
      refine hP _ _ _ _ _ ⟨fun h31 => ?_, fun h31 => ?_⟩
      ·
        refine hP _ _ _ _ _ ?_
        refine hP _ _ _ _ _ ?_
        refine hP _ _ _ _ _ ⟨(zi hn rfl rfl rfl), _, fx_Model_powers hF, (by decide), ?_⟩
        refine hP _ _ _ _ _ ?_
        refine hP _ _ _ _ _ ?_
        refine hP _ _ _ _ _ ?_
        refine hP _ _ _ _ _ ?_
        refine hP _ _ _ _ _ ?_
        refine hP _ _ _ _ _ ⟨_, 8 * j, (zi hn rfl rfl rfl), nlin 8 j 0, by omega, ?_⟩
        refine hP _ _ _ _ _ ?_
        refine hP _ _ _ _ _ ⟨(zi hn rfl rfl rfl), ?_⟩
        refine hP _ _ _ _ _ ⟨(zi hn rfl rfl rfl), Nat.le_of_ble_eq_true rfl, Nat.le_of_ble_eq_true rfl, ?_⟩
        refine ⟨g, _, by rw [← hg]; rfl, hg8, ⟨hn, hF⟩, ?_⟩
        refine hP _ _ _ _ _ ⟨fun h56 => ?_, fun h56 => ?_⟩
        ·
          have h56 := zb_0.mp h56
          refine hP _ _ _ _ _ ?_
          refine hP _ _ _ _ _ ⟨(zi hn rfl rfl rfl), _, fx_Model_entries hF, (by decide), ?_⟩
          refine hP _ _ _ _ _ ?_
          refine hP _ _ _ _ _ ?_
          refine hP _ _ _ _ _ ?_
          refine hP _ _ _ _ _ ?_
          refine hP _ _ _ _ _ ⟨(zi hn rfl rfl rfl), Nat.le_of_ble_eq_true rfl, Nat.le_of_ble_eq_true rfl, ?_⟩
          refine ⟨m, rfl, ⟨hn, hF⟩, c5, hm, ?_⟩
          refine hP _ _ _ _ _ ⟨_, 3 * j, (zi hn rfl rfl rfl), nmul 3 j, by omega, ?_⟩
          refine hP _ _ _ _ _ ?_
          refine hP _ _ _ _ _ ⟨(zi hn rfl rfl rfl), ?_⟩
          refine hP _ _ _ _ _ ?_
          exact ⟨rfl, by simpa [T_finish, zput, zI_at, h10, h17, hx, hg, hxg, h31, h56] using hQ⟩
        ·
          have h56 := zb_n.mp h56
          refine hP _ _ _ _ _ ?_
          refine hP _ _ _ _ _ ?_
          exact ⟨rfl, by simpa [T_finish, zput, zI_at, h10, h17, hx, hg, hxg, h31, h56] using hQ⟩
      ·
        refine hP _ _ _ _ _ ?_
        refine hP _ _ _ _ _ ?_
        exact ⟨rfl, by simpa [T_finish, zput, zI_at, h10, h17, hx, hg, hxg, h31] using hQ⟩
    ·
      have h17 := zb_n.mp h17
      refine hP _ _ _ _ _ ?_
      refine hP _ _ _ _ _ ?_
      exact ⟨rfl, by simpa [T_finish, zput, zI_at, h10, h17] using hQ⟩
def T_die (mem : zM) (p : Int32) (m : Nat) (Q : Int32 → zM → Prop) : Prop :=
  if isin p 0 (mem.1 180 13 - 1) = false ∨ mfull mem = true then Q (-1) mem
  else if ¬ mem.1 187 (ix p) = -1 then Q (-2) mem
  else Q (nI (m + 1)) (zI (zput mem m) 187 (ix p) (nI (m + 1)))
def k_X11_die : zCt := fun as n mem Q => ∃ (p : Int32) (np pw m na : Nat), as = [.ref 180, .int p] ∧ zst n mem ∧ (fun mem : zM => zMc mem np pw m na ∧ T_die mem p m (fun r mem => Q (some (.int r)) n mem)) (zI mem 180 0 0)
theorem ok_X11_die {l : Launch} {G : zG} : zOK l G yX11_die cX11_die 2 (some .int) 2 0 0 k_X11_die := by
  intro as n mem Q hK
  obtain ⟨p, np, pw, m, na, rfl, ⟨hn, hF⟩, hQ⟩ := hK
  refine mtX11_die ok_X11_isParty (by decide) ok_X11_isFull (by decide) ok_X11_puts (by decide) (List.forall_mem_cons.mpr ⟨rfl, List.forall_mem_cons.mpr ⟨rfl, fun _ h => absurd h List.not_mem_nil⟩⟩) (by simp) rfl (fun P hP => ?_)
  show P 0 [.ref 180, .int p] [] n mem
  refine hP _ _ _ _ _ ?_
  refine hP _ _ _ _ _ ?_
  refine hP _ _ _ _ _ ⟨(zi hn rfl rfl rfl), ?_⟩
  show P 5 [.ref 180, .int p] [] n (zI mem 180 0 0)
  have hF : zFx (zI mem 180 0 0) := hF
  generalize zI mem 180 0 0 = mem at *
  obtain ⟨⟨c1, c2, c3, c4, c5, c6, c7, c8⟩, hQ⟩ := hQ
  refine hP _ _ _ _ _ ?_
  refine hP _ _ _ _ _ ?_
  refine hP _ _ _ _ _ ⟨(zi hn rfl rfl rfl), Nat.le_of_ble_eq_true rfl, Nat.le_of_ble_eq_true rfl, ?_⟩
  refine ⟨_, rfl, ⟨hn, hF⟩, ?_⟩
  refine hP _ _ _ _ _ ⟨fun h10 => ?_, fun h10 => ?_⟩
  ·
    have h10 := zb_0.mp h10
    refine hP _ _ _ _ _ ?_
    refine hP _ _ _ _ _ ?_
    exact ⟨rfl, by simpa [T_die, zput, zI_at, h10] using hQ⟩
  ·
    have h10 := zb_n.mp h10
    refine hP _ _ _ _ _ ?_
    refine hP _ _ _ _ _ ⟨(zi hn rfl rfl rfl), Nat.le_of_ble_eq_true rfl, Nat.le_of_ble_eq_true rfl, ?_⟩
    refine ⟨rfl, ⟨hn, hF⟩, ?_⟩
    refine hP _ _ _ _ _ ⟨fun h17 => ?_, fun h17 => ?_⟩
    ·
      have h17 := zb_0.mp h17
      obtain ⟨j, hj, rfl⟩ := isin_nI (by omega) (c1 ▸ h10)
      have hx := ix_nI (j := j) (by omega)
      have hm := full_lt c5 c6 h17
      refine hP _ _ _ _ _ ?_
      refine hP _ _ _ _ _ ⟨(zi hn rfl rfl rfl), _, fx_Model_diedAt hF, (by decide), ?_⟩
      refine hP _ _ _ _ _ ?_
      refine hP _ _ _ _ _ ⟨_, _, (zi hn rfl rfl rfl), rfl, by omega, ?_⟩
      refine hP _ _ _ _ _ ?_
      refine hP _ _ _ _ _ ⟨fun h29 => ?_, fun h29 => ?_⟩
      ·
        refine hP _ _ _ _ _ ?_
        refine hP _ _ _ _ _ ⟨(zi hn rfl rfl rfl), _, fx_Model_diedAt hF, (by decide), ?_⟩
        refine hP _ _ _ _ _ ?_
        refine hP _ _ _ _ _ ?_
        refine hP _ _ _ _ _ ⟨(zi hn rfl rfl rfl), Nat.le_of_ble_eq_true rfl, Nat.le_of_ble_eq_true rfl, ?_⟩
        refine ⟨m, rfl, ⟨hn, hF⟩, c5, hm, ?_⟩
        refine hP _ _ _ _ _ ⟨_, _, (zi hn rfl rfl rfl), rfl, by omega, ?_⟩
        refine hP _ _ _ _ _ ?_
        refine hP _ _ _ _ _ ⟨(zi hn rfl rfl rfl), ?_⟩
        refine hP _ _ _ _ _ ?_
        exact ⟨rfl, by simpa [T_die, zput, zI_at, h10, h17, hx, h29] using hQ⟩
      ·
        refine hP _ _ _ _ _ ?_
        refine hP _ _ _ _ _ ?_
        exact ⟨rfl, by simpa [T_die, zput, zI_at, h10, h17, hx, h29] using hQ⟩
    ·
      have h17 := zb_n.mp h17
      refine hP _ _ _ _ _ ?_
      refine hP _ _ _ _ _ ?_
      exact ⟨rfl, by simpa [T_die, zput, zI_at, h10, h17] using hQ⟩
def T_notice (mem : zM) (p q : Int32) (m : Nat) (Q : Int32 → zM → Prop) : Prop :=
  if isin p 0 (mem.1 180 13 - 1) = false ∨ isin q 0 (mem.1 180 15 - 1) = false ∨ mfull mem = true then Q (-1) mem
  else if ¬ mem.1 186 (20 * ix p + ix q) = -1 then Q (-2) mem
  else if mem.1 185 (3 * ix q) = -1 then Q (-3) mem
  else Q (nI (m + 1)) (zI (zput mem m) 186 (20 * ix p + ix q) (nI (m + 1)))
def k_X11_notice : zCt := fun as n mem Q => ∃ (p q : Int32) (np pw m na : Nat), as = [.ref 180, .int p, .int q] ∧ zst n mem ∧ (fun mem : zM => zMc mem np pw m na ∧ T_notice mem p q m (fun r mem => Q (some (.int r)) n mem)) (zI mem 180 0 0)
theorem ok_X11_notice {l : Launch} {G : zG} : zOK l G yX11_notice cX11_notice 3 (some .int) 2 0 0 k_X11_notice := by
  intro as n mem Q hK
  obtain ⟨p, q, np, pw, m, na, rfl, ⟨hn, hF⟩, hQ⟩ := hK
  refine mtX11_notice ok_X11_isParty (by decide) ok_X11_isPower (by decide) ok_X11_isFull (by decide) ok_X11_puts (by decide) (List.forall_mem_cons.mpr ⟨rfl, List.forall_mem_cons.mpr ⟨rfl, List.forall_mem_cons.mpr ⟨rfl, fun _ h => absurd h List.not_mem_nil⟩⟩⟩) (by simp) rfl (fun P hP => ?_)
  show P 0 [.ref 180, .int p, .int q] [] n mem
  refine hP _ _ _ _ _ ?_
  refine hP _ _ _ _ _ ?_
  refine hP _ _ _ _ _ ⟨(zi hn rfl rfl rfl), ?_⟩
  show P 5 [.ref 180, .int p, .int q] [] n (zI mem 180 0 0)
  have hF : zFx (zI mem 180 0 0) := hF
  generalize zI mem 180 0 0 = mem at *
  obtain ⟨⟨c1, c2, c3, c4, c5, c6, c7, c8⟩, hQ⟩ := hQ
  refine hP _ _ _ _ _ ?_
  refine hP _ _ _ _ _ ?_
  refine hP _ _ _ _ _ ⟨(zi hn rfl rfl rfl), Nat.le_of_ble_eq_true rfl, Nat.le_of_ble_eq_true rfl, ?_⟩
  refine ⟨_, rfl, ⟨hn, hF⟩, ?_⟩
  refine hP _ _ _ _ _ ⟨fun h10 => ?_, fun h10 => ?_⟩
  ·
    have h10 := zb_0.mp h10
    refine hP _ _ _ _ _ ?_
    refine hP _ _ _ _ _ ?_
    exact ⟨rfl, by simpa [T_notice, zput, zI_at, h10] using hQ⟩
  ·
    have h10 := zb_n.mp h10
    refine hP _ _ _ _ _ ?_
    refine hP _ _ _ _ _ ?_
    refine hP _ _ _ _ _ ⟨(zi hn rfl rfl rfl), Nat.le_of_ble_eq_true rfl, Nat.le_of_ble_eq_true rfl, ?_⟩
    refine ⟨_, rfl, ⟨hn, hF⟩, ?_⟩
    refine hP _ _ _ _ _ ⟨fun h18 => ?_, fun h18 => ?_⟩
    ·
      have h18 := zb_0.mp h18
      refine hP _ _ _ _ _ ?_
      refine hP _ _ _ _ _ ?_
      exact ⟨rfl, by simpa [T_notice, zput, zI_at, h10, h18] using hQ⟩
    ·
      have h18 := zb_n.mp h18
      refine hP _ _ _ _ _ ?_
      refine hP _ _ _ _ _ ⟨(zi hn rfl rfl rfl), Nat.le_of_ble_eq_true rfl, Nat.le_of_ble_eq_true rfl, ?_⟩
      refine ⟨rfl, ⟨hn, hF⟩, ?_⟩
      refine hP _ _ _ _ _ ⟨fun h25 => ?_, fun h25 => ?_⟩
      ·
        have h25 := zb_0.mp h25
        obtain ⟨i, hi, rfl⟩ := isin_nI (by omega) (c1 ▸ h10)
        obtain ⟨j, hj, rfl⟩ := isin_nI (by omega) (c3 ▸ h18)
        have hx := ix_nI (j := j) (by omega)
        have hy := ix_nI (j := i) (by omega)
        have hm := full_lt c5 c6 h25
        refine hP _ _ _ _ _ ?_
        refine hP _ _ _ _ _ ⟨(zi hn rfl rfl rfl), _, fx_Model_notices hF, (by decide), ?_⟩
        refine hP _ _ _ _ _ ?_
        refine hP _ _ _ _ _ ?_
        refine hP _ _ _ _ _ ?_
        refine hP _ _ _ _ _ ?_
        refine hP _ _ _ _ _ ?_
        refine hP _ _ _ _ _ ⟨_, 20 * i + j, (zi hn rfl rfl rfl), nlin 20 i j, by omega, ?_⟩
        refine hP _ _ _ _ _ ?_
        refine hP _ _ _ _ _ ⟨fun h42 => ?_, fun h42 => ?_⟩
        ·
          refine hP _ _ _ _ _ ?_
          refine hP _ _ _ _ _ ⟨(zi hn rfl rfl rfl), _, fx_Model_entries hF, (by decide), ?_⟩
          refine hP _ _ _ _ _ ?_
          refine hP _ _ _ _ _ ?_
          refine hP _ _ _ _ _ ?_
          refine hP _ _ _ _ _ ⟨_, 3 * j, (zi hn rfl rfl rfl), nmul 3 j, by omega, ?_⟩
          refine hP _ _ _ _ _ ?_
          refine hP _ _ _ _ _ ⟨fun h57 => ?_, fun h57 => ?_⟩
          ·
            refine hP _ _ _ _ _ ?_
            refine hP _ _ _ _ _ ?_
            exact ⟨rfl, by simpa [T_notice, zput, zI_at, h10, h18, h25, hx, hy, h42, h57] using hQ⟩
          ·
            refine hP _ _ _ _ _ ?_
            refine hP _ _ _ _ _ ⟨(zi hn rfl rfl rfl), _, fx_Model_notices hF, (by decide), ?_⟩
            refine hP _ _ _ _ _ ?_
            refine hP _ _ _ _ _ ?_
            refine hP _ _ _ _ _ ?_
            refine hP _ _ _ _ _ ?_
            refine hP _ _ _ _ _ ?_
            refine hP _ _ _ _ _ ?_
            refine hP _ _ _ _ _ ⟨(zi hn rfl rfl rfl), Nat.le_of_ble_eq_true rfl, Nat.le_of_ble_eq_true rfl, ?_⟩
            refine ⟨m, rfl, ⟨hn, hF⟩, c5, hm, ?_⟩
            refine hP _ _ _ _ _ ⟨_, 20 * i + j, (zi hn rfl rfl rfl), nlin 20 i j, by omega, ?_⟩
            refine hP _ _ _ _ _ ?_
            refine hP _ _ _ _ _ ⟨(zi hn rfl rfl rfl), ?_⟩
            refine hP _ _ _ _ _ ?_
            exact ⟨rfl, by simpa [T_notice, zput, zI_at, h10, h18, h25, hx, hy, h42, h57] using hQ⟩
        ·
          refine hP _ _ _ _ _ ?_
          refine hP _ _ _ _ _ ?_
          exact ⟨rfl, by simpa [T_notice, zput, zI_at, h10, h18, h25, hx, hy, h42] using hQ⟩
      ·
        have h25 := zb_n.mp h25
        refine hP _ _ _ _ _ ?_
        refine hP _ _ _ _ _ ?_
        exact ⟨rfl, by simpa [T_notice, zput, zI_at, h10, h18, h25] using hQ⟩
def T_narrow (mem : zM) (p k a : Int32) (m : Nat) (Q : Int32 → zM → Prop) : Prop :=
  if isin p 0 (mem.1 180 15 - 1) = false ∨ isin k 0 63 = false ∨ isin a 0 999 = false ∨ mfull mem = true then Q (-1) mem
  else if ¬ mem.1 185 (3 * ix p) = -1 then Q (-2) mem
  else Q (nI (m + 1)) (zI (zI (zI (zput mem m) 188 (m + 1) p) 189 (m + 1) k) 190 (m + 1) a)
def k_X11_narrow : zCt := fun as n mem Q => ∃ (p k a : Int32) (np pw m na : Nat), as = [.ref 180, .int p, .int k, .int a] ∧ zst n mem ∧ (fun mem : zM => zMc mem np pw m na ∧ T_narrow mem p k a m (fun r mem => Q (some (.int r)) n mem)) (zI mem 180 0 0)
theorem ok_X11_narrow {l : Launch} {G : zG} : zOK l G yX11_narrow cX11_narrow 4 (some .int) 2 0 0 k_X11_narrow := by
  intro as n mem Q hK
  obtain ⟨p, k, a, np, pw, m, na, rfl, ⟨hn, hF⟩, hQ⟩ := hK
  refine mtX11_narrow ok_X11_isPower (by decide) ok_X11_isIn (by decide) ok_X11_isFull (by decide) ok_X11_puts (by decide) (List.forall_mem_cons.mpr ⟨rfl, List.forall_mem_cons.mpr ⟨rfl, List.forall_mem_cons.mpr ⟨rfl, List.forall_mem_cons.mpr ⟨rfl, fun _ h => absurd h List.not_mem_nil⟩⟩⟩⟩) (by simp) rfl (fun P hP => ?_)
  show P 0 [.ref 180, .int p, .int k, .int a] [] n mem
  refine hP _ _ _ _ _ ?_
  refine hP _ _ _ _ _ ?_
  refine hP _ _ _ _ _ ⟨(zi hn rfl rfl rfl), ?_⟩
  show P 5 [.ref 180, .int p, .int k, .int a] [] n (zI mem 180 0 0)
  have hF : zFx (zI mem 180 0 0) := hF
  generalize zI mem 180 0 0 = mem at *
  obtain ⟨⟨c1, c2, c3, c4, c5, c6, c7, c8⟩, hQ⟩ := hQ
  refine hP _ _ _ _ _ ?_
  refine hP _ _ _ _ _ ?_
  refine hP _ _ _ _ _ ⟨(zi hn rfl rfl rfl), Nat.le_of_ble_eq_true rfl, Nat.le_of_ble_eq_true rfl, ?_⟩
  refine ⟨_, rfl, ⟨hn, hF⟩, ?_⟩
  refine hP _ _ _ _ _ ⟨fun h10 => ?_, fun h10 => ?_⟩
  ·
    have h10 := zb_0.mp h10
    refine hP _ _ _ _ _ ?_
    refine hP _ _ _ _ _ ?_
    exact ⟨rfl, by simpa [T_narrow, zput, zI_at, h10] using hQ⟩
  ·
    have h10 := zb_n.mp h10
    refine hP _ _ _ _ _ ?_
    refine hP _ _ _ _ _ ?_
    refine hP _ _ _ _ _ ?_
    refine hP _ _ _ _ _ ⟨Nat.le_of_ble_eq_true rfl, Nat.le_of_ble_eq_true rfl, ?_⟩
    refine ⟨_, _, _, rfl, ?_⟩
    refine hP _ _ _ _ _ ⟨fun h20 => ?_, fun h20 => ?_⟩
    ·
      have h20 := zb_0.mp h20
      refine hP _ _ _ _ _ ?_
      refine hP _ _ _ _ _ ?_
      exact ⟨rfl, by simpa [T_narrow, zput, zI_at, h10, h20] using hQ⟩
    ·
      have h20 := zb_n.mp h20
      refine hP _ _ _ _ _ ?_
      refine hP _ _ _ _ _ ?_
      refine hP _ _ _ _ _ ?_
      refine hP _ _ _ _ _ ⟨Nat.le_of_ble_eq_true rfl, Nat.le_of_ble_eq_true rfl, ?_⟩
      refine ⟨_, _, _, rfl, ?_⟩
      refine hP _ _ _ _ _ ⟨fun h31 => ?_, fun h31 => ?_⟩
      ·
        have h31 := zb_0.mp h31
        refine hP _ _ _ _ _ ?_
        refine hP _ _ _ _ _ ?_
        exact ⟨rfl, by simpa [T_narrow, zput, zI_at, h10, h20, h31] using hQ⟩
      ·
        have h31 := zb_n.mp h31
        refine hP _ _ _ _ _ ?_
        refine hP _ _ _ _ _ ⟨(zi hn rfl rfl rfl), Nat.le_of_ble_eq_true rfl, Nat.le_of_ble_eq_true rfl, ?_⟩
        refine ⟨rfl, ⟨hn, hF⟩, ?_⟩
        refine hP _ _ _ _ _ ⟨fun h38 => ?_, fun h38 => ?_⟩
        ·
          have h38 := zb_0.mp h38
          obtain ⟨j, hj, rfl⟩ := isin_nI (by omega) (c3 ▸ h10)
          have hx := ix_nI (j := j) (by omega)
          have hm := full_lt c5 c6 h38
          refine hP _ _ _ _ _ ?_
          refine hP _ _ _ _ _ ⟨(zi hn rfl rfl rfl), _, fx_Model_entries hF, (by decide), ?_⟩
          refine hP _ _ _ _ _ ?_
          refine hP _ _ _ _ _ ?_
          refine hP _ _ _ _ _ ?_
          refine hP _ _ _ _ _ ⟨_, 3 * j, (zi hn rfl rfl rfl), nmul 3 j, by omega, ?_⟩
          refine hP _ _ _ _ _ ?_
          refine hP _ _ _ _ _ ⟨fun h52 => ?_, fun h52 => ?_⟩
          ·
            refine hP _ _ _ _ _ ?_
            refine hP _ _ _ _ _ ⟨(zi hn rfl rfl rfl), Nat.le_of_ble_eq_true rfl, Nat.le_of_ble_eq_true rfl, ?_⟩
            refine ⟨m, rfl, ⟨hn, hF⟩, c5, hm, ?_⟩
            refine hP _ _ _ _ _ ?_
            refine hP _ _ _ _ _ ?_
            refine hP _ _ _ _ _ ⟨(zi hn rfl rfl rfl), _, fx_Model_narrowPower hF, (by decide), ?_⟩
            refine hP _ _ _ _ _ ?_
            refine hP _ _ _ _ _ ⟨(zi hn rfl rfl rfl), ?_⟩
            refine hP _ _ _ _ _ ?_
            refine hP _ _ _ _ _ ⟨_, m + 1, (zi hn rfl rfl rfl), rfl, by omega, ?_⟩
            refine hP _ _ _ _ _ ?_
            refine hP _ _ _ _ _ ⟨(zi hn rfl rfl rfl), _, fx_Model_narrowKinds hF, (by decide), ?_⟩
            refine hP _ _ _ _ _ ?_
            refine hP _ _ _ _ _ ⟨(zi hn rfl rfl rfl), ?_⟩
            refine hP _ _ _ _ _ ?_
            refine hP _ _ _ _ _ ⟨_, m + 1, (zi hn rfl rfl rfl), rfl, by omega, ?_⟩
            refine hP _ _ _ _ _ ?_
            refine hP _ _ _ _ _ ⟨(zi hn rfl rfl rfl), _, fx_Model_narrowMost hF, (by decide), ?_⟩
            refine hP _ _ _ _ _ ?_
            refine hP _ _ _ _ _ ⟨(zi hn rfl rfl rfl), ?_⟩
            refine hP _ _ _ _ _ ?_
            refine hP _ _ _ _ _ ⟨_, m + 1, (zi hn rfl rfl rfl), rfl, by omega, ?_⟩
            refine hP _ _ _ _ _ ?_
            refine hP _ _ _ _ _ ⟨(zi hn rfl rfl rfl), ?_⟩
            refine hP _ _ _ _ _ ?_
            exact ⟨rfl, by simpa [T_narrow, zput, zI_at, h10, h20, h31, h38, hx, h52] using hQ⟩
          ·
            refine hP _ _ _ _ _ ?_
            refine hP _ _ _ _ _ ?_
            exact ⟨rfl, by simpa [T_narrow, zput, zI_at, h10, h20, h31, h38, hx, h52] using hQ⟩
        ·
          have h38 := zb_n.mp h38
          refine hP _ _ _ _ _ ?_
          refine hP _ _ _ _ _ ?_
          exact ⟨rfl, by simpa [T_narrow, zput, zI_at, h10, h20, h31, h38] using hQ⟩
def T_approve (mem : zM) (a : Int32) (m : Nat) (Q : Int32 → zM → Prop) : Prop :=
  if isin a 0 (mem.1 180 29 - 1) = false ∨ mfull mem = true then Q (-1) mem
  else if ¬ mem.1 191 (9 * ix a + 7) = -1 then Q (-2) mem
  else if ¬ mem.1 191 (9 * ix a + 8) = -1 then Q (-3) mem
  else if isby (mem.1 187 (ix (mem.1 191 (9 * ix a + 1)))) (mem.1 180 27) = true then Q (-4) mem
  else Q (nI (m + 1)) (zI (zput mem m) 191 (9 * ix a + 7) (nI (m + 1)))
def k_X11_approve : zCt := fun as n mem Q => ∃ (a : Int32) (np pw m na : Nat), as = [.ref 180, .int a] ∧ zst n mem ∧ (fun mem : zM => zMc mem np pw m na ∧ zNv mem na ∧ T_approve mem a m (fun r mem => Q (some (.int r)) n mem)) (zI mem 180 0 0)
theorem ok_X11_approve {l : Launch} {G : zG} : zOK l G yX11_approve cX11_approve 2 (some .int) 2 0 0 k_X11_approve := by
  intro as n mem Q hK
  obtain ⟨a, np, pw, m, na, rfl, ⟨hn, hF⟩, hQ⟩ := hK
  refine mtX11_approve ok_X11_isAct (by decide) ok_X11_isFull (by decide) ok_X11_its (by decide) ok_X11_hasDied (by decide) ok_X11_puts (by decide) (List.forall_mem_cons.mpr ⟨rfl, List.forall_mem_cons.mpr ⟨rfl, fun _ h => absurd h List.not_mem_nil⟩⟩) (by simp) rfl (fun P hP => ?_)
  show P 0 [.ref 180, .int a] [] n mem
  refine hP _ _ _ _ _ ?_
  refine hP _ _ _ _ _ ?_
  refine hP _ _ _ _ _ ⟨(zi hn rfl rfl rfl), ?_⟩
  show P 5 [.ref 180, .int a] [] n (zI mem 180 0 0)
  have hF : zFx (zI mem 180 0 0) := hF
  generalize zI mem 180 0 0 = mem at *
  obtain ⟨⟨c1, c2, c3, c4, c5, c6, c7, c8⟩, hG, hQ⟩ := hQ
  refine hP _ _ _ _ _ ?_
  refine hP _ _ _ _ _ ?_
  refine hP _ _ _ _ _ ⟨(zi hn rfl rfl rfl), Nat.le_of_ble_eq_true rfl, Nat.le_of_ble_eq_true rfl, ?_⟩
  refine ⟨_, rfl, ⟨hn, hF⟩, ?_⟩
  refine hP _ _ _ _ _ ⟨fun h10 => ?_, fun h10 => ?_⟩
  ·
    have h10 := zb_0.mp h10
    refine hP _ _ _ _ _ ?_
    refine hP _ _ _ _ _ ?_
    exact ⟨rfl, by simpa [T_approve, zput, zI_at, h10] using hQ⟩
  ·
    have h10 := zb_n.mp h10
    refine hP _ _ _ _ _ ?_
    refine hP _ _ _ _ _ ⟨(zi hn rfl rfl rfl), Nat.le_of_ble_eq_true rfl, Nat.le_of_ble_eq_true rfl, ?_⟩
    refine ⟨rfl, ⟨hn, hF⟩, ?_⟩
    refine hP _ _ _ _ _ ⟨fun h17 => ?_, fun h17 => ?_⟩
    ·
      have h17 := zb_0.mp h17
      obtain ⟨j, hj, rfl⟩ := isin_nI (by omega) (c7 ▸ h10)
      have hx := ix_nI (j := j) (by omega)
      obtain ⟨g, hg8, hg⟩ := hG j hj
      have hxg := ix_nI (j := g) (by omega)
      have hm := full_lt c5 c6 h17
      refine hP _ _ _ _ _ ?_
      refine hP _ _ _ _ _ ?_
      refine hP _ _ _ _ _ ?_
      refine hP _ _ _ _ _ ⟨(zi hn rfl rfl rfl), Nat.le_of_ble_eq_true rfl, Nat.le_of_ble_eq_true rfl, ?_⟩
      refine ⟨j, 7, rfl, by omega, by omega, ⟨hn, hF⟩, ?_⟩
      refine hP _ _ _ _ _ ?_
      refine hP _ _ _ _ _ ⟨fun h30 => ?_, fun h30 => ?_⟩
      ·
        refine hP _ _ _ _ _ ?_
        refine hP _ _ _ _ _ ?_
        refine hP _ _ _ _ _ ?_
        refine hP _ _ _ _ _ ⟨(zi hn rfl rfl rfl), Nat.le_of_ble_eq_true rfl, Nat.le_of_ble_eq_true rfl, ?_⟩
        refine ⟨j, 8, rfl, by omega, by omega, ⟨hn, hF⟩, ?_⟩
        refine hP _ _ _ _ _ ?_
        refine hP _ _ _ _ _ ⟨fun h44 => ?_, fun h44 => ?_⟩
        ·
          refine hP _ _ _ _ _ ?_
          refine hP _ _ _ _ _ ?_
          refine hP _ _ _ _ _ ?_
          refine hP _ _ _ _ _ ?_
          refine hP _ _ _ _ _ ⟨(zi hn rfl rfl rfl), Nat.le_of_ble_eq_true rfl, Nat.le_of_ble_eq_true rfl, ?_⟩
          refine ⟨j, 1, rfl, by omega, by omega, ⟨hn, hF⟩, ?_⟩
          refine hP _ _ _ _ _ ?_
          refine hP _ _ _ _ _ ⟨(zi hn rfl rfl rfl), ?_⟩
          refine hP _ _ _ _ _ ⟨(zi hn rfl rfl rfl), Nat.le_of_ble_eq_true rfl, Nat.le_of_ble_eq_true rfl, ?_⟩
          refine ⟨g, _, by rw [← hg]; rfl, hg8, ⟨hn, hF⟩, ?_⟩
          refine hP _ _ _ _ _ ⟨fun h64 => ?_, fun h64 => ?_⟩
          ·
            have h64 := zb_0.mp h64
            refine hP _ _ _ _ _ ?_
            refine hP _ _ _ _ _ ⟨(zi hn rfl rfl rfl), _, fx_Model_acts hF, (by decide), ?_⟩
            refine hP _ _ _ _ _ ?_
            refine hP _ _ _ _ _ ?_
            refine hP _ _ _ _ _ ?_
            refine hP _ _ _ _ _ ?_
            refine hP _ _ _ _ _ ?_
            refine hP _ _ _ _ _ ?_
            refine hP _ _ _ _ _ ⟨(zi hn rfl rfl rfl), Nat.le_of_ble_eq_true rfl, Nat.le_of_ble_eq_true rfl, ?_⟩
            refine ⟨m, rfl, ⟨hn, hF⟩, c5, hm, ?_⟩
            refine hP _ _ _ _ _ ⟨_, 9 * j + 7, (zi hn rfl rfl rfl), nlin 9 j 7, by omega, ?_⟩
            refine hP _ _ _ _ _ ?_
            refine hP _ _ _ _ _ ⟨(zi hn rfl rfl rfl), ?_⟩
            refine hP _ _ _ _ _ ?_
            exact ⟨rfl, by simpa [T_approve, zput, zI_at, h10, h17, hx, hg, hxg, h30, h44, h64] using hQ⟩
          ·
            have h64 := zb_n.mp h64
            refine hP _ _ _ _ _ ?_
            refine hP _ _ _ _ _ ?_
            exact ⟨rfl, by simpa [T_approve, zput, zI_at, h10, h17, hx, hg, hxg, h30, h44, h64] using hQ⟩
        ·
          refine hP _ _ _ _ _ ?_
          refine hP _ _ _ _ _ ?_
          exact ⟨rfl, by simpa [T_approve, zput, zI_at, h10, h17, hx, hg, hxg, h30, h44] using hQ⟩
      ·
        refine hP _ _ _ _ _ ?_
        refine hP _ _ _ _ _ ?_
        exact ⟨rfl, by simpa [T_approve, zput, zI_at, h10, h17, hx, hg, hxg, h30] using hQ⟩
    ·
      have h17 := zb_n.mp h17
      refine hP _ _ _ _ _ ?_
      refine hP _ _ _ _ _ ?_
      exact ⟨rfl, by simpa [T_approve, zput, zI_at, h10, h17] using hQ⟩
def T_enter (mem : zM) (p e : Int32) (m : Nat) (Q : Int32 → zM → Prop) : Prop :=
  if isin p 0 (mem.1 180 15 - 1) = false ∨ mfull mem = true then Q (-1) mem
  else if ¬ mem.1 185 (3 * ix p + (if e = 0 then 1 else 2)) = -1 then Q (-2) mem
  else if (if e = 0 then ¬ mem.1 185 (3 * ix p) = -1 else (mem.1 185 (3 * ix p) = -1 ∨ mem.1 185 (3 * ix p + 1) = -1)) then Q (-3) mem
  else Q (nI (m + 1)) (zI (zput mem m) 185 (3 * ix p + (if e = 0 then 1 else 2)) (nI (m + 1)))
def k_X11_enter : zCt := fun as n mem Q => ∃ (p e : Int32) (np pw m na : Nat), as = [.ref 180, .int p, .int e] ∧ zst n mem ∧ (fun mem : zM => zMc mem np pw m na ∧ T_enter mem p e m (fun r mem => Q (some (.int r)) n mem)) (zI mem 180 0 0)
theorem ok_X11_enter {l : Launch} {G : zG} : zOK l G yX11_enter cX11_enter 5 (some .int) 2 0 0 k_X11_enter := by
  intro as n mem Q hK
  obtain ⟨p, e, np, pw, m, na, rfl, ⟨hn, hF⟩, hQ⟩ := hK
  refine mtX11_enter ok_X11_isPower (by decide) ok_X11_isFull (by decide) ok_X11_puts (by decide) (List.forall_mem_cons.mpr ⟨rfl, List.forall_mem_cons.mpr ⟨rfl, List.forall_mem_cons.mpr ⟨rfl, fun _ h => absurd h List.not_mem_nil⟩⟩⟩) (by simp) rfl (fun P hP => ?_)
  show P 0 [.ref 180, .int p, .int e, .null, .null] [] n mem
  refine hP _ _ _ _ _ ?_
  refine hP _ _ _ _ _ ?_
  refine hP _ _ _ _ _ ⟨(zi hn rfl rfl rfl), ?_⟩
  show P 5 [.ref 180, .int p, .int e, .null, .null] [] n (zI mem 180 0 0)
  have hF : zFx (zI mem 180 0 0) := hF
  generalize zI mem 180 0 0 = mem at *
  obtain ⟨⟨c1, c2, c3, c4, c5, c6, c7, c8⟩, hQ⟩ := hQ
  refine hP _ _ _ _ _ ?_
  refine hP _ _ _ _ _ ?_
  refine hP _ _ _ _ _ ⟨(zi hn rfl rfl rfl), Nat.le_of_ble_eq_true rfl, Nat.le_of_ble_eq_true rfl, ?_⟩
  refine ⟨_, rfl, ⟨hn, hF⟩, ?_⟩
  refine hP _ _ _ _ _ ⟨fun h10 => ?_, fun h10 => ?_⟩
  ·
    have h10 := zb_0.mp h10
    refine hP _ _ _ _ _ ?_
    refine hP _ _ _ _ _ ?_
    first | exact ⟨rfl, by simpa [T_enter, zput, zI_at, h10] using hQ⟩ | exact absurd rfl h96 | exact absurd h96 (by decide) | exact absurd rfl h74 | exact absurd h74 (by decide) | exact absurd h26 h69 | exact absurd h69 h26
  ·
    have h10 := zb_n.mp h10
    refine hP _ _ _ _ _ ?_
    refine hP _ _ _ _ _ ⟨(zi hn rfl rfl rfl), Nat.le_of_ble_eq_true rfl, Nat.le_of_ble_eq_true rfl, ?_⟩
    refine ⟨rfl, ⟨hn, hF⟩, ?_⟩
    refine hP _ _ _ _ _ ⟨fun h17 => ?_, fun h17 => ?_⟩
    ·
      have h17 := zb_0.mp h17
      obtain ⟨j, hj, rfl⟩ := isin_nI (by omega) (c3 ▸ h10)
      have hx := ix_nI (j := j) (by omega)
      have hm := full_lt c5 c6 h17
      have d1 : nI 3 * nI j + 1 = nI (3 * j + 1) := nlin 3 j 1
      have d2 : nI 3 * nI j + 2 = nI (3 * j + 2) := nlin 3 j 2
      refine hP _ _ _ _ _ ?_
      refine hP _ _ _ _ _ ?_
      refine hP _ _ _ _ _ ?_
      refine hP _ _ _ _ _ ?_
      refine hP _ _ _ _ _ ⟨fun h26 => ?_, fun h26 => ?_⟩
      ·
        refine hP _ _ _ _ _ ?_
        refine hP _ _ _ _ _ ?_
        refine hP _ _ _ _ _ ?_
        refine hP _ _ _ _ _ ?_
        refine hP _ _ _ _ _ ⟨(zi hn rfl rfl rfl), _, fx_Model_entries hF, (by decide), ?_⟩
        refine hP _ _ _ _ _ ?_
        refine hP _ _ _ _ _ ⟨_, _, (zi hn rfl rfl rfl), (by first | exact d1 | exact d2), by omega, ?_⟩
        refine hP _ _ _ _ _ ?_
        refine hP _ _ _ _ _ ⟨fun h43 => ?_, fun h43 => ?_⟩
        ·
          refine hP _ _ _ _ _ ?_
          refine hP _ _ _ _ _ ⟨(zi hn rfl rfl rfl), _, fx_Model_entries hF, (by decide), ?_⟩
          refine hP _ _ _ _ _ ?_
          refine hP _ _ _ _ _ ?_
          refine hP _ _ _ _ _ ?_
          refine hP _ _ _ _ _ ⟨_, 3 * j, (zi hn rfl rfl rfl), nmul 3 j, by omega, ?_⟩
          refine hP _ _ _ _ _ ?_
          refine hP _ _ _ _ _ ⟨fun h58 => ?_, fun h58 => ?_⟩
          ·
            refine hP _ _ _ _ _ ?_
            refine hP _ _ _ _ _ ?_
            refine hP _ _ _ _ _ ?_
            refine hP _ _ _ _ _ ⟨fun h69 => ?_, fun h69 => ?_⟩
            ·
              refine hP _ _ _ _ _ ?_
              refine hP _ _ _ _ _ ⟨fun h96 => ?_, fun h96 => ?_⟩
              ·
                refine hP _ _ _ _ _ ?_
                refine hP _ _ _ _ _ ⟨(zi hn rfl rfl rfl), _, fx_Model_entries hF, (by decide), ?_⟩
                refine hP _ _ _ _ _ ?_
                refine hP _ _ _ _ _ ?_
                refine hP _ _ _ _ _ ⟨(zi hn rfl rfl rfl), Nat.le_of_ble_eq_true rfl, Nat.le_of_ble_eq_true rfl, ?_⟩
                refine ⟨m, rfl, ⟨hn, hF⟩, c5, hm, ?_⟩
                refine hP _ _ _ _ _ ⟨_, _, (zi hn rfl rfl rfl), (by first | exact d1 | exact d2), by omega, ?_⟩
                refine hP _ _ _ _ _ ?_
                refine hP _ _ _ _ _ ⟨(zi hn rfl rfl rfl), ?_⟩
                refine hP _ _ _ _ _ ?_
                first | exact ⟨rfl, by simpa [T_enter, zput, zI_at, h10, h17, hx, h26, h43, h58, h69, h96] using hQ⟩ | exact absurd rfl h96 | exact absurd h96 (by decide) | exact absurd rfl h74 | exact absurd h74 (by decide) | exact absurd h26 h69 | exact absurd h69 h26
              ·
                refine hP _ _ _ _ _ ?_
                refine hP _ _ _ _ _ ?_
                first | exact ⟨rfl, by simpa [T_enter, zput, zI_at, h10, h17, hx, h26, h43, h58, h69, h96] using hQ⟩ | exact absurd rfl h96 | exact absurd h96 (by decide) | exact absurd rfl h74 | exact absurd h74 (by decide) | exact absurd h26 h69 | exact absurd h69 h26
            ·
              refine hP _ _ _ _ _ ?_
              refine hP _ _ _ _ _ ⟨fun h74 => ?_, fun h74 => ?_⟩
              ·
                refine hP _ _ _ _ _ ?_
                refine hP _ _ _ _ _ ?_
                first | exact ⟨rfl, by simpa [T_enter, zput, zI_at, h10, h17, hx, h26, h43, h58, h69, h74] using hQ⟩ | exact absurd rfl h96 | exact absurd h96 (by decide) | exact absurd rfl h74 | exact absurd h74 (by decide) | exact absurd h26 h69 | exact absurd h69 h26
              ·
                refine hP _ _ _ _ _ ?_
                refine hP _ _ _ _ _ ⟨(zi hn rfl rfl rfl), _, fx_Model_entries hF, (by decide), ?_⟩
                refine hP _ _ _ _ _ ?_
                refine hP _ _ _ _ _ ?_
                refine hP _ _ _ _ _ ?_
                refine hP _ _ _ _ _ ?_
                refine hP _ _ _ _ _ ?_
                refine hP _ _ _ _ _ ⟨_, 3 * j + 1, (zi hn rfl rfl rfl), d1, by omega, ?_⟩
                refine hP _ _ _ _ _ ?_
                refine hP _ _ _ _ _ ⟨fun h88 => ?_, fun h88 => ?_⟩
                ·
                  refine hP _ _ _ _ _ ?_
                  refine hP _ _ _ _ _ ?_
                  refine hP _ _ _ _ _ ?_
                  first | exact ⟨rfl, by simpa [T_enter, zput, zI_at, h10, h17, hx, h26, h43, h58, h69, h74, h88] using hQ⟩ | exact absurd rfl h96 | exact absurd h96 (by decide) | exact absurd rfl h74 | exact absurd h74 (by decide) | exact absurd h26 h69 | exact absurd h69 h26
                ·
                  refine hP _ _ _ _ _ ?_
                  refine hP _ _ _ _ _ ⟨(zi hn rfl rfl rfl), _, fx_Model_entries hF, (by decide), ?_⟩
                  refine hP _ _ _ _ _ ?_
                  refine hP _ _ _ _ _ ?_
                  refine hP _ _ _ _ _ ⟨(zi hn rfl rfl rfl), Nat.le_of_ble_eq_true rfl, Nat.le_of_ble_eq_true rfl, ?_⟩
                  refine ⟨m, rfl, ⟨hn, hF⟩, c5, hm, ?_⟩
                  refine hP _ _ _ _ _ ⟨_, _, (zi hn rfl rfl rfl), (by first | exact d1 | exact d2), by omega, ?_⟩
                  refine hP _ _ _ _ _ ?_
                  refine hP _ _ _ _ _ ⟨(zi hn rfl rfl rfl), ?_⟩
                  refine hP _ _ _ _ _ ?_
                  first | exact ⟨rfl, by simpa [T_enter, zput, zI_at, h10, h17, hx, h26, h43, h58, h69, h74, h88] using hQ⟩ | exact absurd rfl h96 | exact absurd h96 (by decide) | exact absurd rfl h74 | exact absurd h74 (by decide) | exact absurd h26 h69 | exact absurd h69 h26
          ·
            refine hP _ _ _ _ _ ?_
            refine hP _ _ _ _ _ ?_
            refine hP _ _ _ _ _ ?_
            refine hP _ _ _ _ _ ?_
            refine hP _ _ _ _ _ ⟨fun h69 => ?_, fun h69 => ?_⟩
            ·
              refine hP _ _ _ _ _ ?_
              refine hP _ _ _ _ _ ⟨fun h96 => ?_, fun h96 => ?_⟩
              ·
                refine hP _ _ _ _ _ ?_
                refine hP _ _ _ _ _ ⟨(zi hn rfl rfl rfl), _, fx_Model_entries hF, (by decide), ?_⟩
                refine hP _ _ _ _ _ ?_
                refine hP _ _ _ _ _ ?_
                refine hP _ _ _ _ _ ⟨(zi hn rfl rfl rfl), Nat.le_of_ble_eq_true rfl, Nat.le_of_ble_eq_true rfl, ?_⟩
                refine ⟨m, rfl, ⟨hn, hF⟩, c5, hm, ?_⟩
                refine hP _ _ _ _ _ ⟨_, _, (zi hn rfl rfl rfl), (by first | exact d1 | exact d2), by omega, ?_⟩
                refine hP _ _ _ _ _ ?_
                refine hP _ _ _ _ _ ⟨(zi hn rfl rfl rfl), ?_⟩
                refine hP _ _ _ _ _ ?_
                first | exact ⟨rfl, by simpa [T_enter, zput, zI_at, h10, h17, hx, h26, h43, h58, h69, h96] using hQ⟩ | exact absurd rfl h96 | exact absurd h96 (by decide) | exact absurd rfl h74 | exact absurd h74 (by decide) | exact absurd h26 h69 | exact absurd h69 h26
              ·
                refine hP _ _ _ _ _ ?_
                refine hP _ _ _ _ _ ?_
                first | exact ⟨rfl, by simpa [T_enter, zput, zI_at, h10, h17, hx, h26, h43, h58, h69, h96] using hQ⟩ | exact absurd rfl h96 | exact absurd h96 (by decide) | exact absurd rfl h74 | exact absurd h74 (by decide) | exact absurd h26 h69 | exact absurd h69 h26
            ·
              refine hP _ _ _ _ _ ?_
              refine hP _ _ _ _ _ ⟨fun h74 => ?_, fun h74 => ?_⟩
              ·
                refine hP _ _ _ _ _ ?_
                refine hP _ _ _ _ _ ?_
                first | exact ⟨rfl, by simpa [T_enter, zput, zI_at, h10, h17, hx, h26, h43, h58, h69, h74] using hQ⟩ | exact absurd rfl h96 | exact absurd h96 (by decide) | exact absurd rfl h74 | exact absurd h74 (by decide) | exact absurd h26 h69 | exact absurd h69 h26
              ·
                refine hP _ _ _ _ _ ?_
                refine hP _ _ _ _ _ ⟨(zi hn rfl rfl rfl), _, fx_Model_entries hF, (by decide), ?_⟩
                refine hP _ _ _ _ _ ?_
                refine hP _ _ _ _ _ ?_
                refine hP _ _ _ _ _ ?_
                refine hP _ _ _ _ _ ?_
                refine hP _ _ _ _ _ ?_
                refine hP _ _ _ _ _ ⟨_, 3 * j + 1, (zi hn rfl rfl rfl), d1, by omega, ?_⟩
                refine hP _ _ _ _ _ ?_
                refine hP _ _ _ _ _ ⟨fun h88 => ?_, fun h88 => ?_⟩
                ·
                  refine hP _ _ _ _ _ ?_
                  refine hP _ _ _ _ _ ?_
                  refine hP _ _ _ _ _ ?_
                  first | exact ⟨rfl, by simpa [T_enter, zput, zI_at, h10, h17, hx, h26, h43, h58, h69, h74, h88] using hQ⟩ | exact absurd rfl h96 | exact absurd h96 (by decide) | exact absurd rfl h74 | exact absurd h74 (by decide) | exact absurd h26 h69 | exact absurd h69 h26
                ·
                  refine hP _ _ _ _ _ ?_
                  refine hP _ _ _ _ _ ⟨(zi hn rfl rfl rfl), _, fx_Model_entries hF, (by decide), ?_⟩
                  refine hP _ _ _ _ _ ?_
                  refine hP _ _ _ _ _ ?_
                  refine hP _ _ _ _ _ ⟨(zi hn rfl rfl rfl), Nat.le_of_ble_eq_true rfl, Nat.le_of_ble_eq_true rfl, ?_⟩
                  refine ⟨m, rfl, ⟨hn, hF⟩, c5, hm, ?_⟩
                  refine hP _ _ _ _ _ ⟨_, _, (zi hn rfl rfl rfl), (by first | exact d1 | exact d2), by omega, ?_⟩
                  refine hP _ _ _ _ _ ?_
                  refine hP _ _ _ _ _ ⟨(zi hn rfl rfl rfl), ?_⟩
                  refine hP _ _ _ _ _ ?_
                  first | exact ⟨rfl, by simpa [T_enter, zput, zI_at, h10, h17, hx, h26, h43, h58, h69, h74, h88] using hQ⟩ | exact absurd rfl h96 | exact absurd h96 (by decide) | exact absurd rfl h74 | exact absurd h74 (by decide) | exact absurd h26 h69 | exact absurd h69 h26
        ·
          refine hP _ _ _ _ _ ?_
          refine hP _ _ _ _ _ ?_
          first | exact ⟨rfl, by simpa [T_enter, zput, zI_at, h10, h17, hx, h26, h43] using hQ⟩ | exact absurd rfl h96 | exact absurd h96 (by decide) | exact absurd rfl h74 | exact absurd h74 (by decide) | exact absurd h26 h69 | exact absurd h69 h26
      ·
        refine hP _ _ _ _ _ ?_
        refine hP _ _ _ _ _ ?_
        refine hP _ _ _ _ _ ?_
        refine hP _ _ _ _ _ ?_
        refine hP _ _ _ _ _ ?_
        refine hP _ _ _ _ _ ⟨(zi hn rfl rfl rfl), _, fx_Model_entries hF, (by decide), ?_⟩
        refine hP _ _ _ _ _ ?_
        refine hP _ _ _ _ _ ⟨_, _, (zi hn rfl rfl rfl), (by first | exact d1 | exact d2), by omega, ?_⟩
        refine hP _ _ _ _ _ ?_
        refine hP _ _ _ _ _ ⟨fun h43 => ?_, fun h43 => ?_⟩
        ·
          refine hP _ _ _ _ _ ?_
          refine hP _ _ _ _ _ ⟨(zi hn rfl rfl rfl), _, fx_Model_entries hF, (by decide), ?_⟩
          refine hP _ _ _ _ _ ?_
          refine hP _ _ _ _ _ ?_
          refine hP _ _ _ _ _ ?_
          refine hP _ _ _ _ _ ⟨_, 3 * j, (zi hn rfl rfl rfl), nmul 3 j, by omega, ?_⟩
          refine hP _ _ _ _ _ ?_
          refine hP _ _ _ _ _ ⟨fun h58 => ?_, fun h58 => ?_⟩
          ·
            refine hP _ _ _ _ _ ?_
            refine hP _ _ _ _ _ ?_
            refine hP _ _ _ _ _ ?_
            refine hP _ _ _ _ _ ⟨fun h69 => ?_, fun h69 => ?_⟩
            ·
              refine hP _ _ _ _ _ ?_
              refine hP _ _ _ _ _ ⟨fun h96 => ?_, fun h96 => ?_⟩
              ·
                refine hP _ _ _ _ _ ?_
                refine hP _ _ _ _ _ ⟨(zi hn rfl rfl rfl), _, fx_Model_entries hF, (by decide), ?_⟩
                refine hP _ _ _ _ _ ?_
                refine hP _ _ _ _ _ ?_
                refine hP _ _ _ _ _ ⟨(zi hn rfl rfl rfl), Nat.le_of_ble_eq_true rfl, Nat.le_of_ble_eq_true rfl, ?_⟩
                refine ⟨m, rfl, ⟨hn, hF⟩, c5, hm, ?_⟩
                refine hP _ _ _ _ _ ⟨_, _, (zi hn rfl rfl rfl), (by first | exact d1 | exact d2), by omega, ?_⟩
                refine hP _ _ _ _ _ ?_
                refine hP _ _ _ _ _ ⟨(zi hn rfl rfl rfl), ?_⟩
                refine hP _ _ _ _ _ ?_
                first | exact ⟨rfl, by simpa [T_enter, zput, zI_at, h10, h17, hx, h26, h43, h58, h69, h96] using hQ⟩ | exact absurd rfl h96 | exact absurd h96 (by decide) | exact absurd rfl h74 | exact absurd h74 (by decide) | exact absurd h26 h69 | exact absurd h69 h26
              ·
                refine hP _ _ _ _ _ ?_
                refine hP _ _ _ _ _ ?_
                first | exact ⟨rfl, by simpa [T_enter, zput, zI_at, h10, h17, hx, h26, h43, h58, h69, h96] using hQ⟩ | exact absurd rfl h96 | exact absurd h96 (by decide) | exact absurd rfl h74 | exact absurd h74 (by decide) | exact absurd h26 h69 | exact absurd h69 h26
            ·
              refine hP _ _ _ _ _ ?_
              refine hP _ _ _ _ _ ⟨fun h74 => ?_, fun h74 => ?_⟩
              ·
                refine hP _ _ _ _ _ ?_
                refine hP _ _ _ _ _ ?_
                first | exact ⟨rfl, by simpa [T_enter, zput, zI_at, h10, h17, hx, h26, h43, h58, h69, h74] using hQ⟩ | exact absurd rfl h96 | exact absurd h96 (by decide) | exact absurd rfl h74 | exact absurd h74 (by decide) | exact absurd h26 h69 | exact absurd h69 h26
              ·
                refine hP _ _ _ _ _ ?_
                refine hP _ _ _ _ _ ⟨(zi hn rfl rfl rfl), _, fx_Model_entries hF, (by decide), ?_⟩
                refine hP _ _ _ _ _ ?_
                refine hP _ _ _ _ _ ?_
                refine hP _ _ _ _ _ ?_
                refine hP _ _ _ _ _ ?_
                refine hP _ _ _ _ _ ?_
                refine hP _ _ _ _ _ ⟨_, 3 * j + 1, (zi hn rfl rfl rfl), d1, by omega, ?_⟩
                refine hP _ _ _ _ _ ?_
                refine hP _ _ _ _ _ ⟨fun h88 => ?_, fun h88 => ?_⟩
                ·
                  refine hP _ _ _ _ _ ?_
                  refine hP _ _ _ _ _ ?_
                  refine hP _ _ _ _ _ ?_
                  first | exact ⟨rfl, by simpa [T_enter, zput, zI_at, h10, h17, hx, h26, h43, h58, h69, h74, h88] using hQ⟩ | exact absurd rfl h96 | exact absurd h96 (by decide) | exact absurd rfl h74 | exact absurd h74 (by decide) | exact absurd h26 h69 | exact absurd h69 h26
                ·
                  refine hP _ _ _ _ _ ?_
                  refine hP _ _ _ _ _ ⟨(zi hn rfl rfl rfl), _, fx_Model_entries hF, (by decide), ?_⟩
                  refine hP _ _ _ _ _ ?_
                  refine hP _ _ _ _ _ ?_
                  refine hP _ _ _ _ _ ⟨(zi hn rfl rfl rfl), Nat.le_of_ble_eq_true rfl, Nat.le_of_ble_eq_true rfl, ?_⟩
                  refine ⟨m, rfl, ⟨hn, hF⟩, c5, hm, ?_⟩
                  refine hP _ _ _ _ _ ⟨_, _, (zi hn rfl rfl rfl), (by first | exact d1 | exact d2), by omega, ?_⟩
                  refine hP _ _ _ _ _ ?_
                  refine hP _ _ _ _ _ ⟨(zi hn rfl rfl rfl), ?_⟩
                  refine hP _ _ _ _ _ ?_
                  first | exact ⟨rfl, by simpa [T_enter, zput, zI_at, h10, h17, hx, h26, h43, h58, h69, h74, h88] using hQ⟩ | exact absurd rfl h96 | exact absurd h96 (by decide) | exact absurd rfl h74 | exact absurd h74 (by decide) | exact absurd h26 h69 | exact absurd h69 h26
          ·
            refine hP _ _ _ _ _ ?_
            refine hP _ _ _ _ _ ?_
            refine hP _ _ _ _ _ ?_
            refine hP _ _ _ _ _ ?_
            refine hP _ _ _ _ _ ⟨fun h69 => ?_, fun h69 => ?_⟩
            ·
              refine hP _ _ _ _ _ ?_
              refine hP _ _ _ _ _ ⟨fun h96 => ?_, fun h96 => ?_⟩
              ·
                refine hP _ _ _ _ _ ?_
                refine hP _ _ _ _ _ ⟨(zi hn rfl rfl rfl), _, fx_Model_entries hF, (by decide), ?_⟩
                refine hP _ _ _ _ _ ?_
                refine hP _ _ _ _ _ ?_
                refine hP _ _ _ _ _ ⟨(zi hn rfl rfl rfl), Nat.le_of_ble_eq_true rfl, Nat.le_of_ble_eq_true rfl, ?_⟩
                refine ⟨m, rfl, ⟨hn, hF⟩, c5, hm, ?_⟩
                refine hP _ _ _ _ _ ⟨_, _, (zi hn rfl rfl rfl), (by first | exact d1 | exact d2), by omega, ?_⟩
                refine hP _ _ _ _ _ ?_
                refine hP _ _ _ _ _ ⟨(zi hn rfl rfl rfl), ?_⟩
                refine hP _ _ _ _ _ ?_
                first | exact ⟨rfl, by simpa [T_enter, zput, zI_at, h10, h17, hx, h26, h43, h58, h69, h96] using hQ⟩ | exact absurd rfl h96 | exact absurd h96 (by decide) | exact absurd rfl h74 | exact absurd h74 (by decide) | exact absurd h26 h69 | exact absurd h69 h26
              ·
                refine hP _ _ _ _ _ ?_
                refine hP _ _ _ _ _ ?_
                first | exact ⟨rfl, by simpa [T_enter, zput, zI_at, h10, h17, hx, h26, h43, h58, h69, h96] using hQ⟩ | exact absurd rfl h96 | exact absurd h96 (by decide) | exact absurd rfl h74 | exact absurd h74 (by decide) | exact absurd h26 h69 | exact absurd h69 h26
            ·
              refine hP _ _ _ _ _ ?_
              refine hP _ _ _ _ _ ⟨fun h74 => ?_, fun h74 => ?_⟩
              ·
                refine hP _ _ _ _ _ ?_
                refine hP _ _ _ _ _ ?_
                first | exact ⟨rfl, by simpa [T_enter, zput, zI_at, h10, h17, hx, h26, h43, h58, h69, h74] using hQ⟩ | exact absurd rfl h96 | exact absurd h96 (by decide) | exact absurd rfl h74 | exact absurd h74 (by decide) | exact absurd h26 h69 | exact absurd h69 h26
              ·
                refine hP _ _ _ _ _ ?_
                refine hP _ _ _ _ _ ⟨(zi hn rfl rfl rfl), _, fx_Model_entries hF, (by decide), ?_⟩
                refine hP _ _ _ _ _ ?_
                refine hP _ _ _ _ _ ?_
                refine hP _ _ _ _ _ ?_
                refine hP _ _ _ _ _ ?_
                refine hP _ _ _ _ _ ?_
                refine hP _ _ _ _ _ ⟨_, 3 * j + 1, (zi hn rfl rfl rfl), d1, by omega, ?_⟩
                refine hP _ _ _ _ _ ?_
                refine hP _ _ _ _ _ ⟨fun h88 => ?_, fun h88 => ?_⟩
                ·
                  refine hP _ _ _ _ _ ?_
                  refine hP _ _ _ _ _ ?_
                  refine hP _ _ _ _ _ ?_
                  first | exact ⟨rfl, by simpa [T_enter, zput, zI_at, h10, h17, hx, h26, h43, h58, h69, h74, h88] using hQ⟩ | exact absurd rfl h96 | exact absurd h96 (by decide) | exact absurd rfl h74 | exact absurd h74 (by decide) | exact absurd h26 h69 | exact absurd h69 h26
                ·
                  refine hP _ _ _ _ _ ?_
                  refine hP _ _ _ _ _ ⟨(zi hn rfl rfl rfl), _, fx_Model_entries hF, (by decide), ?_⟩
                  refine hP _ _ _ _ _ ?_
                  refine hP _ _ _ _ _ ?_
                  refine hP _ _ _ _ _ ⟨(zi hn rfl rfl rfl), Nat.le_of_ble_eq_true rfl, Nat.le_of_ble_eq_true rfl, ?_⟩
                  refine ⟨m, rfl, ⟨hn, hF⟩, c5, hm, ?_⟩
                  refine hP _ _ _ _ _ ⟨_, _, (zi hn rfl rfl rfl), (by first | exact d1 | exact d2), by omega, ?_⟩
                  refine hP _ _ _ _ _ ?_
                  refine hP _ _ _ _ _ ⟨(zi hn rfl rfl rfl), ?_⟩
                  refine hP _ _ _ _ _ ?_
                  first | exact ⟨rfl, by simpa [T_enter, zput, zI_at, h10, h17, hx, h26, h43, h58, h69, h74, h88] using hQ⟩ | exact absurd rfl h96 | exact absurd h96 (by decide) | exact absurd rfl h74 | exact absurd h74 (by decide) | exact absurd h26 h69 | exact absurd h69 h26
        ·
          refine hP _ _ _ _ _ ?_
          refine hP _ _ _ _ _ ?_
          first | exact ⟨rfl, by simpa [T_enter, zput, zI_at, h10, h17, hx, h26, h43] using hQ⟩ | exact absurd rfl h96 | exact absurd h96 (by decide) | exact absurd rfl h74 | exact absurd h74 (by decide) | exact absurd h26 h69 | exact absurd h69 h26
    ·
      have h17 := zb_n.mp h17
      refine hP _ _ _ _ _ ?_
      refine hP _ _ _ _ _ ?_
      first | exact ⟨rfl, by simpa [T_enter, zput, zI_at, h10, h17] using hQ⟩ | exact absurd rfl h96 | exact absurd h96 (by decide) | exact absurd rfl h74 | exact absurd h74 (by decide) | exact absurd h26 h69 | exact absurd h69 h26
