theorem inC_lt {v c : Int32} (h : v < 0) : inC v c = false := decide_eq_false (fun z => z.1 h)
theorem inC_ge {v c : Int32} (h : c ≤ v) : inC v c = false := decide_eq_false (fun z => z.2 h)
theorem inC_ok {v c : Int32} (h1 : ¬ v < 0) (h2 : ¬ c ≤ v) : inC v c = true := decide_eq_true ⟨h1, h2⟩
theorem isin_lt {v a b : Int32} (h : v < a) : isin v a b = false := decide_eq_false (fun z => z.1 h)
theorem isin_gt {v a b : Int32} (h : ¬ v ≤ b) : isin v a b = false := decide_eq_false (fun z => z.2 (Int32.not_le.mp h))
theorem isin_ok {v a b : Int32} (h1 : ¬ v < a) (h2 : v ≤ b) : isin v a b = true := decide_eq_true ⟨h1, Int32.not_lt.mpr h2⟩
def C_notice (mem : zM) (t : Nat) (q p : Int32) (m : Nat) (Q : Int32 → zM → Prop) : Prop :=
  if inC q (mem.1 t 1) = false ∨ inC p (mem.1 t 2) = false ∨ cfull mem = true then Q (-1) mem
  else if bt (mem.1 (t + 2 + ix p) 14) (ix q) = true then Q (-2) mem
  else if mem.1 (t + 2 + ix p) 11 = -1 then Q (-3) mem
  else Q (nI (m + 1)) (cput (zI mem (t + 2 + ix p) 14 (mem.1 (t + 2 + ix p) 14 ||| (1 <<< (q &&& 31)))) m)
def k_X10_notice : zCt := fun as n mem Q => ∃ (q p : Int32) (t np pw m na : Nat), as = [.ref 100, .int q, .int p] ∧ zCs n mem t np pw m na ∧ C_notice mem t q p m (fun r mem => Q (some (.int r)) n mem)
theorem ok_X10_notice {l : Launch} {G : zG} : zOK l G yX10_notice cX10_notice 4 (some .int) 2 0 0 k_X10_notice := by
  intro as n mem Q hK
  obtain ⟨q, p, t, np, pw, m, na, rfl, ⟨⟨hn, hF⟩, ht, hTl, hU, ⟨hm, hN⟩, hna, hna16⟩, hQ⟩ := hK
  refine mtX10_notice ok_X10_isParty (by decide) ok_X10_isPower (by decide) ok_X4_isFull (by decide) ok_X10_has (by decide) ok_X4_putDown (by decide) (List.forall_mem_cons.mpr ⟨rfl, List.forall_mem_cons.mpr ⟨rfl, List.forall_mem_cons.mpr ⟨rfl, fun _ h => absurd h List.not_mem_nil⟩⟩⟩) (by simp) rfl (fun P hP => ?_)
  show P 0 [.ref 100, .int q, .int p, .null] [] n mem
  obtain ⟨hT, hnp, hnp8, hpw, hw, hPs⟩ := id hTl
  unfold C_notice at hQ
  refine hP _ _ _ _ _ ?_
  refine hP _ _ _ _ _ ?_
  refine hP _ _ _ _ _ ⟨(zi hn rfl rfl rfl), Nat.le_of_ble_eq_true rfl, Nat.le_of_ble_eq_true rfl, ?_⟩
  refine ⟨_, t, rfl, ⟨hn, hF⟩, ⟨ht, hT⟩, ?_⟩
  refine hP _ _ _ _ _ ⟨fun h5 => ?_, fun h5 => ?_⟩
  ·
    have h5 := zb_0.mp h5
    refine hP _ _ _ _ _ ?_
    refine hP _ _ _ _ _ ?_
    exact ⟨rfl, by rw [if_pos (by simp [h5])] at hQ; exact hQ⟩
  ·
    have h5 := zb_n.mp h5
    refine hP _ _ _ _ _ ?_
    refine hP _ _ _ _ _ ?_
    refine hP _ _ _ _ _ ⟨(zi hn rfl rfl rfl), Nat.le_of_ble_eq_true rfl, Nat.le_of_ble_eq_true rfl, ?_⟩
    refine ⟨_, t, rfl, ⟨hn, hF⟩, ⟨ht, hT⟩, ?_⟩
    refine hP _ _ _ _ _ ⟨fun h13 => ?_, fun h13 => ?_⟩
    ·
      have h13 := zb_0.mp h13
      refine hP _ _ _ _ _ ?_
      refine hP _ _ _ _ _ ?_
      exact ⟨rfl, by rw [if_pos (by simp [h5, h13])] at hQ; exact hQ⟩
    ·
      have h13 := zb_n.mp h13
      refine hP _ _ _ _ _ ?_
      refine hP _ _ _ _ _ ⟨(zi hn rfl rfl rfl), _, fx_Book_log hF, (by decide), ?_⟩
      refine hP _ _ _ _ _ ⟨(zi hn rfl rfl rfl), Nat.le_of_ble_eq_true rfl, Nat.le_of_ble_eq_true rfl, ?_⟩
      refine ⟨rfl, ⟨hn, hF⟩, ?_⟩
      refine hP _ _ _ _ _ ⟨fun h23 => ?_, fun h23 => ?_⟩
      ·
        have h23 := zb_0.mp h23
        obtain ⟨i, hi, rfl⟩ := inC_nI (by omega) (hnp ▸ h5)
        obtain ⟨j, hj, rfl⟩ := inC_nI (by omega) (hpw ▸ h13)
        have hx := ix_nI (j := j) (by omega)
        have hy := ix_nI (j := i) (by omega)
        have hm3 := cfull_m hm hN.1 h23
        rw [hx, hy, if_neg (by rw [h5, h13, h23]; simp)] at hQ
        have hm4 : ∀ v, (zI mem (t + 2 + j) 14 v).1 108 5 = nI m := fun v => by rw [zI_ne (by omega)]; exact hm
        refine hP _ _ _ _ _ ?_
        refine hP _ _ _ _ _ ⟨(zi hn rfl rfl rfl), _, ht, (by omega), ?_⟩
        refine hP _ _ _ _ _ ⟨(ztT hn hT), _, (fx_tp hF hT), (by omega), ?_⟩
        refine hP _ _ _ _ _ ?_
        refine hP _ _ _ _ _ ⟨_, j, (ztA hn hT), rfl, by omega, _, (fx_pw hF hT (by omega)), (by omega), ?_⟩
        refine hP _ _ _ _ _ ?_
        refine hP _ _ _ _ _ ?_
        refine hP _ _ _ _ _ ⟨(ztP hn hT (by omega)), ?_⟩
        refine hP _ _ _ _ _ ?_
        refine hP _ _ _ _ _ ⟨Nat.le_of_ble_eq_true rfl, Nat.le_of_ble_eq_true rfl, ?_⟩
        refine ⟨_, i, rfl, by omega, ?_⟩
        refine hP _ _ _ _ _ ⟨fun h46 => ?_, fun h46 => ?_⟩
        ·
          have h46 := zb_0.mp h46
          refine hP _ _ _ _ _ ?_
          refine hP _ _ _ _ _ ⟨(ztP hn hT (by omega)), ?_⟩
          refine hP _ _ _ _ _ ?_
          refine hP _ _ _ _ _ ⟨fun h57 => ?_, fun h57 => ?_⟩
          ·
            refine hP _ _ _ _ _ ?_
            refine hP _ _ _ _ _ ?_
            exact ⟨rfl, by rw [if_neg (by rw [h46]; decide), if_pos h57] at hQ; exact hQ⟩
          ·
            refine hP _ _ _ _ _ ?_
            refine hP _ _ _ _ _ ?_
            refine hP _ _ _ _ _ ⟨(ztP hn hT (by omega)), ?_⟩
            refine hP _ _ _ _ _ ?_
            refine hP _ _ _ _ _ ?_
            refine hP _ _ _ _ _ ?_
            refine hP _ _ _ _ _ ?_
            refine hP _ _ _ _ _ ⟨(ztP hn hT (by omega)), ?_⟩
            refine hP _ _ _ _ _ ?_
            refine hP _ _ _ _ _ ⟨(zi hn rfl rfl rfl), _, fx_Book_log hF, (by decide), ?_⟩
            refine hP _ _ _ _ _ ⟨(zi hn rfl rfl rfl), Nat.le_of_ble_eq_true rfl, Nat.le_of_ble_eq_true rfl, ?_⟩
            refine ⟨m, rfl, ⟨hn, hF⟩, hm4 _, hm3, ?_⟩
            refine hP _ _ _ _ _ ?_
            exact ⟨rfl, by rw [if_neg (by rw [h46]; decide), if_neg h57] at hQ; exact hQ⟩
        ·
          have h46 := zb_n.mp h46
          refine hP _ _ _ _ _ ?_
          refine hP _ _ _ _ _ ?_
          exact ⟨rfl, by rw [if_pos h46] at hQ; exact hQ⟩
      ·
        have h23 := zb_n.mp h23
        refine hP _ _ _ _ _ ?_
        refine hP _ _ _ _ _ ?_
        exact ⟨rfl, by rw [if_pos (by simp [h5, h13, h23])] at hQ; exact hQ⟩
def kdC (c : Int32) : Bool := decide (¬ c < 0 ∧ ¬ 6 ≤ c)
def amC (c : Int32) : Bool := decide (¬ c < 0 ∧ ¬ 999 < c)
def minC (x y : Int32) : Int32 := if y < x then y else x
def C_narrow (mem : zM) (t : Nat) (p k a : Int32) (m : Nat) (Q : Int32 → zM → Prop) : Prop :=
  if inC p (mem.1 t 2) = false ∨ inC k 64 = false ∨ amC a = false ∨ cfull mem = true then Q (-1) mem
  else if ¬ mem.1 (t + 2 + ix p) 11 = -1 then Q (-2) mem
  else Q (nI (m + 1)) (zI (zI (zI (cput (zI (zI mem (t + 2 + ix p) 9 (mem.1 (t + 2 + ix p) 9 &&& k)) (t + 2 + ix p) 10 (minC (mem.1 (t + 2 + ix p) 10) a)) m) 110 (m + 1) p) 111 (m + 1) k) 112 (m + 1) a)
def k_X10_narrow : zCt := fun as n mem Q => ∃ (p k a : Int32) (t np pw m na : Nat), as = [.ref 100, .int p, .int k, .int a] ∧ zCs n mem t np pw m na ∧ C_narrow mem t p k a m (fun r mem => Q (some (.int r)) n mem)
theorem ok_X10_narrow {l : Launch} {G : zG} : zOK l G yX10_narrow cX10_narrow 5 (some .int) 3 0 0 k_X10_narrow := by
  intro as n mem Q hK
  obtain ⟨p, k, a, t, np, pw, m, na, rfl, ⟨⟨hn, hF⟩, ht, hTl, hU, ⟨hm, hN⟩, hna, hna16⟩, hQ⟩ := hK
  refine mtX10_narrow ok_X10_isPower (by decide) ok_X10_isAmount (by decide) ok_X4_isFull (by decide) ok_X4_putNarrowing (by decide) (by decide) (List.forall_mem_cons.mpr ⟨rfl, List.forall_mem_cons.mpr ⟨rfl, List.forall_mem_cons.mpr ⟨rfl, List.forall_mem_cons.mpr ⟨rfl, fun _ h => absurd h List.not_mem_nil⟩⟩⟩⟩) (by simp) rfl (fun P hP => ?_)
  show P 0 [.ref 100, .int p, .int k, .int a, .null] [] n mem
  obtain ⟨hT, hnp, hnp8, hpw, hw, hPs⟩ := id hTl
  unfold C_narrow at hQ
  refine hP _ _ _ _ _ ?_
  refine hP _ _ _ _ _ ?_
  refine hP _ _ _ _ _ ⟨(zi hn rfl rfl rfl), Nat.le_of_ble_eq_true rfl, Nat.le_of_ble_eq_true rfl, ?_⟩
  refine ⟨_, t, rfl, ⟨hn, hF⟩, ⟨ht, hT⟩, ?_⟩
  refine hP _ _ _ _ _ ⟨fun h5 => ?_, fun h5 => ?_⟩
  ·
    have h5 := zb_0.mp h5
    refine hP _ _ _ _ _ ?_
    refine hP _ _ _ _ _ ?_
    exact ⟨rfl, by first | (rw [if_pos (Or.inl h5)] at hQ; exact hQ) | (rw [if_pos (Or.inr (Or.inl (inC_lt h9)))] at hQ; exact hQ) | (rw [if_pos (Or.inr (Or.inl (inC_ge h15)))] at hQ; exact hQ) | (rw [if_pos (Or.inr (Or.inr (Or.inl (show amC a = false from h22))))] at hQ; exact hQ) | (rw [if_pos (Or.inr (Or.inr (Or.inr h32)))] at hQ; exact hQ)⟩
  ·
    have h5 := zb_n.mp h5
    refine hP _ _ _ _ _ ?_
    refine hP _ _ _ _ _ ⟨fun h9 => ?_, fun h9 => ?_⟩
    ·
      refine hP _ _ _ _ _ ?_
      refine hP _ _ _ _ _ ?_
      exact ⟨rfl, by first | (rw [if_pos (Or.inl h5)] at hQ; exact hQ) | (rw [if_pos (Or.inr (Or.inl (inC_lt h9)))] at hQ; exact hQ) | (rw [if_pos (Or.inr (Or.inl (inC_ge h15)))] at hQ; exact hQ) | (rw [if_pos (Or.inr (Or.inr (Or.inl (show amC a = false from h22))))] at hQ; exact hQ) | (rw [if_pos (Or.inr (Or.inr (Or.inr h32)))] at hQ; exact hQ)⟩
    ·
      refine hP _ _ _ _ _ ?_
      refine hP _ _ _ _ _ ?_
      refine hP _ _ _ _ _ ⟨fun h15 => ?_, fun h15 => ?_⟩
      ·
        refine hP _ _ _ _ _ ?_
        refine hP _ _ _ _ _ ?_
        exact ⟨rfl, by first | (rw [if_pos (Or.inl h5)] at hQ; exact hQ) | (rw [if_pos (Or.inr (Or.inl (inC_lt h9)))] at hQ; exact hQ) | (rw [if_pos (Or.inr (Or.inl (inC_ge h15)))] at hQ; exact hQ) | (rw [if_pos (Or.inr (Or.inr (Or.inl (show amC a = false from h22))))] at hQ; exact hQ) | (rw [if_pos (Or.inr (Or.inr (Or.inr h32)))] at hQ; exact hQ)⟩
      ·
        refine hP _ _ _ _ _ ?_
        refine hP _ _ _ _ _ ⟨Nat.le_of_ble_eq_true rfl, Nat.le_of_ble_eq_true rfl, ?_⟩
        refine ⟨_, rfl, ?_⟩
        refine hP _ _ _ _ _ ⟨fun h22 => ?_, fun h22 => ?_⟩
        ·
          have h22 := zb_0.mp h22
          refine hP _ _ _ _ _ ?_
          refine hP _ _ _ _ _ ?_
          exact ⟨rfl, by first | (rw [if_pos (Or.inl h5)] at hQ; exact hQ) | (rw [if_pos (Or.inr (Or.inl (inC_lt h9)))] at hQ; exact hQ) | (rw [if_pos (Or.inr (Or.inl (inC_ge h15)))] at hQ; exact hQ) | (rw [if_pos (Or.inr (Or.inr (Or.inl (show amC a = false from h22))))] at hQ; exact hQ) | (rw [if_pos (Or.inr (Or.inr (Or.inr h32)))] at hQ; exact hQ)⟩
        ·
          have h22 := zb_n.mp h22
          refine hP _ _ _ _ _ ?_
          refine hP _ _ _ _ _ ⟨(zi hn rfl rfl rfl), _, fx_Book_log hF, (by decide), ?_⟩
          refine hP _ _ _ _ _ ⟨(zi hn rfl rfl rfl), Nat.le_of_ble_eq_true rfl, Nat.le_of_ble_eq_true rfl, ?_⟩
          refine ⟨rfl, ⟨hn, hF⟩, ?_⟩
          refine hP _ _ _ _ _ ⟨fun h32 => ?_, fun h32 => ?_⟩
          ·
            have h32 := zb_0.mp h32
            obtain ⟨j, hj, rfl⟩ := inC_nI (by omega) (hpw ▸ h5)
            have hx := ix_nI (j := j) (by omega)
            have hm3 := cfull_m hm hN.1 h32
            have h22 : amC a = true := h22
            rw [hx, if_neg (by rw [h5, h32, h22, inC_ok h9 h15]; simp)] at hQ
            have hm4 : ∀ v w, (zI (zI mem (t + 2 + j) 9 v) (t + 2 + j) 10 w).1 108 5 = nI m := fun v w => by rw [zI_ne (by omega), zI_ne (by omega)]; exact hm
            refine hP _ _ _ _ _ ?_
            refine hP _ _ _ _ _ ⟨(zi hn rfl rfl rfl), _, ht, (by omega), ?_⟩
            refine hP _ _ _ _ _ ⟨(ztT hn hT), _, (fx_tp hF hT), (by omega), ?_⟩
            refine hP _ _ _ _ _ ?_
            refine hP _ _ _ _ _ ⟨_, j, (ztA hn hT), rfl, by omega, _, (fx_pw hF hT (by omega)), (by omega), ?_⟩
            refine hP _ _ _ _ _ ?_
            refine hP _ _ _ _ _ ?_
            refine hP _ _ _ _ _ ⟨(ztP hn hT (by omega)), ?_⟩
            refine hP _ _ _ _ _ ?_
            refine hP _ _ _ _ _ ⟨fun h54 => ?_, fun h54 => ?_⟩
            ·
              refine hP _ _ _ _ _ ?_
              refine hP _ _ _ _ _ ?_
              refine hP _ _ _ _ _ ⟨(ztP hn hT (by omega)), ?_⟩
              refine hP _ _ _ _ _ ?_
              refine hP _ _ _ _ _ ?_
              refine hP _ _ _ _ _ ⟨(ztP hn hT (by omega)), ?_⟩
              refine hP _ _ _ _ _ ?_
              refine hP _ _ _ _ _ ?_
              refine hP _ _ _ _ _ ⟨(ztP hn hT (by omega)), ?_⟩
              refine hP _ _ _ _ _ ?_
              refine hP _ _ _ _ _ ⟨Nat.le_of_ble_eq_true rfl, ?_⟩
              refine hP _ _ _ _ _ ⟨(ztP hn hT (by omega)), ?_⟩
              refine hP _ _ _ _ _ ?_
              refine hP _ _ _ _ _ ⟨(zi hn rfl rfl rfl), _, fx_Book_log hF, (by decide), ?_⟩
              refine hP _ _ _ _ _ ?_
              refine hP _ _ _ _ _ ?_
              refine hP _ _ _ _ _ ?_
              refine hP _ _ _ _ _ ⟨(zi hn rfl rfl rfl), Nat.le_of_ble_eq_true rfl, Nat.le_of_ble_eq_true rfl, ?_⟩
              refine ⟨m, _, _, _, rfl, ⟨hn, hF⟩, hm4 _ _, hm3, ?_⟩
              refine hP _ _ _ _ _ ?_
              exact ⟨rfl, by rw [if_neg (fun z => z h54)] at hQ; rw [zI_o (by omega)]; exact hQ⟩
            ·
              refine hP _ _ _ _ _ ?_
              refine hP _ _ _ _ _ ?_
              exact ⟨rfl, by rw [if_pos h54] at hQ; exact hQ⟩
          ·
            have h32 := zb_n.mp h32
            refine hP _ _ _ _ _ ?_
            refine hP _ _ _ _ _ ?_
            exact ⟨rfl, by first | (rw [if_pos (Or.inl h5)] at hQ; exact hQ) | (rw [if_pos (Or.inr (Or.inl (inC_lt h9)))] at hQ; exact hQ) | (rw [if_pos (Or.inr (Or.inl (inC_ge h15)))] at hQ; exact hQ) | (rw [if_pos (Or.inr (Or.inr (Or.inl (show amC a = false from h22))))] at hQ; exact hQ) | (rw [if_pos (Or.inr (Or.inr (Or.inr h32)))] at hQ; exact hQ)⟩
def C_approve (mem : zM) (a : Int32) (m : Nat) (Q : Int32 → zM → Prop) : Prop :=
  if inC a (mem.1 100 6) = false ∨ cfull mem = true then Q (-1) mem
  else if ¬ mem.1 (120 + ix a) 7 = -1 then Q (-2) mem
  else if ¬ mem.1 (120 + ix a) 8 = -1 then Q (-3) mem
  else if ¬ mem.1 113 (ix (mem.1 (120 + ix a) 1)) = -1 then Q (-4) mem
  else Q (nI (m + 1)) (zI (cput mem m) (120 + ix a) 7 (nI (m + 1)))
def zNc (mem : zM) (na : Nat) : Prop := ∀ a, a < na → ∃ g, g < 8 ∧ mem.1 (120 + a) 1 = nI g
def k_X10_approve : zCt := fun as n mem Q => ∃ (a : Int32) (t np pw m na : Nat), as = [.ref 100, .int a] ∧ zCs n mem t np pw m na ∧ zNc mem na ∧ C_approve mem a m (fun r mem => Q (some (.int r)) n mem)
theorem ok_X10_approve {l : Launch} {G : zG} : zOK l G yX10_approve cX10_approve 3 (some .int) 2 0 0 k_X10_approve := by
  intro as n mem Q hK
  obtain ⟨a, t, np, pw, m, na, rfl, ⟨⟨hn, hF⟩, ht, hTl, hU, ⟨hm, hN⟩, hna, hna16⟩, hNc, hQ⟩ := hK
  refine mtX10_approve ok_X10_isAct (by decide) ok_X4_isFull (by decide) ok_X4_putDown (by decide) (List.forall_mem_cons.mpr ⟨rfl, List.forall_mem_cons.mpr ⟨rfl, fun _ h => absurd h List.not_mem_nil⟩⟩) (by simp) rfl (fun P hP => ?_)
  show P 0 [.ref 100, .int a, .null] [] n mem
  unfold C_approve at hQ
  refine hP _ _ _ _ _ ?_
  refine hP _ _ _ _ _ ?_
  refine hP _ _ _ _ _ ⟨(zi hn rfl rfl rfl), Nat.le_of_ble_eq_true rfl, Nat.le_of_ble_eq_true rfl, ?_⟩
  refine ⟨_, rfl, ⟨hn, hF⟩, ?_⟩
  refine hP _ _ _ _ _ ⟨fun h5 => ?_, fun h5 => ?_⟩
  ·
    have h5 := zb_0.mp h5
    refine hP _ _ _ _ _ ?_
    refine hP _ _ _ _ _ ?_
    exact ⟨rfl, by rw [if_pos (by simp [h5])] at hQ; exact hQ⟩
  ·
    have h5 := zb_n.mp h5
    refine hP _ _ _ _ _ ?_
    refine hP _ _ _ _ _ ⟨(zi hn rfl rfl rfl), _, fx_Book_log hF, (by decide), ?_⟩
    refine hP _ _ _ _ _ ⟨(zi hn rfl rfl rfl), Nat.le_of_ble_eq_true rfl, Nat.le_of_ble_eq_true rfl, ?_⟩
    refine ⟨rfl, ⟨hn, hF⟩, ?_⟩
    refine hP _ _ _ _ _ ⟨fun h15 => ?_, fun h15 => ?_⟩
    ·
      have h15 := zb_0.mp h15
      obtain ⟨j, hj, rfl⟩ := inC_nI (by omega) (hna ▸ h5)
      have hx := ix_nI (j := j) (by omega)
      obtain ⟨g, hg8, hg⟩ := hNc j hj
      have hm3 := cfull_m hm hN.1 h15
      rw [hx, hg, ix_nI (j := g) (by omega), if_neg (by rw [h5, h15]; simp)] at hQ
      refine hP _ _ _ _ _ ?_
      refine hP _ _ _ _ _ ⟨(zi hn rfl rfl rfl), _, fx_Book_acts hF, (by decide), ?_⟩
      refine hP _ _ _ _ _ ?_
      refine hP _ _ _ _ _ ⟨_, j, (zi hn rfl rfl rfl), rfl, by omega, _, (fx_acts hF (by omega)), (by omega), ?_⟩
      refine hP _ _ _ _ _ ?_
      refine hP _ _ _ _ _ ?_
      refine hP _ _ _ _ _ ⟨(ziA hn (by omega)), ?_⟩
      refine hP _ _ _ _ _ ?_
      refine hP _ _ _ _ _ ⟨fun h32 => ?_, fun h32 => ?_⟩
      ·
        refine hP _ _ _ _ _ ?_
        refine hP _ _ _ _ _ ⟨(ziA hn (by omega)), ?_⟩
        refine hP _ _ _ _ _ ?_
        refine hP _ _ _ _ _ ⟨fun h43 => ?_, fun h43 => ?_⟩
        ·
          refine hP _ _ _ _ _ ?_
          refine hP _ _ _ _ _ ⟨(zi hn rfl rfl rfl), _, fx_Book_log hF, (by decide), ?_⟩
          refine hP _ _ _ _ _ ⟨(zi hn rfl rfl rfl), _, fx_Log_diedAt hF, (by decide), ?_⟩
          refine hP _ _ _ _ _ ?_
          refine hP _ _ _ _ _ ⟨(ziA hn (by omega)), ?_⟩
          refine hP _ _ _ _ _ ⟨_, g, (zi hn rfl rfl rfl), hg, by omega, ?_⟩
          refine hP _ _ _ _ _ ?_
          refine hP _ _ _ _ _ ⟨fun h62 => ?_, fun h62 => ?_⟩
          ·
            refine hP _ _ _ _ _ ?_
            refine hP _ _ _ _ _ ?_
            refine hP _ _ _ _ _ ⟨(zi hn rfl rfl rfl), _, fx_Book_log hF, (by decide), ?_⟩
            refine hP _ _ _ _ _ ⟨(zi hn rfl rfl rfl), Nat.le_of_ble_eq_true rfl, Nat.le_of_ble_eq_true rfl, ?_⟩
            refine ⟨m, rfl, ⟨hn, hF⟩, hm, hm3, ?_⟩
            refine hP _ _ _ _ _ ⟨(ziA hn (by omega)), ?_⟩
            refine hP _ _ _ _ _ ?_
            refine hP _ _ _ _ _ ⟨(ziA hn (by omega)), ?_⟩
            refine hP _ _ _ _ _ ?_
            exact ⟨rfl, by rw [if_neg (fun z => z h32), if_neg (fun z => z h43), if_neg (fun z => z h62)] at hQ; rw [zI_s]; exact hQ⟩
          ·
            refine hP _ _ _ _ _ ?_
            refine hP _ _ _ _ _ ?_
            exact ⟨rfl, by rw [if_neg (fun z => z h32), if_neg (fun z => z h43), if_pos h62] at hQ; exact hQ⟩
        ·
          refine hP _ _ _ _ _ ?_
          refine hP _ _ _ _ _ ?_
          exact ⟨rfl, by rw [if_neg (fun z => z h32), if_pos h43] at hQ; exact hQ⟩
      ·
        refine hP _ _ _ _ _ ?_
        refine hP _ _ _ _ _ ?_
        exact ⟨rfl, by rw [if_pos h32] at hQ; exact hQ⟩
    ·
      have h15 := zb_n.mp h15
      refine hP _ _ _ _ _ ?_
      refine hP _ _ _ _ _ ?_
      exact ⟨rfl, by rw [if_pos (by simp [h5, h15])] at hQ; exact hQ⟩
/-- how an act is known to bind -/
def hkC (mem : zM) (a : Nat) (m : Int32) : Int32 := if mem.1 (120 + a) 9 = 0 then (if isby (mem.1 (120 + a) 7) m = true then 3 else 0) else mem.1 (120 + a) 9
def C_giveUp (mem : zM) (a : Int32) (m : Nat) (Q : Int32 → zM → Prop) : Prop :=
  if inC a (mem.1 100 6) = false ∨ cfull mem = true then Q (-1) mem
  else if ¬ mem.1 (120 + ix a) 8 = -1 then Q (-2) mem
  else if ¬ hkC mem (ix a) (mem.1 108 5) = 0 then Q (-3) mem
  else Q (nI (m + 1)) (zI (cput mem m) (120 + ix a) 8 (nI (m + 1)))
def k_X10_giveUp : zCt := fun as n mem Q => ∃ (a : Int32) (t np pw m na : Nat), as = [.ref 100, .int a] ∧ zCs n mem t np pw m na ∧ C_giveUp mem a m (fun r mem => Q (some (.int r)) n mem)
theorem ok_X10_giveUp {l : Launch} {G : zG} : zOK l G yX10_giveUp cX10_giveUp 3 (some .int) 2 0 0 k_X10_giveUp := by
  intro as n mem Q hK
  obtain ⟨a, t, np, pw, m, na, rfl, ⟨⟨hn, hF⟩, ht, hTl, hU, ⟨hm, hN⟩, hna, hna16⟩, hQ⟩ := hK
  refine mtX10_giveUp ok_X10_isAct (by decide) ok_X4_isFull (by decide) ok_X0_howKnownAt (by decide) ok_X4_putDown (by decide) (List.forall_mem_cons.mpr ⟨rfl, List.forall_mem_cons.mpr ⟨rfl, fun _ h => absurd h List.not_mem_nil⟩⟩) (by simp) rfl (fun P hP => ?_)
  show P 0 [.ref 100, .int a, .null] [] n mem
  unfold C_giveUp at hQ
  refine hP _ _ _ _ _ ?_
  refine hP _ _ _ _ _ ?_
  refine hP _ _ _ _ _ ⟨(zi hn rfl rfl rfl), Nat.le_of_ble_eq_true rfl, Nat.le_of_ble_eq_true rfl, ?_⟩
  refine ⟨_, rfl, ⟨hn, hF⟩, ?_⟩
  refine hP _ _ _ _ _ ⟨fun h5 => ?_, fun h5 => ?_⟩
  ·
    have h5 := zb_0.mp h5
    refine hP _ _ _ _ _ ?_
    refine hP _ _ _ _ _ ?_
    exact ⟨rfl, by rw [if_pos (by simp [h5])] at hQ; exact hQ⟩
  ·
    have h5 := zb_n.mp h5
    refine hP _ _ _ _ _ ?_
    refine hP _ _ _ _ _ ⟨(zi hn rfl rfl rfl), _, fx_Book_log hF, (by decide), ?_⟩
    refine hP _ _ _ _ _ ⟨(zi hn rfl rfl rfl), Nat.le_of_ble_eq_true rfl, Nat.le_of_ble_eq_true rfl, ?_⟩
    refine ⟨rfl, ⟨hn, hF⟩, ?_⟩
    refine hP _ _ _ _ _ ⟨fun h15 => ?_, fun h15 => ?_⟩
    ·
      have h15 := zb_0.mp h15
      obtain ⟨j, hj, rfl⟩ := inC_nI (by omega) (hna ▸ h5)
      have hx := ix_nI (j := j) (by omega)
      have hm3 := cfull_m hm hN.1 h15
      rw [hx, if_neg (by rw [h5, h15]; simp)] at hQ
      refine hP _ _ _ _ _ ?_
      refine hP _ _ _ _ _ ⟨(zi hn rfl rfl rfl), _, fx_Book_acts hF, (by decide), ?_⟩
      refine hP _ _ _ _ _ ?_
      refine hP _ _ _ _ _ ⟨_, j, (zi hn rfl rfl rfl), rfl, by omega, _, (fx_acts hF (by omega)), (by omega), ?_⟩
      refine hP _ _ _ _ _ ?_
      refine hP _ _ _ _ _ ?_
      refine hP _ _ _ _ _ ⟨(ziA hn (by omega)), ?_⟩
      refine hP _ _ _ _ _ ?_
      refine hP _ _ _ _ _ ⟨fun h32 => ?_, fun h32 => ?_⟩
      ·
        refine hP _ _ _ _ _ ?_
        refine hP _ _ _ _ _ ?_
        refine hP _ _ _ _ _ ⟨(zi hn rfl rfl rfl), _, fx_Book_log hF, (by decide), ?_⟩
        refine hP _ _ _ _ _ ⟨(zi hn rfl rfl rfl), ?_⟩
        refine hP _ _ _ _ _ ⟨(ziA hn (by omega)), Nat.le_of_ble_eq_true rfl, Nat.le_of_ble_eq_true rfl, ?_⟩
        refine ⟨_, _, rfl, ⟨hn, hF⟩, ziA hn (by omega), ?_⟩
        refine hP _ _ _ _ _ ⟨fun h49 => ?_, fun h49 => ?_⟩
        ·
          refine hP _ _ _ _ _ ?_
          refine hP _ _ _ _ _ ?_
          refine hP _ _ _ _ _ ⟨(zi hn rfl rfl rfl), _, fx_Book_log hF, (by decide), ?_⟩
          refine hP _ _ _ _ _ ⟨(zi hn rfl rfl rfl), Nat.le_of_ble_eq_true rfl, Nat.le_of_ble_eq_true rfl, ?_⟩
          refine ⟨m, rfl, ⟨hn, hF⟩, hm, hm3, ?_⟩
          refine hP _ _ _ _ _ ⟨(ziA hn (by omega)), ?_⟩
          refine hP _ _ _ _ _ ?_
          refine hP _ _ _ _ _ ⟨(ziA hn (by omega)), ?_⟩
          refine hP _ _ _ _ _ ?_
          exact ⟨rfl, by rw [if_neg (fun z => z h32), if_neg (fun z => z (show hkC mem j (mem.1 108 5) = 0 from h49))] at hQ; rw [zI_s]; exact hQ⟩
        ·
          refine hP _ _ _ _ _ ?_
          refine hP _ _ _ _ _ ?_
          exact ⟨rfl, by rw [if_neg (fun z => z h32), if_pos (show ¬ hkC mem j (mem.1 108 5) = 0 from h49)] at hQ; exact hQ⟩
      ·
        refine hP _ _ _ _ _ ?_
        refine hP _ _ _ _ _ ?_
        exact ⟨rfl, by rw [if_pos h32] at hQ; exact hQ⟩
    ·
      have h15 := zb_n.mp h15
      refine hP _ _ _ _ _ ?_
      refine hP _ _ _ _ _ ?_
      exact ⟨rfl, by rw [if_pos (by simp [h5, h15])] at hQ; exact hQ⟩
def k_X10_binds : zCt := fun as n mem Q => ∃ (a w : Int32) (t np pw m na : Nat), as = [.ref 100, .int a, .int w] ∧ zCs n mem t np pw m na ∧ Q (some (.int (if inC a (mem.1 100 6) = false ∨ isin w 0 (mem.1 108 5) = false ∨ w < mem.1 (120 + ix a) 5 then -1 else hkC mem (ix a) w))) n mem
theorem ok_X10_binds {l : Launch} {G : zG} : zOK l G yX10_binds cX10_binds 3 (some .int) 1 0 0 k_X10_binds := by
  intro as n mem Q hK
  obtain ⟨a, w, t, np, pw, m, na, rfl, ⟨⟨hn, hF⟩, ht, hTl, hU, ⟨hm, hN⟩, hna, hna16⟩, hQ⟩ := hK
  refine mtX10_binds ok_X10_isAct (by decide) ok_X10_isMoment (by decide) ok_X0_howKnownAt (by decide) (List.forall_mem_cons.mpr ⟨rfl, List.forall_mem_cons.mpr ⟨rfl, List.forall_mem_cons.mpr ⟨rfl, fun _ h => absurd h List.not_mem_nil⟩⟩⟩) (by simp) rfl (fun P hP => ?_)
  show P 0 [.ref 100, .int a, .int w] [] n mem
  refine hP _ _ _ _ _ ?_
  refine hP _ _ _ _ _ ?_
  refine hP _ _ _ _ _ ⟨(zi hn rfl rfl rfl), Nat.le_of_ble_eq_true rfl, Nat.le_of_ble_eq_true rfl, ?_⟩
  refine ⟨_, rfl, ⟨hn, hF⟩, ?_⟩
  refine hP _ _ _ _ _ ⟨fun h5 => ?_, fun h5 => ?_⟩
  ·
    have h5 := zb_0.mp h5
    refine hP _ _ _ _ _ ?_
    refine hP _ _ _ _ _ ?_
    exact ⟨rfl, by first | (rw [if_pos (Or.inl h5)] at hQ; exact hQ) | (rw [if_pos (Or.inr (Or.inl h13))] at hQ; exact hQ) | (rw [if_pos (Or.inr (Or.inr (Int32.not_le.mp h26)))] at hQ; exact hQ)⟩
  ·
    have h5 := zb_n.mp h5
    refine hP _ _ _ _ _ ?_
    refine hP _ _ _ _ _ ?_
    refine hP _ _ _ _ _ ⟨(zi hn rfl rfl rfl), Nat.le_of_ble_eq_true rfl, Nat.le_of_ble_eq_true rfl, ?_⟩
    refine ⟨_, rfl, ⟨hn, hF⟩, ?_⟩
    refine hP _ _ _ _ _ ⟨fun h13 => ?_, fun h13 => ?_⟩
    ·
      have h13 := zb_0.mp h13
      refine hP _ _ _ _ _ ?_
      refine hP _ _ _ _ _ ?_
      exact ⟨rfl, by first | (rw [if_pos (Or.inl h5)] at hQ; exact hQ) | (rw [if_pos (Or.inr (Or.inl h13))] at hQ; exact hQ) | (rw [if_pos (Or.inr (Or.inr (Int32.not_le.mp h26)))] at hQ; exact hQ)⟩
    ·
      have h13 := zb_n.mp h13
      obtain ⟨j, hj, rfl⟩ := inC_nI (by omega) (hna ▸ h5)
      have hx := ix_nI (j := j) (by omega)
      rw [hx] at hQ
      refine hP _ _ _ _ _ ?_
      refine hP _ _ _ _ _ ?_
      refine hP _ _ _ _ _ ⟨(zi hn rfl rfl rfl), _, fx_Book_acts hF, (by decide), ?_⟩
      refine hP _ _ _ _ _ ?_
      refine hP _ _ _ _ _ ⟨_, j, (zi hn rfl rfl rfl), rfl, by omega, _, (fx_acts hF (by omega)), (by omega), ?_⟩
      refine hP _ _ _ _ _ ⟨(ziA hn (by omega)), ?_⟩
      refine hP _ _ _ _ _ ⟨fun h26 => ?_, fun h26 => ?_⟩
      ·
        refine hP _ _ _ _ _ ?_
        refine hP _ _ _ _ _ ⟨(zi hn rfl rfl rfl), _, fx_Book_acts hF, (by decide), ?_⟩
        refine hP _ _ _ _ _ ?_
        refine hP _ _ _ _ _ ⟨_, j, (zi hn rfl rfl rfl), rfl, by omega, _, (fx_acts hF (by omega)), (by omega), ?_⟩
        refine hP _ _ _ _ _ ?_
        refine hP _ _ _ _ _ ⟨(ziA hn (by omega)), Nat.le_of_ble_eq_true rfl, Nat.le_of_ble_eq_true rfl, ?_⟩
        refine ⟨_, _, rfl, ⟨hn, hF⟩, ziA hn (by omega), ?_⟩
        refine hP _ _ _ _ _ ?_
        exact ⟨rfl, by rw [if_neg (fun z => z.elim (fun y => by rw [h5] at y; cases y) (fun y => y.elim (fun y => by rw [h13] at y; cases y) (Int32.not_lt.mpr h26)))] at hQ; exact hQ⟩
      ·
        refine hP _ _ _ _ _ ?_
        refine hP _ _ _ _ _ ?_
        exact ⟨rfl, by first | (rw [if_pos (Or.inl h5)] at hQ; exact hQ) | (rw [if_pos (Or.inr (Or.inl h13))] at hQ; exact hQ) | (rw [if_pos (Or.inr (Or.inr (Int32.not_le.mp h26)))] at hQ; exact hQ)⟩
def k_X10_used : zCt := fun as n mem Q => ∃ (a : Int32) (t np pw m na : Nat), as = [.ref 100, .int a] ∧ zCs n mem t np pw m na ∧ Q (some (.int (if inC a (mem.1 100 6) = false then -1 else mem.1 (120 + ix a) 10))) n mem
theorem ok_X10_used {l : Launch} {G : zG} : zOK l G yX10_used cX10_used 2 (some .int) 1 0 0 k_X10_used := by
  intro as n mem Q hK
  obtain ⟨a, t, np, pw, m, na, rfl, ⟨⟨hn, hF⟩, ht, hTl, hU, ⟨hm, hN⟩, hna, hna16⟩, hQ⟩ := hK
  refine mtX10_used ok_X10_isAct (by decide) (List.forall_mem_cons.mpr ⟨rfl, List.forall_mem_cons.mpr ⟨rfl, fun _ h => absurd h List.not_mem_nil⟩⟩) (by simp) rfl (fun P hP => ?_)
  show P 0 [.ref 100, .int a] [] n mem
  refine hP _ _ _ _ _ ?_
  refine hP _ _ _ _ _ ?_
  refine hP _ _ _ _ _ ⟨(zi hn rfl rfl rfl), Nat.le_of_ble_eq_true rfl, Nat.le_of_ble_eq_true rfl, ?_⟩
  refine ⟨_, rfl, ⟨hn, hF⟩, ?_⟩
  refine hP _ _ _ _ _ ⟨fun h5 => ?_, fun h5 => ?_⟩
  ·
    have h5 := zb_0.mp h5
    refine hP _ _ _ _ _ ?_
    refine hP _ _ _ _ _ ?_
    first | exact ⟨rfl, hQ⟩ | exact ⟨rfl, by rw [if_pos h5] at hQ; exact hQ⟩
  ·
    have h5 := zb_n.mp h5
    obtain ⟨j, hj, rfl⟩ := inC_nI (by omega) (hna ▸ h5)
    have hx := ix_nI (j := j) (by omega)
    rw [hx, if_neg (by rw [h5]; decide)] at hQ
    refine hP _ _ _ _ _ ?_
    refine hP _ _ _ _ _ ⟨(zi hn rfl rfl rfl), _, fx_Book_acts hF, (by decide), ?_⟩
    refine hP _ _ _ _ _ ?_
    refine hP _ _ _ _ _ ⟨_, j, (zi hn rfl rfl rfl), rfl, by omega, _, (fx_acts hF (by omega)), (by omega), ?_⟩
    refine hP _ _ _ _ _ ⟨(ziA hn (by omega)), ?_⟩
    refine hP _ _ _ _ _ ?_
    refine hP _ _ _ _ _ ?_
    first | exact ⟨rfl, hQ⟩ | exact ⟨rfl, by rw [if_pos h5] at hQ; exact hQ⟩
def bdC (mem : zM) (pt how m : Int32) : Nat → Int32
  | 0 => 0
  | a + 1 => if mem.1 (120 + a) 1 = pt ∧ ¬ hkC mem a m = 0 ∧ (how = 0 ∨ how = hkC mem a m) then bdC mem pt how m a + mem.1 (120 + a) 4 else bdC mem pt how m a
def k_X10_bound : zCt := fun as n mem Q => ∃ (pt how : Int32) (t np pw m na : Nat), as = [.ref 100, .int pt, .int how] ∧ zCs n mem t np pw m na ∧ Q (some (.int (if inC pt (mem.1 t 1) = false ∨ isin how 0 3 = false then -1 else bdC mem pt how (mem.1 108 5) na))) n mem
theorem ok_X10_bound {l : Launch} {G : zG} : zOK l G yX10_bound cX10_bound 6 (some .int) 1 0 0 k_X10_bound := by
  intro as n mem Q hK
  obtain ⟨pt, how, t, np, pw, m, na, rfl, ⟨⟨hn, hF⟩, ht, hTl, hU, ⟨hm, hN⟩, hna, hna16⟩, hQ⟩ := hK
  refine mtX10_bound ok_X10_isParty (by decide) ok_X0_howKnownAt (by decide) (List.forall_mem_cons.mpr ⟨rfl, List.forall_mem_cons.mpr ⟨rfl, List.forall_mem_cons.mpr ⟨rfl, fun _ h => absurd h List.not_mem_nil⟩⟩⟩) (by simp) rfl (fun P hP => ?_)
  show P 0 [.ref 100, .int pt, .int how, .null, .null, .null] [] n mem
  obtain ⟨hT, hnp, hnp8, hpw, hw, hPs⟩ := id hTl
  have loop : Q (some (.int (bdC mem pt how (mem.1 108 5) na))) n mem → ∀ i, i ≤ na → ∀ v5, P 24 [.ref 100, .int pt, .int how, .int (bdC mem pt how (mem.1 108 5) i), .int (nI i), v5] [] n mem := by
    intro hQ
    refine zloop ?_ ?_
    · intro v5
      refine hP _ _ _ _ _ ?_
      refine hP _ _ _ _ _ ?_
      refine hP _ _ _ _ _ ⟨(zi hn rfl rfl rfl), ?_⟩
      refine hP _ _ _ _ _ ⟨fun _ => ?_, fun hz => absurd ( by rw [hna]; exact nI_le (Nat.le_refl _) (by omega)) hz⟩
      refine hP _ _ _ _ _ ?_
      refine hP _ _ _ _ _ ?_
      exact ⟨rfl, hQ⟩
    · intro i hi ih v5
      rw [nI_succ i, bdC] at ih
      have k1 := fun h => (if_pos (c := mem.1 (120 + i) 1 = pt ∧ ¬ hkC mem i (mem.1 108 5) = 0 ∧ (how = 0 ∨ how = hkC mem i (mem.1 108 5))) h) ▸ ih
      have k2 := fun h => (if_neg (c := mem.1 (120 + i) 1 = pt ∧ ¬ hkC mem i (mem.1 108 5) = 0 ∧ (how = 0 ∨ how = hkC mem i (mem.1 108 5))) h) ▸ ih
      refine hP _ _ _ _ _ ?_
      refine hP _ _ _ _ _ ?_
      refine hP _ _ _ _ _ ⟨(zi hn rfl rfl rfl), ?_⟩
      refine hP _ _ _ _ _ ⟨fun hz => absurd hz ( by rw [hna]; exact nI_ge hi (by omega)), fun _ => ?_⟩
      refine hP _ _ _ _ _ ?_
      refine hP _ _ _ _ _ ⟨(zi hn rfl rfl rfl), _, fx_Book_acts hF, (by decide), ?_⟩
      refine hP _ _ _ _ _ ?_
      refine hP _ _ _ _ _ ⟨_, i, (zi hn rfl rfl rfl), rfl, by omega, _, (fx_acts hF (by omega)), (by omega), ?_⟩
      refine hP _ _ _ _ _ ?_
      refine hP _ _ _ _ _ ⟨(zi hn rfl rfl rfl), _, fx_Book_log hF, (by decide), ?_⟩
      refine hP _ _ _ _ _ ⟨(zi hn rfl rfl rfl), ?_⟩
      refine hP _ _ _ _ _ ⟨(ziA hn (by omega)), Nat.le_of_ble_eq_true rfl, Nat.le_of_ble_eq_true rfl, ?_⟩
      refine ⟨_, _, rfl, ⟨hn, hF⟩, ziA hn (by omega), ?_⟩
      rw [show (if mem.1 (120 + i) 9 = 0 then (if isby (mem.1 (120 + i) 7) (mem.1 108 5) = true then (3 : Int32) else 0) else mem.1 (120 + i) 9) = hkC mem i (mem.1 108 5) from rfl]
      refine hP _ _ _ _ _ ?_
      refine hP _ _ _ _ _ ?_
      refine hP _ _ _ _ _ ⟨(zi hn rfl rfl rfl), _, fx_Book_acts hF, (by decide), ?_⟩
      refine hP _ _ _ _ _ ?_
      refine hP _ _ _ _ _ ⟨_, i, (zi hn rfl rfl rfl), rfl, by omega, _, (fx_acts hF (by omega)), (by omega), ?_⟩
      refine hP _ _ _ _ _ ⟨(ziA hn (by omega)), ?_⟩
      refine hP _ _ _ _ _ ?_
      refine hP _ _ _ _ _ ⟨fun h63 => ?_, fun h63 => ?_⟩
      ·
        refine hP _ _ _ _ _ ?_
        refine hP _ _ _ _ _ ⟨fun h68 => ?_, fun h68 => ?_⟩
        ·
          refine hP _ _ _ _ _ ?_
          refine hP _ _ _ _ _ ?_
          first | exact k1 ⟨h63, h68, Or.inl h72⟩ _ | exact k1 ⟨h63, h68, Or.inr h78⟩ _ | exact k2 (fun z => z.2.2.elim h72 h78) _ | exact k2 (fun z => z.2.1 h68) _ | exact k2 (fun z => h63 z.1) _
        ·
          refine hP _ _ _ _ _ ?_
          refine hP _ _ _ _ _ ⟨fun h72 => ?_, fun h72 => ?_⟩
          ·
            refine hP _ _ _ _ _ ?_
            refine hP _ _ _ _ _ ?_
            refine hP _ _ _ _ _ ⟨(zi hn rfl rfl rfl), _, fx_Book_acts hF, (by decide), ?_⟩
            refine hP _ _ _ _ _ ?_
            refine hP _ _ _ _ _ ⟨_, i, (zi hn rfl rfl rfl), rfl, by omega, _, (fx_acts hF (by omega)), (by omega), ?_⟩
            refine hP _ _ _ _ _ ⟨(ziA hn (by omega)), ?_⟩
            refine hP _ _ _ _ _ ?_
            refine hP _ _ _ _ _ ?_
            refine hP _ _ _ _ _ ?_
            refine hP _ _ _ _ _ ?_
            first | exact k1 ⟨h63, h68, Or.inl h72⟩ _ | exact k1 ⟨h63, h68, Or.inr h78⟩ _ | exact k2 (fun z => z.2.2.elim h72 h78) _ | exact k2 (fun z => z.2.1 h68) _ | exact k2 (fun z => h63 z.1) _
          ·
            refine hP _ _ _ _ _ ?_
            refine hP _ _ _ _ _ ?_
            refine hP _ _ _ _ _ ⟨fun h78 => ?_, fun h78 => ?_⟩
            ·
              refine hP _ _ _ _ _ ?_
              refine hP _ _ _ _ _ ?_
              refine hP _ _ _ _ _ ⟨(zi hn rfl rfl rfl), _, fx_Book_acts hF, (by decide), ?_⟩
              refine hP _ _ _ _ _ ?_
              refine hP _ _ _ _ _ ⟨_, i, (zi hn rfl rfl rfl), rfl, by omega, _, (fx_acts hF (by omega)), (by omega), ?_⟩
              refine hP _ _ _ _ _ ⟨(ziA hn (by omega)), ?_⟩
              refine hP _ _ _ _ _ ?_
              refine hP _ _ _ _ _ ?_
              refine hP _ _ _ _ _ ?_
              refine hP _ _ _ _ _ ?_
              first | exact k1 ⟨h63, h68, Or.inl h72⟩ _ | exact k1 ⟨h63, h68, Or.inr h78⟩ _ | exact k2 (fun z => z.2.2.elim h72 h78) _ | exact k2 (fun z => z.2.1 h68) _ | exact k2 (fun z => h63 z.1) _
            ·
              refine hP _ _ _ _ _ ?_
              refine hP _ _ _ _ _ ?_
              first | exact k1 ⟨h63, h68, Or.inl h72⟩ _ | exact k1 ⟨h63, h68, Or.inr h78⟩ _ | exact k2 (fun z => z.2.2.elim h72 h78) _ | exact k2 (fun z => z.2.1 h68) _ | exact k2 (fun z => h63 z.1) _
      ·
        refine hP _ _ _ _ _ ?_
        refine hP _ _ _ _ _ ?_
        first | exact k1 ⟨h63, h68, Or.inl h72⟩ _ | exact k1 ⟨h63, h68, Or.inr h78⟩ _ | exact k2 (fun z => z.2.2.elim h72 h78) _ | exact k2 (fun z => z.2.1 h68) _ | exact k2 (fun z => h63 z.1) _
  refine hP _ _ _ _ _ ?_
  refine hP _ _ _ _ _ ?_
  refine hP _ _ _ _ _ ⟨(zi hn rfl rfl rfl), Nat.le_of_ble_eq_true rfl, Nat.le_of_ble_eq_true rfl, ?_⟩
  refine ⟨_, t, rfl, ⟨hn, hF⟩, ⟨ht, hT⟩, ?_⟩
  refine hP _ _ _ _ _ ⟨fun h5 => ?_, fun h5 => ?_⟩
  ·
    have h5 := zb_0.mp h5
    refine hP _ _ _ _ _ ?_
    refine hP _ _ _ _ _ ?_
    exact ⟨rfl, by first | (rw [if_pos (Or.inl h5)] at hQ; exact hQ) | (rw [if_pos (Or.inr (isin_lt h9))] at hQ; exact hQ) | (rw [if_pos (Or.inr (isin_gt h14))] at hQ; exact hQ)⟩
  ·
    have h5 := zb_n.mp h5
    refine hP _ _ _ _ _ ?_
    refine hP _ _ _ _ _ ⟨fun h9 => ?_, fun h9 => ?_⟩
    ·
      refine hP _ _ _ _ _ ?_
      refine hP _ _ _ _ _ ?_
      exact ⟨rfl, by first | (rw [if_pos (Or.inl h5)] at hQ; exact hQ) | (rw [if_pos (Or.inr (isin_lt h9))] at hQ; exact hQ) | (rw [if_pos (Or.inr (isin_gt h14))] at hQ; exact hQ)⟩
    ·
      refine hP _ _ _ _ _ ?_
      refine hP _ _ _ _ _ ?_
      refine hP _ _ _ _ _ ⟨fun h14 => ?_, fun h14 => ?_⟩
      ·
        rw [if_neg (by rw [h5, isin_ok h9 h14]; simp)] at hQ
        refine hP _ _ _ _ _ ?_
        refine hP _ _ _ _ _ ?_
        refine hP _ _ _ _ _ ?_
        refine hP _ _ _ _ _ ?_
        exact loop hQ 0 (by omega) _
      ·
        refine hP _ _ _ _ _ ?_
        refine hP _ _ _ _ _ ?_
        exact ⟨rfl, by first | (rw [if_pos (Or.inl h5)] at hQ; exact hQ) | (rw [if_pos (Or.inr (isin_lt h9))] at hQ; exact hQ) | (rw [if_pos (Or.inr (isin_gt h14))] at hQ; exact hQ)⟩
