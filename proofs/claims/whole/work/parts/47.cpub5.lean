def lvX (mem : zM) (t p : Nat) (m d : Int32) : Bool := lvC (mem.1 (t + 2 + p) 8) (fun i => rsC (mem.1 (t + 2 + i)) (isby (mem.1 (t + 2 + i) 11) m) d (deadM (mem.1 113) m 8)) (p + 1)
def kAX (mem : zM) (t p k : Nat) : Int32 := kA2 mem (mem.1 (t + 2 + p) 8) (kA1 (mem.1 (t + 2 + p) 8) (fun i => mem.1 (t + 2 + i) 3) (p + 1)) k
def mAX (mem : zM) (t p k : Nat) : Int32 := mA2 mem (mem.1 (t + 2 + p) 8) (mA1 (mem.1 (t + 2 + p) 8) (fun i => mem.1 (t + 2 + i) 4) (p + 1)) k
def k_X10_scope : zCt := fun as n mem Q => ∃ (p w z : Int32) (t np pw m na : Nat), as = [.ref 100, .int p, .int w, .int z] ∧ zCs n mem t np pw m na ∧ Q (some (.int (if inC p (mem.1 t 2) = false ∨ isin w 0 (mem.1 108 5) = false then -1 else if z = nI 0 then zb (lvX mem t (ix p) w (mem.1 109 (ix w))) else if z = nI 1 then kAX mem t (ix p) (ix w) else if z = nI 2 then mAX mem t (ix p) (ix w) else -1))) n mem
theorem ok_X10_scope {l : Launch} {G : zG} : zOK l G yX10_scope cX10_scope 4 (some .int) 5 0 0 k_X10_scope := by
  intro as n mem Q hK
  obtain ⟨p, w, z, t, np, pw, m, na, rfl, ⟨⟨hn, hF⟩, ht, hTl, hU, ⟨hm, hN⟩, hna, hna16⟩, hQ⟩ := hK
  refine mtX10_scope ok_X10_isPower (by decide) ok_X10_isMoment (by decide) ok_X10_wasLive (by decide) ok_X10_kindsAt (by decide) ok_X10_mostAt (by decide) (List.forall_mem_cons.mpr ⟨rfl, List.forall_mem_cons.mpr ⟨rfl, List.forall_mem_cons.mpr ⟨rfl, List.forall_mem_cons.mpr ⟨rfl, fun _ h => absurd h List.not_mem_nil⟩⟩⟩⟩) (by simp) rfl (fun P hP => ?_)
  show P 0 [.ref 100, .int p, .int w, .int z] [] n mem
  obtain ⟨hT, hnp, hnp8, hpw, hw, hPs⟩ := id hTl
  have hm3 := hN.1
  refine hP _ _ _ _ _ ?_
  refine hP _ _ _ _ _ ?_
  refine hP _ _ _ _ _ ⟨(zi hn rfl rfl rfl), Nat.le_of_ble_eq_true rfl, Nat.le_of_ble_eq_true rfl, ?_⟩
  refine ⟨_, t, rfl, ⟨hn, hF⟩, ⟨ht, hT⟩, ?_⟩
  refine hP _ _ _ _ _ ⟨fun h5 => ?_, fun h5 => ?_⟩
  ·
    have h5 := zb_0.mp h5
    refine hP _ _ _ _ _ ?_
    refine hP _ _ _ _ _ ?_
    exact ⟨rfl, by rw [if_pos (by simp [h5])] at hQ; exact hQ⟩
  ·
    have h5 := zb_n.mp h5
    refine hP _ _ _ _ _ ?_
    refine hP _ _ _ _ _ ?_
    refine hP _ _ _ _ _ ⟨(zi hn rfl rfl rfl), Nat.le_of_ble_eq_true rfl, Nat.le_of_ble_eq_true rfl, ?_⟩
    refine ⟨_, rfl, ⟨hn, hF⟩, ?_⟩
    refine hP _ _ _ _ _ ⟨fun h13 => ?_, fun h13 => ?_⟩
    ·
      have h13 := zb_0.mp h13
      refine hP _ _ _ _ _ ?_
      refine hP _ _ _ _ _ ?_
      exact ⟨rfl, by rw [if_pos (by simp [h5, h13])] at hQ; exact hQ⟩
    ·
      have h13 := zb_n.mp h13
      obtain ⟨j, hj, rfl⟩ := inC_nI (by omega) (hpw ▸ h5)
      obtain ⟨k, hk, rfl⟩ := isin_N (c := m) (by omega) (hm ▸ h13)
      rw [ix_nI (j := j) (by omega), ix_nI (j := k) (by omega), if_neg (by rw [h5, h13]; simp)] at hQ
      refine hP _ _ _ _ _ ?_
      refine hP _ _ _ _ _ ⟨fun i19 hi19 hx19 => ?_, fun h19 => ?_⟩
      ·
        have hi19 : i19 < 3 := hi19
        rcases (show i19 = 0 ∨ i19 = 1 ∨ i19 = 2 by omega) with rfl | rfl | rfl
        ·
          refine hP _ _ _ _ _ ?_
          refine hP _ _ _ _ _ ?_
          refine hP _ _ _ _ _ ?_
          refine hP _ _ _ _ _ ⟨(zi hn rfl rfl rfl), Nat.le_of_ble_eq_true rfl, Nat.le_of_ble_eq_true rfl, ?_⟩
          refine ⟨j, t, pw, k, rfl, ⟨hn, hF⟩, ⟨ht, hT⟩, ⟨hw, hPs⟩, hj, by omega, ?_⟩
          rw [show lvC (mem.1 (t + 2 + j) 8) (fun i => rsC (mem.1 (t + 2 + i)) (isby (mem.1 (t + 2 + i) 11) (nI k)) (mem.1 109 k) (deadM (mem.1 113) (nI k) 8)) (j + 1) = lvX mem t j (nI k) (mem.1 109 k) from rfl]
          refine hP _ _ _ _ _ ⟨fun h50 => ?_, fun h50 => ?_⟩
          ·
            have h50 := zb_0.mp h50
            refine hP _ _ _ _ _ ?_
            refine hP _ _ _ _ _ ?_
            first | exact ⟨rfl, by rw [if_pos hx19, h50] at hQ; exact hQ⟩
          ·
            have h50 := zb_n.mp h50
            refine hP _ _ _ _ _ ?_
            refine hP _ _ _ _ _ ?_
            refine hP _ _ _ _ _ ?_
            first | exact ⟨rfl, by rw [if_pos hx19, h50] at hQ; exact hQ⟩
        ·
          refine hP _ _ _ _ _ ?_
          refine hP _ _ _ _ _ ?_
          refine hP _ _ _ _ _ ?_
          refine hP _ _ _ _ _ ⟨(zi hn rfl rfl rfl), Nat.le_of_ble_eq_true rfl, Nat.le_of_ble_eq_true rfl, ?_⟩
          refine ⟨j, t, k, m, rfl, ⟨hn, hF⟩, ⟨ht, hT⟩, by omega, hN, hk, ?_⟩
          refine hP _ _ _ _ _ ?_
          exact ⟨rfl, by rw [if_neg (by rw [hx19]; decide), if_pos hx19] at hQ; exact hQ⟩
        ·
          refine hP _ _ _ _ _ ?_
          refine hP _ _ _ _ _ ?_
          refine hP _ _ _ _ _ ?_
          refine hP _ _ _ _ _ ⟨(zi hn rfl rfl rfl), Nat.le_of_ble_eq_true rfl, Nat.le_of_ble_eq_true rfl, ?_⟩
          refine ⟨j, t, k, m, rfl, ⟨hn, hF⟩, ⟨ht, hT⟩, by omega, hN, hk, ?_⟩
          refine hP _ _ _ _ _ ?_
          exact ⟨rfl, by rw [if_neg (by rw [hx19]; decide), if_neg (by rw [hx19]; decide), if_pos hx19] at hQ; exact hQ⟩
      ·
        refine hP _ _ _ _ _ ?_
        refine hP _ _ _ _ _ ?_
        exact ⟨rfl, by have o := fun (j : Nat) (hj : j < 3) => out_ne (c := 3) (by omega) h19 hj; rw [if_neg (o 0 (by omega)), if_neg (o 1 (by omega)), if_neg (o 2 (by omega))] at hQ; exact hQ⟩
def ovC (mem : zM) (t p : Nat) : Int32 := if rsC (mem.1 (t + 2 + p)) (isby (mem.1 (t + 2 + p) 11) (mem.1 108 5)) (mem.1 108 6) (deadM (mem.1 113) (mem.1 108 5) 8) = 0 then (if lvX mem t p (mem.1 108 5) (mem.1 108 6) = true then 0 else 5) else rsC (mem.1 (t + 2 + p)) (isby (mem.1 (t + 2 + p) 11) (mem.1 108 5)) (mem.1 108 6) (deadM (mem.1 113) (mem.1 108 5) 8)
def k_X10_over : zCt := fun as n mem Q => ∃ (p : Int32) (t np pw m na : Nat), as = [.ref 100, .int p] ∧ zCs n mem t np pw m na ∧ Q (some (.int (if inC p (mem.1 t 2) = false then -1 else ovC mem t (ix p)))) n mem
theorem ok_X10_over {l : Launch} {G : zG} : zOK l G yX10_over cX10_over 3 (some .int) 4 0 0 k_X10_over := by
  intro as n mem Q hK
  obtain ⟨p, t, np, pw, m, na, rfl, ⟨⟨hn, hF⟩, ht, hTl, hU, ⟨hm, hN⟩, hna, hna16⟩, hQ⟩ := hK
  refine mtX10_over ok_X10_isPower (by decide) ok_X10_reasonAt (by decide) ok_X10_liveAt (by decide) (List.forall_mem_cons.mpr ⟨rfl, List.forall_mem_cons.mpr ⟨rfl, fun _ h => absurd h List.not_mem_nil⟩⟩) (by simp) rfl (fun P hP => ?_)
  show P 0 [.ref 100, .int p, .null] [] n mem
  obtain ⟨hT, hnp, hnp8, hpw, hw, hPs⟩ := id hTl
  refine hP _ _ _ _ _ ?_
  refine hP _ _ _ _ _ ?_
  refine hP _ _ _ _ _ ⟨(zi hn rfl rfl rfl), Nat.le_of_ble_eq_true rfl, Nat.le_of_ble_eq_true rfl, ?_⟩
  refine ⟨_, t, rfl, ⟨hn, hF⟩, ⟨ht, hT⟩, ?_⟩
  refine hP _ _ _ _ _ ⟨fun h5 => ?_, fun h5 => ?_⟩
  ·
    have h5 := zb_0.mp h5
    refine hP _ _ _ _ _ ?_
    refine hP _ _ _ _ _ ?_
    exact ⟨rfl, by rw [if_pos h5] at hQ; exact hQ⟩
  ·
    have h5 := zb_n.mp h5
    obtain ⟨j, hj, rfl⟩ := inC_nI (by omega) (hpw ▸ h5)
    rw [ix_nI (j := j) (by omega), if_neg (by rw [h5]; decide), ovC] at hQ
    refine hP _ _ _ _ _ ?_
    refine hP _ _ _ _ _ ?_
    refine hP _ _ _ _ _ ⟨(zi hn rfl rfl rfl), _, ht, (by omega), ?_⟩
    refine hP _ _ _ _ _ ⟨(ztT hn hT), _, (fx_tp hF hT), (by omega), ?_⟩
    refine hP _ _ _ _ _ ?_
    refine hP _ _ _ _ _ ⟨_, j, (ztA hn hT), rfl, by omega, _, (fx_pw hF hT (by omega)), (by omega), ?_⟩
    refine hP _ _ _ _ _ ?_
    refine hP _ _ _ _ _ ⟨(zi hn rfl rfl rfl), _, fx_Book_log hF, (by decide), ?_⟩
    refine hP _ _ _ _ _ ⟨(zi hn rfl rfl rfl), ?_⟩
    refine hP _ _ _ _ _ ?_
    refine hP _ _ _ _ _ ⟨(zi hn rfl rfl rfl), _, fx_Book_log hF, (by decide), ?_⟩
    refine hP _ _ _ _ _ ⟨(zi hn rfl rfl rfl), ?_⟩
    refine hP _ _ _ _ _ ⟨(zi hn rfl rfl rfl), Nat.le_of_ble_eq_true rfl, Nat.le_of_ble_eq_true rfl, ?_⟩
    refine ⟨_, _, _, rfl, ⟨hn, hF⟩, ztP hn hT (by omega), hPs j hj, ?_⟩
    refine hP _ _ _ _ _ ?_
    refine hP _ _ _ _ _ ?_
    refine hP _ _ _ _ _ ⟨fun h39 => ?_, fun h39 => ?_⟩
    ·
      refine hP _ _ _ _ _ ?_
      refine hP _ _ _ _ _ ?_
      refine hP _ _ _ _ _ ?_
      refine hP _ _ _ _ _ ⟨(zi hn rfl rfl rfl), _, fx_Book_log hF, (by decide), ?_⟩
      refine hP _ _ _ _ _ ⟨(zi hn rfl rfl rfl), ?_⟩
      refine hP _ _ _ _ _ ?_
      refine hP _ _ _ _ _ ⟨(zi hn rfl rfl rfl), _, fx_Book_log hF, (by decide), ?_⟩
      refine hP _ _ _ _ _ ⟨(zi hn rfl rfl rfl), ?_⟩
      refine hP _ _ _ _ _ ⟨(zi hn rfl rfl rfl), Nat.le_of_ble_eq_true rfl, Nat.le_of_ble_eq_true rfl, ?_⟩
      refine ⟨j, t, pw, _, _, rfl, ⟨hn, hF⟩, ⟨ht, hT⟩, ⟨hw, hPs⟩, hj, ?_⟩
      rw [show lvC (mem.1 (t + 2 + j) 8) (fun i => rsC (mem.1 (t + 2 + i)) (isby (mem.1 (t + 2 + i) 11) (mem.1 108 5)) (mem.1 108 6) (deadM (mem.1 113) (mem.1 108 5) 8)) (j + 1) = lvX mem t j (mem.1 108 5) (mem.1 108 6) from rfl]
      refine hP _ _ _ _ _ ⟨fun h63 => ?_, fun h63 => ?_⟩
      ·
        have h63 := zb_0.mp h63
        refine hP _ _ _ _ _ ?_
        refine hP _ _ _ _ _ ?_
        exact ⟨rfl, by rw [if_pos h39, h63] at hQ; exact hQ⟩
      ·
        have h63 := zb_n.mp h63
        refine hP _ _ _ _ _ ?_
        refine hP _ _ _ _ _ ?_
        refine hP _ _ _ _ _ ?_
        exact ⟨rfl, by rw [if_pos h39, h63] at hQ; exact hQ⟩
    ·
      refine hP _ _ _ _ _ ?_
      refine hP _ _ _ _ _ ?_
      exact ⟨rfl, by rw [if_neg h39] at hQ; exact hQ⟩
def k_X10_letter : zCt := fun as n mem Q => ∃ (p i : Int32) (t np pw m na : Nat), as = [.ref 100, .int p, .int i] ∧ zCs n mem t np pw m na ∧ (∀ p, p < pw → zPr (mem.1 (t + 2 + p)) 0) ∧
    (if inC p (mem.1 t 2) = false then Q (some (.int (-1))) n mem
     else Q (some (.int (if inC i (nI (lineR (mem.1 (t + 2 + ix p)) 0).length) = false then -1 else (lineR (mem.1 (t + 2 + ix p)) 0).getD (ix i) 0))) n (wrL 118 117 1 (zI mem 117 1 0) 0 (lineR (mem.1 (t + 2 + ix p)) 0)))
theorem ok_X10_letter {l : Launch} {G : zG} : zOK l G yX10_letter cX10_letter 3 (some .int) 6 0 0 k_X10_letter := by
  intro as n mem Q hK
  obtain ⟨p, i, t, np, pw, m, na, rfl, ⟨⟨hn, hF⟩, ht, hTl, hU, ⟨hm, hN⟩, hna, hna16⟩, hPr, hQ⟩ := hK
  refine mtX10_letter ok_X10_isPower (by decide) ok_X3_writeLine (by decide) (List.forall_mem_cons.mpr ⟨rfl, List.forall_mem_cons.mpr ⟨rfl, List.forall_mem_cons.mpr ⟨rfl, fun _ h => absurd h List.not_mem_nil⟩⟩⟩) (by simp) rfl (fun P hP => ?_)
  show P 0 [.ref 100, .int p, .int i] [] n mem
  obtain ⟨hT, hnp, hnp8, hpw, hw, hPs⟩ := id hTl
  refine hP _ _ _ _ _ ?_
  refine hP _ _ _ _ _ ?_
  refine hP _ _ _ _ _ ⟨(zi hn rfl rfl rfl), Nat.le_of_ble_eq_true rfl, Nat.le_of_ble_eq_true rfl, ?_⟩
  refine ⟨_, t, rfl, ⟨hn, hF⟩, ⟨ht, hT⟩, ?_⟩
  refine hP _ _ _ _ _ ⟨fun h5 => ?_, fun h5 => ?_⟩
  ·
    have h5 := zb_0.mp h5
    refine hP _ _ _ _ _ ?_
    refine hP _ _ _ _ _ ?_
    exact ⟨rfl, by rw [if_pos h5] at hQ; exact hQ⟩
  ·
    have h5 := zb_n.mp h5
    obtain ⟨j, hj, rfl⟩ := inC_nI (by omega) (hpw ▸ h5)
    rw [ix_nI (j := j) (by omega), if_neg (by rw [h5]; decide)] at hQ
    refine hP _ _ _ _ _ ?_
    refine hP _ _ _ _ _ ⟨(zi hn rfl rfl rfl), _, fx_Book_writer hF, (by decide), ?_⟩
    refine hP _ _ _ _ _ ?_
    refine hP _ _ _ _ _ ⟨(zi hn rfl rfl rfl), _, ht, (by omega), ?_⟩
    refine hP _ _ _ _ _ ⟨(ztT hn hT), _, (fx_tp hF hT), (by omega), ?_⟩
    refine hP _ _ _ _ _ ?_
    refine hP _ _ _ _ _ ⟨_, j, (ztA hn hT), rfl, by omega, _, (fx_pw hF hT (by omega)), (by omega), ?_⟩
    refine hP _ _ _ _ _ ⟨(zi hn rfl rfl rfl), Nat.le_of_ble_eq_true rfl, Nat.le_of_ble_eq_true rfl, ?_⟩
    refine ⟨_, rfl, ⟨hn, hF⟩, ztP hn hT (by omega), hPr j hj, ?_⟩
    have hl : (wrL 118 117 1 (zI mem 117 1 0) 0 (lineR (mem.1 (t + 2 + j)) 0)).1 117 1 = nI (lineR (mem.1 (t + 2 + j)) 0).length := by rw [wrL_len (k := 0) (mem := zI mem 117 1 0) (show _ = nI 0 from zI_s), Nat.zero_add]
    have hl8 : (lineR (mem.1 (t + 2 + j)) 0).length ≤ 80 := lineL_len _ _ _ _ _ _ _ _
    have hat := fun k (h : k < (lineR (mem.1 (t + 2 + j)) 0).length) => wrL_at (b := 118) (o := 117) (f := 1) (by decide) (mem := zI mem 117 1 0) (k := 0) h
    have hF : zFx (wrL 118 117 1 (zI mem 117 1 0) 0 (lineR (mem.1 (t + 2 + j)) 0)) := zFx_2 wrL_2 hF
    generalize wrL 118 117 1 (zI mem 117 1 0) 0 (lineR (mem.1 (t + 2 + j)) 0) = M at hl hat hF hQ ⊢
    rw [← hl] at hQ
    refine hP _ _ _ _ _ ?_
    refine hP _ _ _ _ _ ⟨fun h27 => ?_, fun h27 => ?_⟩
    ·
      refine hP _ _ _ _ _ ?_
      refine hP _ _ _ _ _ ?_
      first | exact ⟨rfl, by rw [if_neg (by rw [inC_ok h27 h38]; decide), ix_nI (j := k) (by omega), ← hak] at hQ; exact hQ⟩ | exact ⟨rfl, by rw [if_pos (inC_ge h38)] at hQ; exact hQ⟩ | exact ⟨rfl, by rw [if_pos (inC_lt h27)] at hQ; exact hQ⟩
    ·
      refine hP _ _ _ _ _ ?_
      refine hP _ _ _ _ _ ?_
      refine hP _ _ _ _ _ ⟨(zi hn rfl rfl rfl), _, fx_Book_writer hF, (by decide), ?_⟩
      refine hP _ _ _ _ _ ⟨(zi hn rfl rfl rfl), ?_⟩
      refine hP _ _ _ _ _ ⟨fun h38 => ?_, fun h38 => ?_⟩
      ·
        refine hP _ _ _ _ _ ?_
        refine hP _ _ _ _ _ ?_
        first | exact ⟨rfl, by rw [if_neg (by rw [inC_ok h27 h38]; decide), ix_nI (j := k) (by omega), ← hak] at hQ; exact hQ⟩ | exact ⟨rfl, by rw [if_pos (inC_ge h38)] at hQ; exact hQ⟩ | exact ⟨rfl, by rw [if_pos (inC_lt h27)] at hQ; exact hQ⟩
      ·
        obtain ⟨k, hk, rfl⟩ := inC_nI (c := (lineR (mem.1 (t + 2 + j)) 0).length) (by omega) (by rw [← hl]; exact inC_ok h27 h38)
        have hak := hat k hk
        rw [Nat.zero_add] at hak
        refine hP _ _ _ _ _ ?_
        refine hP _ _ _ _ _ ⟨(zi hn rfl rfl rfl), _, fx_Book_writer hF, (by decide), ?_⟩
        refine hP _ _ _ _ _ ⟨(zi hn rfl rfl rfl), _, fx_LineWriter_bytes hF, (by decide), ?_⟩
        refine hP _ _ _ _ _ ?_
        refine hP _ _ _ _ _ ⟨_, k, (zi hn rfl rfl rfl), rfl, by omega, ?_⟩
        refine hP _ _ _ _ _ ?_
        refine hP _ _ _ _ _ ?_
        first | exact ⟨rfl, by rw [if_neg (by rw [inC_ok h27 h38]; decide), ix_nI (j := k) (by omega), ← hak] at hQ; exact hQ⟩ | exact ⟨rfl, by rw [if_pos (inC_ge h38)] at hQ; exact hQ⟩ | exact ⟨rfl, by rw [if_pos (inC_lt h27)] at hQ; exact hQ⟩
/-! ===== bytes onto the class's tape ===== -/
def byC (w : Int32) (j : Nat) : Int32 := (w >>> (kkL j &&& 31)).toInt8.toInt32
def cl4 (mem : zM) (t : Nat) (w : Int32) : Nat → zM
  | 0 => mem
  | j + 1 => zI (zI (cl4 mem t w j) 102 (t + j) (byC w j)) 101 1 (nI (t + j + 1))
theorem cl4_t {mem : zM} {t : Nat} {w : Int32} (h : mem.1 101 1 = nI t) : ∀ j, (cl4 mem t w j).1 101 1 = nI (t + j) := by
  intro j
  cases j with
  | zero => exact h
  | succ j => show (zI _ 101 1 (nI (t + j + 1))).1 101 1 = _; rw [zI_s]; rfl
theorem cl4_2 {mem : zM} {t : Nat} {w : Int32} : ∀ j, (cl4 mem t w j).2 = mem.2 := by
  intro j
  induction j with
  | zero => rfl
  | succ j ih => exact ih
def k_X6_append : zCt := fun as n mem Q => ∃ (w : Int32) (t : Nat), as = [.ref 101, .int w] ∧ zst n mem ∧ mem.1 101 1 = nI t ∧ t + 4 ≤ 840 ∧ Q none n (cl4 mem t w 4)
theorem ok_X6_append {l : Launch} {G : zG} : zOK l G yX6_append cX6_append 3 none 0 0 0 k_X6_append := by
  intro as n mem Q hK
  obtain ⟨w, t, rfl, ⟨hn, hF⟩, ht, ht4, hQ⟩ := hK
  refine mtX6_append (List.forall_mem_cons.mpr ⟨rfl, List.forall_mem_cons.mpr ⟨rfl, fun _ h => absurd h List.not_mem_nil⟩⟩) (by simp) rfl (fun P hP => ?_)
  show P 0 [.ref 101, .int w, .null] [] n mem
  have loop : ∀ j, j ≤ 4 → P 3 [.ref 101, .int w, .int (kkL j)] [] n (cl4 mem t w j) := by
    refine zloop ?_ ?_
    ·
      refine hP _ _ _ _ _ ?_
      refine hP _ _ _ _ _ ⟨fun _ => ?_, fun hz => absurd ( by decide) hz⟩
      refine hP _ _ _ _ _ ?_
      exact ⟨rfl, hQ⟩
    · intro j hj ih
      have hF : zFx (cl4 mem t w j) := zFx_2 (cl4_2 j) hF
      have et := cl4_t (w := w) ht j
      have ih : P 3 [.ref 101, .int w, .int (kkL (j + 1))] [] n (zI (zI (cl4 mem t w j) 102 (t + j) (byC w j)) 101 1 (nI (t + j + 1))) := ih
      have ek : kkL (j + 1) = kkL j + (-8) := (by decide : ∀ j, j < 4 → kkL (j + 1) = kkL j + (-8)) j hj
      have eg : ¬ kkL j < 0 := (by decide : ∀ j, j < 4 → ¬ kkL j < 0) j hj
      have e1 : nI (t + j + 1) = (zI (cl4 mem t w j) 102 (t + j) (byC w j)).1 101 1 + 1 := by
        show _ = (cl4 mem t w j).1 101 1 + 1
        rw [et]; exact (nI_1 _).symm
      have e2 : vp_nar .byte (byC w j) = byC w j := pk_vb _
      rw [ek, e1, ← e2] at ih
      generalize cl4 mem t w j = M at hF et ih ⊢
      refine hP _ _ _ _ _ ?_
      refine hP _ _ _ _ _ ⟨fun hz => absurd hz ( eg), fun _ => ?_⟩
      refine hP _ _ _ _ _ ?_
      refine hP _ _ _ _ _ ⟨(zi hn rfl rfl rfl), ?_⟩
      refine hP _ _ _ _ _ ?_
      refine hP _ _ _ _ _ ⟨fun hz => absurd hz ( by rw [et]; exact nI_ge (b := 840) (by omega) (by omega)), fun _ => ?_⟩
      refine hP _ _ _ _ _ ?_
      refine hP _ _ _ _ _ ⟨(zi hn rfl rfl rfl), _, fx_Tape_bytes hF, (by decide), ?_⟩
      refine hP _ _ _ _ _ ?_
      refine hP _ _ _ _ _ ⟨(zi hn rfl rfl rfl), ?_⟩
      refine hP _ _ _ _ _ ?_
      refine hP _ _ _ _ _ ?_
      refine hP _ _ _ _ _ ?_
      refine hP _ _ _ _ _ ?_
      refine hP _ _ _ _ _ ⟨_, t + j, (zi hn rfl rfl rfl), et, by omega, ?_⟩
      refine hP _ _ _ _ _ ?_
      refine hP _ _ _ _ _ ?_
      refine hP _ _ _ _ _ ⟨(zi hn rfl rfl rfl), ?_⟩
      refine hP _ _ _ _ _ ?_
      refine hP _ _ _ _ _ ?_
      refine hP _ _ _ _ _ ⟨(zi hn rfl rfl rfl), ?_⟩
      refine hP _ _ _ _ _ ?_
      refine hP _ _ _ _ _ ?_
      exact ih
  refine hP _ _ _ _ _ ?_
  refine hP _ _ _ _ _ ?_
  exact loop 0 (by omega)
def k_X6_takesTwenty : zCt := fun as n mem Q => as = [.ref 101] ∧ zst n mem ∧ Q (some (.int (zb (decide (¬ 820 < mem.1 101 1))))) n mem
theorem ok_X6_takesTwenty {l : Launch} {G : zG} : zOK l G yX6_takesTwenty cX6_takesTwenty 1 (some .boolean) 0 0 0 k_X6_takesTwenty := by
  intro as n mem Q hK
  obtain ⟨rfl, ⟨hn, hF⟩, hQ⟩ := hK
  refine mtX6_takesTwenty (List.forall_mem_cons.mpr ⟨rfl, fun _ h => absurd h List.not_mem_nil⟩) (by simp) rfl (fun P hP => ?_)
  show P 0 [.ref 101] [] n mem
  refine hP _ _ _ _ _ ?_
  refine hP _ _ _ _ _ ⟨(zi hn rfl rfl rfl), ?_⟩
  refine hP _ _ _ _ _ ?_
  refine hP _ _ _ _ _ ⟨fun h7 => ?_, fun h7 => ?_⟩
  ·
    refine hP _ _ _ _ _ ?_
    refine hP _ _ _ _ _ ?_
    exact ⟨by decide, rfl, by simpa [zb, h7] using hQ⟩
  ·
    refine hP _ _ _ _ _ ?_
    refine hP _ _ _ _ _ ?_
    refine hP _ _ _ _ _ ?_
    exact ⟨by decide, rfl, by simpa [zb, h7] using hQ⟩
def cl20 (mem : zM) (t : Nat) (a b c d e : Int32) : zM := cl4 (cl4 (cl4 (cl4 (cl4 mem t a 4) (t + 4) b 4) (t + 8) c 4) (t + 12) d 4) (t + 16) e 4
def k_X10_feed : zCt := fun as n mem Q => ∃ (a b c d e : Int32) (t : Nat), as = [.ref 100, .int a, .int b, .int c, .int d, .int e] ∧ zst n mem ∧ mem.1 101 1 = nI t ∧ t ≤ 840 ∧ (if t + 20 ≤ 840 then Q (some (.int (nI (t + 20)))) n (cl20 mem t a b c d e) else Q (some (.int (-1))) n mem)
theorem ok_X10_feed {l : Launch} {G : zG} : zOK l G yX10_feed cX10_feed 6 (some .int) 1 0 0 k_X10_feed := by
  intro as n mem Q hK
  obtain ⟨a, b, c, d, e, t, rfl, ⟨hn, hF⟩, ht, ht8, hQ⟩ := hK
  refine mtX10_feed ok_X6_takesTwenty (by decide) ok_X6_append (by decide) (List.forall_mem_cons.mpr ⟨rfl, List.forall_mem_cons.mpr ⟨rfl, List.forall_mem_cons.mpr ⟨rfl, List.forall_mem_cons.mpr ⟨rfl, List.forall_mem_cons.mpr ⟨rfl, List.forall_mem_cons.mpr ⟨rfl, fun _ h => absurd h List.not_mem_nil⟩⟩⟩⟩⟩⟩) (by simp) rfl (fun P hP => ?_)
  show P 0 [.ref 100, .int a, .int b, .int c, .int d, .int e] [] n mem
  have h1 := cl4_t (w := a) ht 4
  have h2 := cl4_t (w := b) h1 4
  have h3 := cl4_t (w := c) h2 4
  have h4 := cl4_t (w := d) h3 4
  have h5 := cl4_t (w := e) h4 4
  have F1 : zFx (cl4 mem t a 4) := zFx_2 (cl4_2 4) hF
  have F2 := zFx_2 (cl4_2 (t := t + 4) (w := b) 4) F1
  have F3 := zFx_2 (cl4_2 (t := t + 4 + 4) (w := c) 4) F2
  have F4 := zFx_2 (cl4_2 (t := t + 4 + 4 + 4) (w := d) 4) F3
  have F5 := zFx_2 (cl4_2 (t := t + 4 + 4 + 4 + 4) (w := e) 4) F4
  by_cases hc : t + 20 ≤ 840
  · rw [if_pos hc] at hQ
    refine hP _ _ _ _ _ ?_
    refine hP _ _ _ _ _ ⟨(zi hn rfl rfl rfl), _, fx_Book_tape hF, (by decide), ?_⟩
    refine hP _ _ _ _ _ ⟨(zi hn rfl rfl rfl), Nat.le_of_ble_eq_true rfl, Nat.le_of_ble_eq_true rfl, ?_⟩
    refine ⟨rfl, ⟨hn, hF⟩, ?_⟩
    rw [decide_eq_true (p := ¬ 820 < mem.1 101 1) (by rw [ht]; exact nI_nlt (a := 820) (by omega) (by omega))]
    refine hP _ _ _ _ _ ⟨fun hz => absurd hz ( by decide), fun _ => ?_⟩
    refine hP _ _ _ _ _ ?_
    refine hP _ _ _ _ _ ⟨(zi hn rfl rfl rfl), _, fx_Book_tape hF, (by decide), ?_⟩
    refine hP _ _ _ _ _ ?_
    refine hP _ _ _ _ _ ⟨(zi hn rfl rfl rfl), Nat.le_of_ble_eq_true rfl, Nat.le_of_ble_eq_true rfl, ?_⟩
    refine ⟨a, t, rfl, ⟨hn, hF⟩, ht, by omega, ?_⟩
    refine hP _ _ _ _ _ ?_
    refine hP _ _ _ _ _ ⟨(zi hn rfl rfl rfl), _, fx_Book_tape F1, (by decide), ?_⟩
    refine hP _ _ _ _ _ ?_
    refine hP _ _ _ _ _ ⟨(zi hn rfl rfl rfl), Nat.le_of_ble_eq_true rfl, Nat.le_of_ble_eq_true rfl, ?_⟩
    refine ⟨b, t + 4, rfl, ⟨hn, F1⟩, h1, by omega, ?_⟩
    refine hP _ _ _ _ _ ?_
    refine hP _ _ _ _ _ ⟨(zi hn rfl rfl rfl), _, fx_Book_tape F2, (by decide), ?_⟩
    refine hP _ _ _ _ _ ?_
    refine hP _ _ _ _ _ ⟨(zi hn rfl rfl rfl), Nat.le_of_ble_eq_true rfl, Nat.le_of_ble_eq_true rfl, ?_⟩
    refine ⟨c, t + 4 + 4, rfl, ⟨hn, F2⟩, h2, by omega, ?_⟩
    refine hP _ _ _ _ _ ?_
    refine hP _ _ _ _ _ ⟨(zi hn rfl rfl rfl), _, fx_Book_tape F3, (by decide), ?_⟩
    refine hP _ _ _ _ _ ?_
    refine hP _ _ _ _ _ ⟨(zi hn rfl rfl rfl), Nat.le_of_ble_eq_true rfl, Nat.le_of_ble_eq_true rfl, ?_⟩
    refine ⟨d, t + 4 + 4 + 4, rfl, ⟨hn, F3⟩, h3, by omega, ?_⟩
    refine hP _ _ _ _ _ ?_
    refine hP _ _ _ _ _ ⟨(zi hn rfl rfl rfl), _, fx_Book_tape F4, (by decide), ?_⟩
    refine hP _ _ _ _ _ ?_
    refine hP _ _ _ _ _ ⟨(zi hn rfl rfl rfl), Nat.le_of_ble_eq_true rfl, Nat.le_of_ble_eq_true rfl, ?_⟩
    refine ⟨e, t + 4 + 4 + 4 + 4, rfl, ⟨hn, F4⟩, h4, by omega, ?_⟩
    refine hP _ _ _ _ _ ?_
    refine hP _ _ _ _ _ ⟨(zi hn rfl rfl rfl), _, fx_Book_tape F5, (by decide), ?_⟩
    refine hP _ _ _ _ _ ⟨(zi hn rfl rfl rfl), ?_⟩
    refine hP _ _ _ _ _ ?_
    exact ⟨rfl, by rw [← h5] at hQ; exact hQ⟩
  · rw [if_neg hc] at hQ
    refine hP _ _ _ _ _ ?_
    refine hP _ _ _ _ _ ⟨(zi hn rfl rfl rfl), _, fx_Book_tape hF, (by decide), ?_⟩
    refine hP _ _ _ _ _ ⟨(zi hn rfl rfl rfl), Nat.le_of_ble_eq_true rfl, Nat.le_of_ble_eq_true rfl, ?_⟩
    refine ⟨rfl, ⟨hn, hF⟩, ?_⟩
    rw [decide_eq_false (p := ¬ 820 < mem.1 101 1) (by rw [ht]; exact fun z => z (nI_lt (a := 820) (by omega) (by omega)))]
    refine hP _ _ _ _ _ ⟨fun _ => ?_, fun hz => absurd ( rfl) hz⟩
    refine hP _ _ _ _ _ ?_
    refine hP _ _ _ _ _ ?_
    exact ⟨rfl, hQ⟩
