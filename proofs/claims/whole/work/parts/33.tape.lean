
def T_does (mem : zM) (np : Nat) (ps pt th kd am : Int32) (m na : Nat) (Q : Int32 → zM → Prop) : Prop :=
  if askedM (mem.1 180) ps pt kd am = false ∨ isin th 0 (mem.1 180 13 - 1) = false ∨ th = pt ∨ bt ps (ix th) = true ∨ mfull mem = true ∨ mem.1 180 29 = 16 then Q (-1) mem
  else if ¬ deadM (mem.1 187) (mem.1 180 27) np &&& (ps ||| 1 <<< (pt &&& 31) ||| 1 <<< (th &&& 31)) = 0 then Q (-2) mem
  else Q (nI na) (zI (zI (zI (zI (zI (zI (zI (zI (zI (zI (zput mem m) 191 (9 * na) ps) 191 (9 * na + 1) pt) 191 (9 * na + 2) th) 191 (9 * na + 3) kd) 191 (9 * na + 4) am) 191 (9 * na + 5) (nI (m + 1))) 191 (9 * na + 6) (mem.1 180 28)) 191 (9 * na + 7) (-1)) 191 (9 * na + 8) (-1)) 180 29 (nI (na + 1)))
def k_X11_does : zCt := fun as n mem Q => ∃ (ps pt th kd am : Int32) (np pw m na : Nat), as = [.ref 180, .int ps, .int pt, .int th, .int kd, .int am] ∧ zst n mem ∧ (fun mem : zM => zMc mem np pw m na ∧ T_does mem np ps pt th kd am m na (fun r mem => Q (some (.int r)) n mem)) (zI mem 180 0 0)
theorem ok_X11_does {l : Launch} {G : zG} : zOK l G yX11_does cX11_does 7 (some .int) 3 0 0 k_X11_does := by
  intro as n mem Q hK
  obtain ⟨ps, pt, th, kd, am, np, pw, m, na, rfl, ⟨hn, hF⟩, hQ⟩ := hK
  refine mtX11_does ok_X11_isAsked (by decide) ok_X11_isParty (by decide) ok_X11_has (by decide) ok_X11_isFull (by decide) ok_X11_dead (by decide) ok_X11_puts (by decide) (List.forall_mem_cons.mpr ⟨rfl, List.forall_mem_cons.mpr ⟨rfl, List.forall_mem_cons.mpr ⟨rfl, List.forall_mem_cons.mpr ⟨rfl, List.forall_mem_cons.mpr ⟨rfl, List.forall_mem_cons.mpr ⟨rfl, fun _ h => absurd h List.not_mem_nil⟩⟩⟩⟩⟩⟩) (by simp) rfl (fun P hP => ?_)
  show P 0 [.ref 180, .int ps, .int pt, .int th, .int kd, .int am, .null] [] n mem
  refine hP _ _ _ _ _ ?_
  refine hP _ _ _ _ _ ?_
  refine hP _ _ _ _ _ ⟨(zi hn rfl rfl rfl), ?_⟩
  show P 5 [.ref 180, .int ps, .int pt, .int th, .int kd, .int am, .null] [] n (zI mem 180 0 0)
  have hF : zFx (zI mem 180 0 0) := hF
  generalize zI mem 180 0 0 = mem at *
  obtain ⟨⟨c1, c2, c3, c4, c5, c6, c7, c8⟩, hQ⟩ := hQ
  refine hP _ _ _ _ _ ?_
  refine hP _ _ _ _ _ ?_
  refine hP _ _ _ _ _ ?_
  refine hP _ _ _ _ _ ?_
  refine hP _ _ _ _ _ ?_
  refine hP _ _ _ _ _ ⟨(zi hn rfl rfl rfl), Nat.le_of_ble_eq_true rfl, Nat.le_of_ble_eq_true rfl, ?_⟩
  refine ⟨_, _, _, _, rfl, ⟨hn, hF⟩, ?_⟩
  refine hP _ _ _ _ _ ⟨fun h15 => ?_, fun h15 => ?_⟩
  ·
    have h15 := zb_0.mp h15
    refine hP _ _ _ _ _ ?_
    refine hP _ _ _ _ _ ?_
    exact ⟨rfl, by simpa [T_does, h15] using hQ⟩
  ·
    have h15 := zb_n.mp h15
    refine hP _ _ _ _ _ ?_
    refine hP _ _ _ _ _ ?_
    refine hP _ _ _ _ _ ⟨(zi hn rfl rfl rfl), Nat.le_of_ble_eq_true rfl, Nat.le_of_ble_eq_true rfl, ?_⟩
    refine ⟨_, rfl, ⟨hn, hF⟩, ?_⟩
    refine hP _ _ _ _ _ ⟨fun h23 => ?_, fun h23 => ?_⟩
    ·
      have h23 := zb_0.mp h23
      refine hP _ _ _ _ _ ?_
      refine hP _ _ _ _ _ ?_
      exact ⟨rfl, by simpa [T_does, h15, h23] using hQ⟩
    ·
      have h23 := zb_n.mp h23
      obtain ⟨t, ht, rfl⟩ := isin_nI (by omega) (c1 ▸ h23)
      have hx := ix_nI (j := t) (by omega)
      refine hP _ _ _ _ _ ?_
      refine hP _ _ _ _ _ ?_
      refine hP _ _ _ _ _ ⟨fun h28 => ?_, fun h28 => ?_⟩
      ·
        refine hP _ _ _ _ _ ?_
        refine hP _ _ _ _ _ ?_
        exact ⟨rfl, by simpa [T_does, h15, h23, hx, h28] using hQ⟩
      ·
        refine hP _ _ _ _ _ ?_
        refine hP _ _ _ _ _ ?_
        refine hP _ _ _ _ _ ⟨Nat.le_of_ble_eq_true rfl, Nat.le_of_ble_eq_true rfl, ?_⟩
        refine ⟨_, t, rfl, by omega, ?_⟩
        refine hP _ _ _ _ _ ⟨fun h36 => ?_, fun h36 => ?_⟩
        ·
          have h36 := zb_0.mp h36
          refine hP _ _ _ _ _ ?_
          refine hP _ _ _ _ _ ⟨(zi hn rfl rfl rfl), Nat.le_of_ble_eq_true rfl, Nat.le_of_ble_eq_true rfl, ?_⟩
          refine ⟨rfl, ⟨hn, hF⟩, ?_⟩
          refine hP _ _ _ _ _ ⟨fun h43 => ?_, fun h43 => ?_⟩
          ·
            have h43 := zb_0.mp h43
            refine hP _ _ _ _ _ ?_
            refine hP _ _ _ _ _ ⟨(zi hn rfl rfl rfl), ?_⟩
            refine hP _ _ _ _ _ ?_
            refine hP _ _ _ _ _ ⟨fun h52 => ?_, fun h52 => ?_⟩
            ·
              refine hP _ _ _ _ _ ?_
              refine hP _ _ _ _ _ ?_
              exact ⟨rfl, by simpa [T_does, h15, h23, hx, h28, h36, h43, h52] using hQ⟩
            ·
              have hm := full_lt c5 c6 h43
              have hna : na < 16 := by rcases Nat.lt_or_ge na 16 with z | z; exact z; exact absurd (c7.trans (by rw [show na = 16 by omega]; rfl)) h52
              have e9 : ∀ j : Nat, nI 9 * mem.1 180 29 + nI j = nI (9 * na + j) := fun j => by rw [c7]; exact nlin 9 na j
              refine hP _ _ _ _ _ ?_
              refine hP _ _ _ _ _ ?_
              refine hP _ _ _ _ _ ⟨(zi hn rfl rfl rfl), ?_⟩
              refine hP _ _ _ _ _ ⟨(zi hn rfl rfl rfl), Nat.le_of_ble_eq_true rfl, Nat.le_of_ble_eq_true rfl, ?_⟩
              refine ⟨_, np, rfl, ⟨hn, hF⟩, c1, c2, ?_⟩
              refine hP _ _ _ _ _ ?_
              refine hP _ _ _ _ _ ?_
              refine hP _ _ _ _ _ ?_
              refine hP _ _ _ _ _ ?_
              refine hP _ _ _ _ _ ?_
              refine hP _ _ _ _ _ ?_
              refine hP _ _ _ _ _ ?_
              refine hP _ _ _ _ _ ?_
              refine hP _ _ _ _ _ ?_
              refine hP _ _ _ _ _ ?_
              refine hP _ _ _ _ _ ⟨fun h75 => ?_, fun h75 => ?_⟩
              ·
                have e29 : mem.1 180 29 + 1 = nI (na + 1) := by rw [c7]; exact nI_1 na
                refine hP _ _ _ _ _ ?_
                refine hP _ _ _ _ _ ⟨(zi hn rfl rfl rfl), Nat.le_of_ble_eq_true rfl, Nat.le_of_ble_eq_true rfl, ?_⟩
                refine ⟨m, rfl, ⟨hn, hF⟩, c5, hm, ?_⟩
                refine hP _ _ _ _ _ ?_
                refine hP _ _ _ _ _ ?_
                refine hP _ _ _ _ _ ?_
                refine hP _ _ _ _ _ ⟨(zi hn rfl rfl rfl), ?_⟩
                refine hP _ _ _ _ _ ?_
                refine hP _ _ _ _ _ ?_
                refine hP _ _ _ _ _ ?_
                refine hP _ _ _ _ _ ⟨(zi hn rfl rfl rfl), _, fx_Model_acts hF, (by decide), ?_⟩
                refine hP _ _ _ _ _ ?_
                refine hP _ _ _ _ _ ?_
                refine hP _ _ _ _ _ ?_
                refine hP _ _ _ _ _ ?_
                refine hP _ _ _ _ _ ⟨_, 9 * na, (zi hn rfl rfl rfl), e9 0, by omega, ?_⟩
                refine hP _ _ _ _ _ ?_
                refine hP _ _ _ _ _ ⟨(zi hn rfl rfl rfl), _, fx_Model_acts hF, (by decide), ?_⟩
                refine hP _ _ _ _ _ ?_
                refine hP _ _ _ _ _ ?_
                refine hP _ _ _ _ _ ?_
                refine hP _ _ _ _ _ ?_
                refine hP _ _ _ _ _ ⟨_, 9 * na + 1, (zi hn rfl rfl rfl), e9 1, by omega, ?_⟩
                refine hP _ _ _ _ _ ?_
                refine hP _ _ _ _ _ ⟨(zi hn rfl rfl rfl), _, fx_Model_acts hF, (by decide), ?_⟩
                refine hP _ _ _ _ _ ?_
                refine hP _ _ _ _ _ ?_
                refine hP _ _ _ _ _ ?_
                refine hP _ _ _ _ _ ?_
                refine hP _ _ _ _ _ ⟨_, 9 * na + 2, (zi hn rfl rfl rfl), e9 2, by omega, ?_⟩
                refine hP _ _ _ _ _ ?_
                refine hP _ _ _ _ _ ⟨(zi hn rfl rfl rfl), _, fx_Model_acts hF, (by decide), ?_⟩
                refine hP _ _ _ _ _ ?_
                refine hP _ _ _ _ _ ?_
                refine hP _ _ _ _ _ ?_
                refine hP _ _ _ _ _ ?_
                refine hP _ _ _ _ _ ⟨_, 9 * na + 3, (zi hn rfl rfl rfl), e9 3, by omega, ?_⟩
                refine hP _ _ _ _ _ ?_
                refine hP _ _ _ _ _ ⟨(zi hn rfl rfl rfl), _, fx_Model_acts hF, (by decide), ?_⟩
                refine hP _ _ _ _ _ ?_
                refine hP _ _ _ _ _ ?_
                refine hP _ _ _ _ _ ?_
                refine hP _ _ _ _ _ ?_
                refine hP _ _ _ _ _ ⟨_, 9 * na + 4, (zi hn rfl rfl rfl), e9 4, by omega, ?_⟩
                refine hP _ _ _ _ _ ?_
                refine hP _ _ _ _ _ ⟨(zi hn rfl rfl rfl), _, fx_Model_acts hF, (by decide), ?_⟩
                refine hP _ _ _ _ _ ?_
                refine hP _ _ _ _ _ ?_
                refine hP _ _ _ _ _ ?_
                refine hP _ _ _ _ _ ?_
                refine hP _ _ _ _ _ ⟨(zi hn rfl rfl rfl), ?_⟩
                refine hP _ _ _ _ _ ⟨_, 9 * na + 5, (zi hn rfl rfl rfl), e9 5, by omega, ?_⟩
                refine hP _ _ _ _ _ ?_
                refine hP _ _ _ _ _ ⟨(zi hn rfl rfl rfl), _, fx_Model_acts hF, (by decide), ?_⟩
                refine hP _ _ _ _ _ ?_
                refine hP _ _ _ _ _ ?_
                refine hP _ _ _ _ _ ?_
                refine hP _ _ _ _ _ ?_
                refine hP _ _ _ _ _ ⟨(zi hn rfl rfl rfl), ?_⟩
                refine hP _ _ _ _ _ ⟨_, 9 * na + 6, (zi hn rfl rfl rfl), e9 6, by omega, ?_⟩
                refine hP _ _ _ _ _ ?_
                refine hP _ _ _ _ _ ⟨(zi hn rfl rfl rfl), _, fx_Model_acts hF, (by decide), ?_⟩
                refine hP _ _ _ _ _ ?_
                refine hP _ _ _ _ _ ?_
                refine hP _ _ _ _ _ ?_
                refine hP _ _ _ _ _ ?_
                refine hP _ _ _ _ _ ⟨_, 9 * na + 7, (zi hn rfl rfl rfl), e9 7, by omega, ?_⟩
                refine hP _ _ _ _ _ ?_
                refine hP _ _ _ _ _ ⟨(zi hn rfl rfl rfl), _, fx_Model_acts hF, (by decide), ?_⟩
                refine hP _ _ _ _ _ ?_
                refine hP _ _ _ _ _ ?_
                refine hP _ _ _ _ _ ?_
                refine hP _ _ _ _ _ ?_
                refine hP _ _ _ _ _ ⟨_, 9 * na + 8, (zi hn rfl rfl rfl), e9 8, by omega, ?_⟩
                refine hP _ _ _ _ _ ?_
                refine hP _ _ _ _ _ ?_
                refine hP _ _ _ _ _ ⟨(zi hn rfl rfl rfl), ?_⟩
                refine hP _ _ _ _ _ ?_
                refine hP _ _ _ _ _ ?_
                refine hP _ _ _ _ _ ⟨(zi hn rfl rfl rfl), ?_⟩
                refine hP _ _ _ _ _ ?_
                refine hP _ _ _ _ _ ⟨(zi hn rfl rfl rfl), ?_⟩
                refine hP _ _ _ _ _ ?_
                refine hP _ _ _ _ _ ?_
                refine hP _ _ _ _ _ ?_
                refine ⟨rfl, ?_⟩
                unfold T_does at hQ
                rw [hx, if_neg (by simp [h15, h23, h28, h36, h43, h52]), if_neg (fun z => z h75), ← e29] at hQ
                have er : mem.1 180 29 + 1 - 1 = nI na := by rw [e29]; exact nI_pred na
                rw [← er] at hQ
                exact hQ
              ·
                refine hP _ _ _ _ _ ?_
                refine hP _ _ _ _ _ ?_
                exact ⟨rfl, by unfold T_does at hQ; rw [hx, if_neg (by simp [h15, h23, h28, h36, h43, h52]), if_pos h75] at hQ; exact hQ⟩
          ·
            have h43 := zb_n.mp h43
            refine hP _ _ _ _ _ ?_
            refine hP _ _ _ _ _ ?_
            exact ⟨rfl, by simpa [T_does, h15, h23, hx, h28, h36, h43] using hQ⟩
        ·
          have h36 := zb_n.mp h36
          refine hP _ _ _ _ _ ?_
          refine hP _ _ _ _ _ ?_
          exact ⟨rfl, by simpa [T_does, h15, h23, hx, h28, h36] using hQ⟩
/-! ===== bytes onto the tape ===== -/
def kkL (j : Nat) : Int32 := match j with
  | 0 => 24 | 1 => 16 | 2 => 8 | 3 => 0 | _ => -8
def byM (w : Int32) (j : Nat) : Int32 := (w.toUInt32 >>> ((kkL j).toUInt32 &&& Int32.toUInt32 31)).toInt32 &&& 255
def zl4 (mem : zM) (t : Nat) (w : Int32) : Nat → zM
  | 0 => mem
  | j + 1 => zI (zI (zl4 mem t w j) 181 (t + j) (byM w j)) 180 2 (nI (t + j + 1))
theorem zl4_t {mem : zM} {t : Nat} {w : Int32} (h : mem.1 180 2 = nI t) : ∀ j, (zl4 mem t w j).1 180 2 = nI (t + j) := by
  intro j
  cases j with
  | zero => exact h
  | succ j => show (zI _ 180 2 (nI (t + j + 1))).1 180 2 = _; rw [zI_s]; rfl
theorem zl4_2 {mem : zM} {t : Nat} {w : Int32} : ∀ j, (zl4 mem t w j).2 = mem.2 := by
  intro j
  induction j with
  | zero => rfl
  | succ j ih => exact ih
def k_X11_lays : zCt := fun as n mem Q => ∃ (w : Int32) (t : Nat), as = [.ref 180, .int w] ∧ zst n mem ∧ mem.1 180 2 = nI t ∧ t + 4 ≤ 840 ∧ Q none n (zl4 mem t w 4)
theorem ok_X11_lays {l : Launch} {G : zG} : zOK l G yX11_lays cX11_lays 3 none 0 0 0 k_X11_lays := by
  intro as n mem Q hK
  obtain ⟨w, t, rfl, ⟨hn, hF⟩, ht, ht4, hQ⟩ := hK
  refine mtX11_lays (List.forall_mem_cons.mpr ⟨rfl, List.forall_mem_cons.mpr ⟨rfl, fun _ h => absurd h List.not_mem_nil⟩⟩) (by simp) rfl (fun P hP => ?_)
  show P 0 [.ref 180, .int w, .null] [] n mem
  have loop : ∀ j, j ≤ 4 → P 3 [.ref 180, .int w, .int (kkL j)] [] n (zl4 mem t w j) := by
    refine zloop ?_ ?_
    ·
      refine hP _ _ _ _ _ ?_
      refine hP _ _ _ _ _ ⟨fun _ => ?_, fun hz => absurd ( by decide) hz⟩
      refine hP _ _ _ _ _ ?_
      exact ⟨rfl, hQ⟩
    · intro j hj ih
      have hF : zFx (zl4 mem t w j) := zFx_2 (zl4_2 j) hF
      have et := zl4_t (w := w) ht j
      have ih : P 3 [.ref 180, .int w, .int (kkL (j + 1))] [] n (zI (zI (zl4 mem t w j) 181 (t + j) (byM w j)) 180 2 (nI (t + j + 1))) := ih
      have ek : kkL (j + 1) = kkL j + (-8) := (by decide : ∀ j, j < 4 → kkL (j + 1) = kkL j + (-8)) j hj
      have eg : ¬ kkL j < 0 := (by decide : ∀ j, j < 4 → ¬ kkL j < 0) j hj
      have e1 : nI (t + j + 1) = (zI (zl4 mem t w j) 181 (t + j) (byM w j)).1 180 2 + 1 := by
        show _ = (zl4 mem t w j).1 180 2 + 1
        rw [et]; exact (nI_1 _).symm
      rw [ek, e1] at ih
      generalize zl4 mem t w j = M at hF et ih ⊢
      refine hP _ _ _ _ _ ?_
      refine hP _ _ _ _ _ ⟨fun hz => absurd hz ( eg), fun _ => ?_⟩
      refine hP _ _ _ _ _ ?_
      refine hP _ _ _ _ _ ⟨(zi hn rfl rfl rfl), _, fx_Model_tape hF, (by decide), ?_⟩
      refine hP _ _ _ _ _ ?_
      refine hP _ _ _ _ _ ⟨(zi hn rfl rfl rfl), ?_⟩
      refine hP _ _ _ _ _ ?_
      refine hP _ _ _ _ _ ?_
      refine hP _ _ _ _ _ ?_
      refine hP _ _ _ _ _ ?_
      refine hP _ _ _ _ _ ?_
      refine hP _ _ _ _ _ ⟨_, t + j, (zi hn rfl rfl rfl), et, by omega, ?_⟩
      refine hP _ _ _ _ _ ?_
      refine hP _ _ _ _ _ ?_
      refine hP _ _ _ _ _ ⟨(zi hn rfl rfl rfl), ?_⟩
      refine hP _ _ _ _ _ ?_
      refine hP _ _ _ _ _ ?_
      refine hP _ _ _ _ _ ⟨(zi hn rfl rfl rfl), ?_⟩
      refine hP _ _ _ _ _ ?_
      refine hP _ _ _ _ _ ?_
      exact ih
  refine hP _ _ _ _ _ ?_
  refine hP _ _ _ _ _ ?_
  exact loop 0 (by omega)
/-- twenty bytes -/
def zl20 (mem : zM) (t : Nat) (a b c d e : Int32) : zM := zl4 (zl4 (zl4 (zl4 (zl4 mem t a 4) (t + 4) b 4) (t + 8) c 4) (t + 12) d 4) (t + 16) e 4
def k_X11_feed : zCt := fun as n mem Q => ∃ (a b c d e : Int32) (t : Nat), as = [.ref 180, .int a, .int b, .int c, .int d, .int e] ∧ zst n mem ∧ (fun mem : zM => mem.1 180 2 = nI t ∧ t ≤ 840 ∧ (if t + 20 ≤ 840 then Q (some (.int (nI (t + 20)))) n (zl20 mem t a b c d e) else Q (some (.int (-1))) n mem)) (zI mem 180 0 0)
theorem ok_X11_feed {l : Launch} {G : zG} : zOK l G yX11_feed cX11_feed 6 (some .int) 1 0 0 k_X11_feed := by
  intro as n mem Q hK
  obtain ⟨a, b, c, d, e, t, rfl, ⟨hn, hF⟩, hQ⟩ := hK
  refine mtX11_feed ok_X11_lays (by decide) (List.forall_mem_cons.mpr ⟨rfl, List.forall_mem_cons.mpr ⟨rfl, List.forall_mem_cons.mpr ⟨rfl, List.forall_mem_cons.mpr ⟨rfl, List.forall_mem_cons.mpr ⟨rfl, List.forall_mem_cons.mpr ⟨rfl, fun _ h => absurd h List.not_mem_nil⟩⟩⟩⟩⟩⟩) (by simp) rfl (fun P hP => ?_)
  show P 0 [.ref 180, .int a, .int b, .int c, .int d, .int e] [] n mem
  refine hP _ _ _ _ _ ?_
  refine hP _ _ _ _ _ ?_
  refine hP _ _ _ _ _ ⟨(zi hn rfl rfl rfl), ?_⟩
  show P 5 [.ref 180, .int a, .int b, .int c, .int d, .int e] [] n (zI mem 180 0 0)
  have hF : zFx (zI mem 180 0 0) := hF
  generalize zI mem 180 0 0 = mem at *
  obtain ⟨ht, ht8, hQ⟩ := hQ
  have e20 : mem.1 180 2 + 20 = nI (t + 20) := by rw [ht]; exact nI_add t 20
  have h1 := zl4_t (w := a) ht 4
  have h2 := zl4_t (w := b) h1 4
  have h3 := zl4_t (w := c) h2 4
  have h4 := zl4_t (w := d) h3 4
  have h5 := zl4_t (w := e) h4 4
  have F1 : zFx (zl4 mem t a 4) := zFx_2 (zl4_2 4) hF
  have F2 := zFx_2 (zl4_2 (t := t + 4) (w := b) 4) F1
  have F3 := zFx_2 (zl4_2 (t := t + 4 + 4) (w := c) 4) F2
  have F4 := zFx_2 (zl4_2 (t := t + 4 + 4 + 4) (w := d) 4) F3
  by_cases hc : t + 20 ≤ 840
  · rw [if_pos hc] at hQ
    refine hP _ _ _ _ _ ?_
    refine hP _ _ _ _ _ ⟨(zi hn rfl rfl rfl), ?_⟩
    refine hP _ _ _ _ _ ?_
    refine hP _ _ _ _ _ ?_
    refine hP _ _ _ _ _ ?_
    refine hP _ _ _ _ _ ⟨fun _ => ?_, fun hz => absurd ( by show mem.1 180 2 + 20 ≤ 840; rw [e20]; exact nI_le (b := 840) hc (by omega)) hz⟩
    refine hP _ _ _ _ _ ?_
    refine hP _ _ _ _ _ ?_
    refine hP _ _ _ _ _ ⟨(zi hn rfl rfl rfl), Nat.le_of_ble_eq_true rfl, Nat.le_of_ble_eq_true rfl, ?_⟩
    refine ⟨a, t, rfl, ⟨hn, hF⟩, ht, by omega, ?_⟩
    refine hP _ _ _ _ _ ?_
    refine hP _ _ _ _ _ ?_
    refine hP _ _ _ _ _ ⟨(zi hn rfl rfl rfl), Nat.le_of_ble_eq_true rfl, Nat.le_of_ble_eq_true rfl, ?_⟩
    refine ⟨b, t + 4, rfl, ⟨hn, F1⟩, h1, by omega, ?_⟩
    refine hP _ _ _ _ _ ?_
    refine hP _ _ _ _ _ ?_
    refine hP _ _ _ _ _ ⟨(zi hn rfl rfl rfl), Nat.le_of_ble_eq_true rfl, Nat.le_of_ble_eq_true rfl, ?_⟩
    refine ⟨c, t + 4 + 4, rfl, ⟨hn, F2⟩, h2, by omega, ?_⟩
    refine hP _ _ _ _ _ ?_
    refine hP _ _ _ _ _ ?_
    refine hP _ _ _ _ _ ⟨(zi hn rfl rfl rfl), Nat.le_of_ble_eq_true rfl, Nat.le_of_ble_eq_true rfl, ?_⟩
    refine ⟨d, t + 4 + 4 + 4, rfl, ⟨hn, F3⟩, h3, by omega, ?_⟩
    refine hP _ _ _ _ _ ?_
    refine hP _ _ _ _ _ ?_
    refine hP _ _ _ _ _ ⟨(zi hn rfl rfl rfl), Nat.le_of_ble_eq_true rfl, Nat.le_of_ble_eq_true rfl, ?_⟩
    refine ⟨e, t + 4 + 4 + 4 + 4, rfl, ⟨hn, F4⟩, h4, by omega, ?_⟩
    refine hP _ _ _ _ _ ?_
    refine hP _ _ _ _ _ ⟨(zi hn rfl rfl rfl), ?_⟩
    refine hP _ _ _ _ _ ?_
    exact ⟨rfl, by rw [← h5] at hQ; exact hQ⟩
  · rw [if_neg hc] at hQ
    refine hP _ _ _ _ _ ?_
    refine hP _ _ _ _ _ ⟨(zi hn rfl rfl rfl), ?_⟩
    refine hP _ _ _ _ _ ?_
    refine hP _ _ _ _ _ ?_
    refine hP _ _ _ _ _ ?_
    refine hP _ _ _ _ _ ⟨fun hz => absurd hz ( by show ¬ mem.1 180 2 + 20 ≤ 840; rw [e20]; exact nI_ge (a := 840) (by omega) (by omega)), fun _ => ?_⟩
    refine hP _ _ _ _ _ ?_
    refine hP _ _ _ _ _ ?_
    exact ⟨rfl, hQ⟩
/-! ===== a line of text ===== -/
def wdM (w : Nat) : List Int32 := match w with
  | 0 => [112, 101, 114, 115, 111, 110]
  | 1 => [102, 105, 114, 109]
  | 2 => [102, 114, 111, 109]
  | 3 => [117, 110, 100, 101, 114]
  | 4 => [116, 111]
  | 5 => [98, 121]
  | 6 => [107, 105, 110, 100, 115]
  | 7 => [109, 111, 115, 116]
  | 8 => [116, 105, 108, 108]
  | _ => [115, 117, 98]
def letS0 (k : Int32) : Int32 := if k = 0 then 112 else if k = 1 then 101 else if k = 2 then 114 else if k = 3 then 115 else if k = 4 then 111 else if k = 5 then 110 else 0
def letS1 (k : Int32) : Int32 := if k = 0 then 102 else if k = 1 then 105 else if k = 2 then 114 else if k = 3 then 109 else 0
def letS2 (k : Int32) : Int32 := if k = 0 then 102 else if k = 1 then 114 else if k = 2 then 111 else if k = 3 then 109 else 0
def letS3 (k : Int32) : Int32 := if k = 0 then 117 else if k = 1 then 110 else if k = 2 then 100 else if k = 3 then 101 else if k = 4 then 114 else 0
def letS4 (k : Int32) : Int32 := if k = 0 then 116 else if k = 1 then 111 else 0
def letS5 (k : Int32) : Int32 := if k = 0 then 98 else if k = 1 then 121 else 0
def letS6 (k : Int32) : Int32 := if k = 0 then 107 else if k = 1 then 105 else if k = 2 then 110 else if k = 3 then 100 else if k = 4 then 115 else 0
def letS7 (k : Int32) : Int32 := if k = 0 then 109 else if k = 1 then 111 else if k = 2 then 115 else if k = 3 then 116 else 0
def letS8 (k : Int32) : Int32 := if k = 0 then 116 else if k = 1 then 105 else if k = 2 then 108 else if k = 3 then 108 else 0
def letS9 (k : Int32) : Int32 := if k = 0 then 115 else if k = 1 then 117 else if k = 2 then 98 else 0
def letS (w : Nat) (k : Int32) : Int32 := match w with
  | 0 => letS0 k | 1 => letS1 k | 2 => letS2 k | 3 => letS3 k | 4 => letS4 k | 5 => letS5 k | 6 => letS6 k | 7 => letS7 k | 8 => letS8 k | _ => letS9 k
theorem letS_wd : ∀ w, w < 10 → ∀ j, j < 9 → letS w (nI j) = (wdM w).getD j 0 := by decide +kernel
def k_X11_letterOf : zCt := fun as n mem Q => ∃ (w : Nat) (k : Int32), as = [.int (nI w), .int k] ∧ w < 10 ∧ Q (some (.int (letS w k))) n mem
theorem ok_X11_letterOf {l : Launch} {G : zG} : zOK l G yX11_letterOf cX11_letterOf 2 (some .int) 0 0 0 k_X11_letterOf := by
  intro as n mem Q hK
  obtain ⟨w, k, rfl, hw, hQ⟩ := hK
  refine mtX11_letterOf (List.forall_mem_cons.mpr ⟨rfl, List.forall_mem_cons.mpr ⟨rfl, fun _ h => absurd h List.not_mem_nil⟩⟩) (by simp) rfl (fun P hP => ?_)
  show P 0 [.int (nI w), .int k] [] n mem
  refine hP _ _ _ _ _ ?_
  skip
  refine hP _ _ _ _ _ ⟨fun i1 hi1 hx1 => ?_, fun h1 => ?_⟩
  ·
    have hi1 : i1 < 9 := hi1
    rcases (show i1 = 0 ∨ i1 = 1 ∨ i1 = 2 ∨ i1 = 3 ∨ i1 = 4 ∨ i1 = 5 ∨ i1 = 6 ∨ i1 = 7 ∨ i1 = 8 by omega) with rfl | rfl | rfl | rfl | rfl | rfl | rfl | rfl | rfl
    ·
      refine hP _ _ _ _ _ ?_
      refine hP _ _ _ _ _ ⟨fun h53 => ?_, fun h53 => ?_⟩
      ·
        refine hP _ _ _ _ _ ?_
        refine hP _ _ _ _ _ ?_
        refine hP _ _ _ _ _ ?_
        exact ⟨rfl, by have e : w = 0 := (nI_eq (by omega) (by omega)).mp hx1; subst e; simpa [letS, letS0, h53] using hQ⟩
      ·
        refine hP _ _ _ _ _ ?_
        refine hP _ _ _ _ _ ?_
        refine hP _ _ _ _ _ ⟨fun h63 => ?_, fun h63 => ?_⟩
        ·
          refine hP _ _ _ _ _ ?_
          refine hP _ _ _ _ _ ?_
          refine hP _ _ _ _ _ ?_
          exact ⟨rfl, by have e : w = 0 := (nI_eq (by omega) (by omega)).mp hx1; subst e; simpa [letS, letS0, h53, h63] using hQ⟩
        ·
          refine hP _ _ _ _ _ ?_
          refine hP _ _ _ _ _ ?_
          refine hP _ _ _ _ _ ⟨fun h73 => ?_, fun h73 => ?_⟩
          ·
            refine hP _ _ _ _ _ ?_
            refine hP _ _ _ _ _ ?_
            refine hP _ _ _ _ _ ?_
            exact ⟨rfl, by have e : w = 0 := (nI_eq (by omega) (by omega)).mp hx1; subst e; simpa [letS, letS0, h53, h63, h73] using hQ⟩
          ·
            refine hP _ _ _ _ _ ?_
            refine hP _ _ _ _ _ ?_
            refine hP _ _ _ _ _ ⟨fun h83 => ?_, fun h83 => ?_⟩
            ·
              refine hP _ _ _ _ _ ?_
              refine hP _ _ _ _ _ ?_
              refine hP _ _ _ _ _ ?_
              exact ⟨rfl, by have e : w = 0 := (nI_eq (by omega) (by omega)).mp hx1; subst e; simpa [letS, letS0, h53, h63, h73, h83] using hQ⟩
            ·
              refine hP _ _ _ _ _ ?_
              refine hP _ _ _ _ _ ?_
              refine hP _ _ _ _ _ ⟨fun h93 => ?_, fun h93 => ?_⟩
              ·
                refine hP _ _ _ _ _ ?_
                refine hP _ _ _ _ _ ?_
                refine hP _ _ _ _ _ ?_
                exact ⟨rfl, by have e : w = 0 := (nI_eq (by omega) (by omega)).mp hx1; subst e; simpa [letS, letS0, h53, h63, h73, h83, h93] using hQ⟩
              ·
                refine hP _ _ _ _ _ ?_
                refine hP _ _ _ _ _ ?_
                refine hP _ _ _ _ _ ⟨fun h103 => ?_, fun h103 => ?_⟩
                ·
                  refine hP _ _ _ _ _ ?_
                  refine hP _ _ _ _ _ ?_
                  refine hP _ _ _ _ _ ?_
                  exact ⟨rfl, by have e : w = 0 := (nI_eq (by omega) (by omega)).mp hx1; subst e; simpa [letS, letS0, h53, h63, h73, h83, h93, h103] using hQ⟩
                ·
                  refine hP _ _ _ _ _ ?_
                  refine hP _ _ _ _ _ ?_
                  exact ⟨rfl, by have e : w = 0 := (nI_eq (by omega) (by omega)).mp hx1; subst e; simpa [letS, letS0, h53, h63, h73, h83, h93, h103] using hQ⟩
    ·
      refine hP _ _ _ _ _ ?_
      refine hP _ _ _ _ _ ⟨fun h114 => ?_, fun h114 => ?_⟩
      ·
        refine hP _ _ _ _ _ ?_
        refine hP _ _ _ _ _ ?_
        refine hP _ _ _ _ _ ?_
        exact ⟨rfl, by have e : w = 1 := (nI_eq (by omega) (by omega)).mp hx1; subst e; simpa [letS, letS1, h114] using hQ⟩
      ·
        refine hP _ _ _ _ _ ?_
        refine hP _ _ _ _ _ ?_
        refine hP _ _ _ _ _ ⟨fun h124 => ?_, fun h124 => ?_⟩
        ·
          refine hP _ _ _ _ _ ?_
          refine hP _ _ _ _ _ ?_
          refine hP _ _ _ _ _ ?_
          exact ⟨rfl, by have e : w = 1 := (nI_eq (by omega) (by omega)).mp hx1; subst e; simpa [letS, letS1, h114, h124] using hQ⟩
        ·
          refine hP _ _ _ _ _ ?_
          refine hP _ _ _ _ _ ?_
          refine hP _ _ _ _ _ ⟨fun h134 => ?_, fun h134 => ?_⟩
          ·
            refine hP _ _ _ _ _ ?_
            refine hP _ _ _ _ _ ?_
            refine hP _ _ _ _ _ ?_
            exact ⟨rfl, by have e : w = 1 := (nI_eq (by omega) (by omega)).mp hx1; subst e; simpa [letS, letS1, h114, h124, h134] using hQ⟩
          ·
            refine hP _ _ _ _ _ ?_
            refine hP _ _ _ _ _ ?_
            refine hP _ _ _ _ _ ⟨fun h144 => ?_, fun h144 => ?_⟩
            ·
              refine hP _ _ _ _ _ ?_
              refine hP _ _ _ _ _ ?_
              refine hP _ _ _ _ _ ?_
              exact ⟨rfl, by have e : w = 1 := (nI_eq (by omega) (by omega)).mp hx1; subst e; simpa [letS, letS1, h114, h124, h134, h144] using hQ⟩
            ·
              refine hP _ _ _ _ _ ?_
              refine hP _ _ _ _ _ ?_
              exact ⟨rfl, by have e : w = 1 := (nI_eq (by omega) (by omega)).mp hx1; subst e; simpa [letS, letS1, h114, h124, h134, h144] using hQ⟩
    ·
      refine hP _ _ _ _ _ ?_
      refine hP _ _ _ _ _ ⟨fun h155 => ?_, fun h155 => ?_⟩
      ·
        refine hP _ _ _ _ _ ?_
        refine hP _ _ _ _ _ ?_
        refine hP _ _ _ _ _ ?_
        exact ⟨rfl, by have e : w = 2 := (nI_eq (by omega) (by omega)).mp hx1; subst e; simpa [letS, letS2, h155] using hQ⟩
      ·
        refine hP _ _ _ _ _ ?_
        refine hP _ _ _ _ _ ?_
        refine hP _ _ _ _ _ ⟨fun h165 => ?_, fun h165 => ?_⟩
        ·
          refine hP _ _ _ _ _ ?_
          refine hP _ _ _ _ _ ?_
          refine hP _ _ _ _ _ ?_
          exact ⟨rfl, by have e : w = 2 := (nI_eq (by omega) (by omega)).mp hx1; subst e; simpa [letS, letS2, h155, h165] using hQ⟩
        ·
          refine hP _ _ _ _ _ ?_
          refine hP _ _ _ _ _ ?_
          refine hP _ _ _ _ _ ⟨fun h175 => ?_, fun h175 => ?_⟩
          ·
            refine hP _ _ _ _ _ ?_
            refine hP _ _ _ _ _ ?_
            refine hP _ _ _ _ _ ?_
            exact ⟨rfl, by have e : w = 2 := (nI_eq (by omega) (by omega)).mp hx1; subst e; simpa [letS, letS2, h155, h165, h175] using hQ⟩
          ·
            refine hP _ _ _ _ _ ?_
            refine hP _ _ _ _ _ ?_
            refine hP _ _ _ _ _ ⟨fun h185 => ?_, fun h185 => ?_⟩
            ·
              refine hP _ _ _ _ _ ?_
              refine hP _ _ _ _ _ ?_
              refine hP _ _ _ _ _ ?_
              exact ⟨rfl, by have e : w = 2 := (nI_eq (by omega) (by omega)).mp hx1; subst e; simpa [letS, letS2, h155, h165, h175, h185] using hQ⟩
            ·
              refine hP _ _ _ _ _ ?_
              refine hP _ _ _ _ _ ?_
              exact ⟨rfl, by have e : w = 2 := (nI_eq (by omega) (by omega)).mp hx1; subst e; simpa [letS, letS2, h155, h165, h175, h185] using hQ⟩
    ·
      refine hP _ _ _ _ _ ?_
      refine hP _ _ _ _ _ ⟨fun h196 => ?_, fun h196 => ?_⟩
      ·
        refine hP _ _ _ _ _ ?_
        refine hP _ _ _ _ _ ?_
        refine hP _ _ _ _ _ ?_
        exact ⟨rfl, by have e : w = 3 := (nI_eq (by omega) (by omega)).mp hx1; subst e; simpa [letS, letS3, h196] using hQ⟩
      ·
        refine hP _ _ _ _ _ ?_
        refine hP _ _ _ _ _ ?_
        refine hP _ _ _ _ _ ⟨fun h206 => ?_, fun h206 => ?_⟩
        ·
          refine hP _ _ _ _ _ ?_
          refine hP _ _ _ _ _ ?_
          refine hP _ _ _ _ _ ?_
          exact ⟨rfl, by have e : w = 3 := (nI_eq (by omega) (by omega)).mp hx1; subst e; simpa [letS, letS3, h196, h206] using hQ⟩
        ·
          refine hP _ _ _ _ _ ?_
          refine hP _ _ _ _ _ ?_
          refine hP _ _ _ _ _ ⟨fun h216 => ?_, fun h216 => ?_⟩
          ·
            refine hP _ _ _ _ _ ?_
            refine hP _ _ _ _ _ ?_
            refine hP _ _ _ _ _ ?_
            exact ⟨rfl, by have e : w = 3 := (nI_eq (by omega) (by omega)).mp hx1; subst e; simpa [letS, letS3, h196, h206, h216] using hQ⟩
          ·
            refine hP _ _ _ _ _ ?_
            refine hP _ _ _ _ _ ?_
            refine hP _ _ _ _ _ ⟨fun h226 => ?_, fun h226 => ?_⟩
            ·
              refine hP _ _ _ _ _ ?_
              refine hP _ _ _ _ _ ?_
              refine hP _ _ _ _ _ ?_
              exact ⟨rfl, by have e : w = 3 := (nI_eq (by omega) (by omega)).mp hx1; subst e; simpa [letS, letS3, h196, h206, h216, h226] using hQ⟩
            ·
              refine hP _ _ _ _ _ ?_
              refine hP _ _ _ _ _ ?_
              refine hP _ _ _ _ _ ⟨fun h236 => ?_, fun h236 => ?_⟩
              ·
                refine hP _ _ _ _ _ ?_
                refine hP _ _ _ _ _ ?_
                refine hP _ _ _ _ _ ?_
                exact ⟨rfl, by have e : w = 3 := (nI_eq (by omega) (by omega)).mp hx1; subst e; simpa [letS, letS3, h196, h206, h216, h226, h236] using hQ⟩
              ·
                refine hP _ _ _ _ _ ?_
                refine hP _ _ _ _ _ ?_
                exact ⟨rfl, by have e : w = 3 := (nI_eq (by omega) (by omega)).mp hx1; subst e; simpa [letS, letS3, h196, h206, h216, h226, h236] using hQ⟩
    ·
      refine hP _ _ _ _ _ ?_
      refine hP _ _ _ _ _ ⟨fun h247 => ?_, fun h247 => ?_⟩
      ·
        refine hP _ _ _ _ _ ?_
        refine hP _ _ _ _ _ ?_
        refine hP _ _ _ _ _ ?_
        exact ⟨rfl, by have e : w = 4 := (nI_eq (by omega) (by omega)).mp hx1; subst e; simpa [letS, letS4, h247] using hQ⟩
      ·
        refine hP _ _ _ _ _ ?_
        refine hP _ _ _ _ _ ?_
        refine hP _ _ _ _ _ ⟨fun h257 => ?_, fun h257 => ?_⟩
        ·
          refine hP _ _ _ _ _ ?_
          refine hP _ _ _ _ _ ?_
          refine hP _ _ _ _ _ ?_
          exact ⟨rfl, by have e : w = 4 := (nI_eq (by omega) (by omega)).mp hx1; subst e; simpa [letS, letS4, h247, h257] using hQ⟩
        ·
          refine hP _ _ _ _ _ ?_
          refine hP _ _ _ _ _ ?_
          exact ⟨rfl, by have e : w = 4 := (nI_eq (by omega) (by omega)).mp hx1; subst e; simpa [letS, letS4, h247, h257] using hQ⟩
    ·
      refine hP _ _ _ _ _ ?_
      refine hP _ _ _ _ _ ⟨fun h268 => ?_, fun h268 => ?_⟩
      ·
        refine hP _ _ _ _ _ ?_
        refine hP _ _ _ _ _ ?_
        refine hP _ _ _ _ _ ?_
        exact ⟨rfl, by have e : w = 5 := (nI_eq (by omega) (by omega)).mp hx1; subst e; simpa [letS, letS5, h268] using hQ⟩
      ·
        refine hP _ _ _ _ _ ?_
        refine hP _ _ _ _ _ ?_
        refine hP _ _ _ _ _ ⟨fun h278 => ?_, fun h278 => ?_⟩
        ·
          refine hP _ _ _ _ _ ?_
          refine hP _ _ _ _ _ ?_
          refine hP _ _ _ _ _ ?_
          exact ⟨rfl, by have e : w = 5 := (nI_eq (by omega) (by omega)).mp hx1; subst e; simpa [letS, letS5, h268, h278] using hQ⟩
        ·
          refine hP _ _ _ _ _ ?_
          refine hP _ _ _ _ _ ?_
          exact ⟨rfl, by have e : w = 5 := (nI_eq (by omega) (by omega)).mp hx1; subst e; simpa [letS, letS5, h268, h278] using hQ⟩
    ·
      refine hP _ _ _ _ _ ?_
      refine hP _ _ _ _ _ ⟨fun h289 => ?_, fun h289 => ?_⟩
      ·
        refine hP _ _ _ _ _ ?_
        refine hP _ _ _ _ _ ?_
        refine hP _ _ _ _ _ ?_
        exact ⟨rfl, by have e : w = 6 := (nI_eq (by omega) (by omega)).mp hx1; subst e; simpa [letS, letS6, h289] using hQ⟩
      ·
        refine hP _ _ _ _ _ ?_
        refine hP _ _ _ _ _ ?_
        refine hP _ _ _ _ _ ⟨fun h299 => ?_, fun h299 => ?_⟩
        ·
          refine hP _ _ _ _ _ ?_
          refine hP _ _ _ _ _ ?_
          refine hP _ _ _ _ _ ?_
          exact ⟨rfl, by have e : w = 6 := (nI_eq (by omega) (by omega)).mp hx1; subst e; simpa [letS, letS6, h289, h299] using hQ⟩
        ·
          refine hP _ _ _ _ _ ?_
          refine hP _ _ _ _ _ ?_
          refine hP _ _ _ _ _ ⟨fun h309 => ?_, fun h309 => ?_⟩
          ·
            refine hP _ _ _ _ _ ?_
            refine hP _ _ _ _ _ ?_
            refine hP _ _ _ _ _ ?_
            exact ⟨rfl, by have e : w = 6 := (nI_eq (by omega) (by omega)).mp hx1; subst e; simpa [letS, letS6, h289, h299, h309] using hQ⟩
          ·
            refine hP _ _ _ _ _ ?_
            refine hP _ _ _ _ _ ?_
            refine hP _ _ _ _ _ ⟨fun h319 => ?_, fun h319 => ?_⟩
            ·
              refine hP _ _ _ _ _ ?_
              refine hP _ _ _ _ _ ?_
              refine hP _ _ _ _ _ ?_
              exact ⟨rfl, by have e : w = 6 := (nI_eq (by omega) (by omega)).mp hx1; subst e; simpa [letS, letS6, h289, h299, h309, h319] using hQ⟩
            ·
              refine hP _ _ _ _ _ ?_
              refine hP _ _ _ _ _ ?_
              refine hP _ _ _ _ _ ⟨fun h329 => ?_, fun h329 => ?_⟩
              ·
                refine hP _ _ _ _ _ ?_
                refine hP _ _ _ _ _ ?_
                refine hP _ _ _ _ _ ?_
                exact ⟨rfl, by have e : w = 6 := (nI_eq (by omega) (by omega)).mp hx1; subst e; simpa [letS, letS6, h289, h299, h309, h319, h329] using hQ⟩
              ·
                refine hP _ _ _ _ _ ?_
                refine hP _ _ _ _ _ ?_
                exact ⟨rfl, by have e : w = 6 := (nI_eq (by omega) (by omega)).mp hx1; subst e; simpa [letS, letS6, h289, h299, h309, h319, h329] using hQ⟩
    ·
      refine hP _ _ _ _ _ ?_
      refine hP _ _ _ _ _ ⟨fun h340 => ?_, fun h340 => ?_⟩
      ·
        refine hP _ _ _ _ _ ?_
        refine hP _ _ _ _ _ ?_
        refine hP _ _ _ _ _ ?_
        exact ⟨rfl, by have e : w = 7 := (nI_eq (by omega) (by omega)).mp hx1; subst e; simpa [letS, letS7, h340] using hQ⟩
      ·
        refine hP _ _ _ _ _ ?_
        refine hP _ _ _ _ _ ?_
        refine hP _ _ _ _ _ ⟨fun h350 => ?_, fun h350 => ?_⟩
        ·
          refine hP _ _ _ _ _ ?_
          refine hP _ _ _ _ _ ?_
          refine hP _ _ _ _ _ ?_
          exact ⟨rfl, by have e : w = 7 := (nI_eq (by omega) (by omega)).mp hx1; subst e; simpa [letS, letS7, h340, h350] using hQ⟩
        ·
          refine hP _ _ _ _ _ ?_
          refine hP _ _ _ _ _ ?_
          refine hP _ _ _ _ _ ⟨fun h360 => ?_, fun h360 => ?_⟩
          ·
            refine hP _ _ _ _ _ ?_
            refine hP _ _ _ _ _ ?_
            refine hP _ _ _ _ _ ?_
            exact ⟨rfl, by have e : w = 7 := (nI_eq (by omega) (by omega)).mp hx1; subst e; simpa [letS, letS7, h340, h350, h360] using hQ⟩
          ·
            refine hP _ _ _ _ _ ?_
            refine hP _ _ _ _ _ ?_
            refine hP _ _ _ _ _ ⟨fun h370 => ?_, fun h370 => ?_⟩
            ·
              refine hP _ _ _ _ _ ?_
              refine hP _ _ _ _ _ ?_
              refine hP _ _ _ _ _ ?_
              exact ⟨rfl, by have e : w = 7 := (nI_eq (by omega) (by omega)).mp hx1; subst e; simpa [letS, letS7, h340, h350, h360, h370] using hQ⟩
            ·
              refine hP _ _ _ _ _ ?_
              refine hP _ _ _ _ _ ?_
              exact ⟨rfl, by have e : w = 7 := (nI_eq (by omega) (by omega)).mp hx1; subst e; simpa [letS, letS7, h340, h350, h360, h370] using hQ⟩
    ·
      refine hP _ _ _ _ _ ?_
      refine hP _ _ _ _ _ ⟨fun h381 => ?_, fun h381 => ?_⟩
      ·
        refine hP _ _ _ _ _ ?_
        refine hP _ _ _ _ _ ?_
        refine hP _ _ _ _ _ ?_
        exact ⟨rfl, by have e : w = 8 := (nI_eq (by omega) (by omega)).mp hx1; subst e; simpa [letS, letS8, h381] using hQ⟩
      ·
        refine hP _ _ _ _ _ ?_
        refine hP _ _ _ _ _ ?_
        refine hP _ _ _ _ _ ⟨fun h391 => ?_, fun h391 => ?_⟩
        ·
          refine hP _ _ _ _ _ ?_
          refine hP _ _ _ _ _ ?_
          refine hP _ _ _ _ _ ?_
          exact ⟨rfl, by have e : w = 8 := (nI_eq (by omega) (by omega)).mp hx1; subst e; simpa [letS, letS8, h381, h391] using hQ⟩
        ·
          refine hP _ _ _ _ _ ?_
          refine hP _ _ _ _ _ ?_
          refine hP _ _ _ _ _ ⟨fun h401 => ?_, fun h401 => ?_⟩
          ·
            refine hP _ _ _ _ _ ?_
            refine hP _ _ _ _ _ ?_
            refine hP _ _ _ _ _ ?_
            exact ⟨rfl, by have e : w = 8 := (nI_eq (by omega) (by omega)).mp hx1; subst e; simpa [letS, letS8, h381, h391, h401] using hQ⟩
          ·
            refine hP _ _ _ _ _ ?_
            refine hP _ _ _ _ _ ?_
            refine hP _ _ _ _ _ ⟨fun h406 => ?_, fun h406 => ?_⟩
            ·
              refine hP _ _ _ _ _ ?_
              refine hP _ _ _ _ _ ?_
              refine hP _ _ _ _ _ ?_
              exact ⟨rfl, by have e : w = 8 := (nI_eq (by omega) (by omega)).mp hx1; subst e; simpa [letS, letS8, h381, h391, h401, h406] using hQ⟩
            ·
              refine hP _ _ _ _ _ ?_
              refine hP _ _ _ _ _ ?_
              exact ⟨rfl, by have e : w = 8 := (nI_eq (by omega) (by omega)).mp hx1; subst e; simpa [letS, letS8, h381, h391, h401, h406] using hQ⟩
  ·
    refine hP _ _ _ _ _ ?_
    refine hP _ _ _ _ _ ⟨fun h417 => ?_, fun h417 => ?_⟩
    ·
      refine hP _ _ _ _ _ ?_
      refine hP _ _ _ _ _ ?_
      refine hP _ _ _ _ _ ?_
      exact ⟨rfl, by have e : w = 9 := by { rcases Nat.lt_or_ge w 9 with z | z; exact absurd rfl (out_ne (c := 9) (by omega) h1 z); omega }; subst e; simpa [letS, letS9, h417] using hQ⟩
    ·
      refine hP _ _ _ _ _ ?_
      refine hP _ _ _ _ _ ?_
      refine hP _ _ _ _ _ ⟨fun h427 => ?_, fun h427 => ?_⟩
      ·
        refine hP _ _ _ _ _ ?_
        refine hP _ _ _ _ _ ?_
        refine hP _ _ _ _ _ ?_
        exact ⟨rfl, by have e : w = 9 := by { rcases Nat.lt_or_ge w 9 with z | z; exact absurd rfl (out_ne (c := 9) (by omega) h1 z); omega }; subst e; simpa [letS, letS9, h417, h427] using hQ⟩
      ·
        refine hP _ _ _ _ _ ?_
        refine hP _ _ _ _ _ ?_
        refine hP _ _ _ _ _ ⟨fun h437 => ?_, fun h437 => ?_⟩
        ·
          refine hP _ _ _ _ _ ?_
          refine hP _ _ _ _ _ ?_
          refine hP _ _ _ _ _ ?_
          exact ⟨rfl, by have e : w = 9 := by { rcases Nat.lt_or_ge w 9 with z | z; exact absurd rfl (out_ne (c := 9) (by omega) h1 z); omega }; subst e; simpa [letS, letS9, h417, h427, h437] using hQ⟩
        ·
          refine hP _ _ _ _ _ ?_
          refine hP _ _ _ _ _ ?_
          exact ⟨rfl, by have e : w = 9 := by { rcases Nat.lt_or_ge w 9 with z | z; exact absurd rfl (out_ne (c := 9) (by omega) h1 z); omega }; subst e; simpa [letS, letS9, h417, h427, h437] using hQ⟩
