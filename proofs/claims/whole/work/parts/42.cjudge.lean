/-! ===== the class: open powers, an act's judgement, the log ===== -/
def smC (r : Nat → Int32) (th : Int32) : Bool := !decide (r 12 = -1) && (decide (r 13 = -1) && !bt (r 14) (ix th))
def k_X5_seemsNotEnded : zCt := fun as n mem Q => ∃ (x q : Nat), as = [.ref x, .int (nI q)] ∧ q < 8 ∧ zst n mem ∧ zis n x (.inl 5) ∧ Q (some (.int (zb (smC (mem.1 x) (nI q))))) n mem
theorem ok_X5_seemsNotEnded {l : Launch} {G : zG} : zOK l G yX5_seemsNotEnded cX5_seemsNotEnded 2 (some .boolean) 1 0 0 k_X5_seemsNotEnded := by
  intro as n mem Q hK
  obtain ⟨x, q, rfl, hq, ⟨hn, hF⟩, hx, hQ⟩ := hK
  refine mtX5_seemsNotEnded ok_X10_has (by decide) (List.forall_mem_cons.mpr ⟨rfl, List.forall_mem_cons.mpr ⟨rfl, fun _ h => absurd h List.not_mem_nil⟩⟩) (by simp) rfl (fun P hP => ?_)
  show P 0 [.ref x, .int (nI q)] [] n mem
  have hxq := ix_nI (j := q) (by omega)
  refine hP _ _ _ _ _ ?_
  refine hP _ _ _ _ _ ⟨hx, ?_⟩
  refine hP _ _ _ _ _ ?_
  refine hP _ _ _ _ _ ⟨fun h5 => ?_, fun h5 => ?_⟩
  ·
    refine hP _ _ _ _ _ ?_
    refine hP _ _ _ _ _ ?_
    exact ⟨by decide, rfl, by simpa [zb, smC, hxq, h5] using hQ⟩
  ·
    refine hP _ _ _ _ _ ?_
    refine hP _ _ _ _ _ ⟨hx, ?_⟩
    refine hP _ _ _ _ _ ?_
    refine hP _ _ _ _ _ ⟨fun h13 => ?_, fun h13 => ?_⟩
    ·
      refine hP _ _ _ _ _ ?_
      refine hP _ _ _ _ _ ⟨hx, ?_⟩
      refine hP _ _ _ _ _ ?_
      refine hP _ _ _ _ _ ⟨Nat.le_of_ble_eq_true rfl, Nat.le_of_ble_eq_true rfl, ?_⟩
      refine ⟨_, q, rfl, by omega, ?_⟩
      refine hP _ _ _ _ _ ⟨fun h24 => ?_, fun h24 => ?_⟩
      ·
        have h24 := zb_0.mp h24
        refine hP _ _ _ _ _ ?_
        refine hP _ _ _ _ _ ?_
        refine hP _ _ _ _ _ ?_
        exact ⟨by decide, rfl, by simpa [zb, smC, hxq, h5, h13, h24] using hQ⟩
      ·
        have h24 := zb_n.mp h24
        refine hP _ _ _ _ _ ?_
        refine hP _ _ _ _ _ ?_
        exact ⟨by decide, rfl, by simpa [zb, smC, hxq, h5, h13, h24] using hQ⟩
    ·
      refine hP _ _ _ _ _ ?_
      refine hP _ _ _ _ _ ?_
      exact ⟨by decide, rfl, by simpa [zb, smC, hxq, h5, h13] using hQ⟩
def pmC (r : Nat → Int32) (c : Nat) (am : Int32) : Bool := bt (r 9) c && !decide (r 10 < am)
def k_X5_permits : zCt := fun as n mem Q => ∃ (x c : Nat) (am : Int32), as = [.ref x, .int (nI c), .int am] ∧ c < 32 ∧ zst n mem ∧ zis n x (.inl 5) ∧ Q (some (.int (zb (pmC (mem.1 x) c am)))) n mem
theorem ok_X5_permits {l : Launch} {G : zG} : zOK l G yX5_permits cX5_permits 3 (some .boolean) 1 0 0 k_X5_permits := by
  intro as n mem Q hK
  obtain ⟨x, c, am, rfl, hc, ⟨hn, hF⟩, hx, hQ⟩ := hK
  refine mtX5_permits ok_X10_has (by decide) (List.forall_mem_cons.mpr ⟨rfl, List.forall_mem_cons.mpr ⟨rfl, List.forall_mem_cons.mpr ⟨rfl, fun _ h => absurd h List.not_mem_nil⟩⟩⟩) (by simp) rfl (fun P hP => ?_)
  show P 0 [.ref x, .int (nI c), .int am] [] n mem
  refine hP _ _ _ _ _ ?_
  refine hP _ _ _ _ _ ⟨hx, ?_⟩
  refine hP _ _ _ _ _ ?_
  refine hP _ _ _ _ _ ⟨Nat.le_of_ble_eq_true rfl, Nat.le_of_ble_eq_true rfl, ?_⟩
  refine ⟨_, c, rfl, by omega, ?_⟩
  refine hP _ _ _ _ _ ⟨fun h8 => ?_, fun h8 => ?_⟩
  ·
    have h8 := zb_0.mp h8
    refine hP _ _ _ _ _ ?_
    refine hP _ _ _ _ _ ?_
    exact ⟨by decide, rfl, by simpa [zb, pmC, h8] using hQ⟩
  ·
    have h8 := zb_n.mp h8
    refine hP _ _ _ _ _ ?_
    refine hP _ _ _ _ _ ?_
    refine hP _ _ _ _ _ ⟨hx, ?_⟩
    refine hP _ _ _ _ _ ⟨fun h16 => ?_, fun h16 => ?_⟩
    ·
      refine hP _ _ _ _ _ ?_
      refine hP _ _ _ _ _ ?_
      exact ⟨by decide, rfl, by simpa [zb, pmC, h8, h16] using hQ⟩
    ·
      refine hP _ _ _ _ _ ?_
      refine hP _ _ _ _ _ ?_
      refine hP _ _ _ _ _ ?_
      exact ⟨by decide, rfl, by simpa [zb, pmC, h8, h16] using hQ⟩
def enC (r : Nat → Int32) (th : Int32) : Bool := !decide (r 11 = -1) && (decide (th = -1) || !smC r th)
def opS (g : Nat → Nat → Int32) (c : Nat) (am th d dd : Int32) (o : Int32) (i : Nat) : Bool := (decide (g i 7 = -1) || bt o (ix (g i 7))) && (pmC (g i) c am && decide (rsC (g i) (enC (g i) th) d dd = 0))
def opF (g : Nat → Nat → Int32) (c : Nat) (am th d dd : Int32) : Nat → Int32
  | 0 => 0
  | i + 1 => if opS g c am th d dd (opF g c am th d dd i) i = true then opF g c am th d dd i ||| (1 <<< (nI i &&& 31)) else opF g c am th d dd i
def zUc (mem : zM) (t pw : Nat) : Prop := ∀ p, p < pw → (mem.1 (t + 2 + p) 7 = -1 ∨ ∃ u, u < 20 ∧ mem.1 (t + 2 + p) 7 = nI u)
def opN (mem : zM) (t pw c : Nat) (am th : Int32) : Int32 := opF (gC mem t) c am th (mem.1 108 6) (deadM (mem.1 113) (mem.1 108 5) 8) pw
def k_X10_openPowers : zCt := fun as n mem Q => ∃ (t np pw c : Nat) (am th : Int32), as = [.ref 100, .int (nI c), .int am, .int th] ∧ c < 32 ∧ zst n mem ∧ mem.2.2 100 8 = t ∧ zTl mem t np pw ∧ zUc mem t pw ∧ (th = -1 ∨ ∃ q, q < 8 ∧ th = nI q) ∧ Q (some (.int (opN mem t pw c am th))) n mem
theorem ok_X10_openPowers {l : Launch} {G : zG} : zOK l G yX10_openPowers cX10_openPowers 10 (some .int) 2 0 0 k_X10_openPowers := by
  intro as n mem Q hK
  obtain ⟨t, np, pw, c, am, th, rfl, hc, ⟨hn, hF⟩, ht, ⟨hT, hnp, hnp8, hpw, hw, hPs⟩, hU, hth, hQ⟩ := hK
  refine mtX10_openPowers ok_X4_deadBy (by decide) ok_X5_seemsNotEnded (by decide) ok_X10_has (by decide) ok_X5_permits (by decide) ok_X10_reason (by decide) (List.forall_mem_cons.mpr ⟨rfl, List.forall_mem_cons.mpr ⟨rfl, List.forall_mem_cons.mpr ⟨rfl, List.forall_mem_cons.mpr ⟨rfl, fun _ h => absurd h List.not_mem_nil⟩⟩⟩⟩) (by simp) rfl (fun P hP => ?_)
  show P 0 [.ref 100, .int (nI c), .int am, .int th, .null, .null, .null, .null, .null, .null] [] n mem
  unfold opN at hQ
  generalize hdd : deadM (mem.1 113) (mem.1 108 5) 8 = dd at hQ
  have loop : ∀ i, i ≤ pw → ∀ v7 v8 v9, P 22 [.ref 100, .int (nI c), .int am, .int th, .int dd, .int (opF (gC mem t) c am th (mem.1 108 6) dd i), .int (nI i), v7, v8, v9] [] n mem := by
    refine zloop ?_ ?_
    · intro v7 v8 v9
      refine hP _ _ _ _ _ ?_
      refine hP _ _ _ _ _ ?_
      refine hP _ _ _ _ _ ⟨(zi hn rfl rfl rfl), _, ht, (by omega), ?_⟩
      refine hP _ _ _ _ _ ⟨(ztT hn hT), ?_⟩
      refine hP _ _ _ _ _ ⟨fun _ => ?_, fun hz => absurd ( by rw [hpw]; exact nI_le (Nat.le_refl _) (by omega)) hz⟩
      refine hP _ _ _ _ _ ?_
      refine hP _ _ _ _ _ ?_
      exact ⟨rfl, hQ⟩
    · intro i hi ih v7 v8 v9
      have hP1 := hPs i hi
      have hUi := hU i hi
      have hx := ztP (p := i) hn hT (by omega)
      rw [nI_succ i, opF] at ih
      have key : ∀ v8 : Bool, v8 = enC (mem.1 (t + 2 + i)) th → ∀ v9, P 76 [.ref 100, .int (nI c), .int am, .int th, .int dd, .int (opF (gC mem t) c am th (mem.1 108 6) dd i), .int (nI i), .ref (t + 2 + i), .int (zb v8), v9] [] n mem := by
        intro v8 hv8 v9
        subst hv8
        have key2 : ∀ v9 : Bool, v9 = (decide (mem.1 (t + 2 + i) 7 = -1) || bt (opF (gC mem t) c am th (mem.1 108 6) dd i) (ix (mem.1 (t + 2 + i) 7))) → P 105 [.ref 100, .int (nI c), .int am, .int th, .int dd, .int (opF (gC mem t) c am th (mem.1 108 6) dd i), .int (nI i), .ref (t + 2 + i), .int (zb (enC (mem.1 (t + 2 + i)) th)), .int (zb v9)] [] n mem := by
          intro v9 hv9
          have es : opS (gC mem t) c am th (mem.1 108 6) dd (opF (gC mem t) c am th (mem.1 108 6) dd i) i = (v9 && (pmC (mem.1 (t + 2 + i)) c am && decide (rsC (mem.1 (t + 2 + i)) (enC (mem.1 (t + 2 + i)) th) (mem.1 108 6) dd = 0))) := by rw [hv9]; rfl
          rw [es] at ih
          refine hP _ _ _ _ _ ?_
          refine hP _ _ _ _ _ ⟨fun h107 => ?_, fun h107 => ?_⟩
          ·
            have h107 := zb_0.mp h107
            refine hP _ _ _ _ _ ?_
            refine hP _ _ _ _ _ ?_
            first | (rw [h107, h117, decide_eq_true h136] at ih; exact ih _ _ _) | (rw [h107, h117, decide_eq_false h136] at ih; exact ih _ _ _) | (rw [h107, h117] at ih; exact ih _ _ _) | (rw [h107] at ih; exact ih _ _ _)
          ·
            have h107 := zb_n.mp h107
            refine hP _ _ _ _ _ ?_
            refine hP _ _ _ _ _ ?_
            refine hP _ _ _ _ _ ?_
            refine hP _ _ _ _ _ ⟨hx, Nat.le_of_ble_eq_true rfl, Nat.le_of_ble_eq_true rfl, ?_⟩
            refine ⟨_, c, _, rfl, hc, ⟨hn, hF⟩, hx, ?_⟩
            refine hP _ _ _ _ _ ⟨fun h117 => ?_, fun h117 => ?_⟩
            ·
              have h117 := zb_0.mp h117
              refine hP _ _ _ _ _ ?_
              refine hP _ _ _ _ _ ?_
              first | (rw [h107, h117, decide_eq_true h136] at ih; exact ih _ _ _) | (rw [h107, h117, decide_eq_false h136] at ih; exact ih _ _ _) | (rw [h107, h117] at ih; exact ih _ _ _) | (rw [h107] at ih; exact ih _ _ _)
            ·
              have h117 := zb_n.mp h117
              refine hP _ _ _ _ _ ?_
              refine hP _ _ _ _ _ ?_
              refine hP _ _ _ _ _ ?_
              refine hP _ _ _ _ _ ⟨(zi hn rfl rfl rfl), _, fx_Book_log hF, (by decide), ?_⟩
              refine hP _ _ _ _ _ ⟨(zi hn rfl rfl rfl), ?_⟩
              refine hP _ _ _ _ _ ?_
              refine hP _ _ _ _ _ ⟨Nat.le_of_ble_eq_true rfl, Nat.le_of_ble_eq_true rfl, ?_⟩
              refine ⟨_, _, _, _, rfl, ⟨hn, hF⟩, hx, hP1, ?_⟩
              refine hP _ _ _ _ _ ⟨fun h136 => ?_, fun h136 => ?_⟩
              ·
                refine hP _ _ _ _ _ ?_
                refine hP _ _ _ _ _ ?_
                refine hP _ _ _ _ _ ?_
                refine hP _ _ _ _ _ ?_
                refine hP _ _ _ _ _ ?_
                refine hP _ _ _ _ _ ?_
                refine hP _ _ _ _ _ ?_
                refine hP _ _ _ _ _ ?_
                first | (rw [h107, h117, decide_eq_true h136] at ih; exact ih _ _ _) | (rw [h107, h117, decide_eq_false h136] at ih; exact ih _ _ _) | (rw [h107, h117] at ih; exact ih _ _ _) | (rw [h107] at ih; exact ih _ _ _)
              ·
                refine hP _ _ _ _ _ ?_
                refine hP _ _ _ _ _ ?_
                first | (rw [h107, h117, decide_eq_true h136] at ih; exact ih _ _ _) | (rw [h107, h117, decide_eq_false h136] at ih; exact ih _ _ _) | (rw [h107, h117] at ih; exact ih _ _ _) | (rw [h107] at ih; exact ih _ _ _)
        refine hP _ _ _ _ _ ?_
        refine hP _ _ _ _ _ ⟨hx, ?_⟩
        refine hP _ _ _ _ _ ?_
        refine hP _ _ _ _ _ ⟨fun h82 => ?_, fun h82 => ?_⟩
        ·
          refine hP _ _ _ _ _ ?_
          refine hP _ _ _ _ _ ?_
          refine hP _ _ _ _ _ ?_
          first | exact key2 true (by rw [decide_eq_true h82]; rfl) | exact key2 true (by rw [hu, hxu, h95, Bool.or_true]) | exact key2 false (by rw [decide_eq_false h82, hu, hxu, h95]; rfl)
        ·
          obtain ⟨u, hu20, hu⟩ := hUi.resolve_left h82
          have hxu := ix_nI (j := u) (by omega)
          refine hP _ _ _ _ _ ?_
          refine hP _ _ _ _ _ ?_
          refine hP _ _ _ _ _ ⟨hx, ?_⟩
          refine hP _ _ _ _ _ ⟨Nat.le_of_ble_eq_true rfl, Nat.le_of_ble_eq_true rfl, ?_⟩
          refine ⟨_, u, by rw [← hu]; rfl, by omega, ?_⟩
          refine hP _ _ _ _ _ ⟨fun h95 => ?_, fun h95 => ?_⟩
          ·
            have h95 := zb_0.mp h95
            refine hP _ _ _ _ _ ?_
            refine hP _ _ _ _ _ ?_
            first | exact key2 true (by rw [decide_eq_true h82]; rfl) | exact key2 true (by rw [hu, hxu, h95, Bool.or_true]) | exact key2 false (by rw [decide_eq_false h82, hu, hxu, h95]; rfl)
          ·
            have h95 := zb_n.mp h95
            refine hP _ _ _ _ _ ?_
            refine hP _ _ _ _ _ ?_
            refine hP _ _ _ _ _ ?_
            first | exact key2 true (by rw [decide_eq_true h82]; rfl) | exact key2 true (by rw [hu, hxu, h95, Bool.or_true]) | exact key2 false (by rw [decide_eq_false h82, hu, hxu, h95]; rfl)
      refine hP _ _ _ _ _ ?_
      refine hP _ _ _ _ _ ?_
      refine hP _ _ _ _ _ ⟨(zi hn rfl rfl rfl), _, ht, (by omega), ?_⟩
      refine hP _ _ _ _ _ ⟨(ztT hn hT), ?_⟩
      refine hP _ _ _ _ _ ⟨fun hz => absurd hz ( by rw [hpw]; exact nI_ge hi (by omega)), fun _ => ?_⟩
      refine hP _ _ _ _ _ ?_
      refine hP _ _ _ _ _ ⟨(zi hn rfl rfl rfl), _, ht, (by omega), ?_⟩
      refine hP _ _ _ _ _ ⟨(ztT hn hT), _, (fx_tp hF hT), (by omega), ?_⟩
      refine hP _ _ _ _ _ ?_
      refine hP _ _ _ _ _ ⟨_, i, (ztA hn hT), rfl, by omega, _, (fx_pw hF hT (by omega)), (by omega), ?_⟩
      refine hP _ _ _ _ _ ?_
      refine hP _ _ _ _ _ ?_
      refine hP _ _ _ _ _ ⟨hx, ?_⟩
      refine hP _ _ _ _ _ ?_
      refine hP _ _ _ _ _ ⟨fun h52 => ?_, fun h52 => ?_⟩
      ·
        refine hP _ _ _ _ _ ?_
        refine hP _ _ _ _ _ ?_
        first | exact key false (by unfold enC; rw [decide_eq_true h52]; rfl) _ | exact key true (by unfold enC; rw [decide_eq_false h52, decide_eq_true h57]; rfl) _ | exact key false (by unfold enC; rw [decide_eq_false h57, h66, Bool.not_true, Bool.or_false, Bool.and_false]) _ | exact key true (by unfold enC; rw [decide_eq_false h52, h66, Bool.not_false, Bool.or_true]; rfl) _
      ·
        refine hP _ _ _ _ _ ?_
        refine hP _ _ _ _ _ ?_
        refine hP _ _ _ _ _ ⟨fun h57 => ?_, fun h57 => ?_⟩
        ·
          refine hP _ _ _ _ _ ?_
          refine hP _ _ _ _ _ ?_
          refine hP _ _ _ _ _ ?_
          first | exact key false (by unfold enC; rw [decide_eq_true h52]; rfl) _ | exact key true (by unfold enC; rw [decide_eq_false h52, decide_eq_true h57]; rfl) _ | exact key false (by unfold enC; rw [decide_eq_false h57, h66, Bool.not_true, Bool.or_false, Bool.and_false]) _ | exact key true (by unfold enC; rw [decide_eq_false h52, h66, Bool.not_false, Bool.or_true]; rfl) _
        ·
          obtain ⟨q, hq8, rfl⟩ := hth.resolve_left h57
          refine hP _ _ _ _ _ ?_
          refine hP _ _ _ _ _ ?_
          refine hP _ _ _ _ _ ⟨hx, Nat.le_of_ble_eq_true rfl, Nat.le_of_ble_eq_true rfl, ?_⟩
          refine ⟨_, q, rfl, hq8, ⟨hn, hF⟩, hx, ?_⟩
          refine hP _ _ _ _ _ ⟨fun h66 => ?_, fun h66 => ?_⟩
          ·
            have h66 := zb_0.mp h66
            refine hP _ _ _ _ _ ?_
            refine hP _ _ _ _ _ ?_
            refine hP _ _ _ _ _ ?_
            first | exact key false (by unfold enC; rw [decide_eq_true h52]; rfl) _ | exact key true (by unfold enC; rw [decide_eq_false h52, decide_eq_true h57]; rfl) _ | exact key false (by unfold enC; rw [decide_eq_false h57, h66, Bool.not_true, Bool.or_false, Bool.and_false]) _ | exact key true (by unfold enC; rw [decide_eq_false h52, h66, Bool.not_false, Bool.or_true]; rfl) _
          ·
            have h66 := zb_n.mp h66
            refine hP _ _ _ _ _ ?_
            refine hP _ _ _ _ _ ?_
            first | exact key false (by unfold enC; rw [decide_eq_true h52]; rfl) _ | exact key true (by unfold enC; rw [decide_eq_false h52, decide_eq_true h57]; rfl) _ | exact key false (by unfold enC; rw [decide_eq_false h57, h66, Bool.not_true, Bool.or_false, Bool.and_false]) _ | exact key true (by unfold enC; rw [decide_eq_false h52, h66, Bool.not_false, Bool.or_true]; rfl) _
  refine hP _ _ _ _ _ ?_
  refine hP _ _ _ _ _ ⟨(zi hn rfl rfl rfl), _, fx_Book_log hF, (by decide), ?_⟩
  refine hP _ _ _ _ _ ?_
  refine hP _ _ _ _ _ ⟨(zi hn rfl rfl rfl), _, fx_Book_log hF, (by decide), ?_⟩
  refine hP _ _ _ _ _ ⟨(zi hn rfl rfl rfl), ?_⟩
  refine hP _ _ _ _ _ ⟨(zi hn rfl rfl rfl), Nat.le_of_ble_eq_true rfl, Nat.le_of_ble_eq_true rfl, ?_⟩
  refine ⟨_, rfl, ⟨hn, hF⟩, ?_⟩
  rw [hdd]
  refine hP _ _ _ _ _ ?_
  refine hP _ _ _ _ _ ?_
  refine hP _ _ _ _ _ ?_
  refine hP _ _ _ _ _ ?_
  refine hP _ _ _ _ _ ?_
  exact loop 0 (by omega) _ _ _
/-- by which power they can now, and what is used -/
def fsN (mem : zM) (t np pw : Nat) (op ps pt : Int32) : Int32 := fsC (gC mem t) pt (ubX mem t np pw op (deadM (mem.1 113) (mem.1 108 5) 8 ^^^ (-1)) ps) pw
def usN (mem : zM) (t np pw : Nat) (op ps pt : Int32) : Int32 := usC (gC mem t) pt (ubX mem t np pw op (deadM (mem.1 113) (mem.1 108 5) 8 ^^^ (-1)) ps) pw
def k_X10_weighNow : zCt := fun as n mem Q => ∃ (t np pw : Nat) (op ps pt : Int32), as = [.ref 100, .int op, .int ps, .int pt] ∧ zst n mem ∧ mem.2.2 100 8 = t ∧ zTl mem t np pw ∧ (∀ M, zfr sJ mem M → M.1 114 6 = fsN mem t np pw op ps pt → M.1 114 7 = usN mem t np pw op ps pt → Q none n M)
theorem ok_X10_weighNow {l : Launch} {G : zG} : zOK l G yX10_weighNow cX10_weighNow 4 none 4 0 0 k_X10_weighNow := by
  intro as n mem Q hK
  obtain ⟨t, np, pw, op, ps, pt, rfl, ⟨hn, hF⟩, ht, hTl, hQ⟩ := hK
  refine mtX10_weighNow ok_X4_deadBy (by decide) ok_X1_weigh (by decide) (List.forall_mem_cons.mpr ⟨rfl, List.forall_mem_cons.mpr ⟨rfl, List.forall_mem_cons.mpr ⟨rfl, List.forall_mem_cons.mpr ⟨rfl, fun _ h => absurd h List.not_mem_nil⟩⟩⟩⟩) (by simp) rfl (fun P hP => ?_)
  show P 0 [.ref 100, .int op, .int ps, .int pt] [] n mem
  have hT := hTl.1
  refine hP _ _ _ _ _ ?_
  refine hP _ _ _ _ _ ⟨(zi hn rfl rfl rfl), _, fx_Book_judge hF, (by decide), ?_⟩
  refine hP _ _ _ _ _ ?_
  refine hP _ _ _ _ _ ⟨(zi hn rfl rfl rfl), _, ht, (by omega), ?_⟩
  refine hP _ _ _ _ _ ?_
  refine hP _ _ _ _ _ ?_
  refine hP _ _ _ _ _ ⟨(zi hn rfl rfl rfl), _, fx_Book_log hF, (by decide), ?_⟩
  refine hP _ _ _ _ _ ?_
  refine hP _ _ _ _ _ ⟨(zi hn rfl rfl rfl), _, fx_Book_log hF, (by decide), ?_⟩
  refine hP _ _ _ _ _ ⟨(zi hn rfl rfl rfl), ?_⟩
  refine hP _ _ _ _ _ ⟨(zi hn rfl rfl rfl), Nat.le_of_ble_eq_true rfl, Nat.le_of_ble_eq_true rfl, ?_⟩
  refine ⟨_, rfl, ⟨hn, hF⟩, ?_⟩
  refine hP _ _ _ _ _ ?_
  refine hP _ _ _ _ _ ?_
  refine hP _ _ _ _ _ ⟨(zi hn rfl rfl rfl), Nat.le_of_ble_eq_true rfl, Nat.le_of_ble_eq_true rfl, ?_⟩
  refine ⟨t, np, pw, _, _, _, _, rfl, ⟨hn, hF⟩, hTl, fun M fM h6 h7 => ?_⟩
  refine hP _ _ _ _ _ ?_
  exact ⟨rfl, hQ M fM h6 h7⟩
theorem tl_fr {mem M : zM} {t np pw : Nat} (h : zfr sJ mem M) (hTl : zTl mem t np pw) : zTl M t np pw := by
  obtain ⟨hT, hnp, hnp8, hpw, hw, hPs⟩ := hTl
  have row : ∀ a, a ≠ 114 → a ≠ 115 → a ≠ 116 → M.1 a = mem.1 a := fun a h0 h1 h2 => by funext b; exact h.1 a b (by unfold sJ; omega)
  refine ⟨hT, ?_, hnp8, ?_, hw, fun p hp => ?_⟩
  · rw [row t (by omega) (by omega) (by omega)]; exact hnp
  · rw [row t (by omega) (by omega) (by omega)]; exact hpw
  · rw [row (t + 2 + p) (by omega) (by omega) (by omega)]; exact hPs p hp
def k_X0_howKnownAt : zCt := fun as n mem Q => ∃ (x : Nat) (m : Int32), as = [.ref x, .int m] ∧ zst n mem ∧ zis n x (.inl 0) ∧ Q (some (.int (if mem.1 x 9 = 0 then (if isby (mem.1 x 7) m = true then 3 else 0) else mem.1 x 9))) n mem
theorem ok_X0_howKnownAt {l : Launch} {G : zG} : zOK l G yX0_howKnownAt cX0_howKnownAt 2 (some .int) 0 0 0 k_X0_howKnownAt := by
  intro as n mem Q hK
  obtain ⟨x, m, rfl, ⟨hn, hF⟩, hx, hQ⟩ := hK
  refine mtX0_howKnownAt (List.forall_mem_cons.mpr ⟨rfl, List.forall_mem_cons.mpr ⟨rfl, fun _ h => absurd h List.not_mem_nil⟩⟩) (by simp) rfl (fun P hP => ?_)
  show P 0 [.ref x, .int m] [] n mem
  refine hP _ _ _ _ _ ?_
  refine hP _ _ _ _ _ ⟨hx, ?_⟩
  refine hP _ _ _ _ _ ⟨fun h4 => ?_, fun h4 => ?_⟩
  ·
    refine hP _ _ _ _ _ ?_
    refine hP _ _ _ _ _ ⟨hx, ?_⟩
    refine hP _ _ _ _ _ ?_
    refine hP _ _ _ _ _ ⟨fun h17 => ?_, fun h17 => ?_⟩
    ·
      refine hP _ _ _ _ _ ?_
      refine hP _ _ _ _ _ ?_
      exact ⟨rfl, by simpa [isby, h4, h17] using hQ⟩
    ·
      refine hP _ _ _ _ _ ?_
      refine hP _ _ _ _ _ ⟨hx, ?_⟩
      refine hP _ _ _ _ _ ?_
      refine hP _ _ _ _ _ ⟨fun h25 => ?_, fun h25 => ?_⟩
      ·
        refine hP _ _ _ _ _ ?_
        refine hP _ _ _ _ _ ?_
        exact ⟨rfl, by simpa [isby, h4, h17, h25] using hQ⟩
      ·
        refine hP _ _ _ _ _ ?_
        refine hP _ _ _ _ _ ?_
        refine hP _ _ _ _ _ ?_
        exact ⟨rfl, by simpa [isby, h4, h17, h25] using hQ⟩
  ·
    refine hP _ _ _ _ _ ?_
    refine hP _ _ _ _ _ ⟨hx, ?_⟩
    refine hP _ _ _ _ _ ?_
    exact ⟨rfl, by simpa [isby, h4] using hQ⟩
def waF (g : Nat → Nat → Int32) (p : Nat) : Nat → Int32
  | 0 => 0
  | i + 1 => if bt (g i 8) p = true then waF g p i ||| (1 <<< (nI i &&& 31)) else waF g p i
def k_X9_withAllUnder : zCt := fun as n mem Q => ∃ (t np pw p : Nat), as = [.ref t, .int (nI p)] ∧ p < 32 ∧ zst n mem ∧ zTl mem t np pw ∧ Q (some (.int (waF (gC mem t) p pw))) n mem
theorem ok_X9_withAllUnder {l : Launch} {G : zG} : zOK l G yX9_withAllUnder cX9_withAllUnder 4 (some .int) 1 0 0 k_X9_withAllUnder := by
  intro as n mem Q hK
  obtain ⟨t, np, pw, p, rfl, hp, ⟨hn, hF⟩, ⟨hT, hnp, hnp8, hpw, hw, hPs⟩, hQ⟩ := hK
  refine mtX9_withAllUnder ok_X10_has (by decide) (List.forall_mem_cons.mpr ⟨rfl, List.forall_mem_cons.mpr ⟨rfl, fun _ h => absurd h List.not_mem_nil⟩⟩) (by simp) rfl (fun P hP => ?_)
  show P 0 [.ref t, .int (nI p), .null, .null] [] n mem
  have loop : ∀ i, i ≤ pw → P 4 [.ref t, .int (nI p), .int (waF (gC mem t) p i), .int (nI i)] [] n mem := by
    refine zloop ?_ ?_
    ·
      refine hP _ _ _ _ _ ?_
      refine hP _ _ _ _ _ ?_
      refine hP _ _ _ _ _ ⟨(ztT hn hT), ?_⟩
      refine hP _ _ _ _ _ ⟨fun _ => ?_, fun hz => absurd ( by rw [hpw]; exact nI_le (Nat.le_refl _) (by omega)) hz⟩
      refine hP _ _ _ _ _ ?_
      refine hP _ _ _ _ _ ?_
      exact ⟨rfl, hQ⟩
    · intro i hi ih
      rw [nI_succ i, waF] at ih
      refine hP _ _ _ _ _ ?_
      refine hP _ _ _ _ _ ?_
      refine hP _ _ _ _ _ ⟨(ztT hn hT), ?_⟩
      refine hP _ _ _ _ _ ⟨fun hz => absurd hz ( by rw [hpw]; exact nI_ge hi (by omega)), fun _ => ?_⟩
      refine hP _ _ _ _ _ ?_
      refine hP _ _ _ _ _ ?_
      refine hP _ _ _ _ _ ⟨(ztT hn hT), _, (fx_tp hF hT), (by omega), ?_⟩
      refine hP _ _ _ _ _ ?_
      refine hP _ _ _ _ _ ⟨_, i, (ztA hn hT), rfl, by omega, _, (fx_pw hF hT (by omega)), (by omega), ?_⟩
      refine hP _ _ _ _ _ ⟨(ztP hn hT (by omega)), ?_⟩
      refine hP _ _ _ _ _ ?_
      refine hP _ _ _ _ _ ⟨Nat.le_of_ble_eq_true rfl, Nat.le_of_ble_eq_true rfl, ?_⟩
      refine ⟨_, p, rfl, hp, ?_⟩
      refine hP _ _ _ _ _ ⟨fun h26 => ?_, fun h26 => ?_⟩
      ·
        have h26 := zb_0.mp h26
        refine hP _ _ _ _ _ ?_
        refine hP _ _ _ _ _ ?_
        refine hP _ _ _ _ _ ?_
        refine hP _ _ _ _ _ ?_
        refine hP _ _ _ _ _ ?_
        first | (have h26 : bt (gC mem t i 8) p = true := h26; rw [h26] at ih; exact ih) | (have h26 : bt (gC mem t i 8) p = false := h26; rw [h26] at ih; show P 4 [_, _, .int (_ ||| 0), _] [] n mem; rw [or_0]; exact ih)
      ·
        have h26 := zb_n.mp h26
        refine hP _ _ _ _ _ ?_
        refine hP _ _ _ _ _ ?_
        refine hP _ _ _ _ _ ?_
        refine hP _ _ _ _ _ ?_
        refine hP _ _ _ _ _ ?_
        refine hP _ _ _ _ _ ?_
        refine hP _ _ _ _ _ ?_
        refine hP _ _ _ _ _ ?_
        first | (have h26 : bt (gC mem t i 8) p = true := h26; rw [h26] at ih; exact ih) | (have h26 : bt (gC mem t i 8) p = false := h26; rw [h26] at ih; show P 4 [_, _, .int (_ ||| 0), _] [] n mem; rw [or_0]; exact ih)
  refine hP _ _ _ _ _ ?_
  refine hP _ _ _ _ _ ?_
  refine hP _ _ _ _ _ ?_
  refine hP _ _ _ _ _ ?_
  exact loop 0 (by omega)
def cfull (mem : zM) : Bool := decide (¬ mem.1 108 5 < 300)
def k_X4_isFull : zCt := fun as n mem Q => as = [.ref 108] ∧ zst n mem ∧ Q (some (.int (zb (cfull mem)))) n mem
theorem ok_X4_isFull {l : Launch} {G : zG} : zOK l G yX4_isFull cX4_isFull 1 (some .boolean) 0 0 0 k_X4_isFull := by
  intro as n mem Q hK
  obtain ⟨rfl, ⟨hn, hF⟩, hQ⟩ := hK
  refine mtX4_isFull (List.forall_mem_cons.mpr ⟨rfl, fun _ h => absurd h List.not_mem_nil⟩) (by simp) rfl (fun P hP => ?_)
  show P 0 [.ref 108] [] n mem
  refine hP _ _ _ _ _ ?_
  refine hP _ _ _ _ _ ⟨(zi hn rfl rfl rfl), ?_⟩
  refine hP _ _ _ _ _ ?_
  refine hP _ _ _ _ _ ⟨fun h7 => ?_, fun h7 => ?_⟩
  ·
    refine hP _ _ _ _ _ ?_
    refine hP _ _ _ _ _ ?_
    exact ⟨by decide, rfl, by simpa [zb, cfull, h7] using hQ⟩
  ·
    refine hP _ _ _ _ _ ?_
    refine hP _ _ _ _ _ ?_
    refine hP _ _ _ _ _ ?_
    exact ⟨by decide, rfl, by simpa [zb, cfull, h7] using hQ⟩
/-- a thing is put down, in the class -/
def cput (mem : zM) (m : Nat) : zM := zI (zI (zI mem 108 5 (nI (m + 1))) 109 (m + 1) (mem.1 108 6)) 110 (m + 1) (-1)
theorem cfull_lt {mem : zM} {m : Nat} (h : mem.1 108 5 = nI m) (hm : m < 300) : cfull mem = false := decide_eq_false (fun z => z (by rw [h]; exact nI_lt (b := 300) hm (by omega)))
def k_X4_putDown : zCt := fun as n mem Q => ∃ (m : Nat), as = [.ref 108] ∧ zst n mem ∧ mem.1 108 5 = nI m ∧ m < 300 ∧ Q (some (.int (nI (m + 1)))) n (cput mem m)
theorem ok_X4_putDown {l : Launch} {G : zG} : zOK l G yX4_putDown cX4_putDown 1 (some .int) 1 0 0 k_X4_putDown := by
  intro as n mem Q hK
  obtain ⟨m, rfl, ⟨hn, hF⟩, hm, hm3, hQ⟩ := hK
  refine mtX4_putDown ok_X4_isFull (by decide) (List.forall_mem_cons.mpr ⟨rfl, fun _ h => absurd h List.not_mem_nil⟩) (by simp) rfl (fun P hP => ?_)
  show P 0 [.ref 108] [] n mem
  have e1 : mem.1 108 5 + 1 = nI (m + 1) := by rw [hm]; exact nI_1 m
  unfold cput at hQ
  rw [← e1] at hQ
  refine hP _ _ _ _ _ ?_
  refine hP _ _ _ _ _ ⟨(zi hn rfl rfl rfl), Nat.le_of_ble_eq_true rfl, Nat.le_of_ble_eq_true rfl, ?_⟩
  refine ⟨rfl, ⟨hn, hF⟩, ?_⟩
  rw [cfull_lt hm hm3]
  refine hP _ _ _ _ _ ⟨fun _ => ?_, fun hz => absurd ( rfl) hz⟩
  refine hP _ _ _ _ _ ?_
  refine hP _ _ _ _ _ ?_
  refine hP _ _ _ _ _ ⟨(zi hn rfl rfl rfl), ?_⟩
  refine hP _ _ _ _ _ ?_
  refine hP _ _ _ _ _ ?_
  refine hP _ _ _ _ _ ⟨(zi hn rfl rfl rfl), ?_⟩
  refine hP _ _ _ _ _ ?_
  refine hP _ _ _ _ _ ⟨(zi hn rfl rfl rfl), _, fx_Log_dayAt hF, (by decide), ?_⟩
  refine hP _ _ _ _ _ ?_
  refine hP _ _ _ _ _ ⟨(zi hn rfl rfl rfl), ?_⟩
  refine hP _ _ _ _ _ ?_
  refine hP _ _ _ _ _ ⟨(zi hn rfl rfl rfl), ?_⟩
  refine hP _ _ _ _ _ ⟨_, m + 1, (zi hn rfl rfl rfl), e1, by omega, ?_⟩
  refine hP _ _ _ _ _ ?_
  refine hP _ _ _ _ _ ⟨(zi hn rfl rfl rfl), _, fx_Log_narrowed hF, (by decide), ?_⟩
  refine hP _ _ _ _ _ ?_
  refine hP _ _ _ _ _ ⟨(zi hn rfl rfl rfl), ?_⟩
  refine hP _ _ _ _ _ ?_
  refine hP _ _ _ _ _ ⟨_, m + 1, (zi hn rfl rfl rfl), e1, by omega, ?_⟩
  refine hP _ _ _ _ _ ?_
  refine hP _ _ _ _ _ ⟨(zi hn rfl rfl rfl), ?_⟩
  refine hP _ _ _ _ _ ?_
  exact ⟨rfl, hQ⟩
def k_X4_putNarrowing : zCt := fun as n mem Q => ∃ (m : Nat) (p k a : Int32), as = [.ref 108, .int p, .int k, .int a] ∧ zst n mem ∧ mem.1 108 5 = nI m ∧ m < 300 ∧ Q (some (.int (nI (m + 1)))) n (zI (zI (zI (cput mem m) 110 (m + 1) p) 111 (m + 1) k) 112 (m + 1) a)
theorem ok_X4_putNarrowing {l : Launch} {G : zG} : zOK l G yX4_putNarrowing cX4_putNarrowing 5 (some .int) 2 0 0 k_X4_putNarrowing := by
  intro as n mem Q hK
  obtain ⟨m, p, k, a, rfl, ⟨hn, hF⟩, hm, hm3, hQ⟩ := hK
  refine mtX4_putNarrowing ok_X4_putDown (by decide) (List.forall_mem_cons.mpr ⟨rfl, List.forall_mem_cons.mpr ⟨rfl, List.forall_mem_cons.mpr ⟨rfl, List.forall_mem_cons.mpr ⟨rfl, fun _ h => absurd h List.not_mem_nil⟩⟩⟩⟩) (by simp) rfl (fun P hP => ?_)
  show P 0 [.ref 108, .int p, .int k, .int a, .null] [] n mem
  refine hP _ _ _ _ _ ?_
  refine hP _ _ _ _ _ ⟨(zi hn rfl rfl rfl), Nat.le_of_ble_eq_true rfl, Nat.le_of_ble_eq_true rfl, ?_⟩
  refine ⟨m, rfl, ⟨hn, hF⟩, hm, hm3, ?_⟩
  refine hP _ _ _ _ _ ?_
  refine hP _ _ _ _ _ ?_
  refine hP _ _ _ _ _ ⟨(zi hn rfl rfl rfl), _, fx_Log_narrowed hF, (by decide), ?_⟩
  refine hP _ _ _ _ _ ?_
  refine hP _ _ _ _ _ ?_
  refine hP _ _ _ _ _ ⟨_, m + 1, (zi hn rfl rfl rfl), rfl, by omega, ?_⟩
  refine hP _ _ _ _ _ ?_
  refine hP _ _ _ _ _ ⟨(zi hn rfl rfl rfl), _, fx_Log_kindsTo hF, (by decide), ?_⟩
  refine hP _ _ _ _ _ ?_
  refine hP _ _ _ _ _ ?_
  refine hP _ _ _ _ _ ⟨_, m + 1, (zi hn rfl rfl rfl), rfl, by omega, ?_⟩
  refine hP _ _ _ _ _ ?_
  refine hP _ _ _ _ _ ⟨(zi hn rfl rfl rfl), _, fx_Log_mostTo hF, (by decide), ?_⟩
  refine hP _ _ _ _ _ ?_
  refine hP _ _ _ _ _ ?_
  refine hP _ _ _ _ _ ⟨_, m + 1, (zi hn rfl rfl rfl), rfl, by omega, ?_⟩
  refine hP _ _ _ _ _ ?_
  refine hP _ _ _ _ _ ?_
  exact ⟨rfl, hQ⟩
/-- an act's judgement may write -/
def sX (x a b : Nat) : Prop := sJ a b ∨ (a = x ∧ 9 ≤ b)
theorem opN_fr {mem M : zM} {x t pw c : Nat} {am th : Int32} (h : zfr (sX x) mem M) (hx : 120 ≤ x ∧ x < 136) (hT : t = 136 ∨ t = 158) : opN M t pw c am th = opN mem t pw c am th := by
  have row : ∀ a, a ≠ 114 → a ≠ 115 → a ≠ 116 → a ≠ x → M.1 a = mem.1 a := fun a h0 h1 h2 h3 => by funext b; exact h.1 a b (by unfold sX sJ; omega)
  have g : gC M t = gC mem t := by funext p; exact row _ (by omega) (by omega) (by omega) (by omega)
  unfold opN
  rw [g, row 108 (by omega) (by omega) (by omega) (by omega), row 113 (by omega) (by omega) (by omega) (by omega)]
theorem fsN_fr {mem M : zM} {x t np pw : Nat} {op ps pt : Int32} (h : zfr (sX x) mem M) (hx : 120 ≤ x ∧ x < 136) (hT : t = 136 ∨ t = 158) : fsN M t np pw op ps pt = fsN mem t np pw op ps pt ∧ usN M t np pw op ps pt = usN mem t np pw op ps pt := by
  have row : ∀ a, a ≠ 114 → a ≠ 115 → a ≠ 116 → a ≠ x → M.1 a = mem.1 a := fun a h0 h1 h2 h3 => by funext b; exact h.1 a b (by unfold sX sJ; omega)
  have g : gC M t = gC mem t := by funext p; exact row _ (by omega) (by omega) (by omega) (by omega)
  unfold fsN usN
  have u : ubX M t np pw op (deadM (M.1 113) (M.1 108 5) 8 ^^^ (-1)) ps = ubX mem t np pw op (deadM (mem.1 113) (mem.1 108 5) 8 ^^^ (-1)) ps := by
    funext p
    unfold ubX
    rw [g, row 108 (by omega) (by omega) (by omega) (by omega), row 113 (by omega) (by omega) (by omega) (by omega), row t (by omega) (by omega) (by omega) (by omega)]
  rw [u, g]
  exact ⟨rfl, rfl⟩
theorem tl_frX {mem M : zM} {x t np pw : Nat} (h : zfr (sX x) mem M) (hx : 120 ≤ x ∧ x < 136) (hTl : zTl mem t np pw) : zTl M t np pw ∧ (zUc mem t pw → zUc M t pw) := by
  obtain ⟨hT, hnp, hnp8, hpw, hw, hPs⟩ := hTl
  have row : ∀ a, a ≠ 114 → a ≠ 115 → a ≠ 116 → a ≠ x → M.1 a = mem.1 a := fun a h0 h1 h2 h3 => by funext b; exact h.1 a b (by unfold sX sJ; omega)
  refine ⟨⟨hT, ?_, hnp8, ?_, hw, fun p hp => ?_⟩, fun hU p hp => ?_⟩
  · rw [row t (by omega) (by omega) (by omega) (by omega)]; exact hnp
  · rw [row t (by omega) (by omega) (by omega) (by omega)]; exact hpw
  · rw [row (t + 2 + p) (by omega) (by omega) (by omega) (by omega)]; exact hPs p hp
  · rw [row (t + 2 + p) (by omega) (by omega) (by omega) (by omega)]; exact hU p hp
theorem zFx_X {M m : zM} {x : Nat} (h : zfr (sX x) M m) (hx : 120 ≤ x ∧ x < 136) (hF : zFx M) : zFx m := by
  have e : ∀ a b, ¬ sX x a b → m.2.2 a b = M.2.2 a b := h.2.2
  have hl : ∀ q ∈ zfxl, ¬ (sJ q.1 q.2.1 ∨ (120 ≤ q.1 ∧ q.1 < 136)) := by unfold sJ; decide +kernel
  refine ⟨fun q hq => (e _ _ (fun z => hl q hq (z.imp id fun w => by omega))).trans (hF.1 q hq), fun p hp => ?_, fun a ha => ?_, ?_⟩
  · rw [e 137 p (by unfold sX sJ; omega), e 159 p (by unfold sX sJ; omega)]; exact hF.2.1 p hp
  · rw [e 119 a (by unfold sX sJ; omega)]; exact hF.2.2.1 a ha
  · rw [e 100 8 (by unfold sX sJ; omega), e 100 9 (by unfold sX sJ; omega)]; exact hF.2.2.2
def hwC (mem : zM) (t np pw c : Nat) (am th ps pt : Int32) : Int32 := if fsN mem t np pw (opN mem t pw c am (-1)) ps pt = -1 then (if fsN mem t np pw (opN mem t pw c am th) ps pt = -1 then 0 else 2) else 1
def udC (mem : zM) (t np pw c : Nat) (am th ps pt : Int32) : Int32 := if fsN mem t np pw (opN mem t pw c am (-1)) ps pt = -1 then usN mem t np pw (opN mem t pw c am th) ps pt else usN mem t np pw (opN mem t pw c am (-1)) ps pt
def k_X10_judgeNow : zCt := fun as n mem Q => ∃ (x t np pw c q : Nat), as = [.ref 100, .ref x] ∧ (120 ≤ x ∧ x < 136) ∧ zis n x (.inl 0) ∧ zst n mem ∧ mem.2.2 100 8 = t ∧ zTl mem t np pw ∧ zUc mem t pw ∧ mem.1 x 3 = nI c ∧ c < 32 ∧ mem.1 x 2 = nI q ∧ q < 8 ∧
    (∀ M, zfr (sX x) mem M → M.1 x 11 = opN mem t pw c (mem.1 x 4) (-1) → M.1 x 9 = hwC mem t np pw c (mem.1 x 4) (nI q) (mem.1 x 0) (mem.1 x 1) → M.1 x 10 = udC mem t np pw c (mem.1 x 4) (nI q) (mem.1 x 0) (mem.1 x 1) → Q none n M)
theorem ok_X10_judgeNow {l : Launch} {G : zG} : zOK l G yX10_judgeNow cX10_judgeNow 2 none 5 0 0 k_X10_judgeNow := by
  intro as n mem Q hK
  obtain ⟨x, t, np, pw, c, q, rfl, hx2, hx, ⟨hn, hF0⟩, ht0, hTl0, hU0, hc, hc32, hq, hq8, hQ⟩ := hK
  refine mtX10_judgeNow ok_X10_openPowers (by decide) ok_X10_weighNow (by decide) (List.forall_mem_cons.mpr ⟨rfl, List.forall_mem_cons.mpr ⟨rfl, fun _ h => absurd h List.not_mem_nil⟩⟩) (by simp) rfl (fun P hP => ?_)
  show P 0 [.ref 100, .ref x] [] n mem
  have hT := hTl0.1
  have hx6 := fun (b : Nat) (hb : b < 9) => (show ¬ sX x x b by unfold sX sJ; omega)
  have ht : ∀ N, zfr (sX x) mem N → N.2.2 100 8 = t := fun N h => (h.2.2 100 8 (by unfold sX sJ; omega)).trans ht0
  refine hP _ _ _ _ _ ?_
  refine hP _ _ _ _ _ ?_
  refine hP _ _ _ _ _ ?_
  refine hP _ _ _ _ _ ⟨hx, ?_⟩
  refine hP _ _ _ _ _ ?_
  refine hP _ _ _ _ _ ⟨hx, ?_⟩
  refine hP _ _ _ _ _ ?_
  refine hP _ _ _ _ _ ⟨(zi hn rfl rfl rfl), Nat.le_of_ble_eq_true rfl, Nat.le_of_ble_eq_true rfl, ?_⟩
  refine ⟨t, np, pw, c, mem.1 x 4, -1, by rw [← hc]; rfl, hc32, ⟨hn, hF0⟩, ht0, hTl0, hU0, Or.inl rfl, ?_⟩
  refine hP _ _ _ _ _ ⟨hx, ?_⟩
  have f1 : zfr (sX x) mem (zI mem x 11 (opN mem t pw c (mem.1 x 4) (-1))) := zfr.rf.I (Or.inr ⟨rfl, by omega⟩)
  have e11 : (zI mem x 11 (opN mem t pw c (mem.1 x 4) (-1))).1 x 11 = opN mem t pw c (mem.1 x 4) (-1) := zI_s
  generalize zI mem x 11 (opN mem t pw c (mem.1 x 4) (-1)) = M1 at f1 e11 ⊢
  refine hP _ _ _ _ _ ?_
  refine hP _ _ _ _ _ ?_
  refine hP _ _ _ _ _ ⟨hx, ?_⟩
  refine hP _ _ _ _ _ ?_
  refine hP _ _ _ _ _ ⟨hx, ?_⟩
  refine hP _ _ _ _ _ ?_
  refine hP _ _ _ _ _ ⟨hx, ?_⟩
  refine hP _ _ _ _ _ ⟨(zi hn rfl rfl rfl), Nat.le_of_ble_eq_true rfl, Nat.le_of_ble_eq_true rfl, ?_⟩
  refine ⟨t, np, pw, opN mem t pw c (mem.1 x 4) (-1), mem.1 x 0, mem.1 x 1, by rw [← e11, ← f1.1 x 0 (hx6 0 (by omega)), ← f1.1 x 1 (hx6 1 (by omega))]; rfl, ⟨hn, zFx_X f1 hx2 hF0⟩, ht M1 f1, (tl_frX f1 hx2 hTl0).1, fun M2 f2 h6 h7 => ?_⟩
  rw [(fsN_fr f1 hx2 hT).1] at h6
  rw [(fsN_fr f1 hx2 hT).2] at h7
  have f12 : zfr (sX x) mem M2 := f1.tr (f2.mono fun _ _ z => Or.inl z)
  have g11 : M2.1 x 11 = opN mem t pw c (mem.1 x 4) (-1) := (f2.1 x 11 (by unfold sJ; omega)).trans e11
  refine hP _ _ _ _ _ ?_
  refine hP _ _ _ _ _ ?_
  refine hP _ _ _ _ _ ⟨hx, ?_⟩
  have f3 : zfr (sX x) mem (zI M2 x 9 1) := f12.I (Or.inr ⟨rfl, by omega⟩)
  have k6 : (zI M2 x 9 1).1 114 6 = fsN mem t np pw (opN mem t pw c (mem.1 x 4) (-1)) (mem.1 x 0) (mem.1 x 1) := by rw [zI_ne (by omega)]; exact h6
  have k7 : (zI M2 x 9 1).1 114 7 = usN mem t np pw (opN mem t pw c (mem.1 x 4) (-1)) (mem.1 x 0) (mem.1 x 1) := by rw [zI_ne (by omega)]; exact h7
  have k11 : (zI M2 x 9 1).1 x 11 = opN mem t pw c (mem.1 x 4) (-1) := by rw [zI_o (by omega)]; exact g11
  have k9 : (zI M2 x 9 1).1 x 9 = 1 := zI_s
  have hF3 := zFx_X f3 hx2 hF0
  generalize zI M2 x 9 1 = M3 at f3 k6 k7 k11 k9 hF3 ⊢
  refine hP _ _ _ _ _ ?_
  refine hP _ _ _ _ _ ⟨(zi hn rfl rfl rfl), _, fx_Book_judge hF3, (by decide), ?_⟩
  refine hP _ _ _ _ _ ⟨(zi hn rfl rfl rfl), ?_⟩
  refine hP _ _ _ _ _ ?_
  refine hP _ _ _ _ _ ⟨fun h46 => ?_, fun h46 => ?_⟩
  ·
    have h46 : fsN mem t np pw (opN mem t pw c (mem.1 x 4) (-1)) (mem.1 x 0) (mem.1 x 1) = -1 := k6.symm.trans h46
    refine hP _ _ _ _ _ ?_
    refine hP _ _ _ _ _ ?_
    refine hP _ _ _ _ _ ?_
    refine hP _ _ _ _ _ ⟨hx, ?_⟩
    refine hP _ _ _ _ _ ?_
    refine hP _ _ _ _ _ ⟨hx, ?_⟩
    refine hP _ _ _ _ _ ?_
    refine hP _ _ _ _ _ ⟨hx, ?_⟩
    refine hP _ _ _ _ _ ⟨(zi hn rfl rfl rfl), Nat.le_of_ble_eq_true rfl, Nat.le_of_ble_eq_true rfl, ?_⟩
    refine ⟨t, np, pw, c, mem.1 x 4, nI q, by rw [← hc, ← hq, ← f3.1 x 2 (hx6 2 (by omega)), ← f3.1 x 3 (hx6 3 (by omega)), ← f3.1 x 4 (hx6 4 (by omega))]; rfl, hc32, ⟨hn, hF3⟩, ht M3 f3, (tl_frX f3 hx2 hTl0).1, (tl_frX f3 hx2 hTl0).2 hU0, Or.inr ⟨q, hq8, rfl⟩, ?_⟩
    rw [opN_fr f3 hx2 hT]
    refine hP _ _ _ _ _ ?_
    refine hP _ _ _ _ _ ⟨hx, ?_⟩
    refine hP _ _ _ _ _ ?_
    refine hP _ _ _ _ _ ⟨hx, ?_⟩
    refine hP _ _ _ _ _ ⟨(zi hn rfl rfl rfl), Nat.le_of_ble_eq_true rfl, Nat.le_of_ble_eq_true rfl, ?_⟩
    refine ⟨t, np, pw, opN mem t pw c (mem.1 x 4) (nI q), mem.1 x 0, mem.1 x 1, by rw [← f3.1 x 0 (hx6 0 (by omega)), ← f3.1 x 1 (hx6 1 (by omega))]; rfl, ⟨hn, hF3⟩, ht M3 f3, (tl_frX f3 hx2 hTl0).1, fun M4 f4 j6 j7 => ?_⟩
    rw [(fsN_fr f3 hx2 hT).1] at j6
    rw [(fsN_fr f3 hx2 hT).2] at j7
    have f34 : zfr (sX x) mem M4 := f3.tr (f4.mono fun _ _ z => Or.inl z)
    have l11 : M4.1 x 11 = opN mem t pw c (mem.1 x 4) (-1) := (f4.1 x 11 (by unfold sJ; omega)).trans k11
    have hF4 := zFx_X f34 hx2 hF0
    refine hP _ _ _ _ _ ?_
    refine hP _ _ _ _ _ ?_
    refine hP _ _ _ _ _ ⟨(zi hn rfl rfl rfl), _, fx_Book_judge hF4, (by decide), ?_⟩
    refine hP _ _ _ _ _ ⟨(zi hn rfl rfl rfl), ?_⟩
    refine hP _ _ _ _ _ ?_
    refine hP _ _ _ _ _ ⟨fun h86 => ?_, fun h86 => ?_⟩
    ·
      refine hP _ _ _ _ _ ?_
      refine hP _ _ _ _ _ ?_
      refine hP _ _ _ _ _ ⟨hx, ?_⟩
      refine hP _ _ _ _ _ ?_
      refine hP _ _ _ _ _ ?_
      refine hP _ _ _ _ _ ⟨(zi hn rfl rfl rfl), _, fx_Book_judge (by first | exact hF3 | exact zFx_X (f34.I (Or.inr ⟨rfl, by omega⟩)) hx2 hF0), (by decide), ?_⟩
      refine hP _ _ _ _ _ ⟨(zi hn rfl rfl rfl), ?_⟩
      refine hP _ _ _ _ _ ⟨hx, ?_⟩
      refine hP _ _ _ _ _ ?_
      refine ⟨rfl, ?_⟩
      first | (have h86 : fsN mem t np pw (opN mem t pw c (mem.1 x 4) (nI q)) (mem.1 x 0) (mem.1 x 1) = -1 := j6.symm.trans h86; refine hQ _ ((f34.I (Or.inr ⟨rfl, by omega⟩)).I (Or.inr ⟨rfl, by omega⟩)) (by rw [zI_o (by omega), zI_o (by omega)]; exact l11) (by rw [zI_o (by omega), zI_s, hwC, if_pos h46, if_pos h86]) (by rw [zI_s, zI_ne (by omega), j7, udC, if_pos h46])) | (have h86 : ¬ fsN mem t np pw (opN mem t pw c (mem.1 x 4) (nI q)) (mem.1 x 0) (mem.1 x 1) = -1 := fun z => h86 (j6.trans z); refine hQ _ ((f34.I (Or.inr ⟨rfl, by omega⟩)).I (Or.inr ⟨rfl, by omega⟩)) (by rw [zI_o (by omega), zI_o (by omega)]; exact l11) (by rw [zI_o (by omega), zI_s, hwC, if_pos h46, if_neg h86]) (by rw [zI_s, zI_ne (by omega), j7, udC, if_pos h46])) | (have h46 : ¬ fsN mem t np pw (opN mem t pw c (mem.1 x 4) (-1)) (mem.1 x 0) (mem.1 x 1) = -1 := fun z => h46 (k6.trans z); refine hQ _ (f3.I (Or.inr ⟨rfl, by omega⟩)) (by rw [zI_o (by omega)]; exact k11) (by rw [zI_o (by omega), k9, hwC, if_neg h46]) (by rw [zI_s, k7, udC, if_neg h46]))
    ·
      refine hP _ _ _ _ _ ?_
      refine hP _ _ _ _ _ ⟨hx, ?_⟩
      refine hP _ _ _ _ _ ?_
      refine hP _ _ _ _ _ ?_
      refine hP _ _ _ _ _ ⟨(zi hn rfl rfl rfl), _, fx_Book_judge (by first | exact hF3 | exact zFx_X (f34.I (Or.inr ⟨rfl, by omega⟩)) hx2 hF0), (by decide), ?_⟩
      refine hP _ _ _ _ _ ⟨(zi hn rfl rfl rfl), ?_⟩
      refine hP _ _ _ _ _ ⟨hx, ?_⟩
      refine hP _ _ _ _ _ ?_
      refine ⟨rfl, ?_⟩
      first | (have h86 : fsN mem t np pw (opN mem t pw c (mem.1 x 4) (nI q)) (mem.1 x 0) (mem.1 x 1) = -1 := j6.symm.trans h86; refine hQ _ ((f34.I (Or.inr ⟨rfl, by omega⟩)).I (Or.inr ⟨rfl, by omega⟩)) (by rw [zI_o (by omega), zI_o (by omega)]; exact l11) (by rw [zI_o (by omega), zI_s, hwC, if_pos h46, if_pos h86]) (by rw [zI_s, zI_ne (by omega), j7, udC, if_pos h46])) | (have h86 : ¬ fsN mem t np pw (opN mem t pw c (mem.1 x 4) (nI q)) (mem.1 x 0) (mem.1 x 1) = -1 := fun z => h86 (j6.trans z); refine hQ _ ((f34.I (Or.inr ⟨rfl, by omega⟩)).I (Or.inr ⟨rfl, by omega⟩)) (by rw [zI_o (by omega), zI_o (by omega)]; exact l11) (by rw [zI_o (by omega), zI_s, hwC, if_pos h46, if_neg h86]) (by rw [zI_s, zI_ne (by omega), j7, udC, if_pos h46])) | (have h46 : ¬ fsN mem t np pw (opN mem t pw c (mem.1 x 4) (-1)) (mem.1 x 0) (mem.1 x 1) = -1 := fun z => h46 (k6.trans z); refine hQ _ (f3.I (Or.inr ⟨rfl, by omega⟩)) (by rw [zI_o (by omega)]; exact k11) (by rw [zI_o (by omega), k9, hwC, if_neg h46]) (by rw [zI_s, k7, udC, if_neg h46]))
  ·
    refine hP _ _ _ _ _ ?_
    refine hP _ _ _ _ _ ?_
    refine hP _ _ _ _ _ ⟨(zi hn rfl rfl rfl), _, fx_Book_judge (by first | exact hF3 | exact zFx_X (f34.I (Or.inr ⟨rfl, by omega⟩)) hx2 hF0), (by decide), ?_⟩
    refine hP _ _ _ _ _ ⟨(zi hn rfl rfl rfl), ?_⟩
    refine hP _ _ _ _ _ ⟨hx, ?_⟩
    refine hP _ _ _ _ _ ?_
    refine ⟨rfl, ?_⟩
    first | (have h86 : fsN mem t np pw (opN mem t pw c (mem.1 x 4) (nI q)) (mem.1 x 0) (mem.1 x 1) = -1 := j6.symm.trans h86; refine hQ _ ((f34.I (Or.inr ⟨rfl, by omega⟩)).I (Or.inr ⟨rfl, by omega⟩)) (by rw [zI_o (by omega), zI_o (by omega)]; exact l11) (by rw [zI_o (by omega), zI_s, hwC, if_pos h46, if_pos h86]) (by rw [zI_s, zI_ne (by omega), j7, udC, if_pos h46])) | (have h86 : ¬ fsN mem t np pw (opN mem t pw c (mem.1 x 4) (nI q)) (mem.1 x 0) (mem.1 x 1) = -1 := fun z => h86 (j6.trans z); refine hQ _ ((f34.I (Or.inr ⟨rfl, by omega⟩)).I (Or.inr ⟨rfl, by omega⟩)) (by rw [zI_o (by omega), zI_o (by omega)]; exact l11) (by rw [zI_o (by omega), zI_s, hwC, if_pos h46, if_neg h86]) (by rw [zI_s, zI_ne (by omega), j7, udC, if_pos h46])) | (have h46 : ¬ fsN mem t np pw (opN mem t pw c (mem.1 x 4) (-1)) (mem.1 x 0) (mem.1 x 1) = -1 := fun z => h46 (k6.trans z); refine hQ _ (f3.I (Or.inr ⟨rfl, by omega⟩)) (by rw [zI_o (by omega)]; exact k11) (by rw [zI_o (by omega), k9, hwC, if_neg h46]) (by rw [zI_s, k7, udC, if_neg h46]))
