/-! ===== the class: what is told now stands at t; its powers at t + 2 + p ===== -/
def zTd (mem : zM) (t : Nat) : Prop := mem.2.2 100 8 = t ∧ (t = 136 ∨ t = 158)
theorem ztT {n t : Nat} (hn : 97 ≤ n) (hT : t = 136 ∨ t = 158) : zis n t (.inl 9) := by
  rcases hT with rfl | rfl
  · exact zi hn rfl rfl rfl
  · exact zi hn rfl rfl rfl
theorem ztA {n t : Nat} (hn : 97 ≤ n) (hT : t = 136 ∨ t = 158) : zis n (t + 1) (.inr (4, 20)) := by
  rcases hT with rfl | rfl
  · exact zi hn rfl rfl rfl
  · exact zi hn rfl rfl rfl
theorem ztP {n t p : Nat} (hn : 97 ≤ n) (hT : t = 136 ∨ t = 158) (hp : p < 20) : zis n (t + 2 + p) (.inl 5) := by
  rcases hT with rfl | rfl
  · exact ziP hn (Or.inl rfl) hp
  · exact ziP hn (Or.inr rfl) hp
theorem fx_tp {mem : zM} {t : Nat} (hF : zFx mem) (hT : t = 136 ∨ t = 158) : mem.2.2 t 0 = t + 1 := by
  rcases hT with rfl | rfl
  · exact fx_Told_powers_136 hF
  · exact fx_Told_powers_158 hF
theorem fx_pw {mem : zM} {t p : Nat} (hF : zFx mem) (hT : t = 136 ∨ t = 158) (hp : p < 20) : mem.2.2 (t + 1) p = t + 2 + p := by
  rcases hT with rfl | rfl
  · exact (hF.2.1 p hp).1
  · exact (hF.2.1 p hp).2
def inC (v c : Int32) : Bool := decide (¬ v < 0 ∧ ¬ c ≤ v)
def k_X10_isParty : zCt := fun as n mem Q => ∃ (p : Int32) (t : Nat), as = [.ref 100, .int p] ∧ zst n mem ∧ zTd mem t ∧ Q (some (.int (zb (inC p (mem.1 t 1))))) n mem
theorem ok_X10_isParty {l : Launch} {G : zG} : zOK l G yX10_isParty cX10_isParty 2 (some .boolean) 0 0 0 k_X10_isParty := by
  intro as n mem Q hK
  obtain ⟨p, t, rfl, ⟨hn, hF⟩, ⟨ht, hT⟩, hQ⟩ := hK
  refine mtX10_isParty (List.forall_mem_cons.mpr ⟨rfl, List.forall_mem_cons.mpr ⟨rfl, fun _ h => absurd h List.not_mem_nil⟩⟩) (by simp) rfl (fun P hP => ?_)
  show P 0 [.ref 100, .int p] [] n mem
  refine hP _ _ _ _ _ ?_
  refine hP _ _ _ _ _ ⟨fun h1 => ?_, fun h1 => ?_⟩
  ·
    refine hP _ _ _ _ _ ?_
    refine hP _ _ _ _ _ ?_
    exact ⟨by decide, rfl, by simpa [zb, inC, h1] using hQ⟩
  ·
    refine hP _ _ _ _ _ ?_
    refine hP _ _ _ _ _ ?_
    refine hP _ _ _ _ _ ⟨(zi hn rfl rfl rfl), _, ht, (by omega), ?_⟩
    refine hP _ _ _ _ _ ⟨(ztT hn hT), ?_⟩
    refine hP _ _ _ _ _ ⟨fun h12 => ?_, fun h12 => ?_⟩
    ·
      refine hP _ _ _ _ _ ?_
      refine hP _ _ _ _ _ ?_
      exact ⟨by decide, rfl, by simpa [zb, inC, h1, h12] using hQ⟩
    ·
      refine hP _ _ _ _ _ ?_
      refine hP _ _ _ _ _ ?_
      refine hP _ _ _ _ _ ?_
      exact ⟨by decide, rfl, by simpa [zb, inC, h1, h12] using hQ⟩
def k_X10_isPower : zCt := fun as n mem Q => ∃ (p : Int32) (t : Nat), as = [.ref 100, .int p] ∧ zst n mem ∧ zTd mem t ∧ Q (some (.int (zb (inC p (mem.1 t 2))))) n mem
theorem ok_X10_isPower {l : Launch} {G : zG} : zOK l G yX10_isPower cX10_isPower 2 (some .boolean) 0 0 0 k_X10_isPower := by
  intro as n mem Q hK
  obtain ⟨p, t, rfl, ⟨hn, hF⟩, ⟨ht, hT⟩, hQ⟩ := hK
  refine mtX10_isPower (List.forall_mem_cons.mpr ⟨rfl, List.forall_mem_cons.mpr ⟨rfl, fun _ h => absurd h List.not_mem_nil⟩⟩) (by simp) rfl (fun P hP => ?_)
  show P 0 [.ref 100, .int p] [] n mem
  refine hP _ _ _ _ _ ?_
  refine hP _ _ _ _ _ ⟨fun h1 => ?_, fun h1 => ?_⟩
  ·
    refine hP _ _ _ _ _ ?_
    refine hP _ _ _ _ _ ?_
    exact ⟨by decide, rfl, by simpa [zb, inC, h1] using hQ⟩
  ·
    refine hP _ _ _ _ _ ?_
    refine hP _ _ _ _ _ ?_
    refine hP _ _ _ _ _ ⟨(zi hn rfl rfl rfl), _, ht, (by omega), ?_⟩
    refine hP _ _ _ _ _ ⟨(ztT hn hT), ?_⟩
    refine hP _ _ _ _ _ ⟨fun h12 => ?_, fun h12 => ?_⟩
    ·
      refine hP _ _ _ _ _ ?_
      refine hP _ _ _ _ _ ?_
      exact ⟨by decide, rfl, by simpa [zb, inC, h1, h12] using hQ⟩
    ·
      refine hP _ _ _ _ _ ?_
      refine hP _ _ _ _ _ ?_
      refine hP _ _ _ _ _ ?_
      exact ⟨by decide, rfl, by simpa [zb, inC, h1, h12] using hQ⟩
def k_X10_isAct : zCt := fun as n mem Q => ∃ (p : Int32), as = [.ref 100, .int p] ∧ zst n mem ∧ Q (some (.int (zb (inC p (mem.1 100 6))))) n mem
theorem ok_X10_isAct {l : Launch} {G : zG} : zOK l G yX10_isAct cX10_isAct 2 (some .boolean) 0 0 0 k_X10_isAct := by
  intro as n mem Q hK
  obtain ⟨p, rfl, ⟨hn, hF⟩, hQ⟩ := hK
  refine mtX10_isAct (List.forall_mem_cons.mpr ⟨rfl, List.forall_mem_cons.mpr ⟨rfl, fun _ h => absurd h List.not_mem_nil⟩⟩) (by simp) rfl (fun P hP => ?_)
  show P 0 [.ref 100, .int p] [] n mem
  refine hP _ _ _ _ _ ?_
  refine hP _ _ _ _ _ ⟨fun h1 => ?_, fun h1 => ?_⟩
  ·
    refine hP _ _ _ _ _ ?_
    refine hP _ _ _ _ _ ?_
    exact ⟨by decide, rfl, by simpa [zb, inC, h1] using hQ⟩
  ·
    refine hP _ _ _ _ _ ?_
    refine hP _ _ _ _ _ ?_
    refine hP _ _ _ _ _ ⟨(zi hn rfl rfl rfl), ?_⟩
    refine hP _ _ _ _ _ ⟨fun h9 => ?_, fun h9 => ?_⟩
    ·
      refine hP _ _ _ _ _ ?_
      refine hP _ _ _ _ _ ?_
      exact ⟨by decide, rfl, by simpa [zb, inC, h1, h9] using hQ⟩
    ·
      refine hP _ _ _ _ _ ?_
      refine hP _ _ _ _ _ ?_
      refine hP _ _ _ _ _ ?_
      exact ⟨by decide, rfl, by simpa [zb, inC, h1, h9] using hQ⟩
def k_X10_isMoment : zCt := fun as n mem Q => ∃ (p : Int32), as = [.ref 100, .int p] ∧ zst n mem ∧ Q (some (.int (zb (isin p 0 (mem.1 108 5))))) n mem
theorem ok_X10_isMoment {l : Launch} {G : zG} : zOK l G yX10_isMoment cX10_isMoment 2 (some .boolean) 0 0 0 k_X10_isMoment := by
  intro as n mem Q hK
  obtain ⟨p, rfl, ⟨hn, hF⟩, hQ⟩ := hK
  refine mtX10_isMoment (List.forall_mem_cons.mpr ⟨rfl, List.forall_mem_cons.mpr ⟨rfl, fun _ h => absurd h List.not_mem_nil⟩⟩) (by simp) rfl (fun P hP => ?_)
  show P 0 [.ref 100, .int p] [] n mem
  refine hP _ _ _ _ _ ?_
  refine hP _ _ _ _ _ ⟨fun h1 => ?_, fun h1 => ?_⟩
  ·
    refine hP _ _ _ _ _ ?_
    refine hP _ _ _ _ _ ?_
    exact ⟨by decide, rfl, by simpa [zb, isin, h1] using hQ⟩
  ·
    refine hP _ _ _ _ _ ?_
    refine hP _ _ _ _ _ ?_
    refine hP _ _ _ _ _ ⟨(zi hn rfl rfl rfl), _, fx_Book_log hF, (by decide), ?_⟩
    refine hP _ _ _ _ _ ⟨(zi hn rfl rfl rfl), ?_⟩
    refine hP _ _ _ _ _ ⟨fun h12 => ?_, fun h12 => ?_⟩
    ·
      refine hP _ _ _ _ _ ?_
      refine hP _ _ _ _ _ ?_
      exact ⟨by decide, rfl, by simpa [zb, isin, h1, h12] using hQ⟩
    ·
      refine hP _ _ _ _ _ ?_
      refine hP _ _ _ _ _ ?_
      refine hP _ _ _ _ _ ?_
      exact ⟨by decide, rfl, by simpa [zb, isin, h1, h12] using hQ⟩
theorem inC_nI {p : Int32} {c : Nat} (hc : c ≤ 2000) (h : inC p (nI c) = true) : ∃ j, j < c ∧ p = nI j := by
  have h' := of_decide_eq_true h
  obtain ⟨j, hj, rfl⟩ := nI_of h'.1
  refine ⟨j, ?_, rfl⟩
  rcases Nat.lt_or_ge j c with q | q
  · exact q
  · exact absurd (nI_le q hj) h'.2
/-- the class's and the reference's bound are one -/
theorem inC_in {p : Int32} {c : Nat} (hc : c ≤ 2000) : inC p (nI c) = isin p 0 (nI c - 1) := by
  cases hb : isin p 0 (nI c - 1) with
  | true =>
    obtain ⟨j, hj, rfl⟩ := isin_nI hc hb
    exact decide_eq_true ⟨nI_pos (by omega), nI_ge hj (by omega)⟩
  | false =>
    cases ha : inC p (nI c) with
    | false => rfl
    | true =>
      obtain ⟨j, hj, rfl⟩ := inC_nI hc ha
      have h' := of_decide_eq_false hb
      exfalso
      apply h'
      refine ⟨nI_pos (by omega), ?_⟩
      obtain ⟨d, rfl⟩ : ∃ d, c = d + 1 := ⟨c - 1, by omega⟩
      rw [nI_pred]
      exact nI_nlt (by omega) (by omega)
def k_X10_mayActFor : zCt := fun as n mem Q => ∃ (ps pt : Int32) (t np : Nat), as = [.ref 100, .int ps, .int pt] ∧ zst n mem ∧ zTd mem t ∧ mem.1 t 1 = nI np ∧ np ≤ 8 ∧ Q (some (.int (zb (inC pt (mem.1 t 1) && (!decide (ps ≤ 0) && (!decide ((1 <<< (mem.1 t 1 &&& 31)) ≤ ps) && (decide (ps &&& mem.1 t 3 = 0) && !bt ps (ix pt)))))))) n mem
theorem ok_X10_mayActFor {l : Launch} {G : zG} : zOK l G yX10_mayActFor cX10_mayActFor 3 (some .boolean) 1 0 0 k_X10_mayActFor := by
  intro as n mem Q hK
  obtain ⟨ps, pt, t, np, rfl, ⟨hn, hF⟩, ⟨ht, hT⟩, hnp, hnp8, hQ⟩ := hK
  refine mtX10_mayActFor ok_X10_isParty (by decide) ok_X10_has (by decide) (List.forall_mem_cons.mpr ⟨rfl, List.forall_mem_cons.mpr ⟨rfl, List.forall_mem_cons.mpr ⟨rfl, fun _ h => absurd h List.not_mem_nil⟩⟩⟩) (by simp) rfl (fun P hP => ?_)
  show P 0 [.ref 100, .int ps, .int pt] [] n mem
  refine hP _ _ _ _ _ ?_
  refine hP _ _ _ _ _ ?_
  refine hP _ _ _ _ _ ⟨(zi hn rfl rfl rfl), Nat.le_of_ble_eq_true rfl, Nat.le_of_ble_eq_true rfl, ?_⟩
  refine ⟨_, t, rfl, ⟨hn, hF⟩, ⟨ht, hT⟩, ?_⟩
  refine hP _ _ _ _ _ ⟨fun h5 => ?_, fun h5 => ?_⟩
  ·
    have h5 := zb_0.mp h5
    refine hP _ _ _ _ _ ?_
    refine hP _ _ _ _ _ ?_
    exact ⟨by decide, rfl, by simpa [zb, h5] using hQ⟩
  ·
    have h5 := zb_n.mp h5
    obtain ⟨j, hj, rfl⟩ := inC_nI (by omega) (hnp ▸ h5)
    have hx := ix_nI (j := j) (by omega)
    refine hP _ _ _ _ _ ?_
    refine hP _ _ _ _ _ ⟨fun h9 => ?_, fun h9 => ?_⟩
    ·
      refine hP _ _ _ _ _ ?_
      refine hP _ _ _ _ _ ?_
      exact ⟨by decide, rfl, by simpa [zb, h5, hx, h9] using hQ⟩
    ·
      refine hP _ _ _ _ _ ?_
      refine hP _ _ _ _ _ ?_
      refine hP _ _ _ _ _ ?_
      refine hP _ _ _ _ _ ⟨(zi hn rfl rfl rfl), _, ht, (by omega), ?_⟩
      refine hP _ _ _ _ _ ⟨(ztT hn hT), ?_⟩
      refine hP _ _ _ _ _ ?_
      refine hP _ _ _ _ _ ⟨fun h22 => ?_, fun h22 => ?_⟩
      ·
        refine hP _ _ _ _ _ ?_
        refine hP _ _ _ _ _ ?_
        exact ⟨by decide, rfl, by simpa [zb, h5, hx, h9, h22] using hQ⟩
      ·
        refine hP _ _ _ _ _ ?_
        refine hP _ _ _ _ _ ?_
        refine hP _ _ _ _ _ ⟨(zi hn rfl rfl rfl), _, ht, (by omega), ?_⟩
        refine hP _ _ _ _ _ ⟨(ztT hn hT), ?_⟩
        refine hP _ _ _ _ _ ?_
        refine hP _ _ _ _ _ ⟨fun h34 => ?_, fun h34 => ?_⟩
        ·
          refine hP _ _ _ _ _ ?_
          refine hP _ _ _ _ _ ?_
          refine hP _ _ _ _ _ ⟨Nat.le_of_ble_eq_true rfl, Nat.le_of_ble_eq_true rfl, ?_⟩
          refine ⟨_, j, rfl, by omega, ?_⟩
          refine hP _ _ _ _ _ ⟨fun h42 => ?_, fun h42 => ?_⟩
          ·
            have h42 := zb_0.mp h42
            refine hP _ _ _ _ _ ?_
            refine hP _ _ _ _ _ ?_
            refine hP _ _ _ _ _ ?_
            exact ⟨by decide, rfl, by simpa [zb, h5, hx, h9, h22, h34, h42] using hQ⟩
          ·
            have h42 := zb_n.mp h42
            refine hP _ _ _ _ _ ?_
            refine hP _ _ _ _ _ ?_
            exact ⟨by decide, rfl, by simpa [zb, h5, hx, h9, h22, h34, h42] using hQ⟩
        ·
          refine hP _ _ _ _ _ ?_
          refine hP _ _ _ _ _ ?_
          exact ⟨by decide, rfl, by simpa [zb, h5, hx, h9, h22, h34] using hQ⟩
theorem or_0 (x : Int32) : x ||| 0 = x := by
  apply b_ext
  intro i hi
  rw [b_or, b_0, Bool.or_false]
def k_X4_deadBy : zCt := fun as n mem Q => ∃ (m : Int32), as = [.ref 108, .int m] ∧ zst n mem ∧ Q (some (.int (deadM (mem.1 113) m 8))) n mem
theorem ok_X4_deadBy {l : Launch} {G : zG} : zOK l G yX4_deadBy cX4_deadBy 4 (some .int) 0 0 0 k_X4_deadBy := by
  intro as n mem Q hK
  obtain ⟨m, rfl, ⟨hn, hF⟩, hQ⟩ := hK
  refine mtX4_deadBy (List.forall_mem_cons.mpr ⟨rfl, List.forall_mem_cons.mpr ⟨rfl, fun _ h => absurd h List.not_mem_nil⟩⟩) (by simp) rfl (fun P hP => ?_)
  show P 0 [.ref 108, .int m, .null, .null] [] n mem
  have loop : ∀ i, i ≤ 8 → P 4 [.ref 108, .int m, .int (deadM (mem.1 113) m i), .int (nI i)] [] n mem := by
    refine zloop ?_ ?_
    ·
      refine hP _ _ _ _ _ ?_
      refine hP _ _ _ _ _ ?_
      refine hP _ _ _ _ _ ⟨fun _ => ?_, fun hz => absurd ( by decide) hz⟩
      refine hP _ _ _ _ _ ?_
      refine hP _ _ _ _ _ ?_
      exact ⟨rfl, hQ⟩
    · intro i hi ih
      rw [nI_succ i] at ih
      unfold deadM at ih
      refine hP _ _ _ _ _ ?_
      refine hP _ _ _ _ _ ?_
      refine hP _ _ _ _ _ ⟨fun hz => absurd hz ( nI_ge (b := 8) hi (by omega)), fun _ => ?_⟩
      refine hP _ _ _ _ _ ?_
      refine hP _ _ _ _ _ ?_
      refine hP _ _ _ _ _ ⟨(zi hn rfl rfl rfl), _, fx_Log_diedAt hF, (by decide), ?_⟩
      refine hP _ _ _ _ _ ?_
      refine hP _ _ _ _ _ ⟨_, i, (zi hn rfl rfl rfl), rfl, by omega, ?_⟩
      refine hP _ _ _ _ _ ?_
      refine hP _ _ _ _ _ ⟨fun h18 => ?_, fun h18 => ?_⟩
      ·
        refine hP _ _ _ _ _ ?_
        refine hP _ _ _ _ _ ?_
        refine hP _ _ _ _ _ ?_
        refine hP _ _ _ _ _ ?_
        refine hP _ _ _ _ _ ?_
        first | (have h18 : mem.1 113 i = -1 := h18; rw [if_pos (by rw [isby, decide_eq_false (fun z => z.1 h18)]; rfl)] at ih; show P 4 [_, _, .int (_ ||| 0), _] [] n mem; rw [or_0]; exact ih) | (have h18 : ¬ mem.1 113 i = -1 := h18; have h28 : m < mem.1 113 i := h28; rw [if_pos (by rw [isby, decide_eq_false (fun z => z.2 h28)]; rfl)] at ih; show P 4 [_, _, .int (_ ||| 0), _] [] n mem; rw [or_0]; exact ih) | (have h18 : ¬ mem.1 113 i = -1 := h18; have h28 : ¬ m < mem.1 113 i := h28; rw [if_neg (by rw [isby, decide_eq_true ⟨h18, h28⟩]; decide)] at ih; exact ih)
      ·
        refine hP _ _ _ _ _ ?_
        refine hP _ _ _ _ _ ⟨(zi hn rfl rfl rfl), _, fx_Log_diedAt hF, (by decide), ?_⟩
        refine hP _ _ _ _ _ ?_
        refine hP _ _ _ _ _ ⟨_, i, (zi hn rfl rfl rfl), rfl, by omega, ?_⟩
        refine hP _ _ _ _ _ ?_
        refine hP _ _ _ _ _ ⟨fun h28 => ?_, fun h28 => ?_⟩
        ·
          refine hP _ _ _ _ _ ?_
          refine hP _ _ _ _ _ ?_
          refine hP _ _ _ _ _ ?_
          refine hP _ _ _ _ _ ?_
          refine hP _ _ _ _ _ ?_
          first | (have h18 : mem.1 113 i = -1 := h18; rw [if_pos (by rw [isby, decide_eq_false (fun z => z.1 h18)]; rfl)] at ih; show P 4 [_, _, .int (_ ||| 0), _] [] n mem; rw [or_0]; exact ih) | (have h18 : ¬ mem.1 113 i = -1 := h18; have h28 : m < mem.1 113 i := h28; rw [if_pos (by rw [isby, decide_eq_false (fun z => z.2 h28)]; rfl)] at ih; show P 4 [_, _, .int (_ ||| 0), _] [] n mem; rw [or_0]; exact ih) | (have h18 : ¬ mem.1 113 i = -1 := h18; have h28 : ¬ m < mem.1 113 i := h28; rw [if_neg (by rw [isby, decide_eq_true ⟨h18, h28⟩]; decide)] at ih; exact ih)
        ·
          refine hP _ _ _ _ _ ?_
          refine hP _ _ _ _ _ ?_
          refine hP _ _ _ _ _ ?_
          refine hP _ _ _ _ _ ?_
          refine hP _ _ _ _ _ ?_
          refine hP _ _ _ _ _ ?_
          refine hP _ _ _ _ _ ?_
          refine hP _ _ _ _ _ ?_
          first | (have h18 : mem.1 113 i = -1 := h18; rw [if_pos (by rw [isby, decide_eq_false (fun z => z.1 h18)]; rfl)] at ih; show P 4 [_, _, .int (_ ||| 0), _] [] n mem; rw [or_0]; exact ih) | (have h18 : ¬ mem.1 113 i = -1 := h18; have h28 : m < mem.1 113 i := h28; rw [if_pos (by rw [isby, decide_eq_false (fun z => z.2 h28)]; rfl)] at ih; show P 4 [_, _, .int (_ ||| 0), _] [] n mem; rw [or_0]; exact ih) | (have h18 : ¬ mem.1 113 i = -1 := h18; have h28 : ¬ m < mem.1 113 i := h28; rw [if_neg (by rw [isby, decide_eq_true ⟨h18, h28⟩]; decide)] at ih; exact ih)
  refine hP _ _ _ _ _ ?_
  refine hP _ _ _ _ _ ?_
  refine hP _ _ _ _ _ ?_
  refine hP _ _ _ _ _ ?_
  exact loop 0 (by omega)
def actC (mem : zM) (t : Nat) (pt : Int32) : Int32 := (((1 : Int32) <<< (mem.1 t 1 &&& 31)) - 1) &&& (mem.1 t 3 ^^^ (-1)) &&& (((1 : Int32) <<< (pt &&& 31)) ^^^ (-1)) &&& (deadM (mem.1 113) (mem.1 108 5) 8 ^^^ (-1))
def k_X10_actorsFor : zCt := fun as n mem Q => ∃ (pt : Int32) (t : Nat), as = [.ref 100, .int pt] ∧ zst n mem ∧ zTd mem t ∧ Q (some (.int (actC mem t pt))) n mem
theorem ok_X10_actorsFor {l : Launch} {G : zG} : zOK l G yX10_actorsFor cX10_actorsFor 3 (some .int) 1 0 0 k_X10_actorsFor := by
  intro as n mem Q hK
  obtain ⟨pt, t, rfl, ⟨hn, hF⟩, ⟨ht, hT⟩, hQ⟩ := hK
  refine mtX10_actorsFor ok_X4_deadBy (by decide) (List.forall_mem_cons.mpr ⟨rfl, List.forall_mem_cons.mpr ⟨rfl, fun _ h => absurd h List.not_mem_nil⟩⟩) (by simp) rfl (fun P hP => ?_)
  show P 0 [.ref 100, .int pt, .null] [] n mem
  refine hP _ _ _ _ _ ?_
  refine hP _ _ _ _ _ ?_
  refine hP _ _ _ _ _ ⟨(zi hn rfl rfl rfl), _, ht, (by omega), ?_⟩
  refine hP _ _ _ _ _ ⟨(ztT hn hT), ?_⟩
  refine hP _ _ _ _ _ ?_
  refine hP _ _ _ _ _ ?_
  refine hP _ _ _ _ _ ?_
  refine hP _ _ _ _ _ ?_
  refine hP _ _ _ _ _ ?_
  refine hP _ _ _ _ _ ?_
  refine hP _ _ _ _ _ ⟨(zi hn rfl rfl rfl), _, ht, (by omega), ?_⟩
  refine hP _ _ _ _ _ ⟨(ztT hn hT), ?_⟩
  refine hP _ _ _ _ _ ?_
  refine hP _ _ _ _ _ ?_
  refine hP _ _ _ _ _ ?_
  refine hP _ _ _ _ _ ?_
  refine hP _ _ _ _ _ ?_
  refine hP _ _ _ _ _ ?_
  refine hP _ _ _ _ _ ?_
  refine hP _ _ _ _ _ ?_
  refine hP _ _ _ _ _ ?_
  refine hP _ _ _ _ _ ?_
  refine hP _ _ _ _ _ ⟨(zi hn rfl rfl rfl), _, fx_Book_log hF, (by decide), ?_⟩
  refine hP _ _ _ _ _ ?_
  refine hP _ _ _ _ _ ⟨(zi hn rfl rfl rfl), _, fx_Book_log hF, (by decide), ?_⟩
  refine hP _ _ _ _ _ ⟨(zi hn rfl rfl rfl), ?_⟩
  refine hP _ _ _ _ _ ⟨(zi hn rfl rfl rfl), Nat.le_of_ble_eq_true rfl, Nat.le_of_ble_eq_true rfl, ?_⟩
  refine ⟨_, rfl, ⟨hn, hF⟩, ?_⟩
  refine hP _ _ _ _ _ ?_
  refine hP _ _ _ _ _ ?_
  refine hP _ _ _ _ _ ?_
  refine hP _ _ _ _ _ ?_
  exact ⟨rfl, hQ⟩
/-- why a power isn't live, of itself; r its row -/
def rsC (r : Nat → Int32) (b : Bool) (d dd : Int32) : Int32 :=
  if b = true then 1
  else if (decide (r 5 = -1) || decide (d ≤ r 5)) = false then 2
  else if bt dd (ix (r 0)) = true then 3
  else if r 2 ≤ nI (pcI (r 1 &&& (dd ^^^ (-1)))) then 0 else 4
/-- a power's row: giver, holders -/
def zPo1 (r : Nat → Int32) : Prop := (∃ g, g < 8 ∧ r 0 = nI g) ∧ zs8 (r 1)
theorem zs8_an {x y : Int32} (h : zs8 x) : zs8 (x &&& y) := fun i h1 h2 => by rw [b_and, h i h1 h2, Bool.false_and]
def k_X10_reason : zCt := fun as n mem Q => ∃ (x : Nat) (b : Bool) (d dd : Int32), as = [.ref x, .int (zb b), .int d, .int dd] ∧ zst n mem ∧ zis n x (.inl 5) ∧ zPo1 (mem.1 x) ∧ Q (some (.int (rsC (mem.1 x) b d dd))) n mem
theorem ok_X10_reason {l : Launch} {G : zG} : zOK l G yX10_reason cX10_reason 4 (some .int) 1 0 0 k_X10_reason := by
  intro as n mem Q hK
  obtain ⟨x, b, d, dd, rfl, ⟨hn, hF⟩, hx, ⟨⟨g, hg8, hg⟩, h8⟩, hQ⟩ := hK
  refine mtX10_reason ok_X10_has (by decide) ok_J6_bitCount_0f7a4 (by decide) (List.forall_mem_cons.mpr ⟨rfl, List.forall_mem_cons.mpr ⟨rfl, List.forall_mem_cons.mpr ⟨rfl, List.forall_mem_cons.mpr ⟨rfl, fun _ h => absurd h List.not_mem_nil⟩⟩⟩⟩) (by simp) rfl (fun P hP => ?_)
  show P 0 [.ref x, .int (zb b), .int d, .int dd] [] n mem
  have hxg := ix_nI (j := g) (by omega)
  refine hP _ _ _ _ _ ?_
  refine hP _ _ _ _ _ ⟨fun h1 => ?_, fun h1 => ?_⟩
  ·
    have h1 := zb_0.mp h1
    refine hP _ _ _ _ _ ?_
    refine hP _ _ _ _ _ ⟨hx, ?_⟩
    refine hP _ _ _ _ _ ?_
    refine hP _ _ _ _ _ ⟨fun h11 => ?_, fun h11 => ?_⟩
    ·
      refine hP _ _ _ _ _ ?_
      refine hP _ _ _ _ _ ?_
      refine hP _ _ _ _ _ ⟨hx, ?_⟩
      refine hP _ _ _ _ _ ⟨Nat.le_of_ble_eq_true rfl, Nat.le_of_ble_eq_true rfl, ?_⟩
      refine ⟨_, g, by rw [← hg]; rfl, by omega, ?_⟩
      refine hP _ _ _ _ _ ⟨fun h32 => ?_, fun h32 => ?_⟩
      ·
        have h32 := zb_0.mp h32
        refine hP _ _ _ _ _ ?_
        refine hP _ _ _ _ _ ⟨hx, ?_⟩
        refine hP _ _ _ _ _ ?_
        refine hP _ _ _ _ _ ?_
        refine hP _ _ _ _ _ ?_
        refine hP _ _ _ _ _ ?_
        refine hP _ _ _ _ _ ⟨Nat.le_of_ble_eq_true rfl, Nat.le_of_ble_eq_true rfl, ?_⟩
        refine ⟨_, rfl, zs8_an h8, ?_⟩
        refine hP _ _ _ _ _ ?_
        refine hP _ _ _ _ _ ⟨hx, ?_⟩
        refine hP _ _ _ _ _ ⟨fun h52 => ?_, fun h52 => ?_⟩
        ·
          refine hP _ _ _ _ _ ?_
          refine hP _ _ _ _ _ ?_
          simp only [if_true, if_false, Bool.false_eq_true, Bool.true_eq_false, decide_true, decide_false, Bool.true_or, Bool.or_true, Bool.false_or, Bool.or_false, Bool.and_true, Bool.true_and, Bool.false_and, Bool.and_false, Bool.not_true, Bool.not_false, not_true_eq_false, not_false_eq_true, true_and, and_true, false_and, and_false, or_true, true_or, false_or, or_false, cond_true, cond_false, rsC, hg, hxg, h1, h11, h32, h52] at hQ
          exact ⟨rfl, hQ⟩
        ·
          refine hP _ _ _ _ _ ?_
          refine hP _ _ _ _ _ ?_
          refine hP _ _ _ _ _ ?_
          simp only [if_true, if_false, Bool.false_eq_true, Bool.true_eq_false, decide_true, decide_false, Bool.true_or, Bool.or_true, Bool.false_or, Bool.or_false, Bool.and_true, Bool.true_and, Bool.false_and, Bool.and_false, Bool.not_true, Bool.not_false, not_true_eq_false, not_false_eq_true, true_and, and_true, false_and, and_false, or_true, true_or, false_or, or_false, cond_true, cond_false, rsC, hg, hxg, h1, h11, h32, h52] at hQ
          exact ⟨rfl, hQ⟩
      ·
        have h32 := zb_n.mp h32
        refine hP _ _ _ _ _ ?_
        refine hP _ _ _ _ _ ?_
        simp only [if_true, if_false, Bool.false_eq_true, Bool.true_eq_false, decide_true, decide_false, Bool.true_or, Bool.or_true, Bool.false_or, Bool.or_false, Bool.and_true, Bool.true_and, Bool.false_and, Bool.and_false, Bool.not_true, Bool.not_false, not_true_eq_false, not_false_eq_true, true_and, and_true, false_and, and_false, or_true, true_or, false_or, or_false, cond_true, cond_false, rsC, hg, hxg, h1, h11, h32] at hQ
        exact ⟨rfl, hQ⟩
    ·
      refine hP _ _ _ _ _ ?_
      refine hP _ _ _ _ _ ?_
      refine hP _ _ _ _ _ ⟨hx, ?_⟩
      refine hP _ _ _ _ _ ⟨fun h19 => ?_, fun h19 => ?_⟩
      ·
        refine hP _ _ _ _ _ ?_
        refine hP _ _ _ _ _ ?_
        refine hP _ _ _ _ _ ⟨hx, ?_⟩
        refine hP _ _ _ _ _ ⟨Nat.le_of_ble_eq_true rfl, Nat.le_of_ble_eq_true rfl, ?_⟩
        refine ⟨_, g, by rw [← hg]; rfl, by omega, ?_⟩
        refine hP _ _ _ _ _ ⟨fun h32 => ?_, fun h32 => ?_⟩
        ·
          have h32 := zb_0.mp h32
          refine hP _ _ _ _ _ ?_
          refine hP _ _ _ _ _ ⟨hx, ?_⟩
          refine hP _ _ _ _ _ ?_
          refine hP _ _ _ _ _ ?_
          refine hP _ _ _ _ _ ?_
          refine hP _ _ _ _ _ ?_
          refine hP _ _ _ _ _ ⟨Nat.le_of_ble_eq_true rfl, Nat.le_of_ble_eq_true rfl, ?_⟩
          refine ⟨_, rfl, zs8_an h8, ?_⟩
          refine hP _ _ _ _ _ ?_
          refine hP _ _ _ _ _ ⟨hx, ?_⟩
          refine hP _ _ _ _ _ ⟨fun h52 => ?_, fun h52 => ?_⟩
          ·
            refine hP _ _ _ _ _ ?_
            refine hP _ _ _ _ _ ?_
            simp only [if_true, if_false, Bool.false_eq_true, Bool.true_eq_false, decide_true, decide_false, Bool.true_or, Bool.or_true, Bool.false_or, Bool.or_false, Bool.and_true, Bool.true_and, Bool.false_and, Bool.and_false, Bool.not_true, Bool.not_false, not_true_eq_false, not_false_eq_true, true_and, and_true, false_and, and_false, or_true, true_or, false_or, or_false, cond_true, cond_false, rsC, hg, hxg, h1, h11, h19, h32, h52] at hQ
            exact ⟨rfl, hQ⟩
          ·
            refine hP _ _ _ _ _ ?_
            refine hP _ _ _ _ _ ?_
            refine hP _ _ _ _ _ ?_
            simp only [if_true, if_false, Bool.false_eq_true, Bool.true_eq_false, decide_true, decide_false, Bool.true_or, Bool.or_true, Bool.false_or, Bool.or_false, Bool.and_true, Bool.true_and, Bool.false_and, Bool.and_false, Bool.not_true, Bool.not_false, not_true_eq_false, not_false_eq_true, true_and, and_true, false_and, and_false, or_true, true_or, false_or, or_false, cond_true, cond_false, rsC, hg, hxg, h1, h11, h19, h32, h52] at hQ
            exact ⟨rfl, hQ⟩
        ·
          have h32 := zb_n.mp h32
          refine hP _ _ _ _ _ ?_
          refine hP _ _ _ _ _ ?_
          simp only [if_true, if_false, Bool.false_eq_true, Bool.true_eq_false, decide_true, decide_false, Bool.true_or, Bool.or_true, Bool.false_or, Bool.or_false, Bool.and_true, Bool.true_and, Bool.false_and, Bool.and_false, Bool.not_true, Bool.not_false, not_true_eq_false, not_false_eq_true, true_and, and_true, false_and, and_false, or_true, true_or, false_or, or_false, cond_true, cond_false, rsC, hg, hxg, h1, h11, h19, h32] at hQ
          exact ⟨rfl, hQ⟩
      ·
        refine hP _ _ _ _ _ ?_
        refine hP _ _ _ _ _ ?_
        simp only [if_true, if_false, Bool.false_eq_true, Bool.true_eq_false, decide_true, decide_false, Bool.true_or, Bool.or_true, Bool.false_or, Bool.or_false, Bool.and_true, Bool.true_and, Bool.false_and, Bool.and_false, Bool.not_true, Bool.not_false, not_true_eq_false, not_false_eq_true, true_and, and_true, false_and, and_false, or_true, true_or, false_or, or_false, cond_true, cond_false, rsC, hg, hxg, h1, h11, h19] at hQ
        exact ⟨rfl, hQ⟩
  ·
    have h1 := zb_n.mp h1
    refine hP _ _ _ _ _ ?_
    refine hP _ _ _ _ _ ?_
    simp only [if_true, if_false, Bool.false_eq_true, Bool.true_eq_false, decide_true, decide_false, Bool.true_or, Bool.or_true, Bool.false_or, Bool.or_false, Bool.and_true, Bool.true_and, Bool.false_and, Bool.and_false, Bool.not_true, Bool.not_false, not_true_eq_false, not_false_eq_true, true_and, and_true, false_and, and_false, or_true, true_or, false_or, or_false, cond_true, cond_false, rsC, hg, hxg, h1] at hQ
    exact ⟨rfl, hQ⟩
def k_X10_reasonAt : zCt := fun as n mem Q => ∃ (x : Nat) (m d : Int32), as = [.ref 100, .ref x, .int m, .int d] ∧ zst n mem ∧ zis n x (.inl 5) ∧ zPo1 (mem.1 x) ∧ Q (some (.int (rsC (mem.1 x) (isby (mem.1 x 11) m) d (deadM (mem.1 113) m 8)))) n mem
theorem ok_X10_reasonAt {l : Launch} {G : zG} : zOK l G yX10_reasonAt cX10_reasonAt 5 (some .int) 2 0 0 k_X10_reasonAt := by
  intro as n mem Q hK
  obtain ⟨x, m, d, rfl, ⟨hn, hF⟩, hx, hP1, hQ⟩ := hK
  refine mtX10_reasonAt ok_X4_deadBy (by decide) ok_X10_reason (by decide) (List.forall_mem_cons.mpr ⟨rfl, List.forall_mem_cons.mpr ⟨rfl, List.forall_mem_cons.mpr ⟨rfl, List.forall_mem_cons.mpr ⟨rfl, fun _ h => absurd h List.not_mem_nil⟩⟩⟩⟩) (by simp) rfl (fun P hP => ?_)
  show P 0 [.ref 100, .ref x, .int m, .int d, .null] [] n mem
  refine hP _ _ _ _ _ ?_
  refine hP _ _ _ _ _ ⟨hx, ?_⟩
  refine hP _ _ _ _ _ ?_
  refine hP _ _ _ _ _ ⟨fun h5 => ?_, fun h5 => ?_⟩
  ·
    refine hP _ _ _ _ _ ?_
    refine hP _ _ _ _ _ ?_
    refine hP _ _ _ _ _ ?_
    refine hP _ _ _ _ _ ?_
    refine hP _ _ _ _ _ ?_
    refine hP _ _ _ _ _ ?_
    refine hP _ _ _ _ _ ⟨(zi hn rfl rfl rfl), _, fx_Book_log hF, (by decide), ?_⟩
    refine hP _ _ _ _ _ ?_
    refine hP _ _ _ _ _ ⟨(zi hn rfl rfl rfl), Nat.le_of_ble_eq_true rfl, Nat.le_of_ble_eq_true rfl, ?_⟩
    refine ⟨_, rfl, ⟨hn, hF⟩, ?_⟩
    refine hP _ _ _ _ _ ⟨Nat.le_of_ble_eq_true rfl, Nat.le_of_ble_eq_true rfl, ?_⟩
    refine ⟨x, isby (mem.1 x 11) m, _, _, by simp only [isby, h5, not_true_eq_false, not_false_eq_true, and_true, and_false, false_and, true_and, decide_true, decide_false]; rfl, ⟨hn, hF⟩, hx, hP1, ?_⟩
    refine hP _ _ _ _ _ ?_
    exact ⟨rfl, hQ⟩
  ·
    refine hP _ _ _ _ _ ?_
    refine hP _ _ _ _ _ ⟨hx, ?_⟩
    refine hP _ _ _ _ _ ?_
    refine hP _ _ _ _ _ ⟨fun h13 => ?_, fun h13 => ?_⟩
    ·
      refine hP _ _ _ _ _ ?_
      refine hP _ _ _ _ _ ?_
      refine hP _ _ _ _ _ ?_
      refine hP _ _ _ _ _ ?_
      refine hP _ _ _ _ _ ?_
      refine hP _ _ _ _ _ ?_
      refine hP _ _ _ _ _ ⟨(zi hn rfl rfl rfl), _, fx_Book_log hF, (by decide), ?_⟩
      refine hP _ _ _ _ _ ?_
      refine hP _ _ _ _ _ ⟨(zi hn rfl rfl rfl), Nat.le_of_ble_eq_true rfl, Nat.le_of_ble_eq_true rfl, ?_⟩
      refine ⟨_, rfl, ⟨hn, hF⟩, ?_⟩
      refine hP _ _ _ _ _ ⟨Nat.le_of_ble_eq_true rfl, Nat.le_of_ble_eq_true rfl, ?_⟩
      refine ⟨x, isby (mem.1 x 11) m, _, _, by simp only [isby, h5, h13, not_true_eq_false, not_false_eq_true, and_true, and_false, false_and, true_and, decide_true, decide_false]; rfl, ⟨hn, hF⟩, hx, hP1, ?_⟩
      refine hP _ _ _ _ _ ?_
      exact ⟨rfl, hQ⟩
    ·
      refine hP _ _ _ _ _ ?_
      refine hP _ _ _ _ _ ?_
      refine hP _ _ _ _ _ ?_
      refine hP _ _ _ _ _ ?_
      refine hP _ _ _ _ _ ?_
      refine hP _ _ _ _ _ ?_
      refine hP _ _ _ _ _ ?_
      refine hP _ _ _ _ _ ⟨(zi hn rfl rfl rfl), _, fx_Book_log hF, (by decide), ?_⟩
      refine hP _ _ _ _ _ ?_
      refine hP _ _ _ _ _ ⟨(zi hn rfl rfl rfl), Nat.le_of_ble_eq_true rfl, Nat.le_of_ble_eq_true rfl, ?_⟩
      refine ⟨_, rfl, ⟨hn, hF⟩, ?_⟩
      refine hP _ _ _ _ _ ⟨Nat.le_of_ble_eq_true rfl, Nat.le_of_ble_eq_true rfl, ?_⟩
      refine ⟨x, isby (mem.1 x 11) m, _, _, by simp only [isby, h5, h13, not_true_eq_false, not_false_eq_true, and_true, and_false, false_and, true_and, decide_true, decide_false]; rfl, ⟨hn, hF⟩, hx, hP1, ?_⟩
      refine hP _ _ _ _ _ ?_
      exact ⟨rfl, hQ⟩
/-- all those of a set -/
def lvC (up : Int32) (f : Nat → Int32) : Nat → Bool
  | 0 => true
  | i + 1 => lvC up f i && (!bt up i || decide (f i = 0))
theorem lvC_f {up : Int32} {f : Nat → Int32} {i : Nat} (h : lvC up f i = false) : ∀ j, i ≤ j → lvC up f j = false := by
  intro j
  induction j with
  | zero => intro hij; rw [← Nat.le_zero.mp hij]; exact h
  | succ j ih =>
    intro hij
    rcases Nat.lt_or_ge j i with q | q
    · rw [show j + 1 = i by omega]; exact h
    · rw [lvC, ih q, Bool.false_and]
/-- the rows of the powers in the class -/
def zPs (mem : zM) (t pw : Nat) : Prop := pw ≤ 20 ∧ ∀ p, p < pw → zPo1 (mem.1 (t + 2 + p))
def k_X10_liveAt : zCt := fun as n mem Q => ∃ (p t pw : Nat) (m d : Int32), as = [.ref 100, .int (nI p), .int m, .int d] ∧ zst n mem ∧ zTd mem t ∧ zPs mem t pw ∧ p < pw ∧ Q (some (.int (zb (lvC (mem.1 (t + 2 + p) 8) (fun i => rsC (mem.1 (t + 2 + i)) (isby (mem.1 (t + 2 + i) 11) m) d (deadM (mem.1 113) m 8)) (p + 1))))) n mem
theorem ok_X10_liveAt {l : Launch} {G : zG} : zOK l G yX10_liveAt cX10_liveAt 5 (some .boolean) 3 0 0 k_X10_liveAt := by
  intro as n mem Q hK
  obtain ⟨p, t, pw, m, d, rfl, ⟨hn, hF⟩, ⟨ht, hT⟩, ⟨hw, hPs⟩, hp, hQ⟩ := hK
  refine mtX10_liveAt ok_X10_has (by decide) ok_X10_reasonAt (by decide) (List.forall_mem_cons.mpr ⟨rfl, List.forall_mem_cons.mpr ⟨rfl, List.forall_mem_cons.mpr ⟨rfl, List.forall_mem_cons.mpr ⟨rfl, fun _ h => absurd h List.not_mem_nil⟩⟩⟩⟩) (by simp) rfl (fun P hP => ?_)
  show P 0 [.ref 100, .int (nI p), .int m, .int d, .null] [] n mem
  have loop : ∀ i, i ≤ p + 1 → lvC (mem.1 (t + 2 + p) 8) (fun i => rsC (mem.1 (t + 2 + i)) (isby (mem.1 (t + 2 + i) 11) m) d (deadM (mem.1 113) m 8)) i = true → P 3 [.ref 100, .int (nI p), .int m, .int d, .int (nI i)] [] n mem := by
    refine zloop ?_ ?_
    · intro hl
      rw [hl] at hQ
      refine hP _ _ _ _ _ ?_
      refine hP _ _ _ _ _ ?_
      refine hP _ _ _ _ _ ⟨fun _ => ?_, fun hz => absurd ( nI_lt (Nat.lt_succ_self _) (by omega)) hz⟩
      refine hP _ _ _ _ _ ?_
      refine hP _ _ _ _ _ ?_
      exact ⟨by decide, rfl, hQ⟩
    · intro i hi ih hl
      rw [nI_succ i, lvC, hl, Bool.true_and] at ih
      refine hP _ _ _ _ _ ?_
      refine hP _ _ _ _ _ ?_
      refine hP _ _ _ _ _ ⟨fun hz => absurd hz ( nI_nlt (by omega) (by omega)), fun _ => ?_⟩
      refine hP _ _ _ _ _ ?_
      refine hP _ _ _ _ _ ⟨(zi hn rfl rfl rfl), _, ht, (by omega), ?_⟩
      refine hP _ _ _ _ _ ⟨(ztT hn hT), _, (fx_tp hF hT), (by omega), ?_⟩
      refine hP _ _ _ _ _ ?_
      refine hP _ _ _ _ _ ⟨_, p, (ztA hn hT), rfl, by omega, _, (fx_pw hF hT (by omega)), (by omega), ?_⟩
      refine hP _ _ _ _ _ ⟨(ztP hn hT (by omega)), ?_⟩
      refine hP _ _ _ _ _ ?_
      refine hP _ _ _ _ _ ⟨Nat.le_of_ble_eq_true rfl, Nat.le_of_ble_eq_true rfl, ?_⟩
      refine ⟨_, i, rfl, by omega, ?_⟩
      refine hP _ _ _ _ _ ⟨fun h26 => ?_, fun h26 => ?_⟩
      ·
        have h26 := zb_0.mp h26
        refine hP _ _ _ _ _ ?_
        refine hP _ _ _ _ _ ?_
        first | exact ih (by rw [h26]; rfl) | exact ih (by rw [decide_eq_true h45, Bool.or_true])
      ·
        have h26 := zb_n.mp h26
        refine hP _ _ _ _ _ ?_
        refine hP _ _ _ _ _ ?_
        refine hP _ _ _ _ _ ⟨(zi hn rfl rfl rfl), _, ht, (by omega), ?_⟩
        refine hP _ _ _ _ _ ⟨(ztT hn hT), _, (fx_tp hF hT), (by omega), ?_⟩
        refine hP _ _ _ _ _ ?_
        refine hP _ _ _ _ _ ⟨_, i, (ztA hn hT), rfl, by omega, _, (fx_pw hF hT (by omega)), (by omega), ?_⟩
        refine hP _ _ _ _ _ ?_
        refine hP _ _ _ _ _ ?_
        refine hP _ _ _ _ _ ⟨(zi hn rfl rfl rfl), Nat.le_of_ble_eq_true rfl, Nat.le_of_ble_eq_true rfl, ?_⟩
        refine ⟨_, _, _, rfl, ⟨hn, hF⟩, ztP hn hT (by omega), hPs i (by omega), ?_⟩
        refine hP _ _ _ _ _ ⟨fun h45 => ?_, fun h45 => ?_⟩
        ·
          refine hP _ _ _ _ _ ?_
          refine hP _ _ _ _ _ ?_
          first | exact ih (by rw [h26]; rfl) | exact ih (by rw [decide_eq_true h45, Bool.or_true])
        ·
          refine hP _ _ _ _ _ ?_
          refine hP _ _ _ _ _ ?_
          have hf := lvC_f (up := mem.1 (t + 2 + p) 8) (f := fun i => rsC (mem.1 (t + 2 + i)) (isby (mem.1 (t + 2 + i) 11) m) d (deadM (mem.1 113) m 8)) (i := i + 1) (by rw [lvC, hl, h26, decide_eq_false h45]; rfl) (p + 1) (by omega)
          rw [hf] at hQ
          exact ⟨by decide, rfl, hQ⟩
  refine hP _ _ _ _ _ ?_
  refine hP _ _ _ _ _ ?_
  exact loop 0 (by omega) rfl
def k_X10_wasLive : zCt := fun as n mem Q => ∃ (p t pw m : Nat), as = [.ref 100, .int (nI p), .int (nI m)] ∧ zst n mem ∧ zTd mem t ∧ zPs mem t pw ∧ p < pw ∧ m ≤ 300 ∧ Q (some (.int (zb (lvC (mem.1 (t + 2 + p) 8) (fun i => rsC (mem.1 (t + 2 + i)) (isby (mem.1 (t + 2 + i) 11) (nI m)) (mem.1 109 m) (deadM (mem.1 113) (nI m) 8)) (p + 1))))) n mem
theorem ok_X10_wasLive {l : Launch} {G : zG} : zOK l G yX10_wasLive cX10_wasLive 3 (some .boolean) 4 0 0 k_X10_wasLive := by
  intro as n mem Q hK
  obtain ⟨p, t, pw, m, rfl, ⟨hn, hF⟩, hTd, hPs, hp, hm, hQ⟩ := hK
  refine mtX10_wasLive ok_X10_liveAt (by decide) (List.forall_mem_cons.mpr ⟨rfl, List.forall_mem_cons.mpr ⟨rfl, List.forall_mem_cons.mpr ⟨rfl, fun _ h => absurd h List.not_mem_nil⟩⟩⟩) (by simp) rfl (fun P hP => ?_)
  show P 0 [.ref 100, .int (nI p), .int (nI m)] [] n mem
  refine hP _ _ _ _ _ ?_
  refine hP _ _ _ _ _ ?_
  refine hP _ _ _ _ _ ?_
  refine hP _ _ _ _ _ ?_
  refine hP _ _ _ _ _ ⟨(zi hn rfl rfl rfl), _, fx_Book_log hF, (by decide), ?_⟩
  refine hP _ _ _ _ _ ⟨(zi hn rfl rfl rfl), _, fx_Log_dayAt hF, (by decide), ?_⟩
  refine hP _ _ _ _ _ ?_
  refine hP _ _ _ _ _ ⟨_, m, (zi hn rfl rfl rfl), rfl, by omega, ?_⟩
  refine hP _ _ _ _ _ ⟨(zi hn rfl rfl rfl), Nat.le_of_ble_eq_true rfl, Nat.le_of_ble_eq_true rfl, ?_⟩
  refine ⟨p, t, pw, _, _, rfl, ⟨hn, hF⟩, hTd, hPs, hp, ?_⟩
  refine hP _ _ _ _ _ ?_
  exact ⟨zb_or _, rfl, hQ⟩
/-- narrowed at a moment: one of a set -/
def nrC (mem : zM) (up : Int32) (k : Nat) : Bool := !decide (mem.1 110 k = -1) && bt up (ix (mem.1 110 k))
def zNr (mem : zM) (m : Nat) : Prop := m ≤ 300 ∧ ∀ k, 1 ≤ k → k ≤ m → (mem.1 110 k = -1 ∨ ∃ p, p < 20 ∧ mem.1 110 k = nI p)
def k_X4_narrowsOneOf : zCt := fun as n mem Q => ∃ (up : Int32) (k m : Nat), as = [.ref 108, .int up, .int (nI k)] ∧ zst n mem ∧ zNr mem m ∧ 1 ≤ k ∧ k ≤ m ∧ Q (some (.int (zb (nrC mem up k)))) n mem
theorem ok_X4_narrowsOneOf {l : Launch} {G : zG} : zOK l G yX4_narrowsOneOf cX4_narrowsOneOf 3 (some .boolean) 1 0 0 k_X4_narrowsOneOf := by
  intro as n mem Q hK
  obtain ⟨up, k, m, rfl, ⟨hn, hF⟩, ⟨hm, hN⟩, hk1, hkm, hQ⟩ := hK
  refine mtX4_narrowsOneOf ok_X10_has (by decide) (List.forall_mem_cons.mpr ⟨rfl, List.forall_mem_cons.mpr ⟨rfl, List.forall_mem_cons.mpr ⟨rfl, fun _ h => absurd h List.not_mem_nil⟩⟩⟩) (by simp) rfl (fun P hP => ?_)
  show P 0 [.ref 108, .int up, .int (nI k)] [] n mem
  have hN := hN k hk1 hkm
  refine hP _ _ _ _ _ ?_
  refine hP _ _ _ _ _ ⟨(zi hn rfl rfl rfl), _, fx_Log_narrowed hF, (by decide), ?_⟩
  refine hP _ _ _ _ _ ?_
  refine hP _ _ _ _ _ ⟨_, k, (zi hn rfl rfl rfl), rfl, by omega, ?_⟩
  refine hP _ _ _ _ _ ?_
  refine hP _ _ _ _ _ ⟨fun h7 => ?_, fun h7 => ?_⟩
  ·
    refine hP _ _ _ _ _ ?_
    refine hP _ _ _ _ _ ?_
    exact ⟨by decide, rfl, by simpa [zb, nrC, h7] using hQ⟩
  ·
    obtain ⟨p, hp, hpe⟩ := hN.resolve_left h7
    have hxp := ix_nI (j := p) (by omega)
    have hp1 := m1_ne (a := p) (by omega)
    refine hP _ _ _ _ _ ?_
    refine hP _ _ _ _ _ ?_
    refine hP _ _ _ _ _ ⟨(zi hn rfl rfl rfl), _, fx_Log_narrowed hF, (by decide), ?_⟩
    refine hP _ _ _ _ _ ?_
    refine hP _ _ _ _ _ ⟨_, k, (zi hn rfl rfl rfl), rfl, by omega, ?_⟩
    refine hP _ _ _ _ _ ⟨Nat.le_of_ble_eq_true rfl, Nat.le_of_ble_eq_true rfl, ?_⟩
    refine ⟨_, p, by rw [← hpe]; rfl, by omega, ?_⟩
    refine hP _ _ _ _ _ ⟨fun h20 => ?_, fun h20 => ?_⟩
    ·
      have h20 := zb_0.mp h20
      refine hP _ _ _ _ _ ?_
      refine hP _ _ _ _ _ ?_
      exact ⟨by decide, rfl, by simpa [zb, nrC, h7, hpe, hxp, hp1, h20] using hQ⟩
    ·
      have h20 := zb_n.mp h20
      refine hP _ _ _ _ _ ?_
      refine hP _ _ _ _ _ ?_
      refine hP _ _ _ _ _ ?_
      exact ⟨by decide, rfl, by simpa [zb, nrC, h7, hpe, hxp, hp1, h20] using hQ⟩
def kA1 (up : Int32) (f : Nat → Int32) : Nat → Int32
  | 0 => 63
  | i + 1 => kA1 up f i &&& (if bt up i = true then f i else kA1 up f i)
def kA2 (mem : zM) (up s : Int32) : Nat → Int32
  | 0 => s
  | k + 1 => kA2 mem up s k &&& (if nrC mem up (k + 1) = true then mem.1 111 (k + 1) else kA2 mem up s k)
def mA1 (up : Int32) (f : Nat → Int32) : Nat → Int32
  | 0 => 999
  | i + 1 => if bt up i = true then (if f i < mA1 up f i then f i else mA1 up f i) else mA1 up f i
def mA2 (mem : zM) (up s : Int32) : Nat → Int32
  | 0 => s
  | k + 1 => if nrC mem up (k + 1) = true then (if mem.1 112 (k + 1) < mA2 mem up s k then mem.1 112 (k + 1) else mA2 mem up s k) else mA2 mem up s k
def k_X10_kindsAt : zCt := fun as n mem Q => ∃ (p t k m : Nat), as = [.ref 100, .int (nI p), .int (nI k)] ∧ zst n mem ∧ zTd mem t ∧ p < 20 ∧ zNr mem m ∧ k ≤ m ∧ Q (some (.int (kA2 mem (mem.1 (t + 2 + p) 8) (kA1 (mem.1 (t + 2 + p) 8) (fun i => mem.1 (t + 2 + i) 3) (p + 1)) k))) n mem
theorem ok_X10_kindsAt {l : Launch} {G : zG} : zOK l G yX10_kindsAt cX10_kindsAt 6 (some .int) 2 0 0 k_X10_kindsAt := by
  intro as n mem Q hK
  obtain ⟨p, t, k, m, rfl, ⟨hn, hF⟩, ⟨ht, hT⟩, hp, hN, hk, hQ⟩ := hK
  refine mtX10_kindsAt ok_X10_has (by decide) ok_X4_narrowsOneOf (by decide) (List.forall_mem_cons.mpr ⟨rfl, List.forall_mem_cons.mpr ⟨rfl, List.forall_mem_cons.mpr ⟨rfl, fun _ h => absurd h List.not_mem_nil⟩⟩⟩) (by simp) rfl (fun P hP => ?_)
  show P 0 [.ref 100, .int (nI p), .int (nI k), .null, .null, .null] [] n mem
  have hm := hN.1
  have loop2 : ∀ i, i ≤ k → P 67 [.ref 100, .int (nI p), .int (nI k), .int (mem.1 (t + 2 + p) 8), .int (kA2 mem (mem.1 (t + 2 + p) 8) (kA1 (mem.1 (t + 2 + p) 8) (fun i => mem.1 (t + 2 + i) 3) (p + 1)) i), .int (nI (i + 1))] [] n mem := by
    refine zloop ?_ ?_
    ·
      refine hP _ _ _ _ _ ?_
      refine hP _ _ _ _ _ ?_
      refine hP _ _ _ _ _ ⟨fun _ => ?_, fun hz => absurd ( nI_lt (Nat.lt_succ_self _) (by omega)) hz⟩
      refine hP _ _ _ _ _ ?_
      refine hP _ _ _ _ _ ?_
      exact ⟨rfl, hQ⟩
    · intro i hi ih
      rw [nI_succ (i + 1), kA2] at ih
      refine hP _ _ _ _ _ ?_
      refine hP _ _ _ _ _ ?_
      refine hP _ _ _ _ _ ⟨fun hz => absurd hz ( nI_nlt (by omega) (by omega)), fun _ => ?_⟩
      refine hP _ _ _ _ _ ?_
      refine hP _ _ _ _ _ ?_
      refine hP _ _ _ _ _ ⟨(zi hn rfl rfl rfl), _, fx_Book_log hF, (by decide), ?_⟩
      refine hP _ _ _ _ _ ?_
      refine hP _ _ _ _ _ ?_
      refine hP _ _ _ _ _ ⟨(zi hn rfl rfl rfl), Nat.le_of_ble_eq_true rfl, Nat.le_of_ble_eq_true rfl, ?_⟩
      refine ⟨_, i + 1, m, rfl, ⟨hn, hF⟩, hN, by omega, by omega, ?_⟩
      refine hP _ _ _ _ _ ⟨fun h85 => ?_, fun h85 => ?_⟩
      ·
        have h85 := zb_0.mp h85
        refine hP _ _ _ _ _ ?_
        refine hP _ _ _ _ _ ?_
        refine hP _ _ _ _ _ ?_
        refine hP _ _ _ _ _ ?_
        refine hP _ _ _ _ _ ?_
        rw [h85] at ih
        exact ih
      ·
        have h85 := zb_n.mp h85
        refine hP _ _ _ _ _ ?_
        refine hP _ _ _ _ _ ⟨(zi hn rfl rfl rfl), _, fx_Book_log hF, (by decide), ?_⟩
        refine hP _ _ _ _ _ ⟨(zi hn rfl rfl rfl), _, fx_Log_kindsTo hF, (by decide), ?_⟩
        refine hP _ _ _ _ _ ?_
        refine hP _ _ _ _ _ ⟨_, i + 1, (zi hn rfl rfl rfl), rfl, by omega, ?_⟩
        refine hP _ _ _ _ _ ?_
        refine hP _ _ _ _ _ ?_
        refine hP _ _ _ _ _ ?_
        refine hP _ _ _ _ _ ?_
        refine hP _ _ _ _ _ ?_
        rw [h85] at ih
        exact ih
  have loop1 : ∀ i, i ≤ p + 1 → P 20 [.ref 100, .int (nI p), .int (nI k), .int (mem.1 (t + 2 + p) 8), .int (kA1 (mem.1 (t + 2 + p) 8) (fun i => mem.1 (t + 2 + i) 3) i), .int (nI i)] [] n mem := by
    refine zloop ?_ ?_
    ·
      refine hP _ _ _ _ _ ?_
      refine hP _ _ _ _ _ ?_
      refine hP _ _ _ _ _ ⟨fun _ => ?_, fun hz => absurd ( nI_lt (Nat.lt_succ_self _) (by omega)) hz⟩
      refine hP _ _ _ _ _ ?_
      refine hP _ _ _ _ _ ?_
      exact loop2 0 (by omega)
    · intro i hi ih
      rw [nI_succ i, kA1] at ih
      refine hP _ _ _ _ _ ?_
      refine hP _ _ _ _ _ ?_
      refine hP _ _ _ _ _ ⟨fun hz => absurd hz ( nI_nlt (by omega) (by omega)), fun _ => ?_⟩
      refine hP _ _ _ _ _ ?_
      refine hP _ _ _ _ _ ?_
      refine hP _ _ _ _ _ ?_
      refine hP _ _ _ _ _ ⟨Nat.le_of_ble_eq_true rfl, Nat.le_of_ble_eq_true rfl, ?_⟩
      refine ⟨_, i, rfl, by omega, ?_⟩
      refine hP _ _ _ _ _ ⟨fun h34 => ?_, fun h34 => ?_⟩
      ·
        have h34 := zb_0.mp h34
        refine hP _ _ _ _ _ ?_
        refine hP _ _ _ _ _ ?_
        refine hP _ _ _ _ _ ?_
        refine hP _ _ _ _ _ ?_
        refine hP _ _ _ _ _ ?_
        rw [h34] at ih
        exact ih
      ·
        have h34 := zb_n.mp h34
        refine hP _ _ _ _ _ ?_
        refine hP _ _ _ _ _ ⟨(zi hn rfl rfl rfl), _, ht, (by omega), ?_⟩
        refine hP _ _ _ _ _ ⟨(ztT hn hT), _, (fx_tp hF hT), (by omega), ?_⟩
        refine hP _ _ _ _ _ ?_
        refine hP _ _ _ _ _ ⟨_, i, (ztA hn hT), rfl, by omega, _, (fx_pw hF hT (by omega)), (by omega), ?_⟩
        refine hP _ _ _ _ _ ⟨(ztP hn hT (by omega)), ?_⟩
        refine hP _ _ _ _ _ ?_
        refine hP _ _ _ _ _ ?_
        refine hP _ _ _ _ _ ?_
        refine hP _ _ _ _ _ ?_
        refine hP _ _ _ _ _ ?_
        rw [h34] at ih
        exact ih
  refine hP _ _ _ _ _ ?_
  refine hP _ _ _ _ _ ⟨(zi hn rfl rfl rfl), _, ht, (by omega), ?_⟩
  refine hP _ _ _ _ _ ⟨(ztT hn hT), _, (fx_tp hF hT), (by omega), ?_⟩
  refine hP _ _ _ _ _ ?_
  refine hP _ _ _ _ _ ⟨_, p, (ztA hn hT), rfl, by omega, _, (fx_pw hF hT (by omega)), (by omega), ?_⟩
  refine hP _ _ _ _ _ ⟨(ztP hn hT (by omega)), ?_⟩
  refine hP _ _ _ _ _ ?_
  refine hP _ _ _ _ _ ?_
  refine hP _ _ _ _ _ ?_
  refine hP _ _ _ _ _ ?_
  refine hP _ _ _ _ _ ?_
  exact loop1 0 (by omega)
def k_X10_mostAt : zCt := fun as n mem Q => ∃ (p t k m : Nat), as = [.ref 100, .int (nI p), .int (nI k)] ∧ zst n mem ∧ zTd mem t ∧ p < 20 ∧ zNr mem m ∧ k ≤ m ∧ Q (some (.int (mA2 mem (mem.1 (t + 2 + p) 8) (mA1 (mem.1 (t + 2 + p) 8) (fun i => mem.1 (t + 2 + i) 4) (p + 1)) k))) n mem
theorem ok_X10_mostAt {l : Launch} {G : zG} : zOK l G yX10_mostAt cX10_mostAt 6 (some .int) 2 0 0 k_X10_mostAt := by
  intro as n mem Q hK
  obtain ⟨p, t, k, m, rfl, ⟨hn, hF⟩, ⟨ht, hT⟩, hp, hN, hk, hQ⟩ := hK
  refine mtX10_mostAt ok_X10_has (by decide) ok_X4_narrowsOneOf (by decide) (by decide) (List.forall_mem_cons.mpr ⟨rfl, List.forall_mem_cons.mpr ⟨rfl, List.forall_mem_cons.mpr ⟨rfl, fun _ h => absurd h List.not_mem_nil⟩⟩⟩) (by simp) rfl (fun P hP => ?_)
  show P 0 [.ref 100, .int (nI p), .int (nI k), .null, .null, .null] [] n mem
  have hm := hN.1
  have loop2 : ∀ i, i ≤ k → P 70 [.ref 100, .int (nI p), .int (nI k), .int (mem.1 (t + 2 + p) 8), .int (mA2 mem (mem.1 (t + 2 + p) 8) (mA1 (mem.1 (t + 2 + p) 8) (fun i => mem.1 (t + 2 + i) 4) (p + 1)) i), .int (nI (i + 1))] [] n mem := by
    refine zloop ?_ ?_
    ·
      refine hP _ _ _ _ _ ?_
      refine hP _ _ _ _ _ ?_
      refine hP _ _ _ _ _ ⟨fun _ => ?_, fun hz => absurd ( nI_lt (Nat.lt_succ_self _) (by omega)) hz⟩
      refine hP _ _ _ _ _ ?_
      refine hP _ _ _ _ _ ?_
      exact ⟨rfl, hQ⟩
    · intro i hi ih
      rw [nI_succ (i + 1), mA2] at ih
      refine hP _ _ _ _ _ ?_
      refine hP _ _ _ _ _ ?_
      refine hP _ _ _ _ _ ⟨fun hz => absurd hz ( nI_nlt (by omega) (by omega)), fun _ => ?_⟩
      refine hP _ _ _ _ _ ?_
      refine hP _ _ _ _ _ ⟨(zi hn rfl rfl rfl), _, fx_Book_log hF, (by decide), ?_⟩
      refine hP _ _ _ _ _ ?_
      refine hP _ _ _ _ _ ?_
      refine hP _ _ _ _ _ ⟨(zi hn rfl rfl rfl), Nat.le_of_ble_eq_true rfl, Nat.le_of_ble_eq_true rfl, ?_⟩
      refine ⟨_, i + 1, m, rfl, ⟨hn, hF⟩, hN, by omega, by omega, ?_⟩
      refine hP _ _ _ _ _ ⟨fun h86 => ?_, fun h86 => ?_⟩
      ·
        have h86 := zb_0.mp h86
        refine hP _ _ _ _ _ ?_
        refine hP _ _ _ _ _ ?_
        refine hP _ _ _ _ _ ?_
        refine hP _ _ _ _ _ ?_
        rw [h86] at ih
        exact ih
      ·
        have h86 := zb_n.mp h86
        refine hP _ _ _ _ _ ?_
        refine hP _ _ _ _ _ ?_
        refine hP _ _ _ _ _ ⟨(zi hn rfl rfl rfl), _, fx_Book_log hF, (by decide), ?_⟩
        refine hP _ _ _ _ _ ⟨(zi hn rfl rfl rfl), _, fx_Log_mostTo hF, (by decide), ?_⟩
        refine hP _ _ _ _ _ ?_
        refine hP _ _ _ _ _ ⟨_, i + 1, (zi hn rfl rfl rfl), rfl, by omega, ?_⟩
        refine hP _ _ _ _ _ ⟨Nat.le_of_ble_eq_true rfl, ?_⟩
        refine hP _ _ _ _ _ ?_
        refine hP _ _ _ _ _ ?_
        refine hP _ _ _ _ _ ?_
        refine hP _ _ _ _ _ ?_
        rw [h86] at ih
        exact ih
  have loop1 : ∀ i, i ≤ p + 1 → P 21 [.ref 100, .int (nI p), .int (nI k), .int (mem.1 (t + 2 + p) 8), .int (mA1 (mem.1 (t + 2 + p) 8) (fun i => mem.1 (t + 2 + i) 4) i), .int (nI i)] [] n mem := by
    refine zloop ?_ ?_
    ·
      refine hP _ _ _ _ _ ?_
      refine hP _ _ _ _ _ ?_
      refine hP _ _ _ _ _ ⟨fun _ => ?_, fun hz => absurd ( nI_lt (Nat.lt_succ_self _) (by omega)) hz⟩
      refine hP _ _ _ _ _ ?_
      refine hP _ _ _ _ _ ?_
      exact loop2 0 (by omega)
    · intro i hi ih
      rw [nI_succ i, mA1] at ih
      refine hP _ _ _ _ _ ?_
      refine hP _ _ _ _ _ ?_
      refine hP _ _ _ _ _ ⟨fun hz => absurd hz ( nI_nlt (by omega) (by omega)), fun _ => ?_⟩
      refine hP _ _ _ _ _ ?_
      refine hP _ _ _ _ _ ?_
      refine hP _ _ _ _ _ ⟨Nat.le_of_ble_eq_true rfl, Nat.le_of_ble_eq_true rfl, ?_⟩
      refine ⟨_, i, rfl, by omega, ?_⟩
      refine hP _ _ _ _ _ ⟨fun h33 => ?_, fun h33 => ?_⟩
      ·
        have h33 := zb_0.mp h33
        refine hP _ _ _ _ _ ?_
        refine hP _ _ _ _ _ ?_
        refine hP _ _ _ _ _ ?_
        refine hP _ _ _ _ _ ?_
        rw [h33] at ih
        exact ih
      ·
        have h33 := zb_n.mp h33
        refine hP _ _ _ _ _ ?_
        refine hP _ _ _ _ _ ?_
        refine hP _ _ _ _ _ ⟨(zi hn rfl rfl rfl), _, ht, (by omega), ?_⟩
        refine hP _ _ _ _ _ ⟨(ztT hn hT), _, (fx_tp hF hT), (by omega), ?_⟩
        refine hP _ _ _ _ _ ?_
        refine hP _ _ _ _ _ ⟨_, i, (ztA hn hT), rfl, by omega, _, (fx_pw hF hT (by omega)), (by omega), ?_⟩
        refine hP _ _ _ _ _ ⟨(ztP hn hT (by omega)), ?_⟩
        refine hP _ _ _ _ _ ⟨Nat.le_of_ble_eq_true rfl, ?_⟩
        refine hP _ _ _ _ _ ?_
        refine hP _ _ _ _ _ ?_
        refine hP _ _ _ _ _ ?_
        refine hP _ _ _ _ _ ?_
        rw [h33] at ih
        exact ih
  refine hP _ _ _ _ _ ?_
  refine hP _ _ _ _ _ ⟨(zi hn rfl rfl rfl), _, ht, (by omega), ?_⟩
  refine hP _ _ _ _ _ ⟨(ztT hn hT), _, (fx_tp hF hT), (by omega), ?_⟩
  refine hP _ _ _ _ _ ?_
  refine hP _ _ _ _ _ ⟨_, p, (ztA hn hT), rfl, by omega, _, (fx_pw hF hT (by omega)), (by omega), ?_⟩
  refine hP _ _ _ _ _ ⟨(ztP hn hT (by omega)), ?_⟩
  refine hP _ _ _ _ _ ?_
  refine hP _ _ _ _ _ ?_
  refine hP _ _ _ _ _ ?_
  refine hP _ _ _ _ _ ?_
  refine hP _ _ _ _ _ ?_
  exact loop1 0 (by omega)
