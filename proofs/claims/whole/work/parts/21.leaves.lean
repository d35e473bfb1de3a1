
/-! ===== small methods ===== -/
def zst (n : Nat) (mem : zM) : Prop := 97 ≤ n ∧ zFx mem
def isby (w m : Int32) : Bool := decide (¬ w = -1 ∧ ¬ m < w)
def isin (v a b : Int32) : Bool := decide (¬ v < a ∧ ¬ b < v)
theorem nlin (k a w : Nat) : nI k * nI a + nI w = nI (k * a + w) := by rw [pk_mul, nI_add]
theorem nmul (k a : Nat) : nI k * nI a = nI (k * a) := pk_mul k a
def k_X10_has : zCt := fun as n mem Q => ∃ (x : Int32) (j : Nat), as = [.int x, .int (nI j)] ∧ j < 32 ∧ Q (some (.int (zb (bt x j)))) n mem
theorem ok_X10_has {l : Launch} {G : zG} : zOK l G yX10_has cX10_has 2 (some .boolean) 0 0 0 k_X10_has := by
  intro as n mem Q hK
  obtain ⟨x, j, rfl, hj, hQ⟩ := hK
  refine mtX10_has (List.forall_mem_cons.mpr ⟨rfl, List.forall_mem_cons.mpr ⟨rfl, fun _ h => absurd h List.not_mem_nil⟩⟩) (by simp) rfl (fun P hP => ?_)
  show P 0 [.int x, .int (nI j)] [] n mem
  have e := has_bt x hj
  refine hP _ _ _ _ _ ?_
  refine hP _ _ _ _ _ ?_
  refine hP _ _ _ _ _ ?_
  refine hP _ _ _ _ _ ?_
  refine hP _ _ _ _ _ ?_
  refine hP _ _ _ _ _ ⟨fun h5 => ?_, fun h5 => ?_⟩
  ·
    have hb : bt x j = false := zb_0.mp (e.symm.trans h5)
    refine hP _ _ _ _ _ ?_
    refine hP _ _ _ _ _ ?_
    exact ⟨by decide, rfl, by simpa [hb, zb] using hQ⟩
  ·
    have hb : bt x j = true := zb_n.mp (fun q => h5 (e.trans q))
    refine hP _ _ _ _ _ ?_
    refine hP _ _ _ _ _ ?_
    refine hP _ _ _ _ _ ?_
    exact ⟨by decide, rfl, by simpa [hb, zb] using hQ⟩
def k_X11_has : zCt := k_X10_has
theorem ok_X11_has {l : Launch} {G : zG} : zOK l G yX11_has cX11_has 2 (some .boolean) 0 0 0 k_X11_has := by
  intro as n mem Q hK
  obtain ⟨x, j, rfl, hj, hQ⟩ := hK
  refine mtX11_has (List.forall_mem_cons.mpr ⟨rfl, List.forall_mem_cons.mpr ⟨rfl, fun _ h => absurd h List.not_mem_nil⟩⟩) (by simp) rfl (fun P hP => ?_)
  show P 0 [.int x, .int (nI j)] [] n mem
  have e := has_bt x hj
  refine hP _ _ _ _ _ ?_
  refine hP _ _ _ _ _ ?_
  refine hP _ _ _ _ _ ?_
  refine hP _ _ _ _ _ ?_
  refine hP _ _ _ _ _ ?_
  refine hP _ _ _ _ _ ?_
  refine hP _ _ _ _ _ ⟨fun h6 => ?_, fun h6 => ?_⟩
  ·
    have hb : bt x j = true := zb_1.mp (e.symm.trans h6)
    refine hP _ _ _ _ _ ?_
    refine hP _ _ _ _ _ ?_
    refine hP _ _ _ _ _ ?_
    exact ⟨by decide, rfl, by simpa [hb, zb] using hQ⟩
  ·
    have hb : bt x j = false := by cases hq : bt x j with | false => rfl | true => exact absurd (e.trans (by rw [hq]; rfl)) h6
    refine hP _ _ _ _ _ ?_
    refine hP _ _ _ _ _ ?_
    exact ⟨by decide, rfl, by simpa [hb, zb] using hQ⟩
def k_X11_isIn : zCt := fun as n mem Q => ∃ (v a b : Int32), as = [.int v, .int a, .int b] ∧ Q (some (.int (zb (isin v a b)))) n mem
theorem ok_X11_isIn {l : Launch} {G : zG} : zOK l G yX11_isIn cX11_isIn 3 (some .boolean) 0 0 0 k_X11_isIn := by
  intro as n mem Q hK
  obtain ⟨v, a, b, rfl, hQ⟩ := hK
  refine mtX11_isIn (List.forall_mem_cons.mpr ⟨rfl, List.forall_mem_cons.mpr ⟨rfl, List.forall_mem_cons.mpr ⟨rfl, fun _ h => absurd h List.not_mem_nil⟩⟩⟩) (by simp) rfl (fun P hP => ?_)
  show P 0 [.int v, .int a, .int b] [] n mem
  refine hP _ _ _ _ _ ?_
  refine hP _ _ _ _ _ ?_
  refine hP _ _ _ _ _ ⟨fun h2 => ?_, fun h2 => ?_⟩
  ·
    refine hP _ _ _ _ _ ?_
    refine hP _ _ _ _ _ ?_
    exact ⟨by decide, rfl, by simpa [zb, isin, h2] using hQ⟩
  ·
    refine hP _ _ _ _ _ ?_
    refine hP _ _ _ _ _ ?_
    refine hP _ _ _ _ _ ⟨fun h7 => ?_, fun h7 => ?_⟩
    ·
      refine hP _ _ _ _ _ ?_
      refine hP _ _ _ _ _ ?_
      exact ⟨by decide, rfl, by simpa [zb, isin, h2, h7] using hQ⟩
    ·
      refine hP _ _ _ _ _ ?_
      refine hP _ _ _ _ _ ?_
      refine hP _ _ _ _ _ ?_
      exact ⟨by decide, rfl, by simpa [zb, isin, h2, h7] using hQ⟩
def k_X11_isBy : zCt := fun as n mem Q => ∃ (w m : Int32), as = [.int w, .int m] ∧ Q (some (.int (zb (isby w m)))) n mem
theorem ok_X11_isBy {l : Launch} {G : zG} : zOK l G yX11_isBy cX11_isBy 2 (some .boolean) 0 0 0 k_X11_isBy := by
  intro as n mem Q hK
  obtain ⟨w, m, rfl, hQ⟩ := hK
  refine mtX11_isBy (List.forall_mem_cons.mpr ⟨rfl, List.forall_mem_cons.mpr ⟨rfl, fun _ h => absurd h List.not_mem_nil⟩⟩) (by simp) rfl (fun P hP => ?_)
  show P 0 [.int w, .int m] [] n mem
  refine hP _ _ _ _ _ ?_
  refine hP _ _ _ _ _ ?_
  refine hP _ _ _ _ _ ⟨fun h2 => ?_, fun h2 => ?_⟩
  ·
    refine hP _ _ _ _ _ ?_
    refine hP _ _ _ _ _ ?_
    exact ⟨by decide, rfl, by simpa [zb, isby, h2] using hQ⟩
  ·
    refine hP _ _ _ _ _ ?_
    refine hP _ _ _ _ _ ?_
    refine hP _ _ _ _ _ ⟨fun h7 => ?_, fun h7 => ?_⟩
    ·
      refine hP _ _ _ _ _ ?_
      refine hP _ _ _ _ _ ?_
      exact ⟨by decide, rfl, by simpa [zb, isby, h2, h7] using hQ⟩
    ·
      refine hP _ _ _ _ _ ?_
      refine hP _ _ _ _ _ ?_
      refine hP _ _ _ _ _ ?_
      exact ⟨by decide, rfl, by simpa [zb, isby, h2, h7] using hQ⟩
def dgt (c : Int32) : Bool := decide (¬ c < 48 ∧ ¬ 57 < c)
def ltr (c : Int32) : Bool := decide (¬ c < 97 ∧ ¬ 122 < c)
def k_X11_isDigit : zCt := fun as n mem Q => ∃ (c : Int32), as = [.int c] ∧ Q (some (.int (zb (dgt c)))) n mem
theorem ok_X11_isDigit {l : Launch} {G : zG} : zOK l G yX11_isDigit cX11_isDigit 1 (some .boolean) 0 0 0 k_X11_isDigit := by
  intro as n mem Q hK
  obtain ⟨c, rfl, hQ⟩ := hK
  refine mtX11_isDigit (List.forall_mem_cons.mpr ⟨rfl, fun _ h => absurd h List.not_mem_nil⟩) (by simp) rfl (fun P hP => ?_)
  show P 0 [.int c] [] n mem
  refine hP _ _ _ _ _ ?_
  refine hP _ _ _ _ _ ?_
  refine hP _ _ _ _ _ ⟨fun h3 => ?_, fun h3 => ?_⟩
  ·
    refine hP _ _ _ _ _ ?_
    refine hP _ _ _ _ _ ?_
    exact ⟨by decide, rfl, by simpa [zb, dgt, h3] using hQ⟩
  ·
    refine hP _ _ _ _ _ ?_
    refine hP _ _ _ _ _ ?_
    refine hP _ _ _ _ _ ⟨fun h9 => ?_, fun h9 => ?_⟩
    ·
      refine hP _ _ _ _ _ ?_
      refine hP _ _ _ _ _ ?_
      exact ⟨by decide, rfl, by simpa [zb, dgt, h3, h9] using hQ⟩
    ·
      refine hP _ _ _ _ _ ?_
      refine hP _ _ _ _ _ ?_
      refine hP _ _ _ _ _ ?_
      exact ⟨by decide, rfl, by simpa [zb, dgt, h3, h9] using hQ⟩
def k_X11_isLetter : zCt := fun as n mem Q => ∃ (c : Int32), as = [.int c] ∧ Q (some (.int (zb (ltr c)))) n mem
theorem ok_X11_isLetter {l : Launch} {G : zG} : zOK l G yX11_isLetter cX11_isLetter 1 (some .boolean) 0 0 0 k_X11_isLetter := by
  intro as n mem Q hK
  obtain ⟨c, rfl, hQ⟩ := hK
  refine mtX11_isLetter (List.forall_mem_cons.mpr ⟨rfl, fun _ h => absurd h List.not_mem_nil⟩) (by simp) rfl (fun P hP => ?_)
  show P 0 [.int c] [] n mem
  refine hP _ _ _ _ _ ?_
  refine hP _ _ _ _ _ ?_
  refine hP _ _ _ _ _ ⟨fun h3 => ?_, fun h3 => ?_⟩
  ·
    refine hP _ _ _ _ _ ?_
    refine hP _ _ _ _ _ ?_
    exact ⟨by decide, rfl, by simpa [zb, ltr, h3] using hQ⟩
  ·
    refine hP _ _ _ _ _ ?_
    refine hP _ _ _ _ _ ?_
    refine hP _ _ _ _ _ ⟨fun h9 => ?_, fun h9 => ?_⟩
    ·
      refine hP _ _ _ _ _ ?_
      refine hP _ _ _ _ _ ?_
      exact ⟨by decide, rfl, by simpa [zb, ltr, h3, h9] using hQ⟩
    ·
      refine hP _ _ _ _ _ ?_
      refine hP _ _ _ _ _ ?_
      refine hP _ _ _ _ _ ?_
      exact ⟨by decide, rfl, by simpa [zb, ltr, h3, h9] using hQ⟩
def k_X2_isDigit : zCt := k_X11_isDigit
theorem ok_X2_isDigit {l : Launch} {G : zG} : zOK l G yX2_isDigit cX2_isDigit 1 (some .boolean) 0 0 0 k_X2_isDigit := by
  intro as n mem Q hK
  obtain ⟨c, rfl, hQ⟩ := hK
  refine mtX2_isDigit (List.forall_mem_cons.mpr ⟨rfl, fun _ h => absurd h List.not_mem_nil⟩) (by simp) rfl (fun P hP => ?_)
  show P 0 [.int c] [] n mem
  refine hP _ _ _ _ _ ?_
  refine hP _ _ _ _ _ ?_
  refine hP _ _ _ _ _ ⟨fun h3 => ?_, fun h3 => ?_⟩
  ·
    refine hP _ _ _ _ _ ?_
    refine hP _ _ _ _ _ ?_
    exact ⟨by decide, rfl, by simpa [zb, dgt, h3] using hQ⟩
  ·
    refine hP _ _ _ _ _ ?_
    refine hP _ _ _ _ _ ?_
    refine hP _ _ _ _ _ ⟨fun h9 => ?_, fun h9 => ?_⟩
    ·
      refine hP _ _ _ _ _ ?_
      refine hP _ _ _ _ _ ?_
      exact ⟨by decide, rfl, by simpa [zb, dgt, h3, h9] using hQ⟩
    ·
      refine hP _ _ _ _ _ ?_
      refine hP _ _ _ _ _ ?_
      refine hP _ _ _ _ _ ?_
      exact ⟨by decide, rfl, by simpa [zb, dgt, h3, h9] using hQ⟩
def k_X2_isLetter : zCt := k_X11_isLetter
theorem ok_X2_isLetter {l : Launch} {G : zG} : zOK l G yX2_isLetter cX2_isLetter 1 (some .boolean) 0 0 0 k_X2_isLetter := by
  intro as n mem Q hK
  obtain ⟨c, rfl, hQ⟩ := hK
  refine mtX2_isLetter (List.forall_mem_cons.mpr ⟨rfl, fun _ h => absurd h List.not_mem_nil⟩) (by simp) rfl (fun P hP => ?_)
  show P 0 [.int c] [] n mem
  refine hP _ _ _ _ _ ?_
  refine hP _ _ _ _ _ ?_
  refine hP _ _ _ _ _ ⟨fun h3 => ?_, fun h3 => ?_⟩
  ·
    refine hP _ _ _ _ _ ?_
    refine hP _ _ _ _ _ ?_
    exact ⟨by decide, rfl, by simpa [zb, ltr, h3] using hQ⟩
  ·
    refine hP _ _ _ _ _ ?_
    refine hP _ _ _ _ _ ?_
    refine hP _ _ _ _ _ ⟨fun h9 => ?_, fun h9 => ?_⟩
    ·
      refine hP _ _ _ _ _ ?_
      refine hP _ _ _ _ _ ?_
      exact ⟨by decide, rfl, by simpa [zb, ltr, h3, h9] using hQ⟩
    ·
      refine hP _ _ _ _ _ ?_
      refine hP _ _ _ _ _ ?_
      refine hP _ _ _ _ _ ?_
      exact ⟨by decide, rfl, by simpa [zb, ltr, h3, h9] using hQ⟩
def blk (c : Int32) : Bool := decide (c = 32 ∨ c = 10)
def k_X2_isBlank : zCt := fun as n mem Q => ∃ (c : Int32), as = [.int c] ∧ Q (some (.int (zb (blk c)))) n mem
theorem ok_X2_isBlank {l : Launch} {G : zG} : zOK l G yX2_isBlank cX2_isBlank 1 (some .boolean) 0 0 0 k_X2_isBlank := by
  intro as n mem Q hK
  obtain ⟨c, rfl, hQ⟩ := hK
  refine mtX2_isBlank (List.forall_mem_cons.mpr ⟨rfl, fun _ h => absurd h List.not_mem_nil⟩) (by simp) rfl (fun P hP => ?_)
  show P 0 [.int c] [] n mem
  refine hP _ _ _ _ _ ?_
  refine hP _ _ _ _ _ ?_
  refine hP _ _ _ _ _ ⟨fun h3 => ?_, fun h3 => ?_⟩
  ·
    refine hP _ _ _ _ _ ?_
    refine hP _ _ _ _ _ ?_
    refine hP _ _ _ _ _ ?_
    exact ⟨by decide, rfl, by simpa [zb, blk, h3] using hQ⟩
  ·
    refine hP _ _ _ _ _ ?_
    refine hP _ _ _ _ _ ?_
    refine hP _ _ _ _ _ ⟨fun h9 => ?_, fun h9 => ?_⟩
    ·
      refine hP _ _ _ _ _ ?_
      refine hP _ _ _ _ _ ?_
      refine hP _ _ _ _ _ ?_
      exact ⟨by decide, rfl, by simpa [zb, blk, h3, h9] using hQ⟩
    ·
      refine hP _ _ _ _ _ ?_
      refine hP _ _ _ _ _ ?_
      exact ⟨by decide, rfl, by simpa [zb, blk, h3, h9] using hQ⟩
def k_X10_isKind : zCt := fun as n mem Q => ∃ (c : Int32), as = [.int c] ∧ Q (some (.int (zb (decide (¬ c < 0 ∧ ¬ 6 ≤ c))))) n mem
theorem ok_X10_isKind {l : Launch} {G : zG} : zOK l G yX10_isKind cX10_isKind 1 (some .boolean) 0 0 0 k_X10_isKind := by
  intro as n mem Q hK
  obtain ⟨c, rfl, hQ⟩ := hK
  refine mtX10_isKind (List.forall_mem_cons.mpr ⟨rfl, fun _ h => absurd h List.not_mem_nil⟩) (by simp) rfl (fun P hP => ?_)
  show P 0 [.int c] [] n mem
  refine hP _ _ _ _ _ ?_
  refine hP _ _ _ _ _ ⟨fun h1 => ?_, fun h1 => ?_⟩
  ·
    refine hP _ _ _ _ _ ?_
    refine hP _ _ _ _ _ ?_
    exact ⟨by decide, rfl, by simpa [zb, h1] using hQ⟩
  ·
    refine hP _ _ _ _ _ ?_
    refine hP _ _ _ _ _ ?_
    refine hP _ _ _ _ _ ⟨fun h7 => ?_, fun h7 => ?_⟩
    ·
      refine hP _ _ _ _ _ ?_
      refine hP _ _ _ _ _ ?_
      exact ⟨by decide, rfl, by simpa [zb, h1, h7] using hQ⟩
    ·
      refine hP _ _ _ _ _ ?_
      refine hP _ _ _ _ _ ?_
      refine hP _ _ _ _ _ ?_
      exact ⟨by decide, rfl, by simpa [zb, h1, h7] using hQ⟩
def k_X10_isAmount : zCt := fun as n mem Q => ∃ (c : Int32), as = [.int c] ∧ Q (some (.int (zb (decide (¬ c < 0 ∧ ¬ 999 < c))))) n mem
theorem ok_X10_isAmount {l : Launch} {G : zG} : zOK l G yX10_isAmount cX10_isAmount 1 (some .boolean) 0 0 0 k_X10_isAmount := by
  intro as n mem Q hK
  obtain ⟨c, rfl, hQ⟩ := hK
  refine mtX10_isAmount (List.forall_mem_cons.mpr ⟨rfl, fun _ h => absurd h List.not_mem_nil⟩) (by simp) rfl (fun P hP => ?_)
  show P 0 [.int c] [] n mem
  refine hP _ _ _ _ _ ?_
  refine hP _ _ _ _ _ ⟨fun h1 => ?_, fun h1 => ?_⟩
  ·
    refine hP _ _ _ _ _ ?_
    refine hP _ _ _ _ _ ?_
    exact ⟨by decide, rfl, by simpa [zb, h1] using hQ⟩
  ·
    refine hP _ _ _ _ _ ?_
    refine hP _ _ _ _ _ ?_
    refine hP _ _ _ _ _ ⟨fun h8 => ?_, fun h8 => ?_⟩
    ·
      refine hP _ _ _ _ _ ?_
      refine hP _ _ _ _ _ ?_
      exact ⟨by decide, rfl, by simpa [zb, h1, h8] using hQ⟩
    ·
      refine hP _ _ _ _ _ ?_
      refine hP _ _ _ _ _ ?_
      refine hP _ _ _ _ _ ?_
      exact ⟨by decide, rfl, by simpa [zb, h1, h8] using hQ⟩
/-! ===== the reference: small ones ===== -/
def k_X11_thrown : zCt := fun as n mem Q => as = [.ref 180] ∧ zst n mem ∧ Q (some (.int (mem.1 180 0))) n mem
theorem ok_X11_thrown {l : Launch} {G : zG} : zOK l G yX11_thrown cX11_thrown 1 (some .int) 0 0 0 k_X11_thrown := by
  intro as n mem Q hK
  obtain ⟨rfl, ⟨hn, hF⟩, hQ⟩ := hK
  refine mtX11_thrown (List.forall_mem_cons.mpr ⟨rfl, fun _ h => absurd h List.not_mem_nil⟩) (by simp) rfl (fun P hP => ?_)
  show P 0 [.ref 180] [] n mem
  refine hP _ _ _ _ _ ?_
  refine hP _ _ _ _ _ ⟨(zi hn rfl rfl rfl), ?_⟩
  refine hP _ _ _ _ _ ?_
  exact ⟨rfl, hQ⟩
def k_X11_refuse : zCt := fun as n mem Q => as = [.ref 180] ∧ zst n mem ∧ Q (some (.int 0)) n (zI mem 180 0 1)
theorem ok_X11_refuse {l : Launch} {G : zG} : zOK l G yX11_refuse cX11_refuse 1 (some .int) 0 0 0 k_X11_refuse := by
  intro as n mem Q hK
  obtain ⟨rfl, ⟨hn, hF⟩, hQ⟩ := hK
  refine mtX11_refuse (List.forall_mem_cons.mpr ⟨rfl, fun _ h => absurd h List.not_mem_nil⟩) (by simp) rfl (fun P hP => ?_)
  show P 0 [.ref 180] [] n mem
  refine hP _ _ _ _ _ ?_
  refine hP _ _ _ _ _ ?_
  refine hP _ _ _ _ _ ⟨(zi hn rfl rfl rfl), ?_⟩
  refine hP _ _ _ _ _ ?_
  refine hP _ _ _ _ _ ?_
  exact ⟨rfl, hQ⟩
def k_X11_end : zCt := fun as n mem Q => ∃ (c : Int32), as = [.ref 180, .int c] ∧ zst n mem ∧ (if c < 0 ∨ ¬ c ≤ (zI mem 180 0 0).1 180 2 then Q (some (.int 0)) n (zI mem 180 0 0) else Q (some (.int 1)) n (zI (zI mem 180 0 0) 180 2 c))
theorem ok_X11_end {l : Launch} {G : zG} : zOK l G yX11_end cX11_end 2 (some .boolean) 0 0 0 k_X11_end := by
  intro as n mem Q hK
  obtain ⟨c, rfl, ⟨hn, hF⟩, hQ⟩ := hK
  refine mtX11_end (List.forall_mem_cons.mpr ⟨rfl, List.forall_mem_cons.mpr ⟨rfl, fun _ h => absurd h List.not_mem_nil⟩⟩) (by simp) rfl (fun P hP => ?_)
  show P 0 [.ref 180, .int c] [] n mem
  refine hP _ _ _ _ _ ?_
  refine hP _ _ _ _ _ ?_
  refine hP _ _ _ _ _ ⟨(zi hn rfl rfl rfl), ?_⟩
  refine hP _ _ _ _ _ ?_
  refine hP _ _ _ _ _ ⟨fun h6 => ?_, fun h6 => ?_⟩
  ·
    refine hP _ _ _ _ _ ?_
    refine hP _ _ _ _ _ ?_
    exact ⟨by decide, rfl, by simpa [zb, h6] using hQ⟩
  ·
    refine hP _ _ _ _ _ ?_
    refine hP _ _ _ _ _ ?_
    refine hP _ _ _ _ _ ⟨(zi hn rfl rfl rfl), ?_⟩
    refine hP _ _ _ _ _ ⟨fun h14 => ?_, fun h14 => ?_⟩
    ·
      refine hP _ _ _ _ _ ?_
      refine hP _ _ _ _ _ ?_
      refine hP _ _ _ _ _ ⟨(zi hn rfl rfl rfl), ?_⟩
      refine hP _ _ _ _ _ ?_
      refine hP _ _ _ _ _ ?_
      exact ⟨by decide, rfl, by simpa [zb, h6, h14] using hQ⟩
    ·
      refine hP _ _ _ _ _ ?_
      refine hP _ _ _ _ _ ?_
      exact ⟨by decide, rfl, by simpa [zb, h6, h14] using hQ⟩
def k_X11_fault : zCt := fun as n mem Q => as = [.ref 180] ∧ zst n mem ∧ Q (some (.int (mem.1 180 8))) n (zI mem 180 0 0)
theorem ok_X11_fault {l : Launch} {G : zG} : zOK l G yX11_fault cX11_fault 1 (some .int) 0 0 0 k_X11_fault := by
  intro as n mem Q hK
  obtain ⟨rfl, ⟨hn, hF⟩, hQ⟩ := hK
  refine mtX11_fault (List.forall_mem_cons.mpr ⟨rfl, fun _ h => absurd h List.not_mem_nil⟩) (by simp) rfl (fun P hP => ?_)
  show P 0 [.ref 180] [] n mem
  refine hP _ _ _ _ _ ?_
  refine hP _ _ _ _ _ ?_
  refine hP _ _ _ _ _ ⟨(zi hn rfl rfl rfl), ?_⟩
  refine hP _ _ _ _ _ ?_
  refine hP _ _ _ _ _ ⟨(zi hn rfl rfl rfl), ?_⟩
  refine hP _ _ _ _ _ ?_
  exact ⟨rfl, hQ⟩
def k_X11_tapeAt : zCt := fun as n mem Q => ∃ (p : Nat), as = [.ref 180, .int (nI p)] ∧ zst n mem ∧ (¬ mem.1 180 3 ≤ nI p → p < 840) ∧ Q (some (.int (if mem.1 180 3 ≤ nI p then 0 else mem.1 181 p))) n mem
theorem ok_X11_tapeAt {l : Launch} {G : zG} : zOK l G yX11_tapeAt cX11_tapeAt 2 (some .int) 0 0 0 k_X11_tapeAt := by
  intro as n mem Q hK
  obtain ⟨p, rfl, ⟨hn, hF⟩, hp, hQ⟩ := hK
  refine mtX11_tapeAt (List.forall_mem_cons.mpr ⟨rfl, List.forall_mem_cons.mpr ⟨rfl, fun _ h => absurd h List.not_mem_nil⟩⟩) (by simp) rfl (fun P hP => ?_)
  show P 0 [.ref 180, .int (nI p)] [] n mem
  refine hP _ _ _ _ _ ?_
  refine hP _ _ _ _ _ ?_
  refine hP _ _ _ _ _ ⟨(zi hn rfl rfl rfl), ?_⟩
  refine hP _ _ _ _ _ ⟨fun h5 => ?_, fun h5 => ?_⟩
  ·
    refine hP _ _ _ _ _ ?_
    refine hP _ _ _ _ _ ?_
    exact ⟨rfl, by simpa [h5] using hQ⟩
  ·
    refine hP _ _ _ _ _ ?_
    refine hP _ _ _ _ _ ⟨(zi hn rfl rfl rfl), _, fx_Model_tape hF, (by decide), ?_⟩
    refine hP _ _ _ _ _ ?_
    refine hP _ _ _ _ _ ⟨_, _, (zi hn rfl rfl rfl), rfl, hp (by assumption), ?_⟩
    refine hP _ _ _ _ _ ?_
    refine hP _ _ _ _ _ ?_
    exact ⟨rfl, by simpa [h5] using hQ⟩
def k_X11_isPower : zCt := fun as n mem Q => ∃ (p : Int32), as = [.ref 180, .int p] ∧ zst n mem ∧ Q (some (.int (zb (isin p 0 (mem.1 180 15 - 1))))) n mem
theorem ok_X11_isPower {l : Launch} {G : zG} : zOK l G yX11_isPower cX11_isPower 2 (some .boolean) 1 0 0 k_X11_isPower := by
  intro as n mem Q hK
  obtain ⟨p, rfl, ⟨hn, hF⟩, hQ⟩ := hK
  refine mtX11_isPower ok_X11_isIn (by decide) (List.forall_mem_cons.mpr ⟨rfl, List.forall_mem_cons.mpr ⟨rfl, fun _ h => absurd h List.not_mem_nil⟩⟩) (by simp) rfl (fun P hP => ?_)
  show P 0 [.ref 180, .int p] [] n mem
  refine hP _ _ _ _ _ ?_
  refine hP _ _ _ _ _ ?_
  refine hP _ _ _ _ _ ?_
  refine hP _ _ _ _ _ ⟨(zi hn rfl rfl rfl), ?_⟩
  refine hP _ _ _ _ _ ?_
  refine hP _ _ _ _ _ ?_
  refine hP _ _ _ _ _ ⟨Nat.le_of_ble_eq_true rfl, Nat.le_of_ble_eq_true rfl, ?_⟩
  refine ⟨_, _, _, rfl, ?_⟩
  refine hP _ _ _ _ _ ?_
  exact ⟨zb_or _, rfl, hQ⟩
def k_X11_isParty : zCt := fun as n mem Q => ∃ (p : Int32), as = [.ref 180, .int p] ∧ zst n mem ∧ Q (some (.int (zb (isin p 0 (mem.1 180 13 - 1))))) n mem
theorem ok_X11_isParty {l : Launch} {G : zG} : zOK l G yX11_isParty cX11_isParty 2 (some .boolean) 1 0 0 k_X11_isParty := by
  intro as n mem Q hK
  obtain ⟨p, rfl, ⟨hn, hF⟩, hQ⟩ := hK
  refine mtX11_isParty ok_X11_isIn (by decide) (List.forall_mem_cons.mpr ⟨rfl, List.forall_mem_cons.mpr ⟨rfl, fun _ h => absurd h List.not_mem_nil⟩⟩) (by simp) rfl (fun P hP => ?_)
  show P 0 [.ref 180, .int p] [] n mem
  refine hP _ _ _ _ _ ?_
  refine hP _ _ _ _ _ ?_
  refine hP _ _ _ _ _ ?_
  refine hP _ _ _ _ _ ⟨(zi hn rfl rfl rfl), ?_⟩
  refine hP _ _ _ _ _ ?_
  refine hP _ _ _ _ _ ?_
  refine hP _ _ _ _ _ ⟨Nat.le_of_ble_eq_true rfl, Nat.le_of_ble_eq_true rfl, ?_⟩
  refine ⟨_, _, _, rfl, ?_⟩
  refine hP _ _ _ _ _ ?_
  exact ⟨zb_or _, rfl, hQ⟩
def k_X11_isMoment : zCt := fun as n mem Q => ∃ (p : Int32), as = [.ref 180, .int p] ∧ zst n mem ∧ Q (some (.int (zb (isin p 0 (mem.1 180 27))))) n mem
theorem ok_X11_isMoment {l : Launch} {G : zG} : zOK l G yX11_isMoment cX11_isMoment 2 (some .boolean) 1 0 0 k_X11_isMoment := by
  intro as n mem Q hK
  obtain ⟨p, rfl, ⟨hn, hF⟩, hQ⟩ := hK
  refine mtX11_isMoment ok_X11_isIn (by decide) (List.forall_mem_cons.mpr ⟨rfl, List.forall_mem_cons.mpr ⟨rfl, fun _ h => absurd h List.not_mem_nil⟩⟩) (by simp) rfl (fun P hP => ?_)
  show P 0 [.ref 180, .int p] [] n mem
  refine hP _ _ _ _ _ ?_
  refine hP _ _ _ _ _ ?_
  refine hP _ _ _ _ _ ?_
  refine hP _ _ _ _ _ ⟨(zi hn rfl rfl rfl), ?_⟩
  refine hP _ _ _ _ _ ⟨Nat.le_of_ble_eq_true rfl, Nat.le_of_ble_eq_true rfl, ?_⟩
  refine ⟨_, _, _, rfl, ?_⟩
  refine hP _ _ _ _ _ ?_
  exact ⟨zb_or _, rfl, hQ⟩
def k_X11_isAct : zCt := fun as n mem Q => ∃ (p : Int32), as = [.ref 180, .int p] ∧ zst n mem ∧ Q (some (.int (zb (isin p 0 (mem.1 180 29 - 1))))) n mem
theorem ok_X11_isAct {l : Launch} {G : zG} : zOK l G yX11_isAct cX11_isAct 2 (some .boolean) 1 0 0 k_X11_isAct := by
  intro as n mem Q hK
  obtain ⟨p, rfl, ⟨hn, hF⟩, hQ⟩ := hK
  refine mtX11_isAct ok_X11_isIn (by decide) (List.forall_mem_cons.mpr ⟨rfl, List.forall_mem_cons.mpr ⟨rfl, fun _ h => absurd h List.not_mem_nil⟩⟩) (by simp) rfl (fun P hP => ?_)
  show P 0 [.ref 180, .int p] [] n mem
  refine hP _ _ _ _ _ ?_
  refine hP _ _ _ _ _ ?_
  refine hP _ _ _ _ _ ?_
  refine hP _ _ _ _ _ ⟨(zi hn rfl rfl rfl), ?_⟩
  refine hP _ _ _ _ _ ?_
  refine hP _ _ _ _ _ ?_
  refine hP _ _ _ _ _ ⟨Nat.le_of_ble_eq_true rfl, Nat.le_of_ble_eq_true rfl, ?_⟩
  refine ⟨_, _, _, rfl, ?_⟩
  refine hP _ _ _ _ _ ?_
  exact ⟨zb_or _, rfl, hQ⟩
def k_X11_hasDied : zCt := fun as n mem Q => ∃ (k : Nat) (m : Int32), as = [.ref 180, .int (nI k), .int m] ∧ k < 8 ∧ zst n mem ∧ Q (some (.int (zb (isby (mem.1 187 k) m)))) n mem
theorem ok_X11_hasDied {l : Launch} {G : zG} : zOK l G yX11_hasDied cX11_hasDied 3 (some .boolean) 1 0 0 k_X11_hasDied := by
  intro as n mem Q hK
  obtain ⟨k, m, rfl, hk, ⟨hn, hF⟩, hQ⟩ := hK
  refine mtX11_hasDied ok_X11_isBy (by decide) (List.forall_mem_cons.mpr ⟨rfl, List.forall_mem_cons.mpr ⟨rfl, List.forall_mem_cons.mpr ⟨rfl, fun _ h => absurd h List.not_mem_nil⟩⟩⟩) (by simp) rfl (fun P hP => ?_)
  show P 0 [.ref 180, .int (nI k), .int m] [] n mem
  refine hP _ _ _ _ _ ?_
  refine hP _ _ _ _ _ ⟨(zi hn rfl rfl rfl), _, fx_Model_diedAt hF, (by decide), ?_⟩
  refine hP _ _ _ _ _ ?_
  refine hP _ _ _ _ _ ⟨_, _, (zi hn rfl rfl rfl), rfl, by omega, ?_⟩
  refine hP _ _ _ _ _ ?_
  refine hP _ _ _ _ _ ⟨Nat.le_of_ble_eq_true rfl, Nat.le_of_ble_eq_true rfl, ?_⟩
  refine ⟨_, _, rfl, ?_⟩
  refine hP _ _ _ _ _ ?_
  exact ⟨zb_or _, rfl, hQ⟩
/-- who has died by m, among the first np -/
def deadM (f : Nat → Int32) (m : Int32) : Nat → Int32
  | 0 => 0
  | p + 1 => if zb (isby (f p) m) = 0 then deadM f m p else deadM f m p ||| (1 <<< (nI p &&& 31))
def k_X11_dead : zCt := fun as n mem Q => ∃ (m : Int32) (np : Nat), as = [.ref 180, .int m] ∧ zst n mem ∧ mem.1 180 13 = nI np ∧ np ≤ 8 ∧ Q (some (.int (deadM (mem.1 187) m np))) n mem
theorem ok_X11_dead {l : Launch} {G : zG} : zOK l G yX11_dead cX11_dead 4 (some .int) 2 0 0 k_X11_dead := by
  intro as n mem Q hK
  obtain ⟨m, np, rfl, ⟨hn, hF⟩, hnp, hnp8, hQ⟩ := hK
  refine mtX11_dead ok_X11_hasDied (by decide) (List.forall_mem_cons.mpr ⟨rfl, List.forall_mem_cons.mpr ⟨rfl, fun _ h => absurd h List.not_mem_nil⟩⟩) (by simp) rfl (fun P hP => ?_)
  show P 0 [.ref 180, .int m, .null, .null] [] n mem
  have loop : ∀ i, i ≤ np → P 4 [.ref 180, .int m, .int (deadM (mem.1 187) m i), .int (nI i)] [] n mem := by
    refine zloop ?_ ?_
    ·
      refine hP _ _ _ _ _ ?_
      refine hP _ _ _ _ _ ?_
      refine hP _ _ _ _ _ ⟨(zi hn rfl rfl rfl), ?_⟩
      refine hP _ _ _ _ _ ⟨fun _ => ?_, fun hz => absurd (by rw [hnp]; exact nI_le (Nat.le_refl _) (by omega)) hz⟩
      refine hP _ _ _ _ _ ?_
      refine hP _ _ _ _ _ ?_
      exact ⟨rfl, hQ⟩
    · intro i hi ih
      refine hP _ _ _ _ _ ?_
      refine hP _ _ _ _ _ ?_
      refine hP _ _ _ _ _ ⟨(zi hn rfl rfl rfl), ?_⟩
      refine hP _ _ _ _ _ ⟨fun hz => absurd hz (by rw [hnp]; exact nI_ge hi (by omega)), fun _ => ?_⟩
      refine hP _ _ _ _ _ ?_
      refine hP _ _ _ _ _ ?_
      refine hP _ _ _ _ _ ?_
      refine hP _ _ _ _ _ ⟨(zi hn rfl rfl rfl), Nat.le_of_ble_eq_true rfl, Nat.le_of_ble_eq_true rfl, ?_⟩
      refine ⟨i, m, rfl, by omega, ⟨hn, hF⟩, ?_⟩
      refine hP _ _ _ _ _ ⟨fun h18 => ?_, fun h18 => ?_⟩
      ·
        have h18 := zb_0.mp h18
        refine hP _ _ _ _ _ ?_
        refine hP _ _ _ _ _ ?_
        simp only [deadM, nI_succ, zb_0, h18, if_true, if_false, Bool.true_eq_false] at ih
        exact ih
      ·
        have h18 := zb_n.mp h18
        refine hP _ _ _ _ _ ?_
        refine hP _ _ _ _ _ ?_
        refine hP _ _ _ _ _ ?_
        refine hP _ _ _ _ _ ?_
        refine hP _ _ _ _ _ ?_
        refine hP _ _ _ _ _ ?_
        refine hP _ _ _ _ _ ?_
        refine hP _ _ _ _ _ ?_
        simp only [deadM, nI_succ, zb_0, h18, if_true, if_false, Bool.true_eq_false] at ih
        exact ih
  refine hP _ _ _ _ _ ?_
  refine hP _ _ _ _ _ ?_
  refine hP _ _ _ _ _ ?_
  refine hP _ _ _ _ _ ?_
  exact loop 0 (by omega)
def k_X11_its : zCt := fun as n mem Q => ∃ (a w : Nat), as = [.ref 180, .int (nI a), .int (nI w)] ∧ a < 16 ∧ w < 9 ∧ zst n mem ∧ Q (some (.int (mem.1 191 (9 * a + w)))) n mem
theorem ok_X11_its {l : Launch} {G : zG} : zOK l G yX11_its cX11_its 3 (some .int) 0 0 0 k_X11_its := by
  intro as n mem Q hK
  obtain ⟨a, w, rfl, ha, hw, ⟨hn, hF⟩, hQ⟩ := hK
  refine mtX11_its (List.forall_mem_cons.mpr ⟨rfl, List.forall_mem_cons.mpr ⟨rfl, List.forall_mem_cons.mpr ⟨rfl, fun _ h => absurd h List.not_mem_nil⟩⟩⟩) (by simp) rfl (fun P hP => ?_)
  show P 0 [.ref 180, .int (nI a), .int (nI w)] [] n mem
  refine hP _ _ _ _ _ ?_
  refine hP _ _ _ _ _ ⟨(zi hn rfl rfl rfl), _, fx_Model_acts hF, (by decide), ?_⟩
  refine hP _ _ _ _ _ ?_
  refine hP _ _ _ _ _ ?_
  refine hP _ _ _ _ _ ?_
  refine hP _ _ _ _ _ ?_
  refine hP _ _ _ _ _ ?_
  refine hP _ _ _ _ _ ⟨_, 9 * a + w, (zi hn rfl rfl rfl), nlin 9 a w, by omega, ?_⟩
  refine hP _ _ _ _ _ ?_
  exact ⟨rfl, hQ⟩
def k_X11_isLive : zCt := fun as n mem Q => ∃ (p : Nat), as = [.ref 180, .int (nI p)] ∧ p < 20 ∧ zst n mem ∧ Q (some (.int (zb (!bt (mem.1 180 32) p && decide (mem.1 192 p = 0))))) n mem
theorem ok_X11_isLive {l : Launch} {G : zG} : zOK l G yX11_isLive cX11_isLive 2 (some .boolean) 1 0 0 k_X11_isLive := by
  intro as n mem Q hK
  obtain ⟨p, rfl, hp, ⟨hn, hF⟩, hQ⟩ := hK
  refine mtX11_isLive ok_X11_has (by decide) (List.forall_mem_cons.mpr ⟨rfl, List.forall_mem_cons.mpr ⟨rfl, fun _ h => absurd h List.not_mem_nil⟩⟩) (by simp) rfl (fun P hP => ?_)
  show P 0 [.ref 180, .int (nI p)] [] n mem
  refine hP _ _ _ _ _ ?_
  refine hP _ _ _ _ _ ⟨(zi hn rfl rfl rfl), ?_⟩
  refine hP _ _ _ _ _ ?_
  refine hP _ _ _ _ _ ⟨Nat.le_of_ble_eq_true rfl, Nat.le_of_ble_eq_true rfl, ?_⟩
  refine ⟨_, p, rfl, by omega, ?_⟩
  refine hP _ _ _ _ _ ⟨fun h8 => ?_, fun h8 => ?_⟩
  ·
    have h8 := zb_0.mp h8
    refine hP _ _ _ _ _ ?_
    refine hP _ _ _ _ _ ⟨(zi hn rfl rfl rfl), _, fx_Model_whyNow hF, (by decide), ?_⟩
    refine hP _ _ _ _ _ ?_
    refine hP _ _ _ _ _ ⟨_, _, (zi hn rfl rfl rfl), rfl, by omega, ?_⟩
    refine hP _ _ _ _ _ ⟨fun h17 => ?_, fun h17 => ?_⟩
    ·
      refine hP _ _ _ _ _ ?_
      refine hP _ _ _ _ _ ?_
      refine hP _ _ _ _ _ ?_
      exact ⟨by decide, rfl, by simpa [zb, h8, h17] using hQ⟩
    ·
      refine hP _ _ _ _ _ ?_
      refine hP _ _ _ _ _ ?_
      exact ⟨by decide, rfl, by simpa [zb, h8, h17] using hQ⟩
  ·
    have h8 := zb_n.mp h8
    refine hP _ _ _ _ _ ?_
    refine hP _ _ _ _ _ ?_
    exact ⟨by decide, rfl, by simpa [zb, h8] using hQ⟩
def k_X11_puts : zCt := fun as n mem Q => ∃ (m : Nat), as = [.ref 180] ∧ zst n mem ∧ mem.1 180 27 = nI m ∧ m < 300 ∧ Q (some (.int (nI (m + 1)))) n (zI (zI mem 180 27 (nI (m + 1))) 184 (m + 1) (mem.1 180 28))
theorem ok_X11_puts {l : Launch} {G : zG} : zOK l G yX11_puts cX11_puts 1 (some .int) 0 0 0 k_X11_puts := by
  intro as n mem Q hK
  obtain ⟨m, rfl, ⟨hn, hF⟩, hm, hm3, hQ⟩ := hK
  refine mtX11_puts (List.forall_mem_cons.mpr ⟨rfl, fun _ h => absurd h List.not_mem_nil⟩) (by simp) rfl (fun P hP => ?_)
  show P 0 [.ref 180] [] n mem
  have e : mem.1 180 27 + 1 = nI (m + 1) := by rw [hm]; exact nI_1 m
  refine hP _ _ _ _ _ ?_
  refine hP _ _ _ _ _ ?_
  refine hP _ _ _ _ _ ⟨(zi hn rfl rfl rfl), ?_⟩
  refine hP _ _ _ _ _ ?_
  refine hP _ _ _ _ _ ?_
  refine hP _ _ _ _ _ ⟨(zi hn rfl rfl rfl), ?_⟩
  refine hP _ _ _ _ _ ?_
  refine hP _ _ _ _ _ ⟨(zi hn rfl rfl rfl), _, fx_Model_dayOf hF, (by decide), ?_⟩
  refine hP _ _ _ _ _ ?_
  refine hP _ _ _ _ _ ⟨(zi hn rfl rfl rfl), ?_⟩
  refine hP _ _ _ _ _ ?_
  refine hP _ _ _ _ _ ⟨(zi hn rfl rfl rfl), ?_⟩
  refine hP _ _ _ _ _ ⟨_, m + 1, (zi hn rfl rfl rfl), e, by omega, ?_⟩
  refine hP _ _ _ _ _ ?_
  refine hP _ _ _ _ _ ⟨(zi hn rfl rfl rfl), ?_⟩
  refine hP _ _ _ _ _ ?_
  exact ⟨rfl, by simpa [zI_at, e] using hQ⟩
