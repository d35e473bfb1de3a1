
/-! ===== small methods ===== -/
def k_X10_has : zCt := fun as n mem Q => ∃ (x : Int32) (j : Nat), as = [.int x, .int (nI j)] ∧ j < 32 ∧ Q (some (.int (zb (bt x j)))) n mem
theorem ok_X10_has {l : Launch} {G : zG} : zOK l G yX10_has cX10_has 2 (some .boolean) 0 0 0 k_X10_has := by
  intro as n mem Q hK
  obtain ⟨x, j, rfl, hj, hQ⟩ := hK
  refine mtX10_has (List.forall_mem_cons.mpr ⟨rfl, List.forall_mem_cons.mpr ⟨rfl, fun _ h => absurd h List.not_mem_nil⟩⟩) (by simp) rfl (fun P hP => ?_)
  show P 0 [.int x, .int (nI j)] [] n mem
  have e := has_bt x hj
  refine hP _ _ _ _ _ ?_
  refine hP _ _ _ _ _ ?_
  refine hP _ _ _ _ _ ?_
  refine hP _ _ _ _ _ ?_
  refine hP _ _ _ _ _ ?_
  refine hP _ _ _ _ _ ⟨fun h5 => ?_, fun h5 => ?_⟩
  ·
    have hb : bt x j = false := zb_0.mp (e.symm.trans h5)
    refine hP _ _ _ _ _ ?_
    refine hP _ _ _ _ _ ?_
    exact ⟨by decide, rfl, by simpa [hb, zb] using hQ⟩
  ·
    have hb : bt x j = true := zb_n.mp (fun q => h5 (e.trans q))
    refine hP _ _ _ _ _ ?_
    refine hP _ _ _ _ _ ?_
    refine hP _ _ _ _ _ ?_
    exact ⟨by decide, rfl, by simpa [hb, zb] using hQ⟩
def k_X11_has : zCt := k_X10_has
theorem ok_X11_has {l : Launch} {G : zG} : zOK l G yX11_has cX11_has 2 (some .boolean) 0 0 0 k_X11_has := by
  intro as n mem Q hK
  obtain ⟨x, j, rfl, hj, hQ⟩ := hK
  refine mtX11_has (List.forall_mem_cons.mpr ⟨rfl, List.forall_mem_cons.mpr ⟨rfl, fun _ h => absurd h List.not_mem_nil⟩⟩) (by simp) rfl (fun P hP => ?_)
  show P 0 [.int x, .int (nI j)] [] n mem
  have e := has_bt x hj
  refine hP _ _ _ _ _ ?_
  refine hP _ _ _ _ _ ?_
  refine hP _ _ _ _ _ ?_
  refine hP _ _ _ _ _ ?_
  refine hP _ _ _ _ _ ?_
  refine hP _ _ _ _ _ ?_
  refine hP _ _ _ _ _ ⟨fun h6 => ?_, fun h6 => ?_⟩
  ·
    have hb : bt x j = true := zb_1.mp (e.symm.trans h6)
    refine hP _ _ _ _ _ ?_
    refine hP _ _ _ _ _ ?_
    refine hP _ _ _ _ _ ?_
    exact ⟨by decide, rfl, by simpa [hb, zb] using hQ⟩
  ·
    have hb : bt x j = false := by cases hq : bt x j with | false => rfl | true => exact absurd (e.trans (by rw [hq]; rfl)) h6
    refine hP _ _ _ _ _ ?_
    refine hP _ _ _ _ _ ?_
    exact ⟨by decide, rfl, by simpa [hb, zb] using hQ⟩
def k_X11_isIn : zCt := fun as n mem Q => ∃ (v a b : Int32), as = [.int v, .int a, .int b] ∧ Q (some (.int (zb (decide (a ≤ v ∧ v ≤ b))))) n mem
theorem ok_X11_isIn {l : Launch} {G : zG} : zOK l G yX11_isIn cX11_isIn 3 (some .boolean) 0 0 0 k_X11_isIn := by
  intro as n mem Q hK
  obtain ⟨v, a, b, rfl, hQ⟩ := hK
  refine mtX11_isIn (List.forall_mem_cons.mpr ⟨rfl, List.forall_mem_cons.mpr ⟨rfl, List.forall_mem_cons.mpr ⟨rfl, fun _ h => absurd h List.not_mem_nil⟩⟩⟩) (by simp) rfl (fun P hP => ?_)
  show P 0 [.int v, .int a, .int b] [] n mem
  refine hP _ _ _ _ _ ?_
  refine hP _ _ _ _ _ ?_
  refine hP _ _ _ _ _ ⟨fun h2 => ?_, fun h2 => ?_⟩
  ·
    refine hP _ _ _ _ _ ?_
    refine hP _ _ _ _ _ ?_
    exact ⟨by decide, rfl, by simpa [zb, *] using hQ⟩
  ·
    refine hP _ _ _ _ _ ?_
    refine hP _ _ _ _ _ ?_
    refine hP _ _ _ _ _ ⟨fun h7 => ?_, fun h7 => ?_⟩
    ·
      refine hP _ _ _ _ _ ?_
      refine hP _ _ _ _ _ ?_
      exact ⟨by decide, rfl, by simpa [zb, *] using hQ⟩
    ·
      refine hP _ _ _ _ _ ?_
      refine hP _ _ _ _ _ ?_
      refine hP _ _ _ _ _ ?_
      exact ⟨by decide, rfl, by simpa [zb, *] using hQ⟩
def k_X11_isBy : zCt := fun as n mem Q => ∃ (w m : Int32), as = [.int w, .int m] ∧ Q (some (.int (zb (decide (w ≠ -1 ∧ w ≤ m))))) n mem
theorem ok_X11_isBy {l : Launch} {G : zG} : zOK l G yX11_isBy cX11_isBy 2 (some .boolean) 0 0 0 k_X11_isBy := by
  intro as n mem Q hK
  obtain ⟨w, m, rfl, hQ⟩ := hK
  refine mtX11_isBy (List.forall_mem_cons.mpr ⟨rfl, List.forall_mem_cons.mpr ⟨rfl, fun _ h => absurd h List.not_mem_nil⟩⟩) (by simp) rfl (fun P hP => ?_)
  show P 0 [.int w, .int m] [] n mem
  refine hP _ _ _ _ _ ?_
  refine hP _ _ _ _ _ ?_
  refine hP _ _ _ _ _ ⟨fun h2 => ?_, fun h2 => ?_⟩
  ·
    refine hP _ _ _ _ _ ?_
    refine hP _ _ _ _ _ ?_
    exact ⟨by decide, rfl, by simpa [zb, *] using hQ⟩
  ·
    refine hP _ _ _ _ _ ?_
    refine hP _ _ _ _ _ ?_
    refine hP _ _ _ _ _ ⟨fun h7 => ?_, fun h7 => ?_⟩
    ·
      refine hP _ _ _ _ _ ?_
      refine hP _ _ _ _ _ ?_
      exact ⟨by decide, rfl, by simpa [zb, *] using hQ⟩
    ·
      refine hP _ _ _ _ _ ?_
      refine hP _ _ _ _ _ ?_
      refine hP _ _ _ _ _ ?_
      exact ⟨by decide, rfl, by simpa [zb, *] using hQ⟩
