theorem hV_inj : ∀ w, w < 10 → ∀ v, v < 10 → hV w = hV v → w = v := by decide +kernel
theorem zTk_is {mem : zM} {k s : Nat} {v : Int32} {w : Nat} (hw : w < 10) (h : zTk mem k s v) : (mem.1 180 6 = 2 ∧ mem.2.1 180 10 = hV w) ↔ k = 4 + w := by
  obtain ⟨-, ⟨rfl, h⟩ | ⟨rfl, h | ⟨h, h2⟩⟩ | ⟨rfl, h, -⟩ | ⟨rfl, h⟩ | ⟨x, hx, rfl, h, h2⟩⟩ := h
  · exact ⟨fun z => absurd (h.symm.trans z.1) (by decide), fun z => by omega⟩
  · exact ⟨fun z => absurd (h.symm.trans z.1) (by decide), fun z => by omega⟩
  · exact ⟨fun z => absurd z.2 (h2 w hw), fun z => by omega⟩
  · exact ⟨fun z => absurd (h.symm.trans z.1) (by decide), fun z => by omega⟩
  · exact ⟨fun z => absurd (h.symm.trans z.1) (by decide), fun z => by omega⟩
  · refine ⟨fun z => by rw [hV_inj x hx w hw (h2.symm.trans z.2)], fun z => ⟨h, ?_⟩⟩
    have : x = w := by omega
    subst this; exact h2
theorem zTk_0 {mem : zM} {k s : Nat} {v : Int32} (h : zTk mem k s v) : mem.1 180 6 = 0 ↔ k = 0 := by
  obtain ⟨-, ⟨rfl, h⟩ | ⟨rfl, h | ⟨h, -⟩⟩ | ⟨rfl, h, -⟩ | ⟨rfl, h⟩ | ⟨x, hx, rfl, h, -⟩⟩ := h <;> rw [h] <;> (first | exact ⟨fun _ => rfl, fun _ => rfl⟩ | exact ⟨fun z => absurd z (by decide), fun z => by omega⟩)
theorem zTk_3 {mem : zM} {k s : Nat} {v : Int32} (h : zTk mem k s v) : mem.1 180 6 = 3 ↔ k = 2 := by
  obtain ⟨-, ⟨rfl, h⟩ | ⟨rfl, h | ⟨h, -⟩⟩ | ⟨rfl, h, -⟩ | ⟨rfl, h⟩ | ⟨x, hx, rfl, h, -⟩⟩ := h <;> rw [h] <;> (first | exact ⟨fun _ => rfl, fun _ => rfl⟩ | exact ⟨fun z => absurd z (by decide), fun z => by omega⟩)
theorem zTk_4 {mem : zM} {k s : Nat} {v : Int32} (h : zTk mem k s v) : mem.1 180 6 = 4 ↔ k = 3 := by
  obtain ⟨-, ⟨rfl, h⟩ | ⟨rfl, h | ⟨h, -⟩⟩ | ⟨rfl, h, -⟩ | ⟨rfl, h⟩ | ⟨x, hx, rfl, h, -⟩⟩ := h <;> rw [h] <;> (first | exact ⟨fun _ => rfl, fun _ => rfl⟩ | exact ⟨fun z => absurd z (by decide), fun z => by omega⟩)
theorem zTk_1 {mem : zM} {k s : Nat} {v : Int32} (h : zTk mem k s v) : mem.1 180 6 = 1 → k = 1 := by
  obtain ⟨-, ⟨rfl, h⟩ | ⟨rfl, h | ⟨h, -⟩⟩ | ⟨rfl, h, -⟩ | ⟨rfl, h⟩ | ⟨x, hx, rfl, h, -⟩⟩ := h <;> rw [h] <;> (first | exact fun _ => rfl | exact fun z => absurd z (by decide))
theorem zTk_v {mem : zM} {k s : Nat} {v : Int32} (h : zTk mem k s v) (hk : k = 2) : mem.1 180 7 = v := by
  obtain ⟨-, ⟨rfl, h⟩ | ⟨rfl, h | ⟨h, -⟩⟩ | ⟨rfl, h, h2⟩ | ⟨rfl, h⟩ | ⟨x, hx, rfl, h, -⟩⟩ := h <;> first | exact h2 | omega
def k_X11_is : zCt := fun as n mem Q => ∃ (w k s : Nat) (v : Int32), as = [.ref 180, .int (nI w)] ∧ w < 10 ∧ zst n mem ∧ zTk mem k s v ∧ Q (some (.int (zb (decide (k = 4 + w))))) n mem
theorem ok_X11_is {l : Launch} {G : zG} : zOK l G yX11_is cX11_is 5 (some .boolean) 1 0 0 k_X11_is := by
  intro as n mem Q hK
  obtain ⟨w, k, s, v, rfl, hw, ⟨hn, hF⟩, hT, hQ⟩ := hK
  refine mtX11_is ok_X11_letterOf (by decide) (List.forall_mem_cons.mpr ⟨rfl, List.forall_mem_cons.mpr ⟨rfl, fun _ h => absurd h List.not_mem_nil⟩⟩) (by simp) rfl (fun P hP => ?_)
  show P 0 [.ref 180, .int (nI w), .null, .null, .null] [] n mem
  have hl := wdM_len w hw
  have hi := zTk_is hw hT
  have fin : P 38 [.ref 180, .int (nI w), .long (hV w), .null, .int (nI (wdM w).length)] [] n mem := by
    refine hP _ _ _ _ _ ?_
    refine hP _ _ _ _ _ ⟨(zi hn rfl rfl rfl), ?_⟩
    refine hP _ _ _ _ _ ?_
    refine hP _ _ _ _ _ ⟨fun h43 => ?_, fun h43 => ?_⟩
    ·
      refine hP _ _ _ _ _ ?_
      refine hP _ _ _ _ _ ⟨(zi hn rfl rfl rfl), ?_⟩
      refine hP _ _ _ _ _ ?_
      refine hP _ _ _ _ _ ?_
      refine hP _ _ _ _ _ ⟨fun h52 => ?_, fun h52 => ?_⟩
      ·
        refine hP _ _ _ _ _ ?_
        refine hP _ _ _ _ _ ?_
        refine hP _ _ _ _ _ ?_
        first | exact ⟨by decide, rfl, by rw [decide_eq_true (hi.mp ⟨h43, (lg_cmp_eq _ _).mp h52⟩)] at hQ; exact hQ⟩ | exact ⟨by decide, rfl, by rw [decide_eq_false (fun z => h52 ((lg_cmp_eq _ _).mpr (hi.mpr z).2))] at hQ; exact hQ⟩ | exact ⟨by decide, rfl, by rw [decide_eq_false (fun z => h43 (hi.mpr z).1)] at hQ; exact hQ⟩
      ·
        refine hP _ _ _ _ _ ?_
        refine hP _ _ _ _ _ ?_
        first | exact ⟨by decide, rfl, by rw [decide_eq_true (hi.mp ⟨h43, (lg_cmp_eq _ _).mp h52⟩)] at hQ; exact hQ⟩ | exact ⟨by decide, rfl, by rw [decide_eq_false (fun z => h52 ((lg_cmp_eq _ _).mpr (hi.mpr z).2))] at hQ; exact hQ⟩ | exact ⟨by decide, rfl, by rw [decide_eq_false (fun z => h43 (hi.mpr z).1)] at hQ; exact hQ⟩
    ·
      refine hP _ _ _ _ _ ?_
      refine hP _ _ _ _ _ ?_
      first | exact ⟨by decide, rfl, by rw [decide_eq_true (hi.mp ⟨h43, (lg_cmp_eq _ _).mp h52⟩)] at hQ; exact hQ⟩ | exact ⟨by decide, rfl, by rw [decide_eq_false (fun z => h52 ((lg_cmp_eq _ _).mpr (hi.mpr z).2))] at hQ; exact hQ⟩ | exact ⟨by decide, rfl, by rw [decide_eq_false (fun z => h43 (hi.mpr z).1)] at hQ; exact hQ⟩
  have loop : ∀ j, j ≤ (wdM w).length → P 5 [.ref 180, .int (nI w), .long (hW w j), .null, .int (nI j)] [] n mem := by
    refine zloop ?_ ?_
    · have e0 : letS w (nI (wdM w).length) = 0 := (by decide +kernel : ∀ w, w < 10 → letS w (nI (wdM w).length) = 0) w hw
      refine hP _ _ _ _ _ ?_
      refine hP _ _ _ _ _ ?_
      refine hP _ _ _ _ _ ⟨Nat.le_of_ble_eq_true rfl, Nat.le_of_ble_eq_true rfl, ?_⟩
      refine ⟨w, _, rfl, hw, ?_⟩
      refine hP _ _ _ _ _ ⟨fun _ => ?_, fun hz => absurd ( e0) hz⟩
      exact fin
    · intro j hj ih
      have e0 : ¬ letS w (nI j) = 0 := by rw [letS_wd w hw j (by omega)]; exact wdM_ne w hw j hj
      rw [nI_succ j] at ih
      refine hP _ _ _ _ _ ?_
      refine hP _ _ _ _ _ ?_
      refine hP _ _ _ _ _ ⟨Nat.le_of_ble_eq_true rfl, Nat.le_of_ble_eq_true rfl, ?_⟩
      refine ⟨w, _, rfl, hw, ?_⟩
      refine hP _ _ _ _ _ ⟨fun hz => absurd hz ( e0), fun _ => ?_⟩
      refine hP _ _ _ _ _ ?_
      refine hP _ _ _ _ _ ?_
      refine hP _ _ _ _ _ ?_
      refine hP _ _ _ _ _ ?_
      refine hP _ _ _ _ _ ?_
      refine hP _ _ _ _ _ ⟨Nat.le_of_ble_eq_true rfl, Nat.le_of_ble_eq_true rfl, ?_⟩
      refine ⟨w, _, rfl, hw, ?_⟩
      refine hP _ _ _ _ _ ?_
      refine hP _ _ _ _ _ ?_
      refine hP _ _ _ _ _ ?_
      refine hP _ _ _ _ _ ?_
      refine hP _ _ _ _ _ ?_
      refine hP _ _ _ _ _ ?_
      refine hP _ _ _ _ _ ?_
      exact ih
  refine hP _ _ _ _ _ ?_
  refine hP _ _ _ _ _ ?_
  refine hP _ _ _ _ _ ?_
  refine hP _ _ _ _ _ ?_
  exact loop 0 (by omega)
def k_X11_bad : zCt := fun as n mem Q => ∃ (w k s : Nat) (v : Int32), as = [.ref 180, .int (nI w)] ∧ (k = 1 → w = 1) ∧ zst n mem ∧ zTk mem k s v ∧ Q (some (.int 0)) n (zI (zI mem 180 8 (nI w)) 180 9 (nI s))
theorem ok_X11_bad {l : Launch} {G : zG} : zOK l G yX11_bad cX11_bad 2 (some .boolean) 0 0 0 k_X11_bad := by
  intro as n mem Q hK
  obtain ⟨w, k, s, v, rfl, hk, ⟨hn, hF⟩, hT, hQ⟩ := hK
  refine mtX11_bad (List.forall_mem_cons.mpr ⟨rfl, List.forall_mem_cons.mpr ⟨rfl, fun _ h => absurd h List.not_mem_nil⟩⟩) (by simp) rfl (fun P hP => ?_)
  show P 0 [.ref 180, .int (nI w)] [] n mem
  have hs := hT.1
  rw [← hs] at hQ
  refine hP _ _ _ _ _ ?_
  refine hP _ _ _ _ _ ?_
  refine hP _ _ _ _ _ ⟨(zi hn rfl rfl rfl), ?_⟩
  refine hP _ _ _ _ _ ?_
  refine hP _ _ _ _ _ ⟨fun h6 => ?_, fun h6 => ?_⟩
  ·
    refine hP _ _ _ _ _ ?_
    refine hP _ _ _ _ _ ?_
    refine hP _ _ _ _ _ ⟨(zi hn rfl rfl rfl), ?_⟩
    refine hP _ _ _ _ _ ?_
    refine hP _ _ _ _ _ ?_
    refine hP _ _ _ _ _ ⟨(zi hn rfl rfl rfl), ?_⟩
    refine hP _ _ _ _ _ ⟨(zi hn rfl rfl rfl), ?_⟩
    refine hP _ _ _ _ _ ?_
    refine hP _ _ _ _ _ ?_
    first | exact ⟨by decide, rfl, by rw [hk (zTk_1 hT h6)] at hQ; exact hQ⟩ | exact ⟨by decide, rfl, hQ⟩
  ·
    refine hP _ _ _ _ _ ?_
    refine hP _ _ _ _ _ ⟨(zi hn rfl rfl rfl), ?_⟩
    refine hP _ _ _ _ _ ?_
    refine hP _ _ _ _ _ ?_
    refine hP _ _ _ _ _ ⟨(zi hn rfl rfl rfl), ?_⟩
    refine hP _ _ _ _ _ ⟨(zi hn rfl rfl rfl), ?_⟩
    refine hP _ _ _ _ _ ?_
    refine hP _ _ _ _ _ ?_
    first | exact ⟨by decide, rfl, by rw [hk (zTk_1 hT h6)] at hQ; exact hQ⟩ | exact ⟨by decide, rfl, hQ⟩
/-! ===== the parser, as the document has it: T a token's kind, its start, its number ===== -/
abbrev zTS : Type := Nat → Nat × Nat × Nat
abbrev zOut (α : Type) : Type := (Nat × Nat) ⊕ α
def ob {α β : Type} (x : zOut α) (f : α → zOut β) : zOut β := match x with
  | .inl e => .inl e
  | .inr a => f a
def tkT (T : zTS) (due k : Nat) : zOut Nat := if (T k).1 = due then .inr (k + 1) else .inl (1, (T k).2.1)
def gvT (T : zTS) (np pw : Nat) (R : Nat → Nat → Int32) (k : Nat) : zOut (Nat × Int32 × Int32) :=
  if ¬ (T (k + 1)).1 = 2 then .inl (1, (T (k + 1)).2.1)
  else if (T k).1 = 7 then (if pw ≤ (T (k + 1)).2.2 ∨ R (T (k + 1)).2.2 6 = 0 then .inl (3, (T (k + 1)).2.1) else .inr (k + 2, R (T (k + 1)).2.2 0, nI (T (k + 1)).2.2))
  else (if np ≤ (T (k + 1)).2.2 then .inl (3, (T (k + 1)).2.1) else .inr (k + 2, nI (T (k + 1)).2.2, -1))
def hlT (T : zTS) (np : Nat) (gv : Int32) : Nat → Nat → Int32 → zOut (Nat × Int32)
  | 0, k, a => .inr (k, a)
  | f + 1, k, a => if ¬ (T k).1 = 2 then .inr (k, a) else if np ≤ (T k).2.2 ∨ bt a (T k).2.2 = true ∨ nI (T k).2.2 = gv then .inl (3, (T k).2.1) else hlT T np gv f (k + 1) (a ||| 1 <<< (nI (T k).2.2 &&& 31))
def kdT (T : zTS) : Nat → Nat → Int32 → zOut (Nat × Int32)
  | 0, k, a => .inr (k, a)
  | f + 1, k, a => if ¬ (T k).1 = 2 then .inr (k, a) else if 6 ≤ (T k).2.2 then .inl (2, (T k).2.1) else if bt a (T k).2.2 = true then .inl (3, (T k).2.1) else kdT T f (k + 1) (a ||| 1 <<< (nI (T k).2.2 &&& 31))
def hsT (T : zTS) (np : Nat) (gv : Int32) (k : Nat) : zOut (Nat × Int32) := if ¬ (T k).1 = 2 then .inl (1, (T k).2.1) else hlT T np gv 9 k 0
def ksT (T : zTS) (k : Nat) : zOut (Nat × Int32) := if ¬ (T k).1 = 2 then .inl (1, (T k).2.1) else kdT T 9 k 0
def nbT (T : zTS) (lo hi k : Nat) : zOut (Nat × Nat) := if ¬ (T k).1 = 2 then .inl (1, (T k).2.1) else if (T k).2.2 < lo ∨ hi < (T k).2.2 then .inl (2, (T k).2.1) else .inr (k + 1, (T k).2.2)
def tlT (T : zTS) (k : Nat) : zOut (Nat × Int32) := if (T k).1 = 12 then ob (nbT T 0 999 (k + 1)) (fun x => .inr (x.1, nI x.2)) else .inr (k, -1)
/-- giver, holders, together, kinds, most, till, sub, under -/
abbrev zRow : Type := Int32 × Int32 × Int32 × Int32 × Int32 × Int32 × Int32 × Int32
def rdT (T : zTS) (np pw : Nat) (R : Nat → Nat → Int32) (k : Nat) : zOut (Nat × zRow) :=
  ob (gvT T np pw R k) fun g => ob (tkT T 8 g.1) fun k1 => ob (hsT T np g.2.1 k1) fun h => ob (tkT T 9 h.1) fun k2 => ob (nbT T 1 (pcI h.2) k2) fun t => ob (tkT T 10 t.1) fun k3 => ob (ksT T k3) fun d => ob (tkT T 11 d.1) fun k4 => ob (nbT T 0 999 k4) fun m => ob (tlT T m.1) fun l =>
    if (T l.1).1 = 13 then .inr (l.1 + 1, g.2.1, h.2, nI t.2, d.2, nI m.2, l.2, 1, g.2.2) else .inr (l.1, g.2.1, h.2, nI t.2, d.2, nI m.2, l.2, 0, g.2.2)
