def k_X4_startAnew : zCt := fun as n mem Q => as = [.ref 108] ∧ zst n mem ∧ (∀ r, (∀ j, j < 8 → r j = -1) → Q none n (zrw (zI (zI mem 108 5 0) 108 6 0) 113 r))
theorem ok_X4_startAnew {l : Launch} {G : zG} : zOK l G yX4_startAnew cX4_startAnew 1 none 1 0 0 k_X4_startAnew := by
  intro as n mem Q hK
  obtain ⟨rfl, ⟨hn, hF⟩, hQ⟩ := hK
  refine mtX4_startAnew ok_J7_fill_53178 (by decide) (List.forall_mem_cons.mpr ⟨rfl, fun _ h => absurd h List.not_mem_nil⟩) (by simp) rfl (fun P hP => ?_)
  show P 0 [.ref 108] [] n mem
  refine hP _ _ _ _ _ ?_
  refine hP _ _ _ _ _ ?_
  refine hP _ _ _ _ _ ⟨(zi hn rfl rfl rfl), ?_⟩
  refine hP _ _ _ _ _ ?_
  refine hP _ _ _ _ _ ?_
  refine hP _ _ _ _ _ ⟨(zi hn rfl rfl rfl), ?_⟩
  refine hP _ _ _ _ _ ?_
  refine hP _ _ _ _ _ ⟨(zi hn rfl rfl rfl), _, fx_Log_diedAt hF, (by decide), ?_⟩
  refine hP _ _ _ _ _ ?_
  refine hP _ _ _ _ _ ⟨Nat.le_of_ble_eq_true rfl, Nat.le_of_ble_eq_true rfl, ?_⟩
  refine ⟨113, 8, -1, rfl, zi hn rfl rfl rfl, fun r hr => ?_⟩
  refine hP _ _ _ _ _ ?_
  exact ⟨rfl, hQ r hr⟩
def sTC (t a b : Nat) : Prop := sRT t a b ∨ (a = 101 ∧ b = 1) ∨ (a = 100 ∧ b = 7)
def sTD (t a b : Nat) : Prop := sTC t a b ∨ (a = 100 ∧ (b = 6 ∨ b = 8 ∨ b = 9)) ∨ (a = 108 ∧ (b = 5 ∨ b = 6)) ∨ a = 113
theorem zFx_TD {M m : zM} {t : Nat} (hT : t = 136 ∨ t = 158) (h : zfr (sTD t) M m) (hF : zFx M) (hs : (m.2.2 100 8 = 136 ∧ m.2.2 100 9 = 158) ∨ (m.2.2 100 8 = 158 ∧ m.2.2 100 9 = 136)) : zFx m := by
  have e : ∀ a b, ¬ sTD t a b → m.2.2 a b = M.2.2 a b := h.2.2
  have hl : ∀ q ∈ zfxl, ¬ sTD t q.1 q.2.1 := by
    rcases hT with rfl | rfl <;> (unfold sTD sTC sRT sL; decide +kernel)
  refine ⟨fun q hq => (e _ _ (hl q hq)).trans (hF.1 q hq), fun p hp => ?_, fun a ha => ?_, hs⟩
  · rw [e 137 p (by unfold sTD sTC sRT sL; omega), e 159 p (by unfold sTD sTC sRT sL; omega)]; exact hF.2.1 p hp
  · rw [e 119 a (by unfold sTD sTC sRT sL; omega)]; exact hF.2.2.1 a ha
/-- t what is told, u the spare one -/
def ctK (n : Nat) (mem : zM) (Q : zPo) (u : Nat) (o : zOut zPS) : Prop := match o with
  | .inl e => ∀ M, zfr (sTC u) mem M → zFx M → M.1 101 1 = 0 → M.1 100 7 = nI e.1 → Q (some (.int (-1 - nI e.2))) n M
  | .inr s => ∀ M, zfr (sTD u) mem M → zFx M → M.2.2 100 8 = u → M.1 101 1 = 0 → M.1 100 7 = 0 → M.1 100 6 = 0 → M.1 108 5 = 0 → M.1 108 6 = 0 → (∀ j, j < 8 → M.1 113 j = -1) → cTx M u s → Q (some (.int (nI (s.1 + s.2.2.1)))) n M
def k_X10_text : zCt := fun as n mem Q => ∃ (sz t u : Nat), as = [.ref 100] ∧ zst n mem ∧ ((t = 136 ∧ u = 158) ∨ (t = 158 ∧ u = 136)) ∧ mem.2.2 100 8 = t ∧ mem.2.2 100 9 = u ∧ mem.1 101 1 = nI sz ∧ sz ≤ 840 ∧ ctK n mem Q u (txR (mem.1 102) sz)
theorem ok_X10_text {l : Launch} {G : zG} : zOK l G yX10_text cX10_text 3 (some .int) 10 0 0 k_X10_text := by
  intro as n mem Q hK
  obtain ⟨sz, t, u, rfl, ⟨hn, hF0⟩, htu, h8, h9, hsz, hsz8, hQ⟩ := hK
  refine mtX10_text ok_X7_readText (by decide) ok_X4_startAnew (by decide) (List.forall_mem_cons.mpr ⟨rfl, fun _ h => absurd h List.not_mem_nil⟩) (by simp) rfl (fun P hP => ?_)
  show P 0 [.ref 100, .null, .null] [] n mem
  have hU : u = 136 ∨ u = 158 := by omega
  have hF := hF0
  cases hO : txR (mem.1 102) sz with
  | inl e =>
    rw [hO] at hQ
    refine hP _ _ _ _ _ ?_
    refine hP _ _ _ _ _ ⟨(zi hn rfl rfl rfl), _, fx_Book_reader hF, (by decide), ?_⟩
    refine hP _ _ _ _ _ ?_
    refine hP _ _ _ _ _ ⟨(zi hn rfl rfl rfl), _, h9, (by omega), ?_⟩
    refine hP _ _ _ _ _ ⟨(zi hn rfl rfl rfl), Nat.le_of_ble_eq_true rfl, Nat.le_of_ble_eq_true rfl, ?_⟩
    refine ⟨sz, u, rfl, ⟨hn, hF⟩, hU, hsz, hsz8, ?_⟩
    rw [hO]
    intro M fM hFM q5 q6
    have hF := hFM
    refine hP _ _ _ _ _ ?_
    refine hP _ _ _ _ _ ?_
    refine hP _ _ _ _ _ ⟨(zi hn rfl rfl rfl), _, fx_Book_tape hF, (by decide), ?_⟩
    refine hP _ _ _ _ _ ?_
    refine hP _ _ _ _ _ ⟨(zi hn rfl rfl rfl), ?_⟩
    refine hP _ _ _ _ _ ?_
    refine hP _ _ _ _ _ ?_
    refine hP _ _ _ _ _ ⟨(zi hn rfl rfl rfl), _, fx_Book_reader hF, (by decide), ?_⟩
    refine hP _ _ _ _ _ ⟨(zi hn rfl rfl rfl), ?_⟩
    refine hP _ _ _ _ _ ⟨(zi hn rfl rfl rfl), ?_⟩
    refine hP _ _ _ _ _ ?_
    refine hP _ _ _ _ _ ⟨fun _ => ?_, fun hz => absurd ( rfl) hz⟩
    refine hP _ _ _ _ _ ?_
    refine hP _ _ _ _ _ ?_
    refine hP _ _ _ _ _ ⟨(zi hn rfl rfl rfl), _, fx_Book_reader hF, (by decide), ?_⟩
    refine hP _ _ _ _ _ ⟨(zi hn rfl rfl rfl), ?_⟩
    refine hP _ _ _ _ _ ?_
    refine hP _ _ _ _ _ ?_
    have fS : zfr (sTC u) mem M := fM.mono fun _ _ z => Or.inl z
    have fN : zfr (sTC u) mem (zI (zI M 101 1 0) 100 7 ((zI M 101 1 0).1 103 5)) := (fS.I (Or.inr (Or.inl ⟨rfl, rfl⟩))).I (Or.inr (Or.inr ⟨rfl, rfl⟩))
    have hQ1 := hQ (zI (zI M 101 1 0) 100 7 ((zI M 101 1 0).1 103 5)) fN hFM (by rw [zI_ne (by omega), zI_s]) (by rw [zI_s, zI_ne (by omega)]; exact q5)
    rw [← q6] at hQ1
    exact ⟨rfl, hQ1⟩
  | inr s =>
    rw [hO] at hQ
    obtain ⟨v, rfl⟩ : ∃ v, u = v + 1 := ⟨u - 1, by omega⟩
    obtain ⟨w, rfl⟩ : ∃ w, t = w + 1 := ⟨t - 1, by omega⟩
    have last : ∀ N, zfr (sTD (v + 1)) mem N → N.2.2 100 8 = v + 1 → N.2.2 100 9 = w + 1 → N.1 101 1 = 0 → N.1 100 7 = 0 → N.1 108 5 = 0 → N.1 108 6 = 0 → (∀ j, j < 8 → N.1 113 j = -1) → cTx N (v + 1) s → P 70 [.ref 100, .int 1, .ref (w + 1)] [] n N := by
      intro N fN n8 n9 n1 n7 l5 l6 lr hx
      have hF : zFx N := zFx_TD hU fN hF0 (by omega)
      have fN1 : zfr (sTD (v + 1)) mem (zI N 100 6 0) := fN.I (Or.inr (Or.inl ⟨rfl, Or.inl rfl⟩))
      obtain ⟨x8, x20, x1, x3, x2, xr⟩ := hx
      have hQ1 := hQ (zI N 100 6 0) fN1 hF n8 n1 n7 rfl l5 l6 lr ⟨x8, x20, by rw [zI_ne (by omega)]; exact x1, by rw [zI_ne (by omega)]; exact x3, by rw [zI_ne (by omega)]; exact x2, fun p hp => by rw [zI_ne (by omega)]; exact xr p hp⟩
      rw [← nI_add, ← x1, ← x2] at hQ1
      refine hP _ _ _ _ _ ?_
      refine hP _ _ _ _ _ ?_
      refine hP _ _ _ _ _ ⟨(zi hn rfl rfl rfl), ?_⟩
      refine hP _ _ _ _ _ ?_
      refine hP _ _ _ _ _ ⟨(zi hn rfl rfl rfl), _, n8, (by omega), ?_⟩
      refine hP _ _ _ _ _ ⟨(ztT hn hU), ?_⟩
      refine hP _ _ _ _ _ ?_
      refine hP _ _ _ _ _ ⟨(zi hn rfl rfl rfl), _, n8, (by omega), ?_⟩
      refine hP _ _ _ _ _ ⟨(ztT hn hU), ?_⟩
      refine hP _ _ _ _ _ ?_
      refine hP _ _ _ _ _ ?_
      refine ⟨rfl, ?_⟩
      rw [zI_ne (by omega)]
      exact hQ1
    refine hP _ _ _ _ _ ?_
    refine hP _ _ _ _ _ ⟨(zi hn rfl rfl rfl), _, fx_Book_reader hF, (by decide), ?_⟩
    refine hP _ _ _ _ _ ?_
    refine hP _ _ _ _ _ ⟨(zi hn rfl rfl rfl), _, h9, (by omega), ?_⟩
    refine hP _ _ _ _ _ ⟨(zi hn rfl rfl rfl), Nat.le_of_ble_eq_true rfl, Nat.le_of_ble_eq_true rfl, ?_⟩
    refine ⟨sz, v + 1, rfl, ⟨hn, hF⟩, hU, hsz, hsz8, ?_⟩
    rw [hO]
    intro M fM hFM q5 hx
    have hF := hFM
    have m8 : M.2.2 100 8 = w + 1 := (fM.2.2 100 8 (by unfold sRT sL; omega)).trans h8
    have m9 : M.2.2 100 9 = v + 1 := (fM.2.2 100 9 (by unfold sRT sL; omega)).trans h9
    refine hP _ _ _ _ _ ?_
    refine hP _ _ _ _ _ ?_
    refine hP _ _ _ _ _ ⟨(zi hn rfl rfl rfl), _, fx_Book_tape hF, (by decide), ?_⟩
    refine hP _ _ _ _ _ ?_
    refine hP _ _ _ _ _ ⟨(zi hn rfl rfl rfl), ?_⟩
    refine hP _ _ _ _ _ ?_
    refine hP _ _ _ _ _ ?_
    refine hP _ _ _ _ _ ⟨(zi hn rfl rfl rfl), _, fx_Book_reader hF, (by decide), ?_⟩
    refine hP _ _ _ _ _ ⟨(zi hn rfl rfl rfl), ?_⟩
    refine hP _ _ _ _ _ ⟨(zi hn rfl rfl rfl), ?_⟩
    refine hP _ _ _ _ _ ?_
    refine hP _ _ _ _ _ ⟨fun hz => absurd hz ( by decide), fun _ => ?_⟩
    refine hP _ _ _ _ _ ?_
    refine hP _ _ _ _ _ ⟨(zi hn rfl rfl rfl), _, m8, (by omega), ?_⟩
    refine hP _ _ _ _ _ ?_
    refine hP _ _ _ _ _ ?_
    refine hP _ _ _ _ _ ?_
    refine hP _ _ _ _ _ ⟨(zi hn rfl rfl rfl), _, m9, (by omega), ?_⟩
    refine hP _ _ _ _ _ ⟨(zi hn rfl rfl rfl), ?_⟩
    refine hP _ _ _ _ _ ?_
    refine hP _ _ _ _ _ ?_
    refine hP _ _ _ _ _ ⟨(zi hn rfl rfl rfl), ?_⟩
    have fS : zfr (sTD (v + 1)) mem M := fM.mono fun _ _ z => Or.inl (Or.inl z)
    have fN : zfr (sTD (v + 1)) mem (zR (zR (zI (zI M 101 1 0) 100 7 ((zI M 101 1 0).1 103 5)) 100 8 (v + 1)) 100 9 (w + 1)) := (((fS.I (Or.inl (Or.inr (Or.inl ⟨rfl, rfl⟩)))).I (Or.inl (Or.inr (Or.inr ⟨rfl, rfl⟩)))).R (Or.inr (Or.inl ⟨rfl, Or.inr (Or.inl rfl)⟩))).R (Or.inr (Or.inl ⟨rfl, Or.inr (Or.inr rfl)⟩))
    have n8 : (zR (zR (zI (zI M 101 1 0) 100 7 ((zI M 101 1 0).1 103 5)) 100 8 (v + 1)) 100 9 (w + 1)).2.2 100 8 = v + 1 := by rw [zR_o (by omega), zR_s]
    have n9 : (zR (zR (zI (zI M 101 1 0) 100 7 ((zI M 101 1 0).1 103 5)) 100 8 (v + 1)) 100 9 (w + 1)).2.2 100 9 = w + 1 := zR_s
    have hF : zFx (zR (zR (zI (zI M 101 1 0) 100 7 ((zI M 101 1 0).1 103 5)) 100 8 (v + 1)) 100 9 (w + 1)) := zFx_TD hU fN hF0 (by rw [n8, n9]; omega)
    have n1 : (zR (zR (zI (zI M 101 1 0) 100 7 ((zI M 101 1 0).1 103 5)) 100 8 (v + 1)) 100 9 (w + 1)).1 101 1 = 0 := by rw [zR_1, zR_1, zI_ne (by omega), zI_s]
    have n7 : (zR (zR (zI (zI M 101 1 0) 100 7 ((zI M 101 1 0).1 103 5)) 100 8 (v + 1)) 100 9 (w + 1)).1 100 7 = 0 := by rw [zR_1, zR_1, zI_s, zI_ne (by omega)]; exact q5
    have nx : ∀ a, a ≠ 101 → a ≠ 100 → (zR (zR (zI (zI M 101 1 0) 100 7 ((zI M 101 1 0).1 103 5)) 100 8 (v + 1)) 100 9 (w + 1)).1 a = M.1 a := fun a ha hb => by rw [zR_1, zR_1, zI_ne hb, zI_ne ha]
    generalize zR (zR (zI (zI M 101 1 0) 100 7 ((zI M 101 1 0).1 103 5)) 100 8 (v + 1)) 100 9 (w + 1) = N at *
    refine hP _ _ _ _ _ ?_
    refine hP _ _ _ _ _ ⟨(zi hn rfl rfl rfl), _, fx_Book_log hF, (by decide), ?_⟩
    refine hP _ _ _ _ _ ⟨(zi hn rfl rfl rfl), Nat.le_of_ble_eq_true rfl, Nat.le_of_ble_eq_true rfl, ?_⟩
    refine ⟨rfl, ⟨hn, hF⟩, fun r hr => ?_⟩
    refine last _ (fr_row ((fN.I (Or.inr (Or.inr (Or.inl ⟨rfl, Or.inl rfl⟩)))).I (Or.inr (Or.inr (Or.inl ⟨rfl, Or.inr rfl⟩)))) (fun _ => Or.inr (Or.inr (Or.inr rfl)))) n8 n9 n1 n7 rfl rfl hr ?_
    obtain ⟨x8, x20, x1, x3, x2, xr⟩ := hx
    have ez : ∀ a, a ≠ 113 → a ≠ 108 → a ≠ 101 → a ≠ 100 → (zrw (zI (zI N 108 5 0) 108 6 0) 113 r).1 a = M.1 a := fun a h1 h2 h3 h4 => by rw [zrw_at, if_neg h1, zI_ne h2, zI_ne h2, nx a h3 h4]
    exact ⟨x8, x20, by rw [ez _ (by omega) (by omega) (by omega) (by omega)]; exact x1, by rw [ez _ (by omega) (by omega) (by omega) (by omega)]; exact x3, by rw [ez _ (by omega) (by omega) (by omega) (by omega)]; exact x2, fun p hp => by rw [ez _ (by omega) (by omega) (by omega) (by omega)]; exact xr p hp⟩
