/-- a power is looked at: why it is over, what it has as told -/
def stV1 (np : Nat) (m : zM) (i : Nat) : zM := zI (zI (zI m 192 i (whyM np (m.1 180) (m.1 182) (m.1 185) (m.1 186) (m.1 187) (m.1 192) i)) 193 i (m.1 182 (8 * i + 3))) 194 i (m.1 182 (8 * i + 4))
def zV1 (np : Nat) (mem : zM) : Nat → zM
  | 0 => mem
  | i + 1 => stV1 np (zV1 np mem i) i
/-- what is narrowed at a moment -/
def stV2 (m : zM) (k : Nat) : zM :=
  if m.1 188 k = -1 then m
  else if (zI m 193 (ix (m.1 188 k)) (m.1 193 (ix (m.1 188 k)) &&& m.1 189 k)).1 194 (ix (m.1 188 k)) ≤ (zI m 193 (ix (m.1 188 k)) (m.1 193 (ix (m.1 188 k)) &&& m.1 189 k)).1 190 k then zI m 193 (ix (m.1 188 k)) (m.1 193 (ix (m.1 188 k)) &&& m.1 189 k)
  else zI (zI m 193 (ix (m.1 188 k)) (m.1 193 (ix (m.1 188 k)) &&& m.1 189 k)) 194 (ix (m.1 188 k)) ((zI m 193 (ix (m.1 188 k)) (m.1 193 (ix (m.1 188 k)) &&& m.1 189 k)).1 190 k)
def zV2 (mem : zM) : Nat → zM
  | 0 => mem
  | k + 1 => stV2 (zV2 mem k) (k + 1)
/-- a power meets the one under which it is -/
def stV3 (m : zM) (i : Nat) : zM :=
  if m.1 182 (8 * i + 7) = -1 then m
  else if (zI m 193 i (m.1 193 i &&& m.1 193 (ix (m.1 182 (8 * i + 7))))).1 194 i ≤ (zI m 193 i (m.1 193 i &&& m.1 193 (ix (m.1 182 (8 * i + 7))))).1 194 (ix (m.1 182 (8 * i + 7))) then zI m 193 i (m.1 193 i &&& m.1 193 (ix (m.1 182 (8 * i + 7))))
  else zI (zI m 193 i (m.1 193 i &&& m.1 193 (ix (m.1 182 (8 * i + 7))))) 194 i ((zI m 193 i (m.1 193 i &&& m.1 193 (ix (m.1 182 (8 * i + 7))))).1 194 (ix (m.1 182 (8 * i + 7))))
def zV3 (mem : zM) : Nat → zM
  | 0 => mem
  | i + 1 => stV3 (zV3 mem i) i
/-- rows that the view doesn't write -/
def nvw (a : Nat) : Prop := a ≠ 192 ∧ a ≠ 193 ∧ a ≠ 194
theorem zV1_row {np : Nat} {mem : zM} {a : Nat} (h : nvw a) : ∀ i, (zV1 np mem i).1 a = mem.1 a := by
  intro i
  induction i with
  | zero => rfl
  | succ i ih => show (stV1 np (zV1 np mem i) i).1 a = _; unfold stV1; rw [zI_ne h.2.2, zI_ne h.2.1, zI_ne h.1, ih]
theorem zV1_2 {np : Nat} {mem : zM} : ∀ i, (zV1 np mem i).2 = mem.2 := by
  intro i
  induction i with
  | zero => rfl
  | succ i ih => exact ih
theorem stV2_row {m : zM} {k a : Nat} (h : nvw a) : (stV2 m k).1 a = m.1 a := by
  unfold stV2
  split
  · rfl
  · split
    · rw [zI_ne h.2.1]
    · rw [zI_ne h.2.2, zI_ne h.2.1]
theorem stV2_2 {m : zM} {k : Nat} : (stV2 m k).2 = m.2 := by
  unfold stV2
  split
  · rfl
  · split <;> rfl
theorem zV2_row {mem : zM} {a : Nat} (h : nvw a) : ∀ i, (zV2 mem i).1 a = mem.1 a := by
  intro i
  induction i with
  | zero => rfl
  | succ i ih => exact (stV2_row h).trans ih
theorem zV2_2 {mem : zM} : ∀ i, (zV2 mem i).2 = mem.2 := by
  intro i
  induction i with
  | zero => rfl
  | succ i ih => exact stV2_2.trans ih
theorem stV3_row {m : zM} {k a : Nat} (h : nvw a) : (stV3 m k).1 a = m.1 a := by
  unfold stV3
  split
  · rfl
  · split
    · rw [zI_ne h.2.1]
    · rw [zI_ne h.2.2, zI_ne h.2.1]
theorem stV3_2 {m : zM} {k : Nat} : (stV3 m k).2 = m.2 := by
  unfold stV3
  split
  · rfl
  · split <;> rfl
theorem zV3_row {mem : zM} {a : Nat} (h : nvw a) : ∀ i, (zV3 mem i).1 a = mem.1 a := by
  intro i
  induction i with
  | zero => rfl
  | succ i ih => exact (stV3_row h).trans ih
theorem zV3_2 {mem : zM} : ∀ i, (zV3 mem i).2 = mem.2 := by
  intro i
  induction i with
  | zero => rfl
  | succ i ih => exact stV3_2.trans ih
theorem zFx_2 {m m' : zM} (h : m'.2 = m.2) (hF : zFx m) : zFx m' := by unfold zFx; rw [h]; exact hF
/-- the view as of k -/
def zVw (np pw k : Nat) (mem : zM) : zM := zV3 (zV2 (zV1 np mem pw) k) pw
theorem zVw_row {np pw k : Nat} {mem : zM} {a : Nat} (h : nvw a) : (zVw np pw k mem).1 a = mem.1 a := by unfold zVw; rw [zV3_row h, zV2_row h, zV1_row h]
theorem zVw_2 {np pw k : Nat} {mem : zM} : (zVw np pw k mem).2 = mem.2 := by unfold zVw; rw [zV3_2, zV2_2, zV1_2]
theorem nv180 : nvw 180 := by unfold nvw; omega
theorem nv182 : nvw 182 := by unfold nvw; omega
theorem nv188 : nvw 188 := by unfold nvw; omega
def k_X11_laysView : zCt := fun as n mem Q => ∃ (np pw k : Nat), as = [.ref 180] ∧ zst n mem ∧ zRo (mem.1 180) (mem.1 182) (mem.1 188) np pw ∧ zTh (mem.1 180) ∧ mem.1 180 30 = nI k ∧ k ≤ 300 ∧ Q none n (zVw np pw k mem)
theorem ok_X11_laysView {l : Launch} {G : zG} : zOK l G yX11_laysView cX11_laysView 3 none 4 0 0 k_X11_laysView := by
  intro as n mem Q hK
  obtain ⟨np, pw, k, rfl, ⟨hn, hF⟩, hR, hT, hk, hk3, hQ⟩ := hK
  refine mtX11_laysView ok_X11_whyOver (by decide) (List.forall_mem_cons.mpr ⟨rfl, fun _ h => absurd h List.not_mem_nil⟩) (by simp) rfl (fun P hP => ?_)
  show P 0 [.ref 180, .null, .null] [] n mem
  have r3 := hR.2.2.1
  have r4 := hR.2.2.2.1
  have loop3 : ∀ i, i ≤ pw → ∀ v2, P 136 [.ref 180, .int (nI i), v2] [] n (zV3 (zV2 (zV1 np mem pw) k) i) := by
    refine zloop ?_ ?_
    · intro v2
      have e15 : (zVw np pw k mem).1 180 15 = nI pw := by rw [zVw_row nv180]; exact r3
      unfold zVw at hQ e15
      generalize zV3 (zV2 (zV1 np mem pw) k) pw = m at hQ e15 ⊢
      refine hP _ _ _ _ _ ?_
      refine hP _ _ _ _ _ ?_
      refine hP _ _ _ _ _ ⟨(zi hn rfl rfl rfl), ?_⟩
      refine hP _ _ _ _ _ ⟨fun _ => ?_, fun hz => absurd ( by rw [e15]; exact nI_le (Nat.le_refl _) (by omega)) hz⟩
      refine hP _ _ _ _ _ ?_
      exact ⟨rfl, hQ⟩
    · intro i hi ih v2
      have hF : zFx (zV3 (zV2 (zV1 np mem pw) k) i) := zFx_2 (by rw [zV3_2, zV2_2, zV1_2]) hF
      have e15 : (zV3 (zV2 (zV1 np mem pw) k) i).1 180 15 = nI pw := by rw [zV3_row nv180, zV2_row nv180, zV1_row nv180]; exact r3
      have hun := (hR.2.2.2.2.1 i hi).2.2
      have e182 : (zV3 (zV2 (zV1 np mem pw) k) i).1 182 = mem.1 182 := by rw [zV3_row nv182, zV2_row nv182, zV1_row nv182]
      rw [← e182] at hun
      have ih : ∀ v2, P 136 [.ref 180, .int (nI (i + 1)), v2] [] n (stV3 (zV3 (zV2 (zV1 np mem pw) k) i) i) := ih
      generalize zV3 (zV2 (zV1 np mem pw) k) i = m at hF e15 hun ih ⊢
      rw [nI_succ] at ih
      refine hP _ _ _ _ _ ?_
      refine hP _ _ _ _ _ ?_
      refine hP _ _ _ _ _ ⟨(zi hn rfl rfl rfl), ?_⟩
      refine hP _ _ _ _ _ ⟨fun hz => absurd hz ( by rw [e15]; exact nI_ge hi (by omega)), fun _ => ?_⟩
      refine hP _ _ _ _ _ ?_
      refine hP _ _ _ _ _ ⟨(zi hn rfl rfl rfl), _, fx_Model_powers hF, (by decide), ?_⟩
      refine hP _ _ _ _ _ ?_
      refine hP _ _ _ _ _ ?_
      refine hP _ _ _ _ _ ?_
      refine hP _ _ _ _ _ ?_
      refine hP _ _ _ _ _ ?_
      refine hP _ _ _ _ _ ⟨_, 8 * i + 7, (zi hn rfl rfl rfl), nlin 8 i 7, by omega, ?_⟩
      refine hP _ _ _ _ _ ?_
      refine hP _ _ _ _ _ ?_
      refine hP _ _ _ _ _ ?_
      refine hP _ _ _ _ _ ⟨fun h159 => ?_, fun h159 => ?_⟩
      ·
        refine hP _ _ _ _ _ ?_
        refine hP _ _ _ _ _ ?_
        refine hP _ _ _ _ _ ?_
        first | (dsimp only at h159; rw [stV3, if_pos h159] at ih; exact ih _) | (dsimp only at h159 h192; rw [stV3, if_neg h159, hu, hxu] at ih; first | (rw [if_pos h192] at ih; exact ih _) | (rw [if_neg h192] at ih; exact ih _))
      ·
        obtain ⟨u, hui, hu⟩ := hun.resolve_left h159
        have hxu := ix_nI (j := u) (by omega)
        refine hP _ _ _ _ _ ?_
        refine hP _ _ _ _ _ ⟨(zi hn rfl rfl rfl), _, fx_Model_kindsNow hF, (by decide), ?_⟩
        refine hP _ _ _ _ _ ?_
        refine hP _ _ _ _ _ ?_
        refine hP _ _ _ _ _ ⟨_, i, (zi hn rfl rfl rfl), rfl, by omega, ?_⟩
        refine hP _ _ _ _ _ ?_
        refine hP _ _ _ _ _ ⟨(zi hn rfl rfl rfl), _, fx_Model_kindsNow hF, (by decide), ?_⟩
        refine hP _ _ _ _ _ ?_
        refine hP _ _ _ _ _ ⟨_, u, (zi hn rfl rfl rfl), hu, by omega, ?_⟩
        refine hP _ _ _ _ _ ?_
        refine hP _ _ _ _ _ ⟨_, i, (zi hn rfl rfl rfl), rfl, by omega, ?_⟩
        refine hP _ _ _ _ _ ?_
        refine hP _ _ _ _ _ ⟨(zi hn rfl rfl rfl), _, fx_Model_mostNow hF, (by decide), ?_⟩
        refine hP _ _ _ _ _ ?_
        refine hP _ _ _ _ _ ⟨_, u, (zi hn rfl rfl rfl), hu, by omega, ?_⟩
        refine hP _ _ _ _ _ ?_
        refine hP _ _ _ _ _ ⟨(zi hn rfl rfl rfl), _, fx_Model_mostNow hF, (by decide), ?_⟩
        refine hP _ _ _ _ _ ?_
        refine hP _ _ _ _ _ ⟨_, i, (zi hn rfl rfl rfl), rfl, by omega, ?_⟩
        refine hP _ _ _ _ _ ⟨fun h192 => ?_, fun h192 => ?_⟩
        ·
          refine hP _ _ _ _ _ ?_
          refine hP _ _ _ _ _ ?_
          first | (dsimp only at h159; rw [stV3, if_pos h159] at ih; exact ih _) | (dsimp only at h159 h192; rw [stV3, if_neg h159, hu, hxu] at ih; first | (rw [if_pos h192] at ih; exact ih _) | (rw [if_neg h192] at ih; exact ih _))
        ·
          refine hP _ _ _ _ _ ?_
          refine hP _ _ _ _ _ ⟨(zi hn rfl rfl rfl), _, fx_Model_mostNow hF, (by decide), ?_⟩
          refine hP _ _ _ _ _ ?_
          refine hP _ _ _ _ _ ?_
          refine hP _ _ _ _ _ ⟨(zi hn rfl rfl rfl), _, fx_Model_mostNow hF, (by decide), ?_⟩
          refine hP _ _ _ _ _ ?_
          refine hP _ _ _ _ _ ⟨_, u, (zi hn rfl rfl rfl), hu, by omega, ?_⟩
          refine hP _ _ _ _ _ ⟨_, i, (zi hn rfl rfl rfl), rfl, by omega, ?_⟩
          refine hP _ _ _ _ _ ?_
          refine hP _ _ _ _ _ ?_
          first | (dsimp only at h159; rw [stV3, if_pos h159] at ih; exact ih _) | (dsimp only at h159 h192; rw [stV3, if_neg h159, hu, hxu] at ih; first | (rw [if_pos h192] at ih; exact ih _) | (rw [if_neg h192] at ih; exact ih _))
  have loop2 : ∀ i, i ≤ k → ∀ v2, P 63 [.ref 180, .int (nI (i + 1)), v2] [] n (zV2 (zV1 np mem pw) i) := by
    refine zloop ?_ ?_
    · intro v2
      have e30 : (zV2 (zV1 np mem pw) k).1 180 30 = nI k := by rw [zV2_row nv180, zV1_row nv180]; exact hk
      have l3 := loop3 0 (by omega)
      have l3 : ∀ v2, P 136 [.ref 180, .int (nI 0), v2] [] n (zV2 (zV1 np mem pw) k) := l3
      generalize zV2 (zV1 np mem pw) k = m at e30 l3 ⊢
      refine hP _ _ _ _ _ ?_
      refine hP _ _ _ _ _ ?_
      refine hP _ _ _ _ _ ⟨(zi hn rfl rfl rfl), ?_⟩
      refine hP _ _ _ _ _ ⟨fun _ => ?_, fun hz => absurd ( by rw [e30]; exact nI_lt (by omega) (by omega)) hz⟩
      refine hP _ _ _ _ _ ?_
      refine hP _ _ _ _ _ ?_
      exact l3 _
    · intro i hi ih v2
      have hF : zFx (zV2 (zV1 np mem pw) i) := zFx_2 (by rw [zV2_2, zV1_2]) hF
      have e30 : (zV2 (zV1 np mem pw) i).1 180 30 = nI k := by rw [zV2_row nv180, zV1_row nv180]; exact hk
      have hna := hR.2.2.2.2.2 (i + 1) (by omega) (by omega)
      have e188 : (zV2 (zV1 np mem pw) i).1 188 = mem.1 188 := by rw [zV2_row nv188, zV1_row nv188]
      rw [← e188] at hna
      have ih : ∀ v2, P 63 [.ref 180, .int (nI (i + 1 + 1)), v2] [] n (stV2 (zV2 (zV1 np mem pw) i) (i + 1)) := ih
      generalize zV2 (zV1 np mem pw) i = m at hF e30 hna ih ⊢
      rw [nI_succ (i + 1)] at ih
      refine hP _ _ _ _ _ ?_
      refine hP _ _ _ _ _ ?_
      refine hP _ _ _ _ _ ⟨(zi hn rfl rfl rfl), ?_⟩
      refine hP _ _ _ _ _ ⟨fun hz => absurd hz ( by rw [e30]; exact nI_nlt (by omega) (by omega)), fun _ => ?_⟩
      refine hP _ _ _ _ _ ?_
      refine hP _ _ _ _ _ ⟨(zi hn rfl rfl rfl), _, fx_Model_narrowPower hF, (by decide), ?_⟩
      refine hP _ _ _ _ _ ?_
      refine hP _ _ _ _ _ ⟨_, i + 1, (zi hn rfl rfl rfl), rfl, by omega, ?_⟩
      refine hP _ _ _ _ _ ?_
      refine hP _ _ _ _ _ ?_
      refine hP _ _ _ _ _ ?_
      refine hP _ _ _ _ _ ⟨fun h80 => ?_, fun h80 => ?_⟩
      ·
        refine hP _ _ _ _ _ ?_
        refine hP _ _ _ _ _ ?_
        refine hP _ _ _ _ _ ?_
        first | (dsimp only at h80; rw [stV2, if_pos h80] at ih; exact ih _) | (dsimp only at h80 h113; rw [stV2, if_neg h80, hp, hxp] at ih; first | (rw [if_pos h113] at ih; exact ih _) | (rw [if_neg h113] at ih; exact ih _))
      ·
        obtain ⟨p, hpp, hp⟩ := hna.resolve_left h80
        have hxp := ix_nI (j := p) (by omega)
        refine hP _ _ _ _ _ ?_
        refine hP _ _ _ _ _ ⟨(zi hn rfl rfl rfl), _, fx_Model_kindsNow hF, (by decide), ?_⟩
        refine hP _ _ _ _ _ ?_
        refine hP _ _ _ _ _ ?_
        refine hP _ _ _ _ _ ⟨_, p, (zi hn rfl rfl rfl), hp, by omega, ?_⟩
        refine hP _ _ _ _ _ ?_
        refine hP _ _ _ _ _ ⟨(zi hn rfl rfl rfl), _, fx_Model_narrowKinds hF, (by decide), ?_⟩
        refine hP _ _ _ _ _ ?_
        refine hP _ _ _ _ _ ⟨_, i + 1, (zi hn rfl rfl rfl), rfl, by omega, ?_⟩
        refine hP _ _ _ _ _ ?_
        refine hP _ _ _ _ _ ⟨_, p, (zi hn rfl rfl rfl), hp, by omega, ?_⟩
        refine hP _ _ _ _ _ ?_
        refine hP _ _ _ _ _ ⟨(zi hn rfl rfl rfl), _, fx_Model_narrowMost hF, (by decide), ?_⟩
        refine hP _ _ _ _ _ ?_
        refine hP _ _ _ _ _ ⟨_, i + 1, (zi hn rfl rfl rfl), rfl, by omega, ?_⟩
        refine hP _ _ _ _ _ ?_
        refine hP _ _ _ _ _ ⟨(zi hn rfl rfl rfl), _, fx_Model_mostNow hF, (by decide), ?_⟩
        refine hP _ _ _ _ _ ?_
        refine hP _ _ _ _ _ ⟨_, p, (zi hn rfl rfl rfl), hp, by omega, ?_⟩
        refine hP _ _ _ _ _ ⟨fun h113 => ?_, fun h113 => ?_⟩
        ·
          refine hP _ _ _ _ _ ?_
          refine hP _ _ _ _ _ ?_
          first | (dsimp only at h80; rw [stV2, if_pos h80] at ih; exact ih _) | (dsimp only at h80 h113; rw [stV2, if_neg h80, hp, hxp] at ih; first | (rw [if_pos h113] at ih; exact ih _) | (rw [if_neg h113] at ih; exact ih _))
        ·
          refine hP _ _ _ _ _ ?_
          refine hP _ _ _ _ _ ⟨(zi hn rfl rfl rfl), _, fx_Model_mostNow hF, (by decide), ?_⟩
          refine hP _ _ _ _ _ ?_
          refine hP _ _ _ _ _ ?_
          refine hP _ _ _ _ _ ⟨(zi hn rfl rfl rfl), _, fx_Model_narrowMost hF, (by decide), ?_⟩
          refine hP _ _ _ _ _ ?_
          refine hP _ _ _ _ _ ⟨_, i + 1, (zi hn rfl rfl rfl), rfl, by omega, ?_⟩
          refine hP _ _ _ _ _ ⟨_, p, (zi hn rfl rfl rfl), hp, by omega, ?_⟩
          refine hP _ _ _ _ _ ?_
          refine hP _ _ _ _ _ ?_
          first | (dsimp only at h80; rw [stV2, if_pos h80] at ih; exact ih _) | (dsimp only at h80 h113; rw [stV2, if_neg h80, hp, hxp] at ih; first | (rw [if_pos h113] at ih; exact ih _) | (rw [if_neg h113] at ih; exact ih _))
  have loop1 : ∀ i, i ≤ pw → P 2 [.ref 180, .int (nI i), .null] [] n (zV1 np mem i) := by
    refine zloop ?_ ?_
    · have e15 : (zV1 np mem pw).1 180 15 = nI pw := by rw [zV1_row nv180]; exact r3
      have l2 : ∀ v2, P 63 [.ref 180, .int (nI (0 + 1)), v2] [] n (zV1 np mem pw) := loop2 0 (by omega)
      generalize zV1 np mem pw = m at e15 l2 ⊢
      refine hP _ _ _ _ _ ?_
      refine hP _ _ _ _ _ ?_
      refine hP _ _ _ _ _ ⟨(zi hn rfl rfl rfl), ?_⟩
      refine hP _ _ _ _ _ ⟨fun _ => ?_, fun hz => absurd ( by rw [e15]; exact nI_le (Nat.le_refl _) (by omega)) hz⟩
      refine hP _ _ _ _ _ ?_
      refine hP _ _ _ _ _ ?_
      exact l2 _
    · intro i hi ih
      have hF : zFx (zV1 np mem i) := zFx_2 (by rw [zV1_2]) hF
      have e15 : (zV1 np mem i).1 180 15 = nI pw := by rw [zV1_row nv180]; exact r3
      have hR : zRo ((zV1 np mem i).1 180) ((zV1 np mem i).1 182) ((zV1 np mem i).1 188) np pw := by rw [zV1_row nv180, zV1_row nv182, zV1_row nv188]; exact hR
      have hT : zTh ((zV1 np mem i).1 180) := by rw [zV1_row nv180]; exact hT
      have ih : P 2 [.ref 180, .int (nI (i + 1)), .null] [] n (stV1 np (zV1 np mem i) i) := ih
      generalize zV1 np mem i = m at hF e15 hR hT ih ⊢
      rw [nI_succ] at ih
      refine hP _ _ _ _ _ ?_
      refine hP _ _ _ _ _ ?_
      refine hP _ _ _ _ _ ⟨(zi hn rfl rfl rfl), ?_⟩
      refine hP _ _ _ _ _ ⟨fun hz => absurd hz ( by rw [e15]; exact nI_ge hi (by omega)), fun _ => ?_⟩
      refine hP _ _ _ _ _ ?_
      refine hP _ _ _ _ _ ⟨(zi hn rfl rfl rfl), _, fx_Model_whyNow hF, (by decide), ?_⟩
      refine hP _ _ _ _ _ ?_
      refine hP _ _ _ _ _ ?_
      refine hP _ _ _ _ _ ?_
      refine hP _ _ _ _ _ ⟨(zi hn rfl rfl rfl), Nat.le_of_ble_eq_true rfl, Nat.le_of_ble_eq_true rfl, ?_⟩
      refine ⟨i, np, pw, rfl, hi, ⟨hn, hF⟩, hR, hT, ?_⟩
      refine hP _ _ _ _ _ ⟨_, i, (zi hn rfl rfl rfl), rfl, by omega, ?_⟩
      refine hP _ _ _ _ _ ?_
      refine hP _ _ _ _ _ ⟨(zi hn rfl rfl rfl), _, fx_Model_kindsNow hF, (by decide), ?_⟩
      refine hP _ _ _ _ _ ?_
      refine hP _ _ _ _ _ ?_
      refine hP _ _ _ _ _ ⟨(zi hn rfl rfl rfl), _, fx_Model_powers hF, (by decide), ?_⟩
      refine hP _ _ _ _ _ ?_
      refine hP _ _ _ _ _ ?_
      refine hP _ _ _ _ _ ?_
      refine hP _ _ _ _ _ ?_
      refine hP _ _ _ _ _ ?_
      refine hP _ _ _ _ _ ⟨_, 8 * i + 3, (zi hn rfl rfl rfl), nlin 8 i 3, by omega, ?_⟩
      refine hP _ _ _ _ _ ⟨_, i, (zi hn rfl rfl rfl), rfl, by omega, ?_⟩
      refine hP _ _ _ _ _ ?_
      refine hP _ _ _ _ _ ⟨(zi hn rfl rfl rfl), _, fx_Model_mostNow hF, (by decide), ?_⟩
      refine hP _ _ _ _ _ ?_
      refine hP _ _ _ _ _ ?_
      refine hP _ _ _ _ _ ⟨(zi hn rfl rfl rfl), _, fx_Model_powers hF, (by decide), ?_⟩
      refine hP _ _ _ _ _ ?_
      refine hP _ _ _ _ _ ?_
      refine hP _ _ _ _ _ ?_
      refine hP _ _ _ _ _ ?_
      refine hP _ _ _ _ _ ?_
      refine hP _ _ _ _ _ ⟨_, 8 * i + 4, (zi hn rfl rfl rfl), nlin 8 i 4, by omega, ?_⟩
      refine hP _ _ _ _ _ ⟨_, i, (zi hn rfl rfl rfl), rfl, by omega, ?_⟩
      refine hP _ _ _ _ _ ?_
      refine hP _ _ _ _ _ ?_
      exact ih
  refine hP _ _ _ _ _ ?_
  refine hP _ _ _ _ _ ?_
  exact loop1 0 (by omega)
