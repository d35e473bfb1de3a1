/-! ===== making: the class ===== -/
theorem fs_I {mem : zM} {i a j : Nat} {v : Int32} (h : zfresh mem i) (hi : i ≠ a) : zfresh (zI mem a j v) i := fun b => ⟨by rw [zI_ne hi]; exact (h b).1, (h b).2.1, (h b).2.2⟩
theorem fs_R {mem : zM} {i a j v : Nat} (h : zfresh mem i) (hi : i ≠ a) : zfresh (zR mem a j v) i := fun b => ⟨(h b).1, (h b).2.1, by rw [zR_o (fun z => hi z.1)]; exact (h b).2.2⟩
theorem fs_f {S : Nat → Nat → Prop} {mem M : zM} {i : Nat} (f : zfr S mem M) (h : zfresh mem i) (hi : ∀ b, ¬ S i b) : zfresh M i := fun b => ⟨(f.1 i b (hi b)).trans (h b).1, (f.2.1 i b (hi b)).trans (h b).2.1, (f.2.2 i b (hi b)).trans (h b).2.2⟩
def k_X0_init : zCt := fun as n mem Q => ∃ (i : Nat), as = [.ref i] ∧ Q none n mem
theorem ok_X0_init {l : Launch} {G : zG} : zOK l G yX0_init cX0_init 1 none 1 0 0 k_X0_init := by
  intro as n mem Q hK
  obtain ⟨i, rfl, hQ⟩ := hK
  refine mtX0_init (by decide) (List.forall_mem_cons.mpr ⟨rfl, fun _ h => absurd h List.not_mem_nil⟩) (by simp) rfl (fun P hP => ?_)
  show P 0 [.ref i] [] n mem
  refine hP _ _ _ _ _ ?_
  refine hP _ _ _ _ _ ⟨Nat.le_of_ble_eq_true rfl, ?_⟩
  refine hP _ _ _ _ _ ?_
  exact ⟨rfl, hQ⟩
def k_X5_init : zCt := fun as n mem Q => ∃ (i : Nat), as = [.ref i] ∧ Q none n mem
theorem ok_X5_init {l : Launch} {G : zG} : zOK l G yX5_init cX5_init 1 none 1 0 0 k_X5_init := by
  intro as n mem Q hK
  obtain ⟨i, rfl, hQ⟩ := hK
  refine mtX5_init (by decide) (List.forall_mem_cons.mpr ⟨rfl, fun _ h => absurd h List.not_mem_nil⟩) (by simp) rfl (fun P hP => ?_)
  show P 0 [.ref i] [] n mem
  refine hP _ _ _ _ _ ?_
  refine hP _ _ _ _ _ ⟨Nat.le_of_ble_eq_true rfl, ?_⟩
  refine hP _ _ _ _ _ ?_
  exact ⟨rfl, hQ⟩
def k_X6_init : zCt := fun as n mem Q => as = [.ref 101] ∧ n = 2 ∧ zfresh mem 102 ∧ Q none 3 (zR mem 101 0 102)
theorem ok_X6_init {l : Launch} {G : zG} : zOK l G yX6_init cX6_init 1 none 1 1 840 k_X6_init := by
  intro as n mem Q hK
  obtain ⟨rfl, rfl, hz, hQ⟩ := hK
  refine mtX6_init (by decide) (List.forall_mem_cons.mpr ⟨rfl, fun _ h => absurd h List.not_mem_nil⟩) (by simp) (by decide +kernel) (fun P hP => ?_)
  show P 0 [.ref 101] [] _ mem
  refine hP _ _ _ _ _ ?_
  refine hP _ _ _ _ _ ⟨Nat.le_of_ble_eq_true rfl, ?_⟩
  refine hP _ _ _ _ _ ?_
  refine hP _ _ _ _ _ ?_
  refine hP _ _ _ _ _ ⟨_, rfl, Nat.le_of_ble_eq_true rfl, rfl, by decide, hz, ?_⟩
  refine hP _ _ _ _ _ ⟨⟨rfl, by decide, by decide⟩, ?_⟩
  refine hP _ _ _ _ _ ?_
  exact ⟨rfl, hQ⟩
def k_X3_init : zCt := fun as n mem Q => as = [.ref 117] ∧ n = 18 ∧ zfresh mem 118 ∧ Q none 19 (zR mem 117 0 118)
theorem ok_X3_init {l : Launch} {G : zG} : zOK l G yX3_init cX3_init 1 none 1 1 80 k_X3_init := by
  intro as n mem Q hK
  obtain ⟨rfl, rfl, hz, hQ⟩ := hK
  refine mtX3_init (by decide) (List.forall_mem_cons.mpr ⟨rfl, fun _ h => absurd h List.not_mem_nil⟩) (by simp) (by decide +kernel) (fun P hP => ?_)
  show P 0 [.ref 117] [] _ mem
  refine hP _ _ _ _ _ ?_
  refine hP _ _ _ _ _ ⟨Nat.le_of_ble_eq_true rfl, ?_⟩
  refine hP _ _ _ _ _ ?_
  refine hP _ _ _ _ _ ?_
  refine hP _ _ _ _ _ ⟨_, rfl, Nat.le_of_ble_eq_true rfl, rfl, by decide, hz, ?_⟩
  refine hP _ _ _ _ _ ⟨⟨rfl, by decide, by decide⟩, ?_⟩
  refine hP _ _ _ _ _ ?_
  exact ⟨rfl, hQ⟩
def k_X1_init : zCt := fun as n mem Q => as = [.ref 114] ∧ n = 15 ∧ zfresh mem 115 ∧ zfresh mem 116 ∧ Q none 17 (zI (zR (zR mem 114 0 115) 114 1 116) 114 6 (-1))
theorem ok_X1_init {l : Launch} {G : zG} : zOK l G yX1_init cX1_init 1 none 1 2 16 k_X1_init := by
  intro as n mem Q hK
  obtain ⟨rfl, rfl, h5, h6, hQ⟩ := hK
  refine mtX1_init (by decide) (List.forall_mem_cons.mpr ⟨rfl, fun _ h => absurd h List.not_mem_nil⟩) (by simp) (by decide +kernel) (fun P hP => ?_)
  show P 0 [.ref 114] [] _ mem
  refine hP _ _ _ _ _ ?_
  refine hP _ _ _ _ _ ⟨Nat.le_of_ble_eq_true rfl, ?_⟩
  refine hP _ _ _ _ _ ?_
  refine hP _ _ _ _ _ ?_
  refine hP _ _ _ _ _ ⟨_, rfl, Nat.le_of_ble_eq_true rfl, rfl, by decide, h5, ?_⟩
  refine hP _ _ _ _ _ ⟨⟨rfl, by decide, by decide⟩, ?_⟩
  refine hP _ _ _ _ _ ?_
  refine hP _ _ _ _ _ ?_
  refine hP _ _ _ _ _ ⟨_, rfl, Nat.le_of_ble_eq_true rfl, rfl, by decide, fs_R h6 (by decide), ?_⟩
  refine hP _ _ _ _ _ ⟨⟨rfl, by decide, by decide⟩, ?_⟩
  refine hP _ _ _ _ _ ?_
  refine hP _ _ _ _ _ ?_
  refine hP _ _ _ _ _ ⟨⟨rfl, by decide, by decide⟩, ?_⟩
  refine hP _ _ _ _ _ ?_
  exact ⟨rfl, hQ⟩
def k_X2_init : zCt := fun as n mem Q => as = [.ref 104, .ref 101] ∧ n = 5 ∧ zfresh mem 105 ∧ zfresh mem 106 ∧ zfresh mem 107 ∧ Q none 8 (zR (zR (zR (zR (zR mem 104 2 105) 104 3 106) 104 4 107) 104 0 101) 105 0 2)
theorem ok_X2_init {l : Launch} {G : zG} : zOK l G yX2_init cX2_init 2 none 1 3 2403 k_X2_init := by
  intro as n mem Q hK
  obtain ⟨rfl, rfl, h5, h6, h7, hQ⟩ := hK
  refine mtX2_init (by decide) (List.forall_mem_cons.mpr ⟨rfl, List.forall_mem_cons.mpr ⟨rfl, fun _ h => absurd h List.not_mem_nil⟩⟩) (by simp) (by decide +kernel) (fun P hP => ?_)
  show P 0 [.ref 104, .ref 101] [] _ mem
  refine hP _ _ _ _ _ ?_
  refine hP _ _ _ _ _ ⟨Nat.le_of_ble_eq_true rfl, ?_⟩
  refine hP _ _ _ _ _ ?_
  refine hP _ _ _ _ _ ?_
  refine hP _ _ _ _ _ ⟨_, rfl, Nat.le_of_ble_eq_true rfl, rfl, by decide, h5, ?_⟩
  refine hP _ _ _ _ _ ⟨⟨rfl, by decide, by decide⟩, ?_⟩
  refine hP _ _ _ _ _ ?_
  refine hP _ _ _ _ _ ?_
  refine hP _ _ _ _ _ ⟨_, rfl, Nat.le_of_ble_eq_true rfl, rfl, by decide, fs_R h6 (by decide), ?_⟩
  refine hP _ _ _ _ _ ⟨⟨rfl, by decide, by decide⟩, ?_⟩
  refine hP _ _ _ _ _ ?_
  refine hP _ _ _ _ _ ?_
  refine hP _ _ _ _ _ ⟨_, rfl, Nat.le_of_ble_eq_true rfl, rfl, by decide, fs_R (fs_R h7 (by decide)) (by decide), ?_⟩
  refine hP _ _ _ _ _ ⟨⟨rfl, by decide, by decide⟩, ?_⟩
  refine hP _ _ _ _ _ ?_
  refine hP _ _ _ _ _ ?_
  refine hP _ _ _ _ _ ⟨⟨rfl, by decide, by decide⟩, ?_⟩
  refine hP _ _ _ _ _ ?_
  refine hP _ _ _ _ _ ⟨⟨rfl, by decide, by decide⟩, _, (show _ = 105 from rfl), (by decide), ?_⟩
  refine hP _ _ _ _ _ ?_
  refine hP _ _ _ _ _ ?_
  refine hP _ _ _ _ _ ⟨_, 0, ⟨rfl, by decide, by decide⟩, rfl, by decide, ztc rfl rfl, ?_⟩
  refine hP _ _ _ _ _ ?_
  exact ⟨rfl, hQ⟩
def k_X7_init : zCt := fun as n mem Q => as = [.ref 103, .ref 101] ∧ n = 4 ∧ zfresh mem 104 ∧ zfresh mem 105 ∧ zfresh mem 106 ∧ zfresh mem 107 ∧ Q none 8 (zR (zR (zR (zR (zR (zR (zR mem 103 3 2) 104 2 105) 104 3 106) 104 4 107) 104 0 101) 105 0 2) 103 0 104)
theorem ok_X7_init {l : Launch} {G : zG} : zOK l G yX7_init cX7_init 2 none 2 4 2409 k_X7_init := by
  intro as n mem Q hK
  obtain ⟨rfl, rfl, h4, h5, h6, h7, hQ⟩ := hK
  refine mtX7_init ok_X2_init (by decide) (by decide) (List.forall_mem_cons.mpr ⟨rfl, List.forall_mem_cons.mpr ⟨rfl, fun _ h => absurd h List.not_mem_nil⟩⟩) (by simp) (by decide +kernel) (fun P hP => ?_)
  show P 0 [.ref 103, .ref 101] [] _ mem
  refine hP _ _ _ _ _ ?_
  refine hP _ _ _ _ _ ⟨Nat.le_of_ble_eq_true rfl, ?_⟩
  refine hP _ _ _ _ _ ?_
  refine hP _ _ _ _ _ ?_
  refine hP _ _ _ _ _ ⟨⟨rfl, by decide, by decide⟩, ?_⟩
  refine hP _ _ _ _ _ ?_
  refine hP _ _ _ _ _ ⟨rfl, by decide, fs_R h4 (by decide), ?_⟩
  refine hP _ _ _ _ _ ?_
  refine hP _ _ _ _ _ ?_
  refine hP _ _ _ _ _ ⟨Nat.le_of_ble_eq_true rfl, Nat.le_of_ble_eq_true rfl, by decide, by decide +kernel, ?_⟩
  refine ⟨rfl, rfl, fs_R h5 (by decide), fs_R h6 (by decide), fs_R h7 (by decide), ?_⟩
  refine hP _ _ _ _ _ ⟨⟨rfl, by decide, by decide⟩, ?_⟩
  refine hP _ _ _ _ _ ?_
  exact ⟨rfl, hQ⟩
def k_X4_init : zCt := fun as n mem Q => as = [.ref 108] ∧ n = 9 ∧ (∀ i, 109 ≤ i → i ≤ 113 → zfresh mem i) ∧ (∀ r, (∀ j, j < 8 → r j = -1) → Q none 14 (zrw (zR (zR (zR (zR (zR mem 108 0 109) 108 1 110) 108 2 111) 108 3 112) 108 4 113) 113 r))
theorem ok_X4_init {l : Launch} {G : zG} : zOK l G yX4_init cX4_init 1 none 1 5 1212 k_X4_init := by
  intro as n mem Q hK
  obtain ⟨rfl, rfl, hz, hQ⟩ := hK
  refine mtX4_init ok_J7_fill_53178 (by decide) (by decide) (List.forall_mem_cons.mpr ⟨rfl, fun _ h => absurd h List.not_mem_nil⟩) (by simp) (by decide +kernel) (fun P hP => ?_)
  show P 0 [.ref 108] [] _ mem
  refine hP _ _ _ _ _ ?_
  refine hP _ _ _ _ _ ⟨Nat.le_of_ble_eq_true rfl, ?_⟩
  refine hP _ _ _ _ _ ?_
  refine hP _ _ _ _ _ ?_
  refine hP _ _ _ _ _ ⟨_, rfl, Nat.le_of_ble_eq_true rfl, rfl, by decide, hz 109 (by decide) (by decide), ?_⟩
  refine hP _ _ _ _ _ ⟨⟨rfl, by decide, by decide⟩, ?_⟩
  refine hP _ _ _ _ _ ?_
  refine hP _ _ _ _ _ ?_
  refine hP _ _ _ _ _ ⟨_, rfl, Nat.le_of_ble_eq_true rfl, rfl, by decide, fs_R (hz 110 (by decide) (by decide)) (by decide), ?_⟩
  refine hP _ _ _ _ _ ⟨⟨rfl, by decide, by decide⟩, ?_⟩
  refine hP _ _ _ _ _ ?_
  refine hP _ _ _ _ _ ?_
  refine hP _ _ _ _ _ ⟨_, rfl, Nat.le_of_ble_eq_true rfl, rfl, by decide, fs_R (fs_R (hz 111 (by decide) (by decide)) (by decide)) (by decide), ?_⟩
  refine hP _ _ _ _ _ ⟨⟨rfl, by decide, by decide⟩, ?_⟩
  refine hP _ _ _ _ _ ?_
  refine hP _ _ _ _ _ ?_
  refine hP _ _ _ _ _ ⟨_, rfl, Nat.le_of_ble_eq_true rfl, rfl, by decide, fs_R (fs_R (fs_R (hz 112 (by decide) (by decide)) (by decide)) (by decide)) (by decide), ?_⟩
  refine hP _ _ _ _ _ ⟨⟨rfl, by decide, by decide⟩, ?_⟩
  refine hP _ _ _ _ _ ?_
  refine hP _ _ _ _ _ ?_
  refine hP _ _ _ _ _ ⟨_, rfl, Nat.le_of_ble_eq_true rfl, rfl, by decide, fs_R (fs_R (fs_R (fs_R (hz 113 (by decide) (by decide)) (by decide)) (by decide)) (by decide)) (by decide), ?_⟩
  refine hP _ _ _ _ _ ⟨⟨rfl, by decide, by decide⟩, ?_⟩
  refine hP _ _ _ _ _ ?_
  refine hP _ _ _ _ _ ⟨⟨rfl, by decide, by decide⟩, _, (show _ = 113 from rfl), (by decide), ?_⟩
  refine hP _ _ _ _ _ ?_
  refine hP _ _ _ _ _ ⟨Nat.le_of_ble_eq_true rfl, Nat.le_of_ble_eq_true rfl, ?_⟩
  refine ⟨113, 8, -1, rfl, ⟨rfl, by decide, by decide⟩, fun r hr => ?_⟩
  refine hP _ _ _ _ _ ?_
  exact ⟨rfl, hQ r hr⟩
/-- what is told, made at t -/
def fTo (t a b : Nat) : Prop := (a = t ∧ b = 0) ∨ (a = t + 1 ∧ b < 20)
def k_X9_init : zCt := fun as n mem Q => ∃ (t : Nat), as = [.ref t] ∧ ((t = 136 ∧ n = 37) ∨ (t = 158 ∧ n = 59)) ∧ (∀ i, t < i → i < t + 22 → zfresh mem i) ∧ (∀ M, zfr (fTo t) mem M → M.1 = mem.1 → M.2.1 = mem.2.1 → M.2.2 t 0 = t + 1 → (∀ p, p < 20 → M.2.2 (t + 1) p = t + 2 + p) → Q none (n + 21) M)
theorem kd9 {t n : Nat} (h : (t = 136 ∧ n = 37) ∨ (t = 158 ∧ n = 59)) : zkd t = .inl 9 ∧ zkd (t + 1) = .inr (4, 20) ∧ ∀ p, p < 20 → zkd (t + 2 + p) = .inl 5 := by
  rcases h with ⟨rfl, -⟩ | ⟨rfl, -⟩
  · exact ⟨rfl, rfl, fun p hp => zkd_pw (Or.inl rfl) hp⟩
  · exact ⟨rfl, rfl, fun p hp => zkd_pw (Or.inr rfl) hp⟩
theorem ok_X9_init {l : Launch} {G : zG} : zOK l G yX9_init cX9_init 2 none 2 21 320 k_X9_init := by
  intro as n mem Q hK
  obtain ⟨t, rfl, htn, hz, hQ⟩ := hK
  refine mtX9_init ok_X5_init (by decide) (by decide) (List.forall_mem_cons.mpr ⟨rfl, fun _ h => absurd h List.not_mem_nil⟩) (by simp) (by rcases htn with ⟨-, rfl⟩ | ⟨-, rfl⟩ <;> decide +kernel) (fun P hP => ?_)
  show P 0 [.ref t, .null] [] n mem
  obtain ⟨kt, ka, kp⟩ := kd9 htn
  have e0 : 100 + n = t + 1 := by omega
  have zt : ∀ m, n ≤ m → zis m t (.inl 9) := fun m hm => ⟨kt, by omega, by omega⟩
  have za : ∀ m, n + 1 ≤ m → zis m (t + 1) (.inr (4, 20)) := fun m hm => ⟨ka, by omega, by omega⟩
  have loop : ∀ i, i ≤ 20 → ∀ M, zfr (fTo t) mem M → M.1 = mem.1 → M.2.1 = mem.2.1 → M.2.2 t 0 = t + 1 → (∀ p, p < i → M.2.2 (t + 1) p = t + 2 + p) → P 15 [.ref t, .int (nI i)] [] (n + 1 + i) M := by
    refine zloop ?_ ?_
    · intro M fM a b c d
      refine hP _ _ _ _ _ ?_
      refine hP _ _ _ _ _ ?_
      refine hP _ _ _ _ _ ⟨fun _ => ?_, fun hz => absurd ( by decide) hz⟩
      refine hP _ _ _ _ _ ?_
      exact ⟨rfl, hQ M fM a b c d⟩
    · intro i hi ih M fM a b c d
      have e1 : 100 + (n + 1 + i) = t + 2 + i := by omega
      have hfr : zfresh M (100 + (n + 1 + i)) := by rw [e1]; exact fs_f fM (hz _ (by omega) (by omega)) (fun b => by unfold fTo; omega)
      have ih1 := ih (zR M (t + 1) i (t + 2 + i)) (fM.R (Or.inr ⟨rfl, hi⟩)) a b (by rw [zR_o (by omega)]; exact c) (fun p hp => by
        by_cases z : p = i
        · subst z; exact zR_s
        · rw [zR_o (by omega)]; exact d p (by omega))
      rw [nI_succ i] at ih1
      refine hP _ _ _ _ _ ?_
      refine hP _ _ _ _ _ ?_
      refine hP _ _ _ _ _ ⟨fun hz => absurd hz ( nI_ge (b := 20) hi (by omega)), fun _ => ?_⟩
      refine hP _ _ _ _ _ ?_
      refine hP _ _ _ _ _ ⟨(zt _ (by omega)), _, c, (by omega), ?_⟩
      refine hP _ _ _ _ _ ?_
      refine hP _ _ _ _ _ ⟨by rw [e1]; exact kp i hi, by omega, hfr, ?_⟩
      refine hP _ _ _ _ _ ?_
      refine hP _ _ _ _ _ ⟨Nat.le_of_ble_eq_true rfl, Nat.le_of_ble_eq_true rfl, by omega, rfl, ?_⟩
      refine ⟨_, rfl, ?_⟩
      show P 33 [.ref t, .int (nI i)] [.ref (100 + (n + 1 + i)), .int (nI i), .ref (t + 1)] (n + 1 + i + 1) M
      rw [show 100 + (n + 1 + i) = t + 1 + i + 1 by omega]
      refine hP _ _ _ _ _ ⟨_, i, (za _ (by omega)), rfl, hi, ⟨by rw [show t + 1 + i + 1 = t + 2 + i by omega]; exact kp i hi, by omega, by omega⟩, ?_⟩
      refine hP _ _ _ _ _ ?_
      refine hP _ _ _ _ _ ?_
      rw [show t + 1 + i + 1 = t + 2 + i by omega]
      exact ih1
  refine hP _ _ _ _ _ ?_
  refine hP _ _ _ _ _ ⟨Nat.le_of_ble_eq_true rfl, ?_⟩
  refine hP _ _ _ _ _ ?_
  refine hP _ _ _ _ _ ?_
  refine hP _ _ _ _ _ ⟨_, rfl, Nat.le_of_ble_eq_true rfl, by rw [e0]; exact ka, by omega, by rw [e0]; exact hz _ (by omega) (by omega), ?_⟩
  show P 10 [.ref t, .null] [.ref (100 + n), .ref t] (n + 1) mem
  rw [e0]
  refine hP _ _ _ _ _ ⟨(zt _ (by omega)), ?_⟩
  refine hP _ _ _ _ _ ?_
  refine hP _ _ _ _ _ ?_
  exact loop 0 (by omega) (zR mem t 0 (t + 1)) (zfr.rf.R (Or.inl ⟨rfl, rfl⟩)) rfl rfl zR_s (fun p hp => absurd hp (Nat.not_lt_zero _))
