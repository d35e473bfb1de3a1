theorem zR_at {m : zM} {i j v a b : Nat} : (zR m i j v).2.2 a b = if a = i then (if b = j then v else m.2.2 a b) else m.2.2 a b := rfl
theorem zI_2 {m : zM} {i j : Nat} {v : Int32} : (zI m i j v).2.2 = m.2.2 := rfl
theorem zrw_2 {m : zM} {a : Nat} {r : Nat → Int32} : (zrw m a r).2.2 = m.2.2 := rfl
theorem fs_w {mem : zM} {i a : Nat} {r : Nat → Int32} (h : zfresh mem i) (hi : i ≠ a) : zfresh (zrw mem a r) i := fun b => ⟨by rw [zrw_at, if_neg hi]; exact (h b).1, (h b).2.1, (h b).2.2⟩
/-- the class's own references -/
def zFc (M : zM) : Prop := (∀ q ∈ zfxl, q.1 < 180 → M.2.2 q.1 q.2.1 = q.2.2) ∧ (∀ p, p < 20 → M.2.2 137 p = 138 + p ∧ M.2.2 159 p = 160 + p) ∧ (∀ a, a < 16 → M.2.2 119 a = 120 + a) ∧ M.2.2 100 8 = 136 ∧ M.2.2 100 9 = 158
/-- what was set down while making: mem before -/
def zMk (mem M : zM) : Prop := (∀ a, a ≠ 113 → a ≠ 114 → M.1 a = mem.1 a) ∧ (∀ b, b ≠ 6 → M.1 114 b = mem.1 114 b) ∧ (∀ j, j < 8 → M.1 113 j = -1) ∧ M.1 114 6 = -1
def k_X10_init : zCt := fun as n mem Q => as = [.ref 100] ∧ n = 1 ∧ (∀ i, 101 ≤ i → zfresh mem i) ∧ (∀ M, zFc M → zMk mem M → (∀ i, 180 ≤ i → zfresh M i) → Q none 80 M)
theorem ok_X10_init {l : Launch} {G : zG} : zOK l G yX10_init cX10_init 2 none 3 79 5439 k_X10_init := by
  intro as n mem Q hK
  obtain ⟨rfl, rfl, hz, hQ⟩ := hK
  refine mtX10_init ok_X6_init (by decide) ok_X7_init (by decide) ok_X4_init (by decide) ok_X1_init (by decide) ok_X3_init (by decide) ok_X0_init (by decide) ok_X9_init (by decide) (by decide) (List.forall_mem_cons.mpr ⟨rfl, fun _ h => absurd h List.not_mem_nil⟩) (by simp) (by decide +kernel) (fun P hP => ?_)
  show P 0 [.ref 100, .null] [] _ mem
  -- the two of what is told
  have told : ∀ M, (∀ q ∈ zfxl, q.1 < 136 → M.2.2 q.1 q.2.1 = q.2.2) → (∀ a, a < 16 → M.2.2 119 a = 120 + a) → zMk mem M → (∀ i, 136 ≤ i → zfresh M i) → ∀ v, P 99 [.ref 100, v] [] 36 M := by
    intro M hx ha hm hf v
    refine hP _ _ _ _ _ ?_
    refine hP _ _ _ _ _ ⟨rfl, by decide, hf _ (by decide), ?_⟩
    refine hP _ _ _ _ _ ?_
    refine hP _ _ _ _ _ ⟨Nat.le_of_ble_eq_true rfl, Nat.le_of_ble_eq_true rfl, by decide, by decide +kernel, ?_⟩
    refine ⟨136, rfl, Or.inl ⟨rfl, rfl⟩, fun i h1 h2 => hf i (by omega), fun M1 f1 a1 b1 c1 d1 => ?_⟩
    have hf1 : ∀ i, 158 ≤ i → zfresh M1 i := fun i hi => fs_f f1 (hf i (by omega)) (fun b => by unfold fTo; omega)
    refine hP _ _ _ _ _ ⟨⟨rfl, by decide, by decide⟩, ?_⟩
    refine hP _ _ _ _ _ ?_
    refine hP _ _ _ _ _ ⟨rfl, by decide, fs_R (hf1 _ (by decide)) (by decide), ?_⟩
    refine hP _ _ _ _ _ ?_
    refine hP _ _ _ _ _ ⟨Nat.le_of_ble_eq_true rfl, Nat.le_of_ble_eq_true rfl, by decide, by decide +kernel, ?_⟩
    refine ⟨158, rfl, Or.inr ⟨rfl, rfl⟩, fun i h1 h2 => fs_R (hf1 i (by omega)) (by omega), fun M2 f2 a2 b2 c2 d2 => ?_⟩
    refine hP _ _ _ _ _ ⟨⟨rfl, by decide, by decide⟩, ?_⟩
    refine hP _ _ _ _ _ ?_
    have e1 : M2.1 = M.1 := a2.trans a1
    have g2 : ∀ a b, ¬ fTo 158 a b → ¬ (a = 100 ∧ b = 8) → M2.2.2 a b = M1.2.2 a b := fun a b h1 h2 => (f2.2.2 a b h1).trans (zR_o h2)
    have g1 : ∀ a b, ¬ fTo 136 a b → M1.2.2 a b = M.2.2 a b := fun a b h => f1.2.2 a b h
    refine ⟨rfl, hQ _ ⟨?_, fun p hp => ?_, fun a h16 => ?_, ?_, zR_s⟩ ⟨fun a h1 h2 => by rw [zR_1, e1]; exact hm.1 a h1 h2, fun b h1 => by rw [zR_1, e1]; exact hm.2.1 b h1, fun j hj => by rw [zR_1, e1]; exact hm.2.2.1 j hj, by rw [zR_1, e1]; exact hm.2.2.2⟩ (fun i hi => fs_R (fs_f f2 (fs_R (hf1 i (by omega)) (by omega)) (fun b => by unfold fTo; omega)) (by omega))⟩
    · intro q hq hlt
      by_cases z : q.1 < 136
      · have h9 : ¬ (q.1 = 100 ∧ q.2.1 = 9) ∧ ¬ (q.1 = 100 ∧ q.2.1 = 8) := (by decide +kernel : ∀ q ∈ zfxl, ¬ (q.1 = 100 ∧ q.2.1 = 9) ∧ ¬ (q.1 = 100 ∧ q.2.1 = 8)) q hq
        rw [zR_o h9.1, g2 _ _ (by unfold fTo; omega) h9.2, g1 _ _ (by unfold fTo; omega)]
        exact hx q hq z
      · have h2 : q = (136, 0, 137) ∨ q = (158, 0, 159) := (by decide +kernel : ∀ q ∈ zfxl, q.1 < 180 → ¬ q.1 < 136 → q = (136, 0, 137) ∨ q = (158, 0, 159)) q hq hlt z
        rcases h2 with rfl | rfl
        · rw [zR_o (by decide), g2 _ _ (by unfold fTo; omega) (by decide)]; exact c1
        · rw [zR_o (by decide)]; exact c2
    · rw [zR_o (by omega), zR_o (by omega), g2 _ _ (by unfold fTo; omega) (by omega)]
      exact ⟨d1 p hp, d2 p hp⟩
    · rw [zR_o (by omega), g2 _ _ (by unfold fTo; omega) (by omega), g1 _ _ (by unfold fTo; omega)]
      exact ha a h16
    · rw [zR_o (by decide), f2.2.2 100 8 (by unfold fTo; omega)]; exact zR_s
  have acts : ∀ i, i ≤ 16 → ∀ M, (∀ q ∈ zfxl, q.1 < 136 → M.2.2 q.1 q.2.1 = q.2.2) → (∀ a, a < i → M.2.2 119 a = 120 + a) → zMk mem M → (∀ j, 120 ≤ j → zfresh M j) → P 74 [.ref 100, .int (nI i)] [] (20 + i) M := by
    refine zloop ?_ ?_
    · intro M hx ha hm hf
      refine hP _ _ _ _ _ ?_
      refine hP _ _ _ _ _ ?_
      refine hP _ _ _ _ _ ⟨fun _ => ?_, fun hz => absurd ( by decide) hz⟩
      exact told M hx ha hm (fun i hi => hf i (by omega)) _
    · intro i hi ih M hx ha hm hf
      have e1 : 100 + (20 + i) = 120 + i := by omega
      have ih1 := ih (zR M 119 i (120 + i)) (fun q hq hlt => by
        have h9 : q.1 ≠ 119 := (by decide +kernel : ∀ q ∈ zfxl, q.1 ≠ 119) q hq
        rw [zR_o (fun z => h9 z.1)]; exact hx q hq hlt) (fun a h1 => by
        by_cases z : a = i
        · subst z; exact zR_s
        · rw [zR_o (by omega)]; exact ha a (by omega)) hm (fun j hj => fs_R (hf j hj) (by omega))
      rw [nI_succ i] at ih1
      refine hP _ _ _ _ _ ?_
      refine hP _ _ _ _ _ ?_
      refine hP _ _ _ _ _ ⟨fun hz => absurd hz ( nI_ge (b := 16) hi (by omega)), fun _ => ?_⟩
      refine hP _ _ _ _ _ ?_
      refine hP _ _ _ _ _ ⟨⟨rfl, by omega, by omega⟩, _, (hx (100, 5, 119) (List.mem_of_getElem? (i := 5) rfl) (by decide)), (by decide), ?_⟩
      refine hP _ _ _ _ _ ?_
      refine hP _ _ _ _ _ ⟨by rw [e1]; exact zkd_act hi, by omega, by rw [e1]; exact hf _ (by omega), ?_⟩
      refine hP _ _ _ _ _ ?_
      refine hP _ _ _ _ _ ⟨Nat.le_of_ble_eq_true rfl, Nat.le_of_ble_eq_true rfl, by omega, rfl, ?_⟩
      refine ⟨_, rfl, ?_⟩
      show P 92 [.ref 100, .int (nI i)] [.ref (100 + (20 + i)), .int (nI i), .ref 119] (20 + i + 1) M
      rw [show 100 + (20 + i) = 119 + i + 1 by omega]
      refine hP _ _ _ _ _ ⟨_, i, ⟨rfl, by omega, by omega⟩, rfl, hi, ⟨by rw [show 119 + i + 1 = 120 + i by omega]; exact zkd_act hi, by omega, by omega⟩, ?_⟩
      refine hP _ _ _ _ _ ?_
      refine hP _ _ _ _ _ ?_
      rw [show 119 + i + 1 = 120 + i by omega]
      exact ih1
  refine hP _ _ _ _ _ ?_
  refine hP _ _ _ _ _ ⟨Nat.le_of_ble_eq_true rfl, ?_⟩
  refine hP _ _ _ _ _ ?_
  refine hP _ _ _ _ _ ⟨rfl, by decide, hz _ (by decide), ?_⟩
  refine hP _ _ _ _ _ ?_
  refine hP _ _ _ _ _ ⟨Nat.le_of_ble_eq_true rfl, Nat.le_of_ble_eq_true rfl, by decide, by decide +kernel, ?_⟩
  refine ⟨rfl, rfl, hz _ (by decide), ?_⟩
  refine hP _ _ _ _ _ ⟨⟨rfl, by decide, by decide⟩, ?_⟩
  refine hP _ _ _ _ _ ?_
  refine hP _ _ _ _ _ ⟨rfl, by decide, fs_R (fs_R (hz _ (by decide)) (by decide)) (by decide), ?_⟩
  refine hP _ _ _ _ _ ?_
  refine hP _ _ _ _ _ ?_
  refine hP _ _ _ _ _ ⟨⟨rfl, by decide, by decide⟩, _, (show _ = 101 from rfl), (by decide), ?_⟩
  refine hP _ _ _ _ _ ⟨Nat.le_of_ble_eq_true rfl, Nat.le_of_ble_eq_true rfl, by decide, by decide +kernel, ?_⟩
  refine ⟨rfl, rfl, fs_R (fs_R (hz _ (by decide)) (by decide)) (by decide), fs_R (fs_R (hz _ (by decide)) (by decide)) (by decide), fs_R (fs_R (hz _ (by decide)) (by decide)) (by decide), fs_R (fs_R (hz _ (by decide)) (by decide)) (by decide), ?_⟩
  refine hP _ _ _ _ _ ⟨⟨rfl, by decide, by decide⟩, ?_⟩
  refine hP _ _ _ _ _ ?_
  refine hP _ _ _ _ _ ⟨rfl, by decide, fs_R (fs_R (fs_R (fs_R (fs_R (fs_R (fs_R (fs_R (fs_R (fs_R (hz _ (by decide)) (by decide)) (by decide)) (by decide)) (by decide)) (by decide)) (by decide)) (by decide)) (by decide)) (by decide)) (by decide), ?_⟩
  refine hP _ _ _ _ _ ?_
  refine hP _ _ _ _ _ ⟨Nat.le_of_ble_eq_true rfl, Nat.le_of_ble_eq_true rfl, by decide, by decide +kernel, ?_⟩
  refine ⟨rfl, rfl, fun i h1 h2 => fs_R (fs_R (fs_R (fs_R (fs_R (fs_R (fs_R (fs_R (fs_R (fs_R (hz _ (by omega)) (by omega)) (by omega)) (by omega)) (by omega)) (by omega)) (by omega)) (by omega)) (by omega)) (by omega)) (by omega), fun r hr => ?_⟩
  refine hP _ _ _ _ _ ⟨⟨rfl, by decide, by decide⟩, ?_⟩
  refine hP _ _ _ _ _ ?_
  refine hP _ _ _ _ _ ⟨rfl, by decide, fs_R (fs_w (fs_R (fs_R (fs_R (fs_R (fs_R (fs_R (fs_R (fs_R (fs_R (fs_R (fs_R (fs_R (fs_R (fs_R (fs_R (hz _ (by decide)) (by decide)) (by decide)) (by decide)) (by decide)) (by decide)) (by decide)) (by decide)) (by decide)) (by decide)) (by decide)) (by decide)) (by decide)) (by decide)) (by decide)) (by decide)) (by decide)) (by decide), ?_⟩
  refine hP _ _ _ _ _ ?_
  refine hP _ _ _ _ _ ⟨Nat.le_of_ble_eq_true rfl, Nat.le_of_ble_eq_true rfl, by decide, by decide +kernel, ?_⟩
  refine ⟨rfl, rfl, fs_R (fs_w (fs_R (fs_R (fs_R (fs_R (fs_R (fs_R (fs_R (fs_R (fs_R (fs_R (fs_R (fs_R (fs_R (fs_R (fs_R (hz _ (by decide)) (by decide)) (by decide)) (by decide)) (by decide)) (by decide)) (by decide)) (by decide)) (by decide)) (by decide)) (by decide)) (by decide)) (by decide)) (by decide)) (by decide)) (by decide)) (by decide)) (by decide), fs_R (fs_w (fs_R (fs_R (fs_R (fs_R (fs_R (fs_R (fs_R (fs_R (fs_R (fs_R (fs_R (fs_R (fs_R (fs_R (fs_R (hz _ (by decide)) (by decide)) (by decide)) (by decide)) (by decide)) (by decide)) (by decide)) (by decide)) (by decide)) (by decide)) (by decide)) (by decide)) (by decide)) (by decide)) (by decide)) (by decide)) (by decide)) (by decide), ?_⟩
  refine hP _ _ _ _ _ ⟨⟨rfl, by decide, by decide⟩, ?_⟩
  refine hP _ _ _ _ _ ?_
  refine hP _ _ _ _ _ ⟨rfl, by decide, fs_R (fs_I (fs_R (fs_R (fs_R (fs_w (fs_R (fs_R (fs_R (fs_R (fs_R (fs_R (fs_R (fs_R (fs_R (fs_R (fs_R (fs_R (fs_R (fs_R (fs_R (hz _ (by decide)) (by decide)) (by decide)) (by decide)) (by decide)) (by decide)) (by decide)) (by decide)) (by decide)) (by decide)) (by decide)) (by decide)) (by decide)) (by decide)) (by decide)) (by decide)) (by decide)) (by decide)) (by decide)) (by decide)) (by decide)) (by decide), ?_⟩
  refine hP _ _ _ _ _ ?_
  refine hP _ _ _ _ _ ⟨Nat.le_of_ble_eq_true rfl, Nat.le_of_ble_eq_true rfl, by decide, by decide +kernel, ?_⟩
  refine ⟨rfl, rfl, fs_R (fs_I (fs_R (fs_R (fs_R (fs_w (fs_R (fs_R (fs_R (fs_R (fs_R (fs_R (fs_R (fs_R (fs_R (fs_R (fs_R (fs_R (fs_R (fs_R (fs_R (hz _ (by decide)) (by decide)) (by decide)) (by decide)) (by decide)) (by decide)) (by decide)) (by decide)) (by decide)) (by decide)) (by decide)) (by decide)) (by decide)) (by decide)) (by decide)) (by decide)) (by decide)) (by decide)) (by decide)) (by decide)) (by decide)) (by decide), ?_⟩
  refine hP _ _ _ _ _ ⟨⟨rfl, by decide, by decide⟩, ?_⟩
  refine hP _ _ _ _ _ ?_
  refine hP _ _ _ _ _ ?_
  refine hP _ _ _ _ _ ⟨_, rfl, Nat.le_of_ble_eq_true rfl, rfl, by decide, fs_R (fs_R (fs_R (fs_I (fs_R (fs_R (fs_R (fs_w (fs_R (fs_R (fs_R (fs_R (fs_R (fs_R (fs_R (fs_R (fs_R (fs_R (fs_R (fs_R (fs_R (fs_R (fs_R (hz _ (by decide)) (by decide)) (by decide)) (by decide)) (by decide)) (by decide)) (by decide)) (by decide)) (by decide)) (by decide)) (by decide)) (by decide)) (by decide)) (by decide)) (by decide)) (by decide)) (by decide)) (by decide)) (by decide)) (by decide)) (by decide)) (by decide)) (by decide)) (by decide), ?_⟩
  refine hP _ _ _ _ _ ⟨⟨rfl, by decide, by decide⟩, ?_⟩
  refine hP _ _ _ _ _ ?_
  refine hP _ _ _ _ _ ?_
  refine acts 0 (by omega) _ ?_ (fun a ha => absurd ha (Nat.not_lt_zero _)) ⟨fun a h1 h2 => ?_, fun b hb => ?_, fun j hj => ?_, ?_⟩ (fun j hj => fs_R (fs_R (fs_R (fs_R (fs_I (fs_R (fs_R (fs_R (fs_w (fs_R (fs_R (fs_R (fs_R (fs_R (fs_R (fs_R (fs_R (fs_R (fs_R (fs_R (fs_R (fs_R (fs_R (fs_R (hz _ (by omega)) (by omega)) (by omega)) (by omega)) (by omega)) (by omega)) (by omega)) (by omega)) (by omega)) (by omega)) (by omega)) (by omega)) (by omega)) (by omega)) (by omega)) (by omega)) (by omega)) (by omega)) (by omega)) (by omega)) (by omega)) (by omega)) (by omega)) (by omega)) (by omega))
  · unfold zfxl
    simp only [List.forall_mem_cons, List.not_mem_nil, false_imp_iff, implies_true, and_true]
    refine ⟨?_, ?_, ?_, ?_, ?_, ?_, ?_, ?_, ?_, ?_, ?_, ?_, ?_, ?_, ?_, ?_, ?_, ?_, ?_, ?_, ?_, ?_, ?_, ?_, ?_, ?_, ?_, ?_, ?_, ?_, ?_, ?_, ?_, ?_, ?_, ?_, ?_, ?_⟩ <;> first | exact fun h => absurd h (by decide) | (intro _; repeat (first | rw [zR_o (by decide)] | rw [zI_2] | rw [zrw_2] | exact zR_s))
  · simp only [zR_1, zI_ne h2, zrw_at, if_neg h1]
  · simp only [zR_1, zI_o hb, zrw_at]
    rw [if_neg (by decide)]
  · exact hr j hj
  · rfl
def fMo (a b : Nat) : Prop := a = 180 ∨ sB a b
def k_X11_init : zCt := fun as n mem Q => as = [.ref 180] ∧ n = 81 ∧ (∀ i, 180 ≤ i → zfresh mem i) ∧ zFc mem ∧ (∀ M, zFx M → (∀ a, a < 180 → M.1 a = mem.1 a) → (∀ a, 189 ≤ a → ∀ b, M.1 a b = 0) → (∀ b, M.1 180 b = 0) → (∀ a, 181 ≤ a → a ≤ 183 → ∀ b, M.1 a b = 0) → (∀ i, i < 60 → M.1 185 i = -1) → (∀ i, i < 160 → M.1 186 i = -1) → (∀ i, i < 8 → M.1 187 i = -1) → (∀ i, i < 301 → M.1 184 i = 0 ∧ M.1 188 i = -1) → M.2.2 100 8 = 136 → (∀ i, 197 ≤ i → zfresh M i) → Q none 97 M)
theorem ok_X11_init {l : Launch} {G : zG} : zOK l G yX11_init cX11_init 1 none 1 16 3028 k_X11_init := by
  intro as n mem Q hK
  obtain ⟨rfl, rfl, hz, hFc, hQ⟩ := hK
  refine mtX11_init ok_X11_begins (by decide) (by decide) (List.forall_mem_cons.mpr ⟨rfl, fun _ h => absurd h List.not_mem_nil⟩) (by simp) (by decide +kernel) (fun P hP => ?_)
  show P 0 [.ref 180] [] _ mem
  refine hP _ _ _ _ _ ?_
  refine hP _ _ _ _ _ ⟨Nat.le_of_ble_eq_true rfl, ?_⟩
  refine hP _ _ _ _ _ ?_
  refine hP _ _ _ _ _ ?_
  refine hP _ _ _ _ _ ⟨_, rfl, Nat.le_of_ble_eq_true rfl, rfl, by decide, hz _ (by decide), ?_⟩
  refine hP _ _ _ _ _ ⟨⟨rfl, by decide, by decide⟩, ?_⟩
  refine hP _ _ _ _ _ ?_
  refine hP _ _ _ _ _ ?_
  refine hP _ _ _ _ _ ⟨_, rfl, Nat.le_of_ble_eq_true rfl, rfl, by decide, fs_R (hz _ (by decide)) (by decide), ?_⟩
  refine hP _ _ _ _ _ ⟨⟨rfl, by decide, by decide⟩, ?_⟩
  refine hP _ _ _ _ _ ?_
  refine hP _ _ _ _ _ ?_
  refine hP _ _ _ _ _ ⟨_, rfl, Nat.le_of_ble_eq_true rfl, rfl, by decide, fs_R (fs_R (hz _ (by decide)) (by decide)) (by decide), ?_⟩
  refine hP _ _ _ _ _ ⟨⟨rfl, by decide, by decide⟩, ?_⟩
  refine hP _ _ _ _ _ ?_
  refine hP _ _ _ _ _ ?_
  refine hP _ _ _ _ _ ⟨_, rfl, Nat.le_of_ble_eq_true rfl, rfl, by decide, fs_R (fs_R (fs_R (hz _ (by decide)) (by decide)) (by decide)) (by decide), ?_⟩
  refine hP _ _ _ _ _ ⟨⟨rfl, by decide, by decide⟩, ?_⟩
  refine hP _ _ _ _ _ ?_
  refine hP _ _ _ _ _ ?_
  refine hP _ _ _ _ _ ⟨_, rfl, Nat.le_of_ble_eq_true rfl, rfl, by decide, fs_R (fs_R (fs_R (fs_R (hz _ (by decide)) (by decide)) (by decide)) (by decide)) (by decide), ?_⟩
  refine hP _ _ _ _ _ ⟨⟨rfl, by decide, by decide⟩, ?_⟩
  refine hP _ _ _ _ _ ?_
  refine hP _ _ _ _ _ ?_
  refine hP _ _ _ _ _ ⟨_, rfl, Nat.le_of_ble_eq_true rfl, rfl, by decide, fs_R (fs_R (fs_R (fs_R (fs_R (hz _ (by decide)) (by decide)) (by decide)) (by decide)) (by decide)) (by decide), ?_⟩
  refine hP _ _ _ _ _ ⟨⟨rfl, by decide, by decide⟩, ?_⟩
  refine hP _ _ _ _ _ ?_
  refine hP _ _ _ _ _ ?_
  refine hP _ _ _ _ _ ⟨_, rfl, Nat.le_of_ble_eq_true rfl, rfl, by decide, fs_R (fs_R (fs_R (fs_R (fs_R (fs_R (hz _ (by decide)) (by decide)) (by decide)) (by decide)) (by decide)) (by decide)) (by decide), ?_⟩
  refine hP _ _ _ _ _ ⟨⟨rfl, by decide, by decide⟩, ?_⟩
  refine hP _ _ _ _ _ ?_
  refine hP _ _ _ _ _ ?_
  refine hP _ _ _ _ _ ⟨_, rfl, Nat.le_of_ble_eq_true rfl, rfl, by decide, fs_R (fs_R (fs_R (fs_R (fs_R (fs_R (fs_R (hz _ (by decide)) (by decide)) (by decide)) (by decide)) (by decide)) (by decide)) (by decide)) (by decide), ?_⟩
  refine hP _ _ _ _ _ ⟨⟨rfl, by decide, by decide⟩, ?_⟩
  refine hP _ _ _ _ _ ?_
  refine hP _ _ _ _ _ ?_
  refine hP _ _ _ _ _ ⟨_, rfl, Nat.le_of_ble_eq_true rfl, rfl, by decide, fs_R (fs_R (fs_R (fs_R (fs_R (fs_R (fs_R (fs_R (hz _ (by decide)) (by decide)) (by decide)) (by decide)) (by decide)) (by decide)) (by decide)) (by decide)) (by decide), ?_⟩
  refine hP _ _ _ _ _ ⟨⟨rfl, by decide, by decide⟩, ?_⟩
  refine hP _ _ _ _ _ ?_
  refine hP _ _ _ _ _ ?_
  refine hP _ _ _ _ _ ⟨_, rfl, Nat.le_of_ble_eq_true rfl, rfl, by decide, fs_R (fs_R (fs_R (fs_R (fs_R (fs_R (fs_R (fs_R (fs_R (hz _ (by decide)) (by decide)) (by decide)) (by decide)) (by decide)) (by decide)) (by decide)) (by decide)) (by decide)) (by decide), ?_⟩
  refine hP _ _ _ _ _ ⟨⟨rfl, by decide, by decide⟩, ?_⟩
  refine hP _ _ _ _ _ ?_
  refine hP _ _ _ _ _ ?_
  refine hP _ _ _ _ _ ⟨_, rfl, Nat.le_of_ble_eq_true rfl, rfl, by decide, fs_R (fs_R (fs_R (fs_R (fs_R (fs_R (fs_R (fs_R (fs_R (fs_R (hz _ (by decide)) (by decide)) (by decide)) (by decide)) (by decide)) (by decide)) (by decide)) (by decide)) (by decide)) (by decide)) (by decide), ?_⟩
  refine hP _ _ _ _ _ ⟨⟨rfl, by decide, by decide⟩, ?_⟩
  refine hP _ _ _ _ _ ?_
  refine hP _ _ _ _ _ ?_
  refine hP _ _ _ _ _ ⟨_, rfl, Nat.le_of_ble_eq_true rfl, rfl, by decide, fs_R (fs_R (fs_R (fs_R (fs_R (fs_R (fs_R (fs_R (fs_R (fs_R (fs_R (hz _ (by decide)) (by decide)) (by decide)) (by decide)) (by decide)) (by decide)) (by decide)) (by decide)) (by decide)) (by decide)) (by decide)) (by decide), ?_⟩
  refine hP _ _ _ _ _ ⟨⟨rfl, by decide, by decide⟩, ?_⟩
  refine hP _ _ _ _ _ ?_
  refine hP _ _ _ _ _ ?_
  refine hP _ _ _ _ _ ⟨_, rfl, Nat.le_of_ble_eq_true rfl, rfl, by decide, fs_R (fs_R (fs_R (fs_R (fs_R (fs_R (fs_R (fs_R (fs_R (fs_R (fs_R (fs_R (hz _ (by decide)) (by decide)) (by decide)) (by decide)) (by decide)) (by decide)) (by decide)) (by decide)) (by decide)) (by decide)) (by decide)) (by decide)) (by decide), ?_⟩
  refine hP _ _ _ _ _ ⟨⟨rfl, by decide, by decide⟩, ?_⟩
  refine hP _ _ _ _ _ ?_
  refine hP _ _ _ _ _ ?_
  refine hP _ _ _ _ _ ⟨_, rfl, Nat.le_of_ble_eq_true rfl, rfl, by decide, fs_R (fs_R (fs_R (fs_R (fs_R (fs_R (fs_R (fs_R (fs_R (fs_R (fs_R (fs_R (fs_R (hz _ (by decide)) (by decide)) (by decide)) (by decide)) (by decide)) (by decide)) (by decide)) (by decide)) (by decide)) (by decide)) (by decide)) (by decide)) (by decide)) (by decide), ?_⟩
  refine hP _ _ _ _ _ ⟨⟨rfl, by decide, by decide⟩, ?_⟩
  refine hP _ _ _ _ _ ?_
  refine hP _ _ _ _ _ ?_
  refine hP _ _ _ _ _ ⟨_, rfl, Nat.le_of_ble_eq_true rfl, rfl, by decide, fs_R (fs_R (fs_R (fs_R (fs_R (fs_R (fs_R (fs_R (fs_R (fs_R (fs_R (fs_R (fs_R (fs_R (hz _ (by decide)) (by decide)) (by decide)) (by decide)) (by decide)) (by decide)) (by decide)) (by decide)) (by decide)) (by decide)) (by decide)) (by decide)) (by decide)) (by decide)) (by decide), ?_⟩
  refine hP _ _ _ _ _ ⟨⟨rfl, by decide, by decide⟩, ?_⟩
  refine hP _ _ _ _ _ ?_
  refine hP _ _ _ _ _ ?_
  refine hP _ _ _ _ _ ⟨_, rfl, Nat.le_of_ble_eq_true rfl, rfl, by decide, fs_R (fs_R (fs_R (fs_R (fs_R (fs_R (fs_R (fs_R (fs_R (fs_R (fs_R (fs_R (fs_R (fs_R (fs_R (hz _ (by decide)) (by decide)) (by decide)) (by decide)) (by decide)) (by decide)) (by decide)) (by decide)) (by decide)) (by decide)) (by decide)) (by decide)) (by decide)) (by decide)) (by decide)) (by decide), ?_⟩
  refine hP _ _ _ _ _ ⟨⟨rfl, by decide, by decide⟩, ?_⟩
  generalize hE : zR (zR (zR (zR (zR (zR (zR (zR (zR (zR (zR (zR (zR (zR (zR (zR mem 180 1 181) 180 11 182) 180 12 183) 180 19 184) 180 20 185) 180 21 186) 180 22 187) 180 23 188) 180 24 189) 180 25 190) 180 26 191) 180 34 192) 180 35 193) 180 36 194) 180 40 195) 180 41 196 = E
  have e1 : E.1 = mem.1 := by rw [← hE]; simp only [zR_1]
  have eo : ∀ a b, a ≠ 180 → E.2.2 a b = mem.2.2 a b := by
    intro a b ha
    rw [← hE]
    rw [zR_o (fun z => ha z.1), zR_o (fun z => ha z.1), zR_o (fun z => ha z.1), zR_o (fun z => ha z.1), zR_o (fun z => ha z.1), zR_o (fun z => ha z.1), zR_o (fun z => ha z.1), zR_o (fun z => ha z.1), zR_o (fun z => ha z.1), zR_o (fun z => ha z.1), zR_o (fun z => ha z.1), zR_o (fun z => ha z.1), zR_o (fun z => ha z.1), zR_o (fun z => ha z.1), zR_o (fun z => ha z.1), zR_o (fun z => ha z.1)]
  have eF : zFx E := by
    refine ⟨?_, fun p hp => ?_, fun a ha => ?_, ?_⟩
    · intro q hq
      by_cases z : q.1 < 180
      · rw [eo _ _ (by omega)]; exact hFc.1 q hq z
      · revert z
        revert q
        rw [← hE]
        unfold zfxl
        simp only [List.forall_mem_cons, List.not_mem_nil, false_imp_iff, implies_true, and_true]
        refine ⟨?_, ?_, ?_, ?_, ?_, ?_, ?_, ?_, ?_, ?_, ?_, ?_, ?_, ?_, ?_, ?_, ?_, ?_, ?_, ?_, ?_, ?_, ?_, ?_, ?_, ?_, ?_, ?_, ?_, ?_, ?_, ?_, ?_, ?_, ?_, ?_, ?_, ?_⟩ <;> first | exact fun h => absurd (by decide) h | (intro _; repeat (first | rw [zR_o (by decide)] | exact zR_s))
    · rw [eo _ _ (by omega), eo _ _ (by omega)]; exact hFc.2.1 p hp
    · rw [eo _ _ (by omega)]; exact hFc.2.2.1 a ha
    · rw [eo _ _ (by omega), eo _ _ (by omega)]; exact Or.inl hFc.2.2.2
  have ez : ∀ i, 181 ≤ i → zfresh E i := by
    intro i hi
    rw [← hE]
    exact fs_R (fs_R (fs_R (fs_R (fs_R (fs_R (fs_R (fs_R (fs_R (fs_R (fs_R (fs_R (fs_R (fs_R (fs_R (fs_R (hz _ (by omega)) (by omega)) (by omega)) (by omega)) (by omega)) (by omega)) (by omega)) (by omega)) (by omega)) (by omega)) (by omega)) (by omega)) (by omega)) (by omega)) (by omega)) (by omega)) (by omega)
  refine hP _ _ _ _ _ ?_
  refine hP _ _ _ _ _ ⟨⟨rfl, by decide, by decide⟩, Nat.le_of_ble_eq_true rfl, Nat.le_of_ble_eq_true rfl, ?_⟩
  refine ⟨rfl, ⟨by decide, eF⟩, fun M fM a b c d e' f g => ?_⟩
  refine hP _ _ _ _ _ ?_
  refine ⟨rfl, hQ M (zFx_B fM eF) (fun x hx => ?_) (fun x hx y => ?_) (fun y => ?_) (fun x h1 h2 y => ?_) d e' f g ?_ (fun i hi => fs_f fM (ez i (by omega)) (fun b => by unfold sB; omega))⟩
  · rw [← e1]; funext y; exact fM.1 x y (by unfold sB; omega)
  · rw [fM.1 x y (by unfold sB; omega)]; exact (ez x (by omega) y).1
  · by_cases z : 27 ≤ y ∧ y ≤ 29
    · rcases (show y = 27 ∨ y = 28 ∨ y = 29 by omega) with rfl | rfl | rfl <;> assumption
    · rw [fM.1 180 y (by unfold sB; omega), e1]; exact (hz 180 (by omega) y).1
  · rw [fM.1 x y (by unfold sB; omega)]; exact (ez x (by omega) y).1
  · rw [fM.2.2 100 8 (by unfold sB; omega), eo _ _ (by omega)]; exact hFc.2.2.2.1
