/-! ===== the class's line ===== -/
def k_X3_writeByte : zCt := fun as n mem Q => ∃ (c : Int32) (k : Nat), as = [.ref 117, .int c] ∧ zst n mem ∧ mem.1 117 1 = nI k ∧ k < 80 ∧ zlet c ∧ Q none n (wr 118 117 1 mem k c)
theorem ok_X3_writeByte {l : Launch} {G : zG} : zOK l G yX3_writeByte cX3_writeByte 2 none 0 0 0 k_X3_writeByte := by
  intro as n mem Q hK
  obtain ⟨c, k, rfl, ⟨hn, hF⟩, hk, hk8, hc, hQ⟩ := hK
  refine mtX3_writeByte (List.forall_mem_cons.mpr ⟨rfl, List.forall_mem_cons.mpr ⟨rfl, fun _ h => absurd h List.not_mem_nil⟩⟩) (by simp) rfl (fun P hP => ?_)
  show P 0 [.ref 117, .int c] [] n mem
  have e1 : nI (k + 1) = mem.1 117 1 + 1 := by rw [hk]; exact (nI_1 k).symm
  unfold wr at hQ
  have e2 : vp_nar .byte c.toInt8.toInt32 = c := (pk_vb c).trans hc
  rw [e1, ← e2] at hQ
  refine hP _ _ _ _ _ ?_
  refine hP _ _ _ _ _ ⟨(zi hn rfl rfl rfl), ?_⟩
  refine hP _ _ _ _ _ ?_
  refine hP _ _ _ _ _ ⟨fun hz => absurd hz ( by rw [hk]; exact nI_ge (b := 80) hk8 (by omega)), fun _ => ?_⟩
  refine hP _ _ _ _ _ ?_
  refine hP _ _ _ _ _ ⟨(zi hn rfl rfl rfl), _, fx_LineWriter_bytes hF, (by decide), ?_⟩
  refine hP _ _ _ _ _ ?_
  refine hP _ _ _ _ _ ⟨(zi hn rfl rfl rfl), ?_⟩
  refine hP _ _ _ _ _ ?_
  refine hP _ _ _ _ _ ?_
  refine hP _ _ _ _ _ ⟨_, k, (zi hn rfl rfl rfl), hk, by omega, ?_⟩
  refine hP _ _ _ _ _ ?_
  refine hP _ _ _ _ _ ?_
  refine hP _ _ _ _ _ ⟨(zi hn rfl rfl rfl), ?_⟩
  refine hP _ _ _ _ _ ?_
  refine hP _ _ _ _ _ ?_
  refine hP _ _ _ _ _ ⟨(zi hn rfl rfl rfl), ?_⟩
  refine hP _ _ _ _ _ ?_
  exact ⟨rfl, hQ⟩
theorem zlet_s {q j : Nat} (hq : q < 25) (hj : j < (zsb q).length) : zlet ((zsb q).getD j 0) := (zsb_ch q hq j hj).2
theorem zlet_n : ∀ d, d < 100 → zlet (nI d) := by unfold zlet; decide +kernel
def k_X3_write : zCt := fun as n mem Q => ∃ (q k : Nat), as = [.ref 117, .ref (20 + q)] ∧ q < 25 ∧ zst n mem ∧ mem.1 117 1 = nI k ∧ k + (zsb q).length ≤ 80 ∧ Q none n (wrL 118 117 1 mem k (zsb q))
theorem ok_X3_write {l : Launch} {G : zG} : zOK l G yX3_write cX3_write 3 none 4 0 0 k_X3_write := by
  intro as n mem Q hK
  obtain ⟨q, k, rfl, hq, ⟨hn, hF⟩, hk, hk2, hQ⟩ := hK
  refine mtX3_write ok_J0_length_8abf5 (by decide) ok_J0_charAt_5068e (by decide) ok_X3_writeByte (by decide) (List.forall_mem_cons.mpr ⟨rfl, List.forall_mem_cons.mpr ⟨rfl, fun _ h => absurd h List.not_mem_nil⟩⟩) (by simp) rfl (fun P hP => ?_)
  show P 0 [.ref 117, .ref (20 + q), .null] [] n mem
  have hl := zsb_len q hq
  have hs : zstr (20 + q) := ⟨by omega, by omega⟩
  have eq : 20 + q - 20 = q := by omega
  have loop : ∀ j, j ≤ (zsb q).length → P 2 [.ref 117, .ref (20 + q), .int (nI j)] [] n (wrL 118 117 1 mem k ((zsb q).take j)) := by
    refine zloop ?_ ?_
    · rw [List.take_length]
      refine hP _ _ _ _ _ ?_
      refine hP _ _ _ _ _ ?_
      refine hP _ _ _ _ _ ⟨hs, Nat.le_of_ble_eq_true rfl, Nat.le_of_ble_eq_true rfl, ?_⟩
      refine ⟨_, rfl, hs, ?_⟩
      rw [eq]
      refine hP _ _ _ _ _ ⟨fun _ => ?_, fun hz => absurd ( nI_le (Nat.le_refl _) (by omega)) hz⟩
      refine hP _ _ _ _ _ ?_
      exact ⟨rfl, hQ⟩
    · intro j hj ih
      have hl2 := wrL_len (b := 118) (xs := (zsb q).take j) hk
      rw [List.length_take, Nat.min_eq_left (by omega)] at hl2
      have hF : zFx (wrL 118 117 1 mem k ((zsb q).take j)) := zFx_2 wrL_2 hF
      rw [← getD_take hj, wrL_app, List.length_take, Nat.min_eq_left (by omega), nI_succ j] at ih
      generalize wrL 118 117 1 mem k ((zsb q).take j) = N at hl2 hF ih ⊢
      refine hP _ _ _ _ _ ?_
      refine hP _ _ _ _ _ ?_
      refine hP _ _ _ _ _ ⟨hs, Nat.le_of_ble_eq_true rfl, Nat.le_of_ble_eq_true rfl, ?_⟩
      refine ⟨_, rfl, hs, ?_⟩
      rw [eq]
      refine hP _ _ _ _ _ ⟨fun hz => absurd hz ( nI_ge hj (by omega)), fun _ => ?_⟩
      refine hP _ _ _ _ _ ?_
      refine hP _ _ _ _ _ ?_
      refine hP _ _ _ _ _ ?_
      refine hP _ _ _ _ _ ⟨hs, Nat.le_of_ble_eq_true rfl, Nat.le_of_ble_eq_true rfl, ?_⟩
      refine ⟨_, j, rfl, hs, by rw [eq]; exact hj, ?_⟩
      rw [eq]
      refine hP _ _ _ _ _ ⟨(zi hn rfl rfl rfl), Nat.le_of_ble_eq_true rfl, Nat.le_of_ble_eq_true rfl, ?_⟩
      refine ⟨_, k + j, rfl, ⟨hn, hF⟩, hl2, by omega, zlet_s hq hj, ?_⟩
      refine hP _ _ _ _ _ ?_
      refine hP _ _ _ _ _ ?_
      exact ih
  refine hP _ _ _ _ _ ?_
  refine hP _ _ _ _ _ ?_
  exact loop 0 (by omega)
def k_X3_writeNumber : zCt := fun as n mem Q => ∃ (v k : Nat), as = [.ref 117, .int (nI v)] ∧ v ≤ 999 ∧ zst n mem ∧ mem.1 117 1 = nI k ∧ k + (numL v).length ≤ 80 ∧ Q none n (wrL 118 117 1 mem k (numL v))
theorem ok_X3_writeNumber {l : Launch} {G : zG} : zOK l G yX3_writeNumber cX3_writeNumber 2 none 1 0 0 k_X3_writeNumber := by
  intro as n mem Q hK
  obtain ⟨v, k, rfl, hv, ⟨hn, hF⟩, hk, hk2, hQ⟩ := hK
  refine mtX3_writeNumber ok_X3_writeByte (by decide) (List.forall_mem_cons.mpr ⟨rfl, List.forall_mem_cons.mpr ⟨rfl, fun _ h => absurd h List.not_mem_nil⟩⟩) (by simp) rfl (fun P hP => ?_)
  show P 0 [.ref 117, .int (nI v)] [] n mem
  have F1 : zFx (wr 118 117 1 mem k 32) := hF
  have z0 : zlet 32 := by unfold zlet; decide
  have z1 : zlet (48 + nI v / 100) := by rw [dgA hv]; exact zlet_n _ (by omega)
  have z2 : zlet (48 + (nI v / 10 - nI v / 10 / 10 * 10)) := by rw [dgB hv]; exact zlet_n _ (by omega)
  have z3 : zlet (48 + (nI v - nI v / 10 * 10)) := by rw [dgC hv]; exact zlet_n _ (by omega)
  by_cases h1 : 99 < v
  · have e : numL v = [32, 48 + nI v / 100, 48 + (nI v / 10 - nI v / 10 / 10 * 10), 48 + (nI v - nI v / 10 * 10)] := by rw [dgA hv, dgB hv, dgC hv]; unfold numL; rw [if_pos h1, if_pos (by omega)]; rfl
    rw [e] at hQ hk2
    have hk3 : k + 4 ≤ 80 := hk2
    refine hP _ _ _ _ _ ?_
    refine hP _ _ _ _ _ ?_
    refine hP _ _ _ _ _ ⟨(zi hn rfl rfl rfl), Nat.le_of_ble_eq_true rfl, Nat.le_of_ble_eq_true rfl, ?_⟩
    refine ⟨_, k, rfl, ⟨hn, hF⟩, hk, by omega, z0, ?_⟩
    refine hP _ _ _ _ _ ?_
    refine hP _ _ _ _ _ ?_
    refine hP _ _ _ _ _ ⟨fun hz => absurd hz ( nI_nlt (b := 100) (by omega) (by omega)), fun _ => ?_⟩
    refine hP _ _ _ _ _ ?_
    refine hP _ _ _ _ _ ?_
    refine hP _ _ _ _ _ ?_
    refine hP _ _ _ _ _ ?_
    refine hP _ _ _ _ _ ⟨by decide, ?_⟩
    refine hP _ _ _ _ _ ?_
    refine hP _ _ _ _ _ ⟨(zi hn rfl rfl rfl), Nat.le_of_ble_eq_true rfl, Nat.le_of_ble_eq_true rfl, ?_⟩
    refine ⟨_, k + 1, rfl, ⟨hn, F1⟩, wr_len, by omega, z1, ?_⟩
    refine hP _ _ _ _ _ ?_
    refine hP _ _ _ _ _ ?_
    refine hP _ _ _ _ _ ⟨fun hz => absurd hz ( nI_nlt (b := 10) (by omega) (by omega)), fun _ => ?_⟩
    refine hP _ _ _ _ _ ?_
    refine hP _ _ _ _ _ ?_
    refine hP _ _ _ _ _ ?_
    refine hP _ _ _ _ _ ?_
    refine hP _ _ _ _ _ ⟨by decide, ?_⟩
    refine hP _ _ _ _ _ ?_
    refine hP _ _ _ _ _ ⟨by decide, ?_⟩
    refine hP _ _ _ _ _ ?_
    refine hP _ _ _ _ _ ⟨(zi hn rfl rfl rfl), Nat.le_of_ble_eq_true rfl, Nat.le_of_ble_eq_true rfl, ?_⟩
    refine ⟨_, k + 1 + 1, rfl, ⟨hn, F1⟩, wr_len, by omega, z2, ?_⟩
    refine hP _ _ _ _ _ ?_
    refine hP _ _ _ _ _ ?_
    refine hP _ _ _ _ _ ?_
    refine hP _ _ _ _ _ ?_
    refine hP _ _ _ _ _ ⟨by decide, ?_⟩
    refine hP _ _ _ _ _ ?_
    refine hP _ _ _ _ _ ⟨(zi hn rfl rfl rfl), Nat.le_of_ble_eq_true rfl, Nat.le_of_ble_eq_true rfl, ?_⟩
    refine ⟨_, k + 1 + 1 + 1, rfl, ⟨hn, F1⟩, wr_len, by omega, z3, ?_⟩
    refine hP _ _ _ _ _ ?_
    exact ⟨rfl, hQ⟩
  · by_cases h2 : 9 < v
    · have e : numL v = [32, 48 + (nI v / 10 - nI v / 10 / 10 * 10), 48 + (nI v - nI v / 10 * 10)] := by rw [dgB hv, dgC hv]; unfold numL; rw [if_neg h1, if_pos h2]; rfl
      rw [e] at hQ hk2
      have hk3 : k + 3 ≤ 80 := hk2
      refine hP _ _ _ _ _ ?_
      refine hP _ _ _ _ _ ?_
      refine hP _ _ _ _ _ ⟨(zi hn rfl rfl rfl), Nat.le_of_ble_eq_true rfl, Nat.le_of_ble_eq_true rfl, ?_⟩
      refine ⟨_, k, rfl, ⟨hn, hF⟩, hk, by omega, z0, ?_⟩
      refine hP _ _ _ _ _ ?_
      refine hP _ _ _ _ _ ?_
      refine hP _ _ _ _ _ ⟨fun _ => ?_, fun hz => absurd ( nI_lt (b := 100) (by omega) (by omega)) hz⟩
      refine hP _ _ _ _ _ ?_
      refine hP _ _ _ _ _ ?_
      refine hP _ _ _ _ _ ⟨fun hz => absurd hz ( nI_nlt (b := 10) (by omega) (by omega)), fun _ => ?_⟩
      refine hP _ _ _ _ _ ?_
      refine hP _ _ _ _ _ ?_
      refine hP _ _ _ _ _ ?_
      refine hP _ _ _ _ _ ?_
      refine hP _ _ _ _ _ ⟨by decide, ?_⟩
      refine hP _ _ _ _ _ ?_
      refine hP _ _ _ _ _ ⟨by decide, ?_⟩
      refine hP _ _ _ _ _ ?_
      refine hP _ _ _ _ _ ⟨(zi hn rfl rfl rfl), Nat.le_of_ble_eq_true rfl, Nat.le_of_ble_eq_true rfl, ?_⟩
      refine ⟨_, k + 1, rfl, ⟨hn, F1⟩, wr_len, by omega, z2, ?_⟩
      refine hP _ _ _ _ _ ?_
      refine hP _ _ _ _ _ ?_
      refine hP _ _ _ _ _ ?_
      refine hP _ _ _ _ _ ?_
      refine hP _ _ _ _ _ ⟨by decide, ?_⟩
      refine hP _ _ _ _ _ ?_
      refine hP _ _ _ _ _ ⟨(zi hn rfl rfl rfl), Nat.le_of_ble_eq_true rfl, Nat.le_of_ble_eq_true rfl, ?_⟩
      refine ⟨_, k + 1 + 1, rfl, ⟨hn, F1⟩, wr_len, by omega, z3, ?_⟩
      refine hP _ _ _ _ _ ?_
      exact ⟨rfl, hQ⟩
    · have e : numL v = [32, 48 + (nI v - nI v / 10 * 10)] := by rw [dgC hv]; unfold numL; rw [if_neg h1, if_neg h2]; rfl
      rw [e] at hQ hk2
      have hk3 : k + 2 ≤ 80 := hk2
      refine hP _ _ _ _ _ ?_
      refine hP _ _ _ _ _ ?_
      refine hP _ _ _ _ _ ⟨(zi hn rfl rfl rfl), Nat.le_of_ble_eq_true rfl, Nat.le_of_ble_eq_true rfl, ?_⟩
      refine ⟨_, k, rfl, ⟨hn, hF⟩, hk, by omega, z0, ?_⟩
      refine hP _ _ _ _ _ ?_
      refine hP _ _ _ _ _ ?_
      refine hP _ _ _ _ _ ⟨fun _ => ?_, fun hz => absurd ( nI_lt (b := 100) (by omega) (by omega)) hz⟩
      refine hP _ _ _ _ _ ?_
      refine hP _ _ _ _ _ ?_
      refine hP _ _ _ _ _ ⟨fun _ => ?_, fun hz => absurd ( nI_lt (b := 10) (by omega) (by omega)) hz⟩
      refine hP _ _ _ _ _ ?_
      refine hP _ _ _ _ _ ?_
      refine hP _ _ _ _ _ ?_
      refine hP _ _ _ _ _ ?_
      refine hP _ _ _ _ _ ⟨by decide, ?_⟩
      refine hP _ _ _ _ _ ?_
      refine hP _ _ _ _ _ ⟨(zi hn rfl rfl rfl), Nat.le_of_ble_eq_true rfl, Nat.le_of_ble_eq_true rfl, ?_⟩
      refine ⟨_, k + 1, rfl, ⟨hn, F1⟩, wr_len, by omega, z3, ?_⟩
      refine hP _ _ _ _ _ ?_
      exact ⟨rfl, hQ⟩
def k_X3_writeBits : zCt := fun as n mem Q => ∃ (s : Int32) (k : Nat), as = [.ref 117, .int s] ∧ zst n mem ∧ mem.1 117 1 = nI k ∧ k + 16 ≤ 80 ∧ Q none n (wrL 118 117 1 mem k (setL s 8))
theorem ok_X3_writeBits {l : Launch} {G : zG} : zOK l G yX3_writeBits cX3_writeBits 3 none 2 0 0 k_X3_writeBits := by
  intro as n mem Q hK
  obtain ⟨s, k, rfl, ⟨hn, hF⟩, hk, hk2, hQ⟩ := hK
  refine mtX3_writeBits ok_X10_has (by decide) ok_X3_writeNumber (by decide) (List.forall_mem_cons.mpr ⟨rfl, List.forall_mem_cons.mpr ⟨rfl, fun _ h => absurd h List.not_mem_nil⟩⟩) (by simp) rfl (fun P hP => ?_)
  show P 0 [.ref 117, .int s, .null] [] n mem
  have loop : ∀ i, i ≤ 8 → P 2 [.ref 117, .int s, .int (nI i)] [] n (wrL 118 117 1 mem k (setL s i)) := by
    refine zloop ?_ ?_
    ·
      refine hP _ _ _ _ _ ?_
      refine hP _ _ _ _ _ ?_
      refine hP _ _ _ _ _ ⟨fun _ => ?_, fun hz => absurd ( by decide) hz⟩
      refine hP _ _ _ _ _ ?_
      exact ⟨rfl, hQ⟩
    · intro i hi ih
      have hl := setL_len s i (by omega)
      have h8 := numL_8 hi
      have hl2 := wrL_len (b := 118) (xs := setL s i) hk
      have hF : zFx (wrL 118 117 1 mem k (setL s i)) := zFx_2 wrL_2 hF
      unfold setL at ih
      rw [wrL_app, nI_succ i] at ih
      generalize wrL 118 117 1 mem k (setL s i) = N at hl2 hF ih ⊢
      refine hP _ _ _ _ _ ?_
      refine hP _ _ _ _ _ ?_
      refine hP _ _ _ _ _ ⟨fun hz => absurd hz ( nI_ge (b := 8) hi (by omega)), fun _ => ?_⟩
      refine hP _ _ _ _ _ ?_
      refine hP _ _ _ _ _ ?_
      refine hP _ _ _ _ _ ⟨Nat.le_of_ble_eq_true rfl, Nat.le_of_ble_eq_true rfl, ?_⟩
      refine ⟨_, i, rfl, by omega, ?_⟩
      refine hP _ _ _ _ _ ⟨fun h13 => ?_, fun h13 => ?_⟩
      ·
        have h13 := zb_0.mp h13
        refine hP _ _ _ _ _ ?_
        refine hP _ _ _ _ _ ?_
        simp only [h13, if_true, if_false, Bool.false_eq_true] at ih
        exact ih
      ·
        have h13 := zb_n.mp h13
        refine hP _ _ _ _ _ ?_
        refine hP _ _ _ _ _ ?_
        refine hP _ _ _ _ _ ⟨(zi hn rfl rfl rfl), Nat.le_of_ble_eq_true rfl, Nat.le_of_ble_eq_true rfl, ?_⟩
        refine ⟨i, k + (setL s i).length, rfl, by omega, ⟨hn, hF⟩, hl2, by omega, ?_⟩
        refine hP _ _ _ _ _ ?_
        refine hP _ _ _ _ _ ?_
        simp only [h13, if_true, if_false, Bool.false_eq_true] at ih
        exact ih
  refine hP _ _ _ _ _ ?_
  refine hP _ _ _ _ _ ?_
  exact loop 0 (by omega)
theorem bp_str {n : Nat} {B : zM} {L : List Int32} {q : Nat} {Q : zPo} (hq : q < 25) (hB : zst n B) (h0 : B.1 117 1 = nI 0) (h2 : L.length + (zsb q).length ≤ 80) (h : Q none n (wrL 118 117 1 B 0 (L ++ zsb q))) : k_X3_write [.ref 117, .ref (20 + q)] n (wrL 118 117 1 B 0 L) Q := by
  refine ⟨q, 0 + L.length, rfl, hq, ⟨hB.1, zFx_2 wrL_2 hB.2⟩, wrL_len h0, by omega, ?_⟩
  rw [wrL_app] at h
  exact h
theorem bp_num {n : Nat} {B : zM} {L : List Int32} {v : Nat} {x : Int32} {Q : zPo} (hx : x = nI v) (hv : v ≤ 999) (hB : zst n B) (h0 : B.1 117 1 = nI 0) (h2 : L.length + (numL v).length ≤ 80) (h : Q none n (wrL 118 117 1 B 0 (L ++ numL v))) : k_X3_writeNumber [.ref 117, .int x] n (wrL 118 117 1 B 0 L) Q := by
  subst hx
  refine ⟨v, 0 + L.length, rfl, hv, ⟨hB.1, zFx_2 wrL_2 hB.2⟩, wrL_len h0, by omega, ?_⟩
  rw [wrL_app] at h
  exact h
theorem bp_set {n : Nat} {B : zM} {L : List Int32} {s x : Int32} {Q : zPo} (hx : x = s) (hB : zst n B) (h0 : B.1 117 1 = nI 0) (h2 : L.length + 16 ≤ 80) (h : Q none n (wrL 118 117 1 B 0 (L ++ setL s 8))) : k_X3_writeBits [.ref 117, .int x] n (wrL 118 117 1 B 0 L) Q := by
  subst hx
  refine ⟨x, 0 + L.length, rfl, ⟨hB.1, zFx_2 wrL_2 hB.2⟩, wrL_len h0, by omega, ?_⟩
  rw [wrL_app] at h
  exact h
theorem zl0 : (zsb 0).length = 4 := rfl
theorem zl1 : (zsb 1).length = 5 := rfl
theorem zl2 : (zsb 2).length = 3 := rfl
theorem zl3 : (zsb 3).length = 3 := rfl
theorem zl4' : (zsb 4).length = 6 := rfl
theorem zl5 : (zsb 5).length = 5 := rfl
theorem zl6 : (zsb 6).length = 5 := rfl
theorem zl7 : (zsb 7).length = 5 := rfl
theorem zl8 : (zsb 8).length = 1 := rfl
def k_X3_writeLine : zCt := fun as n mem Q => ∃ (x : Nat), as = [.ref 117, .ref x] ∧ zst n mem ∧ zis n x (.inl 5) ∧ zPr (mem.1 x) 0 ∧ Q none n (wrL 118 117 1 (zI mem 117 1 0) 0 (lineR (mem.1 x) 0))
theorem ok_X3_writeLine {l : Launch} {G : zG} : zOK l G yX3_writeLine cX3_writeLine 2 none 5 0 0 k_X3_writeLine := by
  intro as n mem Q hK
  obtain ⟨x, rfl, ⟨hn, hF⟩, hx, hP8, hQ⟩ := hK
  refine mtX3_writeLine ok_X3_write (by decide) ok_X3_writeNumber (by decide) ok_X3_writeBits (by decide) (List.forall_mem_cons.mpr ⟨rfl, List.forall_mem_cons.mpr ⟨rfl, fun _ h => absurd h List.not_mem_nil⟩⟩) (by simp) rfl (fun P hP => ?_)
  show P 0 [.ref 117, .ref x] [] n mem
  obtain ⟨⟨gv, hgv8, hgv⟩, ⟨to, hto8, hto⟩, ⟨mo, hmo9, hmo⟩, hti, hsb, hun⟩ := hP8
  have hx1 : x ≠ 118 := by intro e; subst e; exact absurd hx.1 (by decide)
  have hx2 : x ≠ 117 := by intro e; subst e; exact absurd hx.1 (by decide)
  have l3 := numL_len to
  have l4 := numL_len mo
  have l6 := setL_len (mem.1 x 1) 8 (by omega)
  have l7 := setL_len (mem.1 x 3) 8 (by omega)
  have m0 : (zI mem 117 1 0).1 117 1 = nI 0 := zI_s
  have hB : zst n (zI mem 117 1 0) := ⟨hn, hF⟩
  have g0 : (zI mem 117 1 0).1 x = mem.1 x := zI_ne hx2
  have hF : zFx (zI mem 117 1 0) := hF
  have hQ : ∀ L, L = lineR (mem.1 x) 0 → Q none n (wrL 118 117 1 (zI mem 117 1 0) 0 L) := fun L e => e ▸ hQ
  generalize hBe : zI mem 117 1 0 = B at m0 hB g0 hF hQ
  have hgv : B.1 x 0 = nI gv := by rw [g0]; exact hgv
  have hto : B.1 x 2 = nI to := by rw [g0]; exact hto
  have hmo : B.1 x 4 = nI mo := by rw [g0]; exact hmo
  have hti : B.1 x 5 = -1 ∨ ∃ a, a ≤ 999 ∧ B.1 x 5 = nI a := by rw [g0]; exact hti
  have hsb : B.1 x 6 = 0 ∨ B.1 x 6 = 1 := by rw [g0]; exact hsb
  have hun : B.1 x 7 = -1 ∨ ∃ a, a < 20 ∧ B.1 x 7 = nI a := by rw [g0]; exact hun
  rw [← g0] at hQ l6 l7
  have mid : ∀ (L : List Int32), 0 < L.length → L.length ≤ 9 → (∀ T, L ++ T = (if B.1 x 7 = -1 then wdM 2 else wdM 3) ++ ((if B.1 x 7 = -1 then numL (ix (B.1 x 0)) else numL (ix (B.1 x 7))) ++ T)) → P 47 [.ref 117, .ref x] [] n (wrL 118 117 1 B 0 L) := by
    intro L hL0 hL9 hLT
    have hF : ∀ L, zFx (wrL 118 117 1 B 0 L) := fun L => zFx_2 wrL_2 hF
    have fin : ∀ A, (∀ T, A ++ T = zsb 2 ++ (setL (B.1 x 1) 8 ++ (zsb 3 ++ (numL to ++ (zsb 4 ++ (setL (B.1 x 3) 8 ++ (zsb 5 ++ (numL mo ++ T)))))))) → ∀ C, C = (if B.1 x 5 = -1 then [] else zsb 6 ++ numL (ix (B.1 x 5))) ++ (if B.1 x 6 = 1 then zsb 7 else zsb 8) → L ++ (A ++ C) = lineR (B.1 x) 0 := by
      intro A hA C hC
      rw [hLT, hA, hC]
      show _ = lineL (B.1 x 0) (B.1 x 1) (B.1 x 2) (B.1 x 3) (B.1 x 4) (B.1 x 5) (B.1 x 6) (B.1 x 7)
      unfold lineL
      rw [hto, hmo, ix_nI (j := to) (by omega), ix_nI (j := mo) (by omega)]
      have e : (if B.1 x 6 = 1 then zsb 7 else zsb 8) = (if B.1 x 6 = 1 then wrdL 9 else []) ++ [59] := by split <;> rfl
      rw [e]
      rfl
    have hA0 := fin (zsb 2 ++ (setL (B.1 x 1) 8 ++ (zsb 3 ++ (numL to ++ (zsb 4 ++ (setL (B.1 x 3) 8 ++ (zsb 5 ++ (numL mo)))))))) (fun T => by simp only [List.append_assoc])
    by_cases h5 : B.1 x 5 = -1
    · by_cases h6 : B.1 x 6 = 1
      ·
        refine hP _ _ _ _ _ ?_
        refine hP _ _ _ _ _ ?_
        refine hP _ _ _ _ _ ⟨(zi hn rfl rfl rfl), Nat.le_of_ble_eq_true rfl, Nat.le_of_ble_eq_true rfl, ?_⟩
        refine bp_str (q := 2) (by decide) hB m0 (by simp only [List.length_append, zl2, zl3, zl4', zl5, zl6, zl7, zl8]; omega) ?_
        refine hP _ _ _ _ _ ?_
        refine hP _ _ _ _ _ ?_
        refine hP _ _ _ _ _ ⟨hx, ?_⟩
        refine hP _ _ _ _ _ ⟨(zi hn rfl rfl rfl), Nat.le_of_ble_eq_true rfl, Nat.le_of_ble_eq_true rfl, ?_⟩
        refine bp_set (s := B.1 x 1) ((congrFun (wrL_row hx1 hx2) 1).trans rfl) hB m0 (by simp only [List.length_append, zl2, zl3, zl4', zl5, zl6, zl7, zl8]; omega) ?_
        refine hP _ _ _ _ _ ?_
        refine hP _ _ _ _ _ ?_
        refine hP _ _ _ _ _ ⟨(zi hn rfl rfl rfl), Nat.le_of_ble_eq_true rfl, Nat.le_of_ble_eq_true rfl, ?_⟩
        refine bp_str (q := 3) (by decide) hB m0 (by simp only [List.length_append, zl2, zl3, zl4', zl5, zl6, zl7, zl8]; omega) ?_
        refine hP _ _ _ _ _ ?_
        refine hP _ _ _ _ _ ?_
        refine hP _ _ _ _ _ ⟨hx, ?_⟩
        refine hP _ _ _ _ _ ⟨(zi hn rfl rfl rfl), Nat.le_of_ble_eq_true rfl, Nat.le_of_ble_eq_true rfl, ?_⟩
        refine bp_num ((congrFun (wrL_row hx1 hx2) 2).trans hto) (by omega) hB m0 (by simp only [List.length_append, zl2, zl3, zl4', zl5, zl6, zl7, zl8]; omega) ?_
        refine hP _ _ _ _ _ ?_
        refine hP _ _ _ _ _ ?_
        refine hP _ _ _ _ _ ⟨(zi hn rfl rfl rfl), Nat.le_of_ble_eq_true rfl, Nat.le_of_ble_eq_true rfl, ?_⟩
        refine bp_str (q := 4) (by decide) hB m0 (by simp only [List.length_append, zl2, zl3, zl4', zl5, zl6, zl7, zl8]; omega) ?_
        refine hP _ _ _ _ _ ?_
        refine hP _ _ _ _ _ ?_
        refine hP _ _ _ _ _ ⟨hx, ?_⟩
        refine hP _ _ _ _ _ ⟨(zi hn rfl rfl rfl), Nat.le_of_ble_eq_true rfl, Nat.le_of_ble_eq_true rfl, ?_⟩
        refine bp_set (s := B.1 x 3) ((congrFun (wrL_row hx1 hx2) 3).trans rfl) hB m0 (by simp only [List.length_append, zl2, zl3, zl4', zl5, zl6, zl7, zl8]; omega) ?_
        refine hP _ _ _ _ _ ?_
        refine hP _ _ _ _ _ ?_
        refine hP _ _ _ _ _ ⟨(zi hn rfl rfl rfl), Nat.le_of_ble_eq_true rfl, Nat.le_of_ble_eq_true rfl, ?_⟩
        refine bp_str (q := 5) (by decide) hB m0 (by simp only [List.length_append, zl2, zl3, zl4', zl5, zl6, zl7, zl8]; omega) ?_
        refine hP _ _ _ _ _ ?_
        refine hP _ _ _ _ _ ?_
        refine hP _ _ _ _ _ ⟨hx, ?_⟩
        refine hP _ _ _ _ _ ⟨(zi hn rfl rfl rfl), Nat.le_of_ble_eq_true rfl, Nat.le_of_ble_eq_true rfl, ?_⟩
        refine bp_num ((congrFun (wrL_row hx1 hx2) 4).trans hmo) (by omega) hB m0 (by simp only [List.length_append, zl2, zl3, zl4', zl5, zl6, zl7, zl8]; omega) ?_
        refine hP _ _ _ _ _ ?_
        refine hP _ _ _ _ _ ⟨hx, ?_⟩
        refine hP _ _ _ _ _ ?_
        refine hP _ _ _ _ _ ⟨fun _ => ?_, fun hz => absurd ( ((congrFun (wrL_row hx1 hx2) 5).trans h5)) hz⟩
        refine hP _ _ _ _ _ ?_
        refine hP _ _ _ _ _ ?_
        refine hP _ _ _ _ _ ⟨hx, ?_⟩
        refine hP _ _ _ _ _ ⟨fun hz => absurd hz ( fun z => absurd (((congrFun (wrL_row hx1 hx2) 6).trans h6).symm.trans z) (by decide)), fun _ => ?_⟩
        refine hP _ _ _ _ _ ?_
        refine hP _ _ _ _ _ ?_
        refine hP _ _ _ _ _ ⟨(zi hn rfl rfl rfl), Nat.le_of_ble_eq_true rfl, Nat.le_of_ble_eq_true rfl, ?_⟩
        refine bp_str (q := 7) (by decide) hB m0 (by simp only [List.length_append, zl2, zl3, zl4', zl5, zl6, zl7, zl8]; omega) ?_
        refine hP _ _ _ _ _ ?_
        exact ⟨rfl, hQ _ (by rw [if_pos h5, if_pos h6] at hA0; rw [← hA0 _ rfl]; simp only [List.append_assoc, List.nil_append])⟩
      · have h60 := hsb.resolve_right h6
        refine hP _ _ _ _ _ ?_
        refine hP _ _ _ _ _ ?_
        refine hP _ _ _ _ _ ⟨(zi hn rfl rfl rfl), Nat.le_of_ble_eq_true rfl, Nat.le_of_ble_eq_true rfl, ?_⟩
        refine bp_str (q := 2) (by decide) hB m0 (by simp only [List.length_append, zl2, zl3, zl4', zl5, zl6, zl7, zl8]; omega) ?_
        refine hP _ _ _ _ _ ?_
        refine hP _ _ _ _ _ ?_
        refine hP _ _ _ _ _ ⟨hx, ?_⟩
        refine hP _ _ _ _ _ ⟨(zi hn rfl rfl rfl), Nat.le_of_ble_eq_true rfl, Nat.le_of_ble_eq_true rfl, ?_⟩
        refine bp_set (s := B.1 x 1) ((congrFun (wrL_row hx1 hx2) 1).trans rfl) hB m0 (by simp only [List.length_append, zl2, zl3, zl4', zl5, zl6, zl7, zl8]; omega) ?_
        refine hP _ _ _ _ _ ?_
        refine hP _ _ _ _ _ ?_
        refine hP _ _ _ _ _ ⟨(zi hn rfl rfl rfl), Nat.le_of_ble_eq_true rfl, Nat.le_of_ble_eq_true rfl, ?_⟩
        refine bp_str (q := 3) (by decide) hB m0 (by simp only [List.length_append, zl2, zl3, zl4', zl5, zl6, zl7, zl8]; omega) ?_
        refine hP _ _ _ _ _ ?_
        refine hP _ _ _ _ _ ?_
        refine hP _ _ _ _ _ ⟨hx, ?_⟩
        refine hP _ _ _ _ _ ⟨(zi hn rfl rfl rfl), Nat.le_of_ble_eq_true rfl, Nat.le_of_ble_eq_true rfl, ?_⟩
        refine bp_num ((congrFun (wrL_row hx1 hx2) 2).trans hto) (by omega) hB m0 (by simp only [List.length_append, zl2, zl3, zl4', zl5, zl6, zl7, zl8]; omega) ?_
        refine hP _ _ _ _ _ ?_
        refine hP _ _ _ _ _ ?_
        refine hP _ _ _ _ _ ⟨(zi hn rfl rfl rfl), Nat.le_of_ble_eq_true rfl, Nat.le_of_ble_eq_true rfl, ?_⟩
        refine bp_str (q := 4) (by decide) hB m0 (by simp only [List.length_append, zl2, zl3, zl4', zl5, zl6, zl7, zl8]; omega) ?_
        refine hP _ _ _ _ _ ?_
        refine hP _ _ _ _ _ ?_
        refine hP _ _ _ _ _ ⟨hx, ?_⟩
        refine hP _ _ _ _ _ ⟨(zi hn rfl rfl rfl), Nat.le_of_ble_eq_true rfl, Nat.le_of_ble_eq_true rfl, ?_⟩
        refine bp_set (s := B.1 x 3) ((congrFun (wrL_row hx1 hx2) 3).trans rfl) hB m0 (by simp only [List.length_append, zl2, zl3, zl4', zl5, zl6, zl7, zl8]; omega) ?_
        refine hP _ _ _ _ _ ?_
        refine hP _ _ _ _ _ ?_
        refine hP _ _ _ _ _ ⟨(zi hn rfl rfl rfl), Nat.le_of_ble_eq_true rfl, Nat.le_of_ble_eq_true rfl, ?_⟩
        refine bp_str (q := 5) (by decide) hB m0 (by simp only [List.length_append, zl2, zl3, zl4', zl5, zl6, zl7, zl8]; omega) ?_
        refine hP _ _ _ _ _ ?_
        refine hP _ _ _ _ _ ?_
        refine hP _ _ _ _ _ ⟨hx, ?_⟩
        refine hP _ _ _ _ _ ⟨(zi hn rfl rfl rfl), Nat.le_of_ble_eq_true rfl, Nat.le_of_ble_eq_true rfl, ?_⟩
        refine bp_num ((congrFun (wrL_row hx1 hx2) 4).trans hmo) (by omega) hB m0 (by simp only [List.length_append, zl2, zl3, zl4', zl5, zl6, zl7, zl8]; omega) ?_
        refine hP _ _ _ _ _ ?_
        refine hP _ _ _ _ _ ⟨hx, ?_⟩
        refine hP _ _ _ _ _ ?_
        refine hP _ _ _ _ _ ⟨fun _ => ?_, fun hz => absurd ( ((congrFun (wrL_row hx1 hx2) 5).trans h5)) hz⟩
        refine hP _ _ _ _ _ ?_
        refine hP _ _ _ _ _ ?_
        refine hP _ _ _ _ _ ⟨hx, ?_⟩
        refine hP _ _ _ _ _ ⟨fun _ => ?_, fun hz => absurd ( ((congrFun (wrL_row hx1 hx2) 6).trans h60)) hz⟩
        refine hP _ _ _ _ _ ?_
        refine hP _ _ _ _ _ ⟨(zi hn rfl rfl rfl), Nat.le_of_ble_eq_true rfl, Nat.le_of_ble_eq_true rfl, ?_⟩
        refine bp_str (q := 8) (by decide) hB m0 (by simp only [List.length_append, zl2, zl3, zl4', zl5, zl6, zl7, zl8]; omega) ?_
        refine hP _ _ _ _ _ ?_
        exact ⟨rfl, hQ _ (by rw [if_pos h5, if_neg h6] at hA0; rw [← hA0 _ rfl]; simp only [List.append_assoc, List.nil_append])⟩
    · obtain ⟨ti, hti9, hti⟩ := hti.resolve_left h5
      have l5 := numL_len ti
      by_cases h6 : B.1 x 6 = 1
      ·
        refine hP _ _ _ _ _ ?_
        refine hP _ _ _ _ _ ?_
        refine hP _ _ _ _ _ ⟨(zi hn rfl rfl rfl), Nat.le_of_ble_eq_true rfl, Nat.le_of_ble_eq_true rfl, ?_⟩
        refine bp_str (q := 2) (by decide) hB m0 (by simp only [List.length_append, zl2, zl3, zl4', zl5, zl6, zl7, zl8]; omega) ?_
        refine hP _ _ _ _ _ ?_
        refine hP _ _ _ _ _ ?_
        refine hP _ _ _ _ _ ⟨hx, ?_⟩
        refine hP _ _ _ _ _ ⟨(zi hn rfl rfl rfl), Nat.le_of_ble_eq_true rfl, Nat.le_of_ble_eq_true rfl, ?_⟩
        refine bp_set (s := B.1 x 1) ((congrFun (wrL_row hx1 hx2) 1).trans rfl) hB m0 (by simp only [List.length_append, zl2, zl3, zl4', zl5, zl6, zl7, zl8]; omega) ?_
        refine hP _ _ _ _ _ ?_
        refine hP _ _ _ _ _ ?_
        refine hP _ _ _ _ _ ⟨(zi hn rfl rfl rfl), Nat.le_of_ble_eq_true rfl, Nat.le_of_ble_eq_true rfl, ?_⟩
        refine bp_str (q := 3) (by decide) hB m0 (by simp only [List.length_append, zl2, zl3, zl4', zl5, zl6, zl7, zl8]; omega) ?_
        refine hP _ _ _ _ _ ?_
        refine hP _ _ _ _ _ ?_
        refine hP _ _ _ _ _ ⟨hx, ?_⟩
        refine hP _ _ _ _ _ ⟨(zi hn rfl rfl rfl), Nat.le_of_ble_eq_true rfl, Nat.le_of_ble_eq_true rfl, ?_⟩
        refine bp_num ((congrFun (wrL_row hx1 hx2) 2).trans hto) (by omega) hB m0 (by simp only [List.length_append, zl2, zl3, zl4', zl5, zl6, zl7, zl8]; omega) ?_
        refine hP _ _ _ _ _ ?_
        refine hP _ _ _ _ _ ?_
        refine hP _ _ _ _ _ ⟨(zi hn rfl rfl rfl), Nat.le_of_ble_eq_true rfl, Nat.le_of_ble_eq_true rfl, ?_⟩
        refine bp_str (q := 4) (by decide) hB m0 (by simp only [List.length_append, zl2, zl3, zl4', zl5, zl6, zl7, zl8]; omega) ?_
        refine hP _ _ _ _ _ ?_
        refine hP _ _ _ _ _ ?_
        refine hP _ _ _ _ _ ⟨hx, ?_⟩
        refine hP _ _ _ _ _ ⟨(zi hn rfl rfl rfl), Nat.le_of_ble_eq_true rfl, Nat.le_of_ble_eq_true rfl, ?_⟩
        refine bp_set (s := B.1 x 3) ((congrFun (wrL_row hx1 hx2) 3).trans rfl) hB m0 (by simp only [List.length_append, zl2, zl3, zl4', zl5, zl6, zl7, zl8]; omega) ?_
        refine hP _ _ _ _ _ ?_
        refine hP _ _ _ _ _ ?_
        refine hP _ _ _ _ _ ⟨(zi hn rfl rfl rfl), Nat.le_of_ble_eq_true rfl, Nat.le_of_ble_eq_true rfl, ?_⟩
        refine bp_str (q := 5) (by decide) hB m0 (by simp only [List.length_append, zl2, zl3, zl4', zl5, zl6, zl7, zl8]; omega) ?_
        refine hP _ _ _ _ _ ?_
        refine hP _ _ _ _ _ ?_
        refine hP _ _ _ _ _ ⟨hx, ?_⟩
        refine hP _ _ _ _ _ ⟨(zi hn rfl rfl rfl), Nat.le_of_ble_eq_true rfl, Nat.le_of_ble_eq_true rfl, ?_⟩
        refine bp_num ((congrFun (wrL_row hx1 hx2) 4).trans hmo) (by omega) hB m0 (by simp only [List.length_append, zl2, zl3, zl4', zl5, zl6, zl7, zl8]; omega) ?_
        refine hP _ _ _ _ _ ?_
        refine hP _ _ _ _ _ ⟨hx, ?_⟩
        refine hP _ _ _ _ _ ?_
        refine hP _ _ _ _ _ ⟨fun hz => absurd hz ( fun z => h5 (((congrFun (wrL_row hx1 hx2) 5).trans rfl).symm.trans z)), fun _ => ?_⟩
        refine hP _ _ _ _ _ ?_
        refine hP _ _ _ _ _ ?_
        refine hP _ _ _ _ _ ⟨(zi hn rfl rfl rfl), Nat.le_of_ble_eq_true rfl, Nat.le_of_ble_eq_true rfl, ?_⟩
        refine bp_str (q := 6) (by decide) hB m0 (by simp only [List.length_append, zl2, zl3, zl4', zl5, zl6, zl7, zl8]; omega) ?_
        refine hP _ _ _ _ _ ?_
        refine hP _ _ _ _ _ ?_
        refine hP _ _ _ _ _ ⟨hx, ?_⟩
        refine hP _ _ _ _ _ ⟨(zi hn rfl rfl rfl), Nat.le_of_ble_eq_true rfl, Nat.le_of_ble_eq_true rfl, ?_⟩
        refine bp_num ((congrFun (wrL_row hx1 hx2) 5).trans hti) (by omega) hB m0 (by simp only [List.length_append, zl2, zl3, zl4', zl5, zl6, zl7, zl8]; omega) ?_
        refine hP _ _ _ _ _ ?_
        refine hP _ _ _ _ _ ?_
        refine hP _ _ _ _ _ ⟨hx, ?_⟩
        refine hP _ _ _ _ _ ⟨fun hz => absurd hz ( fun z => absurd (((congrFun (wrL_row hx1 hx2) 6).trans h6).symm.trans z) (by decide)), fun _ => ?_⟩
        refine hP _ _ _ _ _ ?_
        refine hP _ _ _ _ _ ?_
        refine hP _ _ _ _ _ ⟨(zi hn rfl rfl rfl), Nat.le_of_ble_eq_true rfl, Nat.le_of_ble_eq_true rfl, ?_⟩
        refine bp_str (q := 7) (by decide) hB m0 (by simp only [List.length_append, zl2, zl3, zl4', zl5, zl6, zl7, zl8]; omega) ?_
        refine hP _ _ _ _ _ ?_
        exact ⟨rfl, hQ _ (by rw [if_neg h5, hti, ix_nI (j := ti) (by omega), if_pos h6] at hA0; rw [← hA0 _ rfl]; simp only [List.append_assoc, List.nil_append])⟩
      · have h60 := hsb.resolve_right h6
        refine hP _ _ _ _ _ ?_
        refine hP _ _ _ _ _ ?_
        refine hP _ _ _ _ _ ⟨(zi hn rfl rfl rfl), Nat.le_of_ble_eq_true rfl, Nat.le_of_ble_eq_true rfl, ?_⟩
        refine bp_str (q := 2) (by decide) hB m0 (by simp only [List.length_append, zl2, zl3, zl4', zl5, zl6, zl7, zl8]; omega) ?_
        refine hP _ _ _ _ _ ?_
        refine hP _ _ _ _ _ ?_
        refine hP _ _ _ _ _ ⟨hx, ?_⟩
        refine hP _ _ _ _ _ ⟨(zi hn rfl rfl rfl), Nat.le_of_ble_eq_true rfl, Nat.le_of_ble_eq_true rfl, ?_⟩
        refine bp_set (s := B.1 x 1) ((congrFun (wrL_row hx1 hx2) 1).trans rfl) hB m0 (by simp only [List.length_append, zl2, zl3, zl4', zl5, zl6, zl7, zl8]; omega) ?_
        refine hP _ _ _ _ _ ?_
        refine hP _ _ _ _ _ ?_
        refine hP _ _ _ _ _ ⟨(zi hn rfl rfl rfl), Nat.le_of_ble_eq_true rfl, Nat.le_of_ble_eq_true rfl, ?_⟩
        refine bp_str (q := 3) (by decide) hB m0 (by simp only [List.length_append, zl2, zl3, zl4', zl5, zl6, zl7, zl8]; omega) ?_
        refine hP _ _ _ _ _ ?_
        refine hP _ _ _ _ _ ?_
        refine hP _ _ _ _ _ ⟨hx, ?_⟩
        refine hP _ _ _ _ _ ⟨(zi hn rfl rfl rfl), Nat.le_of_ble_eq_true rfl, Nat.le_of_ble_eq_true rfl, ?_⟩
        refine bp_num ((congrFun (wrL_row hx1 hx2) 2).trans hto) (by omega) hB m0 (by simp only [List.length_append, zl2, zl3, zl4', zl5, zl6, zl7, zl8]; omega) ?_
        refine hP _ _ _ _ _ ?_
        refine hP _ _ _ _ _ ?_
        refine hP _ _ _ _ _ ⟨(zi hn rfl rfl rfl), Nat.le_of_ble_eq_true rfl, Nat.le_of_ble_eq_true rfl, ?_⟩
        refine bp_str (q := 4) (by decide) hB m0 (by simp only [List.length_append, zl2, zl3, zl4', zl5, zl6, zl7, zl8]; omega) ?_
        refine hP _ _ _ _ _ ?_
        refine hP _ _ _ _ _ ?_
        refine hP _ _ _ _ _ ⟨hx, ?_⟩
        refine hP _ _ _ _ _ ⟨(zi hn rfl rfl rfl), Nat.le_of_ble_eq_true rfl, Nat.le_of_ble_eq_true rfl, ?_⟩
        refine bp_set (s := B.1 x 3) ((congrFun (wrL_row hx1 hx2) 3).trans rfl) hB m0 (by simp only [List.length_append, zl2, zl3, zl4', zl5, zl6, zl7, zl8]; omega) ?_
        refine hP _ _ _ _ _ ?_
        refine hP _ _ _ _ _ ?_
        refine hP _ _ _ _ _ ⟨(zi hn rfl rfl rfl), Nat.le_of_ble_eq_true rfl, Nat.le_of_ble_eq_true rfl, ?_⟩
        refine bp_str (q := 5) (by decide) hB m0 (by simp only [List.length_append, zl2, zl3, zl4', zl5, zl6, zl7, zl8]; omega) ?_
        refine hP _ _ _ _ _ ?_
        refine hP _ _ _ _ _ ?_
        refine hP _ _ _ _ _ ⟨hx, ?_⟩
        refine hP _ _ _ _ _ ⟨(zi hn rfl rfl rfl), Nat.le_of_ble_eq_true rfl, Nat.le_of_ble_eq_true rfl, ?_⟩
        refine bp_num ((congrFun (wrL_row hx1 hx2) 4).trans hmo) (by omega) hB m0 (by simp only [List.length_append, zl2, zl3, zl4', zl5, zl6, zl7, zl8]; omega) ?_
        refine hP _ _ _ _ _ ?_
        refine hP _ _ _ _ _ ⟨hx, ?_⟩
        refine hP _ _ _ _ _ ?_
        refine hP _ _ _ _ _ ⟨fun hz => absurd hz ( fun z => h5 (((congrFun (wrL_row hx1 hx2) 5).trans rfl).symm.trans z)), fun _ => ?_⟩
        refine hP _ _ _ _ _ ?_
        refine hP _ _ _ _ _ ?_
        refine hP _ _ _ _ _ ⟨(zi hn rfl rfl rfl), Nat.le_of_ble_eq_true rfl, Nat.le_of_ble_eq_true rfl, ?_⟩
        refine bp_str (q := 6) (by decide) hB m0 (by simp only [List.length_append, zl2, zl3, zl4', zl5, zl6, zl7, zl8]; omega) ?_
        refine hP _ _ _ _ _ ?_
        refine hP _ _ _ _ _ ?_
        refine hP _ _ _ _ _ ⟨hx, ?_⟩
        refine hP _ _ _ _ _ ⟨(zi hn rfl rfl rfl), Nat.le_of_ble_eq_true rfl, Nat.le_of_ble_eq_true rfl, ?_⟩
        refine bp_num ((congrFun (wrL_row hx1 hx2) 5).trans hti) (by omega) hB m0 (by simp only [List.length_append, zl2, zl3, zl4', zl5, zl6, zl7, zl8]; omega) ?_
        refine hP _ _ _ _ _ ?_
        refine hP _ _ _ _ _ ?_
        refine hP _ _ _ _ _ ⟨hx, ?_⟩
        refine hP _ _ _ _ _ ⟨fun _ => ?_, fun hz => absurd ( ((congrFun (wrL_row hx1 hx2) 6).trans h60)) hz⟩
        refine hP _ _ _ _ _ ?_
        refine hP _ _ _ _ _ ⟨(zi hn rfl rfl rfl), Nat.le_of_ble_eq_true rfl, Nat.le_of_ble_eq_true rfl, ?_⟩
        refine bp_str (q := 8) (by decide) hB m0 (by simp only [List.length_append, zl2, zl3, zl4', zl5, zl6, zl7, zl8]; omega) ?_
        refine hP _ _ _ _ _ ?_
        exact ⟨rfl, hQ _ (by rw [if_neg h5, hti, ix_nI (j := ti) (by omega), if_neg h6] at hA0; rw [← hA0 _ rfl]; simp only [List.append_assoc, List.nil_append])⟩
  have l1 := numL_len gv
  by_cases hu : B.1 x 7 = -1
  ·
    refine hP _ _ _ _ _ ?_
    refine hP _ _ _ _ _ ?_
    refine hP _ _ _ _ _ ⟨(zi hn rfl rfl rfl), ?_⟩
    rw [hBe]
    refine hP _ _ _ _ _ ?_
    refine hP _ _ _ _ _ ?_
    refine hP _ _ _ _ _ ⟨hx, ?_⟩
    refine hP _ _ _ _ _ ?_
    refine hP _ _ _ _ _ ⟨fun _ => ?_, fun hz => absurd ( hu) hz⟩
    refine hP _ _ _ _ _ ?_
    refine hP _ _ _ _ _ ?_
    refine hP _ _ _ _ _ ⟨(zi hn rfl rfl rfl), Nat.le_of_ble_eq_true rfl, Nat.le_of_ble_eq_true rfl, ?_⟩
    refine bp_str (L := []) (q := 0) (by decide) hB m0 (by decide) ?_
    refine hP _ _ _ _ _ ?_
    refine hP _ _ _ _ _ ?_
    refine hP _ _ _ _ _ ⟨hx, ?_⟩
    refine hP _ _ _ _ _ ?_
    refine hP _ _ _ _ _ ⟨fun _ => ?_, fun hz => absurd ( ((congrFun (wrL_row hx1 hx2) 7).trans hu)) hz⟩
    refine hP _ _ _ _ _ ?_
    refine hP _ _ _ _ _ ⟨hx, ?_⟩
    refine hP _ _ _ _ _ ?_
    refine hP _ _ _ _ _ ⟨(zi hn rfl rfl rfl), Nat.le_of_ble_eq_true rfl, Nat.le_of_ble_eq_true rfl, ?_⟩
    refine bp_num (v := gv) ((congrFun (wrL_row hx1 hx2) 0).trans hgv) (by omega) hB m0 (by simp only [List.length_append, List.length_nil, zl0, zl1]; omega) ?_
    refine mid _ (by simp only [List.length_append, List.length_nil, zl0, zl1]; omega) (by simp only [List.length_append, List.length_nil, zl0, zl1]; omega) (fun T => by rw [if_pos hu, if_pos hu, hgv, ix_nI (j := gv) (by omega)]; simp only [List.append_assoc, List.nil_append]; rfl)
  · obtain ⟨u, hu20, hun⟩ := hun.resolve_left hu
    have l2 := numL_len u
    refine hP _ _ _ _ _ ?_
    refine hP _ _ _ _ _ ?_
    refine hP _ _ _ _ _ ⟨(zi hn rfl rfl rfl), ?_⟩
    rw [hBe]
    refine hP _ _ _ _ _ ?_
    refine hP _ _ _ _ _ ?_
    refine hP _ _ _ _ _ ⟨hx, ?_⟩
    refine hP _ _ _ _ _ ?_
    refine hP _ _ _ _ _ ⟨fun hz => absurd hz ( hu), fun _ => ?_⟩
    refine hP _ _ _ _ _ ?_
    refine hP _ _ _ _ _ ⟨(zi hn rfl rfl rfl), Nat.le_of_ble_eq_true rfl, Nat.le_of_ble_eq_true rfl, ?_⟩
    refine bp_str (L := []) (q := 1) (by decide) hB m0 (by decide) ?_
    refine hP _ _ _ _ _ ?_
    refine hP _ _ _ _ _ ?_
    refine hP _ _ _ _ _ ⟨hx, ?_⟩
    refine hP _ _ _ _ _ ?_
    refine hP _ _ _ _ _ ⟨fun hz => absurd hz ( fun z => hu (((congrFun (wrL_row hx1 hx2) 7).trans rfl).symm.trans z)), fun _ => ?_⟩
    refine hP _ _ _ _ _ ?_
    refine hP _ _ _ _ _ ⟨hx, ?_⟩
    refine hP _ _ _ _ _ ⟨(zi hn rfl rfl rfl), Nat.le_of_ble_eq_true rfl, Nat.le_of_ble_eq_true rfl, ?_⟩
    refine bp_num (v := u) ((congrFun (wrL_row hx1 hx2) 7).trans hun) (by omega) hB m0 (by simp only [List.length_append, List.length_nil, zl0, zl1]; omega) ?_
    refine mid _ (by simp only [List.length_append, List.length_nil, zl0, zl1]; omega) (by simp only [List.length_append, List.length_nil, zl0, zl1]; omega) (fun T => by rw [if_neg hu, if_neg hu, hun, ix_nI (j := u) (by omega)]; simp only [List.append_assoc, List.nil_append]; rfl)
