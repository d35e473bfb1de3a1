def k_X11_letter : zCt := fun as n mem Q => ∃ (p i : Int32) (np pw m na : Nat), as = [.ref 180, .int p, .int i] ∧ zst n mem ∧ (fun mem : zM => zMc mem np pw m na ∧ (∀ p, p < pw → zPr (mem.1 182) p) ∧
    (if isin p 0 (mem.1 180 15 - 1) = false then Q (some (.int (-1))) n mem
     else Q (some (.int (if isin i 0 (nI (lineR (mem.1 182) (ix p)).length - 1) = false then -1 else (lineR (mem.1 182) (ix p)).getD (ix i) 0))) n (wrL 196 180 42 (zI mem 180 42 0) 0 (lineR (mem.1 182) (ix p))))) (zI mem 180 0 0)
theorem ok_X11_letter {l : Launch} {G : zG} : zOK l G yX11_letter cX11_letter 3 (some .int) 4 0 0 k_X11_letter := by
  intro as n mem Q hK
  obtain ⟨p, i, np, pw, m, na, rfl, ⟨hn, hF⟩, hQ⟩ := hK
  refine mtX11_letter ok_X11_isPower (by decide) ok_X11_laysLine (by decide) ok_X11_isIn (by decide) (List.forall_mem_cons.mpr ⟨rfl, List.forall_mem_cons.mpr ⟨rfl, List.forall_mem_cons.mpr ⟨rfl, fun _ h => absurd h List.not_mem_nil⟩⟩⟩) (by simp) rfl (fun P hP => ?_)
  show P 0 [.ref 180, .int p, .int i] [] n mem
  refine hP _ _ _ _ _ ?_
  refine hP _ _ _ _ _ ?_
  refine hP _ _ _ _ _ ⟨(zi hn rfl rfl rfl), ?_⟩
  show P 5 [.ref 180, .int p, .int i] [] n (zI mem 180 0 0)
  have hF : zFx (zI mem 180 0 0) := hF
  generalize zI mem 180 0 0 = mem at *
  obtain ⟨⟨c1, c2, c3, c4, c5, c6, c7, c8⟩, hPr, hQ⟩ := hQ
  refine hP _ _ _ _ _ ?_
  refine hP _ _ _ _ _ ?_
  refine hP _ _ _ _ _ ⟨(zi hn rfl rfl rfl), Nat.le_of_ble_eq_true rfl, Nat.le_of_ble_eq_true rfl, ?_⟩
  refine ⟨_, rfl, ⟨hn, hF⟩, ?_⟩
  refine hP _ _ _ _ _ ⟨fun h10 => ?_, fun h10 => ?_⟩
  ·
    have h10 := zb_0.mp h10
    refine hP _ _ _ _ _ ?_
    refine hP _ _ _ _ _ ?_
    exact ⟨rfl, by simpa [h10] using hQ⟩
  ·
    have h10 := zb_n.mp h10
    obtain ⟨j, hj, rfl⟩ := isin_nI (by omega) (c3 ▸ h10)
    have hx := ix_nI (j := j) (by omega)
    simp only [h10, hx, Bool.true_eq_false, if_false] at hQ
    refine hP _ _ _ _ _ ?_
    refine hP _ _ _ _ _ ?_
    refine hP _ _ _ _ _ ⟨(zi hn rfl rfl rfl), Nat.le_of_ble_eq_true rfl, Nat.le_of_ble_eq_true rfl, ?_⟩
    refine ⟨j, rfl, by omega, ⟨hn, hF⟩, hPr j hj, ?_⟩
    have hl : (wrL 196 180 42 (zI mem 180 42 0) 0 (lineR (mem.1 182) j)).1 180 42 = nI (lineR (mem.1 182) j).length := by rw [wrL_len (k := 0) (mem := zI mem 180 42 0) (show _ = nI 0 from zI_s), Nat.zero_add]
    have hl8 : (lineR (mem.1 182) j).length ≤ 80 := lineL_len _ _ _ _ _ _ _ _
    have hat := fun k (h : k < (lineR (mem.1 182) j).length) => wrL_at (b := 196) (o := 180) (f := 42) (by decide) (mem := zI mem 180 42 0) (k := 0) h
    have hF : zFx (wrL 196 180 42 (zI mem 180 42 0) 0 (lineR (mem.1 182) j)) := zFx_2 wrL_2 hF
    generalize wrL 196 180 42 (zI mem 180 42 0) 0 (lineR (mem.1 182) j) = M at hl hat hF hQ ⊢
    refine hP _ _ _ _ _ ?_
    refine hP _ _ _ _ _ ?_
    refine hP _ _ _ _ _ ?_
    refine hP _ _ _ _ _ ⟨(zi hn rfl rfl rfl), ?_⟩
    refine hP _ _ _ _ _ ?_
    refine hP _ _ _ _ _ ?_
    refine hP _ _ _ _ _ ⟨Nat.le_of_ble_eq_true rfl, Nat.le_of_ble_eq_true rfl, ?_⟩
    refine ⟨_, _, _, rfl, ?_⟩
    rw [hl]
    refine hP _ _ _ _ _ ⟨fun h31 => ?_, fun h31 => ?_⟩
    ·
      have h31 := zb_0.mp h31
      refine hP _ _ _ _ _ ?_
      refine hP _ _ _ _ _ ?_
      first | exact ⟨rfl, by rw [if_neg (by rw [h31]; decide), ix_nI (j := k) (by omega), ← hak] at hQ; exact hQ⟩ | exact ⟨rfl, by rw [if_pos h31] at hQ; exact hQ⟩
    ·
      have h31 := zb_n.mp h31
      obtain ⟨k, hk, rfl⟩ := isin_nI (by omega) h31
      have hak := hat k hk
      rw [Nat.zero_add] at hak
      refine hP _ _ _ _ _ ?_
      refine hP _ _ _ _ _ ⟨(zi hn rfl rfl rfl), _, fx_Model_line hF, (by decide), ?_⟩
      refine hP _ _ _ _ _ ?_
      refine hP _ _ _ _ _ ⟨_, k, (zi hn rfl rfl rfl), rfl, by omega, ?_⟩
      refine hP _ _ _ _ _ ?_
      refine hP _ _ _ _ _ ?_
      first | exact ⟨rfl, by rw [if_neg (by rw [h31]; decide), ix_nI (j := k) (by omega), ← hak] at hQ; exact hQ⟩ | exact ⟨rfl, by rw [if_pos h31] at hQ; exact hQ⟩
/-! ===== texts ===== -/
def k_J0_coder_7d493 : zCt := fun as n mem Q => ∃ (s : Nat), as = [.ref s] ∧ zstr s ∧ Q (some (.int 0)) n mem
theorem ok_J0_coder_7d493 {l : Launch} {G : zG} : zOK l G yJ0_coder_7d493 cJ0_coder_7d493 1 (some .byte) 0 0 0 k_J0_coder_7d493 := by
  intro as n mem Q hK
  obtain ⟨s, rfl, hs, hQ⟩ := hK
  refine mtJ0_coder_7d493 (List.forall_mem_cons.mpr ⟨rfl, fun _ h => absurd h List.not_mem_nil⟩) (by simp) rfl (fun P hP => ?_)
  show P 0 [.ref s] [] n mem
  refine hP _ _ _ _ _ ?_
  refine hP _ _ _ _ _ ⟨fun hz => absurd hz ( by decide), fun _ => ?_⟩
  refine hP _ _ _ _ _ ?_
  refine hP _ _ _ _ _ ⟨hs, ?_⟩
  refine hP _ _ _ _ _ ?_
  refine hP _ _ _ _ _ ?_
  exact ⟨by decide, rfl, hQ⟩
def k_J0_isLatin1_aae02 : zCt := fun as n mem Q => ∃ (s : Nat), as = [.ref s] ∧ zstr s ∧ Q (some (.int 1)) n mem
theorem ok_J0_isLatin1_aae02 {l : Launch} {G : zG} : zOK l G yJ0_isLatin1_aae02 cJ0_isLatin1_aae02 1 (some .boolean) 0 0 0 k_J0_isLatin1_aae02 := by
  intro as n mem Q hK
  obtain ⟨s, rfl, hs, hQ⟩ := hK
  refine mtJ0_isLatin1_aae02 (List.forall_mem_cons.mpr ⟨rfl, fun _ h => absurd h List.not_mem_nil⟩) (by simp) rfl (fun P hP => ?_)
  show P 0 [.ref s] [] n mem
  refine hP _ _ _ _ _ ?_
  refine hP _ _ _ _ _ ⟨fun hz => absurd hz ( by decide), fun _ => ?_⟩
  refine hP _ _ _ _ _ ?_
  refine hP _ _ _ _ _ ⟨hs, ?_⟩
  refine hP _ _ _ _ _ ⟨fun _ => ?_, fun hz => absurd ( rfl) hz⟩
  refine hP _ _ _ _ _ ?_
  refine hP _ _ _ _ _ ?_
  refine hP _ _ _ _ _ ?_
  exact ⟨by decide, rfl, hQ⟩
def k_J0_length_8abf5 : zCt := fun as n mem Q => ∃ (s : Nat), as = [.ref s] ∧ zstr s ∧ Q (some (.int (nI (zsb (s - 20)).length))) n mem
theorem zsb_len : ∀ q, q < 25 → (zsb q).length ≤ 40 := by decide +kernel
theorem ok_J0_length_8abf5 {l : Launch} {G : zG} : zOK l G yJ0_length_8abf5 cJ0_length_8abf5 1 (some .int) 1 0 0 k_J0_length_8abf5 := by
  intro as n mem Q hK
  obtain ⟨s, rfl, hs, hQ⟩ := hK
  refine mtJ0_length_8abf5 ok_J0_coder_7d493 (by decide) (List.forall_mem_cons.mpr ⟨rfl, fun _ h => absurd h List.not_mem_nil⟩) (by simp) rfl (fun P hP => ?_)
  show P 0 [.ref s] [] n mem
  have hb : zbs (50 + (s - 20)) := ⟨by obtain ⟨a, b⟩ := hs; omega, by obtain ⟨a, b⟩ := hs; omega⟩
  have el : 50 + (s - 20) - 50 = s - 20 := by omega
  have e0 : nI (zsb (s - 20)).length >>> ((0 : Int32) &&& 31) = nI (zsb (s - 20)).length := by
    have := zsb_len (s - 20) (by obtain ⟨a, b⟩ := hs; omega)
    exact (by decide +kernel : ∀ k, k ≤ 40 → nI k >>> ((0 : Int32) &&& 31) = nI k) _ this
  rw [← e0] at hQ
  refine hP _ _ _ _ _ ?_
  refine hP _ _ _ _ _ ⟨hs, ?_⟩
  refine hP _ _ _ _ _ ⟨hb, ?_⟩
  refine hP _ _ _ _ _ ?_
  refine hP _ _ _ _ _ ⟨hs, Nat.le_of_ble_eq_true rfl, Nat.le_of_ble_eq_true rfl, ?_⟩
  refine ⟨s, rfl, hs, ?_⟩
  refine hP _ _ _ _ _ ?_
  refine hP _ _ _ _ _ ?_
  exact ⟨rfl, by rw [el]; exact hQ⟩
def k_J3_checkIndex_8e157 : zCt := fun as n mem Q => ∃ (i m : Nat) (v : Value), as = [.int (nI i), .int (nI m), v] ∧ v.category = 1 ∧ i < m ∧ m < 1000 ∧ Q (some (.int (nI i))) n mem
theorem ok_J3_checkIndex_8e157 {l : Launch} {G : zG} : zOK l G yJ3_checkIndex_8e157 cJ3_checkIndex_8e157 3 (some .int) 0 0 0 k_J3_checkIndex_8e157 := by
  intro as n mem Q hK
  obtain ⟨i, m, v, rfl, hv, him, hm, hQ⟩ := hK
  refine mtJ3_checkIndex_8e157 (List.forall_mem_cons.mpr ⟨rfl, List.forall_mem_cons.mpr ⟨rfl, List.forall_mem_cons.mpr ⟨hv, fun _ h => absurd h List.not_mem_nil⟩⟩⟩) (by simp) rfl (fun P hP => ?_)
  show P 0 [.int (nI i), .int (nI m), v] [] n mem
  refine hP _ _ _ _ _ ?_
  refine hP _ _ _ _ _ ⟨fun hz => absurd hz ( nI_pos (by omega)), fun _ => ?_⟩
  refine hP _ _ _ _ _ ?_
  refine hP _ _ _ _ _ ?_
  refine hP _ _ _ _ _ ⟨fun _ => ?_, fun hz => absurd ( nI_lt him (by omega)) hz⟩
  refine hP _ _ _ _ _ ?_
  refine hP _ _ _ _ _ ?_
  exact ⟨rfl, hQ⟩
def k_J0_checkIndex_df160 : zCt := fun as n mem Q => ∃ (i m : Nat), as = [.int (nI i), .int (nI m)] ∧ i < m ∧ m < 1000 ∧ Q none n mem
theorem ok_J0_checkIndex_df160 {l : Launch} {G : zG} : zOK l G yJ0_checkIndex_df160 cJ0_checkIndex_df160 2 none 1 0 0 k_J0_checkIndex_df160 := by
  intro as n mem Q hK
  obtain ⟨i, m, rfl, him, hm, hQ⟩ := hK
  refine mtJ0_checkIndex_df160 ok_J3_checkIndex_8e157 (by decide) (List.forall_mem_cons.mpr ⟨rfl, List.forall_mem_cons.mpr ⟨rfl, fun _ h => absurd h List.not_mem_nil⟩⟩) (by simp) rfl (fun P hP => ?_)
  show P 0 [.int (nI i), .int (nI m)] [] n mem
  refine hP _ _ _ _ _ ?_
  refine hP _ _ _ _ _ ?_
  refine hP _ _ _ _ _ ⟨?_, ?_⟩
  ·
    refine hP _ _ _ _ _ ⟨Nat.le_of_ble_eq_true rfl, Nat.le_of_ble_eq_true rfl, ?_⟩
    refine ⟨i, m, _, rfl, rfl, him, hm, ?_⟩
    refine hP _ _ _ _ _ ?_
    refine hP _ _ _ _ _ ?_
    exact ⟨rfl, hQ⟩
  ·
    refine hP _ _ _ _ _ ⟨Nat.le_of_ble_eq_true rfl, Nat.le_of_ble_eq_true rfl, ?_⟩
    refine ⟨i, m, _, rfl, rfl, him, hm, ?_⟩
    refine hP _ _ _ _ _ ?_
    refine hP _ _ _ _ _ ?_
    exact ⟨rfl, hQ⟩
def k_J1_charAt_3b067 : zCt := fun as n mem Q => ∃ (a j : Nat), as = [.ref a, .int (nI j)] ∧ zbs a ∧ j < (zsb (a - 50)).length ∧ Q (some (.int ((zsb (a - 50)).getD j 0))) n mem
theorem zsb_ch : ∀ q, q < 25 → ∀ j, j < (zsb q).length → (((zsb q).getD j 0 &&& 255).toUInt32 % 65536).toInt32 = (zsb q).getD j 0 ∧ ((zsb q).getD j 0).toInt8.toInt32 = (zsb q).getD j 0 := by decide +kernel
theorem ok_J1_charAt_3b067 {l : Launch} {G : zG} : zOK l G yJ1_charAt_3b067 cJ1_charAt_3b067 2 (some .char) 2 0 0 k_J1_charAt_3b067 := by
  intro as n mem Q hK
  obtain ⟨a, j, rfl, hb, hj, hQ⟩ := hK
  refine mtJ1_charAt_3b067 ok_J0_checkIndex_df160 (by decide) (List.forall_mem_cons.mpr ⟨rfl, List.forall_mem_cons.mpr ⟨rfl, fun _ h => absurd h List.not_mem_nil⟩⟩) (by simp) rfl (fun P hP => ?_)
  show P 0 [.ref a, .int (nI j)] [] n mem
  have ha : a - 50 < 25 := by obtain ⟨x, y⟩ := hb; omega
  have hl := zsb_len (a - 50) ha
  obtain ⟨e1, e2⟩ := zsb_ch (a - 50) ha j hj
  rw [← e1] at hQ
  refine hP _ _ _ _ _ ?_
  refine hP _ _ _ _ _ ?_
  refine hP _ _ _ _ _ ⟨hb, ?_⟩
  refine hP _ _ _ _ _ ⟨Nat.le_of_ble_eq_true rfl, Nat.le_of_ble_eq_true rfl, ?_⟩
  refine ⟨j, _, rfl, hj, by omega, ?_⟩
  refine hP _ _ _ _ _ ?_
  refine hP _ _ _ _ _ ?_
  refine hP _ _ _ _ _ ⟨hb, j, rfl, hj, ?_⟩
  refine hP _ _ _ _ _ ?_
  refine hP _ _ _ _ _ ?_
  refine hP _ _ _ _ _ ?_
  refine hP _ _ _ _ _ ?_
  exact ⟨pk_nc _, rfl, hQ⟩
def k_J0_charAt_5068e : zCt := fun as n mem Q => ∃ (s j : Nat), as = [.ref s, .int (nI j)] ∧ zstr s ∧ j < (zsb (s - 20)).length ∧ Q (some (.int ((zsb (s - 20)).getD j 0))) n mem
theorem ok_J0_charAt_5068e {l : Launch} {G : zG} : zOK l G yJ0_charAt_5068e cJ0_charAt_5068e 2 (some .char) 3 0 0 k_J0_charAt_5068e := by
  intro as n mem Q hK
  obtain ⟨s, j, rfl, hs, hj, hQ⟩ := hK
  refine mtJ0_charAt_5068e ok_J0_isLatin1_aae02 (by decide) ok_J1_charAt_3b067 (by decide) (List.forall_mem_cons.mpr ⟨rfl, List.forall_mem_cons.mpr ⟨rfl, fun _ h => absurd h List.not_mem_nil⟩⟩) (by simp) rfl (fun P hP => ?_)
  show P 0 [.ref s, .int (nI j)] [] n mem
  have hb : zbs (50 + (s - 20)) := ⟨by obtain ⟨a, b⟩ := hs; omega, by obtain ⟨a, b⟩ := hs; omega⟩
  have el : 50 + (s - 20) - 50 = s - 20 := by omega
  obtain ⟨e1, e2⟩ := zsb_ch (s - 20) (by obtain ⟨a, b⟩ := hs; omega) j hj
  refine hP _ _ _ _ _ ?_
  refine hP _ _ _ _ _ ⟨hs, Nat.le_of_ble_eq_true rfl, Nat.le_of_ble_eq_true rfl, ?_⟩
  refine ⟨s, rfl, hs, ?_⟩
  refine hP _ _ _ _ _ ⟨fun hz => absurd hz ( by decide), fun _ => ?_⟩
  refine hP _ _ _ _ _ ?_
  refine hP _ _ _ _ _ ⟨hs, ?_⟩
  refine hP _ _ _ _ _ ?_
  refine hP _ _ _ _ _ ⟨Nat.le_of_ble_eq_true rfl, Nat.le_of_ble_eq_true rfl, ?_⟩
  refine ⟨_, j, rfl, hb, by rw [el]; exact hj, ?_⟩
  rw [el]
  refine hP _ _ _ _ _ ?_
  exact ⟨by rw [← e1]; exact pk_nc _, rfl, hQ⟩
