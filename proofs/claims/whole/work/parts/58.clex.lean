/-! ===== the class's lexer ===== -/
theorem ztk {i : Nat} (h : i < 14) : ztok (i + 2) := ⟨by omega, by omega⟩
abbrev wq (C : Nat → Int32) (s n q : Nat) : Prop := n = (zsb q).length ∧ ∀ i, i < n → C (s + i) = (zsb q).getD i 0
def k_X2_isWord : zCt := fun as n mem Q => ∃ (q s e : Nat), as = [.ref 104, .ref (20 + q), .int (nI s)] ∧ q < 25 ∧ zst n mem ∧ mem.1 104 1 = nI e ∧ s ≤ e ∧ e ≤ 840 ∧ Q (some (.int (zb (decide (wq (mem.1 102) s (e - s) q))))) n mem
theorem ok_X2_isWord {l : Launch} {G : zG} : zOK l G yX2_isWord cX2_isWord 4 (some .boolean) 4 0 0 k_X2_isWord := by
  intro as n mem Q hK
  obtain ⟨q, s, e, rfl, hq, ⟨hn, hF⟩, he, hse, he8, hQ⟩ := hK
  refine mtX2_isWord ok_J0_length_8abf5 (by decide) ok_J0_charAt_5068e (by decide) (List.forall_mem_cons.mpr ⟨rfl, List.forall_mem_cons.mpr ⟨rfl, List.forall_mem_cons.mpr ⟨rfl, fun _ h => absurd h List.not_mem_nil⟩⟩⟩) (by simp) rfl (fun P hP => ?_)
  show P 0 [.ref 104, .ref (20 + q), .int (nI s), .null] [] n mem
  have hl := zsb_len q hq
  have hs : zstr (20 + q) := ⟨by omega, by omega⟩
  have eq : 20 + q - 20 = q := by omega
  have esub : mem.1 104 1 - nI s = nI (e - s) := by rw [he, pk_sub hse]
  by_cases hlen : (zsb q).length = e - s
  · have loop : ∀ j, j ≤ (zsb q).length → (∀ i, i < j → mem.1 102 (s + i) = (zsb q).getD i 0) → P 17 [.ref 104, .ref (20 + q), .int (nI s), .int (nI j)] [] n mem := by
      refine zloop ?_ ?_
      · intro hall
        rw [decide_eq_true ⟨hlen.symm, fun i hi => hall i (by omega)⟩] at hQ
        refine hP _ _ _ _ _ ?_
        refine hP _ _ _ _ _ ?_
        refine hP _ _ _ _ _ ⟨hs, Nat.le_of_ble_eq_true rfl, Nat.le_of_ble_eq_true rfl, ?_⟩
        refine ⟨_, rfl, hs, ?_⟩
        rw [eq]
        refine hP _ _ _ _ _ ⟨fun _ => ?_, fun hz => absurd ( nI_le (Nat.le_refl _) (by omega)) hz⟩
        refine hP _ _ _ _ _ ?_
        refine hP _ _ _ _ _ ?_
        exact ⟨by decide, rfl, hQ⟩
      · intro j hj ih hall
        rw [nI_succ j] at ih
        refine hP _ _ _ _ _ ?_
        refine hP _ _ _ _ _ ?_
        refine hP _ _ _ _ _ ⟨hs, Nat.le_of_ble_eq_true rfl, Nat.le_of_ble_eq_true rfl, ?_⟩
        refine ⟨_, rfl, hs, ?_⟩
        rw [eq]
        refine hP _ _ _ _ _ ⟨fun hz => absurd hz ( nI_ge hj (by omega)), fun _ => ?_⟩
        refine hP _ _ _ _ _ ?_
        refine hP _ _ _ _ _ ?_
        refine hP _ _ _ _ _ ⟨hs, Nat.le_of_ble_eq_true rfl, Nat.le_of_ble_eq_true rfl, ?_⟩
        refine ⟨_, j, rfl, hs, by rw [eq]; exact hj, ?_⟩
        rw [eq]
        refine hP _ _ _ _ _ ?_
        refine hP _ _ _ _ _ ⟨(zi hn rfl rfl rfl), _, fx_Lexer_tape hF, (by decide), ?_⟩
        refine hP _ _ _ _ _ ⟨(zi hn rfl rfl rfl), _, fx_Tape_bytes hF, (by decide), ?_⟩
        refine hP _ _ _ _ _ ?_
        refine hP _ _ _ _ _ ?_
        refine hP _ _ _ _ _ ?_
        refine hP _ _ _ _ _ ⟨_, s + j, (zi hn rfl rfl rfl), nI_add s j, by omega, ?_⟩
        refine hP _ _ _ _ _ ⟨fun h41 => ?_, fun h41 => ?_⟩
        ·
          refine hP _ _ _ _ _ ?_
          refine hP _ _ _ _ _ ?_
          refine ih (fun i hi => ?_)
          by_cases z : i = j
          · subst z; exact h41.symm
          · exact hall i (by omega)
        ·
          refine hP _ _ _ _ _ ?_
          refine hP _ _ _ _ _ ?_
          exact ⟨by decide, rfl, by rw [decide_eq_false (fun z => h41 (z.2 j (by omega)).symm)] at hQ; exact hQ⟩
    refine hP _ _ _ _ _ ?_
    refine hP _ _ _ _ _ ⟨hs, Nat.le_of_ble_eq_true rfl, Nat.le_of_ble_eq_true rfl, ?_⟩
    refine ⟨_, rfl, hs, ?_⟩
    rw [eq]
    refine hP _ _ _ _ _ ?_
    refine hP _ _ _ _ _ ⟨(zi hn rfl rfl rfl), ?_⟩
    refine hP _ _ _ _ _ ?_
    refine hP _ _ _ _ _ ?_
    refine hP _ _ _ _ _ ⟨fun _ => ?_, fun hz => absurd ( by show nI (zsb q).length = mem.1 104 1 - nI s; rw [esub, hlen]) hz⟩
    refine hP _ _ _ _ _ ?_
    refine hP _ _ _ _ _ ?_
    exact loop 0 (by omega) (fun i hi => absurd hi (Nat.not_lt_zero _))
  · rw [decide_eq_false (fun z => hlen z.1.symm)] at hQ
    refine hP _ _ _ _ _ ?_
    refine hP _ _ _ _ _ ⟨hs, Nat.le_of_ble_eq_true rfl, Nat.le_of_ble_eq_true rfl, ?_⟩
    refine ⟨_, rfl, hs, ?_⟩
    rw [eq]
    refine hP _ _ _ _ _ ?_
    refine hP _ _ _ _ _ ⟨(zi hn rfl rfl rfl), ?_⟩
    refine hP _ _ _ _ _ ?_
    refine hP _ _ _ _ _ ?_
    refine hP _ _ _ _ _ ⟨fun hz => absurd hz ( by show ¬ nI (zsb q).length = mem.1 104 1 - nI s; rw [esub]; exact fun z => hlen ((nI_eq (by omega) (by omega)).mp z)), fun _ => ?_⟩
    refine hP _ _ _ _ _ ?_
    refine hP _ _ _ _ _ ?_
    exact ⟨by decide, rfl, hQ⟩
theorem zsb_w : ∀ w, w < 10 → zsb (zwd (4 + w)) = wdM w := by decide
theorem zwd_lt : ∀ i, i < 14 → zwd i < 25 := by decide
theorem zsb_e : ∀ i, i < 3 → (zsb (zwd i)).length = 0 := by decide
theorem zsb_3 : zsb (zwd 3) = [59] := rfl
def k_X2_wordFrom : zCt := fun as n mem Q => ∃ (s e : Nat), as = [.ref 104, .int (nI s)] ∧ zst n mem ∧ mem.1 104 1 = nI e ∧ s ≤ e ∧ e ≤ 840 ∧ (s < e → ltr (mem.1 102 s) = true) ∧ Q (some (.ref ((if s = e then 1 else wT (mem.1 102) s (e - s)) + 2))) n mem
theorem ok_X2_wordFrom {l : Launch} {G : zG} : zOK l G yX2_wordFrom cX2_wordFrom 3 (some (.object "AuthorityBook$Token")) 5 0 0 k_X2_wordFrom := by
  intro as n mem Q hK
  obtain ⟨s, e, rfl, ⟨hn, hF⟩, he, hse, he8, hlt, hQ⟩ := hK
  refine mtX2_wordFrom ok_X2_isWord (by decide) (List.forall_mem_cons.mpr ⟨rfl, List.forall_mem_cons.mpr ⟨rfl, fun _ h => absurd h List.not_mem_nil⟩⟩) (by simp) rfl (fun P hP => ?_)
  show P 0 [.ref 104, .int (nI s), .null] [] n mem
  have loop : ∀ i, i ≤ 14 → (∀ w, 4 + w < i → ¬ wm (mem.1 102) s (e - s) w) → P 2 [.ref 104, .int (nI s), .int (nI i)] [] n mem := by
    refine zloop ?_ ?_
    · intro hno
      have e1 : (if s = e then 1 else wT (mem.1 102) s (e - s)) = 1 := by
        by_cases z : s = e
        · rw [if_pos z]
        · rw [if_neg z, wT_n (fun w hw => hno w (by omega))]
      rw [e1] at hQ
      refine hP _ _ _ _ _ ?_
      refine hP _ _ _ _ _ ?_
      refine hP _ _ _ _ _ ?_
      refine hP _ _ _ _ _ ⟨fun _ => ?_, fun hz => absurd ( by decide) hz⟩
      refine hP _ _ _ _ _ ?_
      refine hP _ _ _ _ _ ?_
      exact ⟨rfl, hQ⟩
    · intro i hi ih hno
      rw [nI_succ i] at ih
      have hqi := zwd_lt i hi
      have ei : 2 + i - 2 = i := by omega
      have key : s < e → wq (mem.1 102) s (e - s) (zwd i) → ∃ w, w < 10 ∧ i = 4 + w ∧ wm (mem.1 102) s (e - s) w := by
        intro hlt1 hw
        rcases (show i < 3 ∨ i = 3 ∨ 4 ≤ i by omega) with z | z | z
        · have := zsb_e i z; have := hw.1; omega
        · subst z
          have := hw.2 0 (by omega)
          have hl := hlt hlt1
          rw [Nat.add_zero, zsb_3] at this
          rw [show mem.1 102 s = 59 from this] at hl
          exact absurd hl (by decide)
        · obtain ⟨w, rfl⟩ : ∃ w, i = 4 + w := ⟨i - 4, by omega⟩
          rw [wq, zsb_w w (by omega)] at hw
          exact ⟨w, by omega, rfl, hw⟩
      have kno : ¬ (s < e ∧ wq (mem.1 102) s (e - s) (zwd i)) → ∀ w, 4 + w < i + 1 → ¬ wm (mem.1 102) s (e - s) w := by
        intro hz w hw hm
        by_cases q : 4 + w = i
        · apply hz
          subst q
          have hl0 : 0 < (wdM w).length := (by decide : ∀ w, w < 10 → 0 < (wdM w).length) w (by omega)
          refine ⟨by have h1 := hm.1; clear hm key hno hz; omega, ?_⟩
          rw [wq, zsb_w w (by omega)]; exact hm
        · exact hno w (by omega) hm
      refine hP _ _ _ _ _ ?_
      refine hP _ _ _ _ _ ?_
      refine hP _ _ _ _ _ ?_
      refine hP _ _ _ _ _ ⟨fun hz => absurd hz ( nI_ge (b := 14) hi (by omega)), fun _ => ?_⟩
      refine hP _ _ _ _ _ ?_
      refine hP _ _ _ _ _ ?_
      refine hP _ _ _ _ _ ⟨(zi hn rfl rfl rfl), ?_⟩
      refine hP _ _ _ _ _ ⟨fun h15 => ?_, fun h15 => ?_⟩
      ·
        refine hP _ _ _ _ _ ?_
        refine hP _ _ _ _ _ ?_
        first | exact ih (kno (fun z => of_decide_eq_false h31 z.2)) | exact ih (kno (fun z => h15 (by rw [he]; exact nI_lt z.1 (by omega)))) | exact ih (kno (fun z => absurd z.1 (Nat.not_lt.mpr ((nI_leI (by omega) (by omega)).mp (by rw [← he]; exact h15)))))
      ·
        have hlt1 : s < e := Nat.not_le.mp fun z => h15 (by rw [he]; exact nI_le z (by omega))
        refine hP _ _ _ _ _ ?_
        refine hP _ _ _ _ _ ?_
        refine hP _ _ _ _ _ ?_
        refine hP _ _ _ _ _ ⟨i, rfl, hi, ?_⟩
        refine hP _ _ _ _ _ ⟨⟨Nat.le_add_right 2 i, by omega⟩, ?_⟩
        refine hP _ _ _ _ _ ?_
        refine hP _ _ _ _ _ ⟨(zi hn rfl rfl rfl), Nat.le_of_ble_eq_true rfl, Nat.le_of_ble_eq_true rfl, ?_⟩
        refine ⟨zwd i, s, e, by rw [ei]; rfl, hqi, ⟨hn, hF⟩, he, hse, he8, ?_⟩
        refine hP _ _ _ _ _ ⟨fun h31 => ?_, fun h31 => ?_⟩
        ·
          have h31 := zb_0.mp h31
          refine hP _ _ _ _ _ ?_
          refine hP _ _ _ _ _ ?_
          first | exact ih (kno (fun z => of_decide_eq_false h31 z.2)) | exact ih (kno (fun z => h15 (by rw [he]; exact nI_lt z.1 (by omega)))) | exact ih (kno (fun z => absurd z.1 (Nat.not_lt.mpr ((nI_leI (by omega) (by omega)).mp (by rw [← he]; exact h15)))))
        ·
          have h31 := zb_n.mp h31
          obtain ⟨w, hw, rfl, hm⟩ := key hlt1 (of_decide_eq_true h31)
          refine hP _ _ _ _ _ ?_
          refine hP _ _ _ _ _ ?_
          refine hP _ _ _ _ _ ⟨_, rfl, hi, ?_⟩
          refine hP _ _ _ _ _ ?_
          rw [if_neg (by omega), wT_y hm hw, Nat.add_comm (4 + w) 2] at hQ
          exact ⟨rfl, hQ⟩
  refine hP _ _ _ _ _ ?_
  refine hP _ _ _ _ _ ?_
  exact loop 0 (by omega) (fun w hw => by omega)
def dcF (C : Nat → Int32) (s : Nat) : Nat → Nat
  | 0 => 0
  | i + 1 => dcF C s i + (dgt (C (s + i))).toNat
def nvF (C : Nat → Int32) (s : Nat) : Nat → Int32
  | 0 => 0
  | i + 1 => if dgt (C (s + i)) = true then nvF C s i * 10 + C (s + i) - 48 else nvF C s i
theorem dcF_le {C : Nat → Int32} {s : Nat} : ∀ i, dcF C s i ≤ i := by
  intro i
  induction i with
  | zero => exact Nat.le_refl _
  | succ i ih => rw [dcF]; have := Bool.toNat_le (dgt (C (s + i))); omega
theorem dcF_all {C : Nat → Int32} {s : Nat} : ∀ i, dcF C s i = i ↔ allD C s i = true := by
  intro i
  induction i with
  | zero => exact ⟨fun _ => rfl, fun _ => rfl⟩
  | succ i ih =>
    have hl := dcF_le (C := C) (s := s) i
    rw [dcF, allD, Bool.and_eq_true, ← ih]
    cases hd : dgt (C (s + i))
    · exact ⟨fun z => by simp at z; omega, fun z => by cases z.2⟩
    · exact ⟨fun z => ⟨by simp at z; omega, rfl⟩, fun z => by rw [z.1]; rfl⟩
theorem dcF_0 {C : Nat → Int32} {s : Nat} : ∀ i, dcF C s i = 0 → ∀ j, j < i → dgt (C (s + j)) = false := by
  intro i
  induction i with
  | zero => intro _ j hj; omega
  | succ i ih =>
    intro h j hj
    rw [dcF] at h
    by_cases e : j = i
    · subst e
      cases hd : dgt (C (s + j)) with
      | false => rfl
      | true => rw [hd] at h; simp at h
    · exact ih (by omega) j (by omega)
theorem dcF_mono {C : Nat → Int32} {s i : Nat} : ∀ j, i ≤ j → dcF C s i ≤ dcF C s j := by
  intro j
  induction j with
  | zero => intro h; rw [Nat.le_zero.mp h]; exact Nat.le_refl _
  | succ j ih =>
    intro h
    rcases Nat.lt_or_ge j i with q | q
    · rw [show i = j + 1 by omega]; exact Nat.le_refl _
    · rw [dcF]; have := ih q; omega
theorem nvF_num {C : Nat → Int32} {s : Nat} : ∀ i, allD C s i = true → nvF C s i = numI C s i := by
  intro i
  induction i with
  | zero => intro _; rfl
  | succ i ih =>
    intro h
    rw [allD, Bool.and_eq_true] at h
    rw [nvF, numI, if_pos h.2, ih h.1, Int32.mul_comm]
/-- a token of letters and digits, or none, from s up to e: its kind -/
def soT (C : Nat → Int32) (s n : Nat) : Nat := if n = 0 then 1 else if allD C s n = true ∧ n ≤ 3 then 2 else if allL C s n = true then wT C s n else 1
def k_X2_sortOut : zCt := fun as n mem Q => ∃ (s e k : Nat), as = [.ref 104, .int (nI s)] ∧ zst n mem ∧ mem.1 104 1 = nI e ∧ s ≤ e ∧ e ≤ 840 ∧ mem.1 104 5 = nI k ∧ k ≤ 800 ∧ (∀ j, s ≤ j → j < e → alnum (mem.1 102 j) = true) ∧
    (∀ M, zfr (fun a b => a = 107 ∧ b = k) mem M → (soT (mem.1 102) s (e - s) = 2 → M.1 107 k = numI (mem.1 102) s (e - s)) → Q (some (.ref (soT (mem.1 102) s (e - s) + 2))) n M)
theorem ok_X2_sortOut {l : Launch} {G : zG} : zOK l G yX2_sortOut cX2_sortOut 5 (some (.object "AuthorityBook$Token")) 6 0 0 k_X2_sortOut := by
  intro as n mem Q hK
  obtain ⟨s, e, k, rfl, ⟨hn, hF⟩, he, hse, he8, hk, hk8, hal, hQ⟩ := hK
  refine mtX2_sortOut ok_X2_isDigit (by decide) ok_X2_wordFrom (by decide) (List.forall_mem_cons.mpr ⟨rfl, List.forall_mem_cons.mpr ⟨rfl, fun _ h => absurd h List.not_mem_nil⟩⟩) (by simp) rfl (fun P hP => ?_)
  show P 0 [.ref 104, .int (nI s), .null, .null, .null] [] n mem
  generalize hC : mem.1 102 = C at hal hQ
  have rC : ∀ j, mem.1 102 j = C j := fun j => by rw [hC]
  have esub : mem.1 104 1 - nI s = nI (e - s) := by rw [he, pk_sub hse]
  have word : dcF C s (e - s) = 0 → ∀ v2 v3 v4, P 69 [.ref 104, .int (nI s), v2, v3, v4] [] n mem := by
    intro hd v2 v3 v4
    have hl : ∀ j, j < e - s → ltr (C (s + j)) = true := by
      intro j hj
      have a := hal (s + j) (by omega) (by omega)
      unfold alnum at a
      rw [dcF_0 _ hd j hj, Bool.or_false] at a
      exact a
    have hQ0 := hQ mem zfr.rf
    have es : soT C s (e - s) = if s = e then 1 else wT C s (e - s) := by
      unfold soT
      by_cases z : s = e
      · rw [if_pos (by omega), if_pos z]
      · have n0 : ¬ e - s = 0 := by omega
        rw [if_neg n0, if_neg z, if_neg (fun w => by
          have := (allD_iff _).mp w.1 0 (by omega)
          rw [ltr_dgt (hl 0 (by omega))] at this; cases this), if_pos ((allL_iff _).mpr hl)]
    have n2 : ¬ soT C s (e - s) = 2 := by
      rw [es]
      split
      · omega
      · have := wT_cases C s (e - s); omega
    have hQ0 := hQ0 (fun z => absurd z n2)
    rw [es] at hQ0
    refine hP _ _ _ _ _ ?_
    refine hP _ _ _ _ _ ?_
    refine hP _ _ _ _ _ ⟨(zi hn rfl rfl rfl), Nat.le_of_ble_eq_true rfl, Nat.le_of_ble_eq_true rfl, ?_⟩
    refine ⟨s, e, rfl, ⟨hn, hF⟩, he, hse, he8, fun z => by rw [hC]; exact hl 0 (by omega), ?_⟩
    rw [hC]
    refine hP _ _ _ _ _ ?_
    exact ⟨rfl, hQ0⟩
  have fin : ∀ j, j ≤ e - s → (j = e - s ∨ 3 < dcF C s j) → ∀ v4, P 65 [.ref 104, .int (nI s), .int (nI (dcF C s j)), .int (nvF C s j), v4] [] n mem := by
    intro j hj hend v4
    have hdl := dcF_le (C := C) (s := s) j
    by_cases hd0 : dcF C s j = 0
    · have ej : j = e - s := hend.resolve_right (by omega)
      rw [hd0]
      refine hP _ _ _ _ _ ?_
      refine hP _ _ _ _ _ ⟨fun _ => ?_, fun hz => absurd ( rfl) hz⟩
      exact word (ej ▸ hd0) _ _ _
    · have nl : ¬ allL C s (e - s) = true := fun z => by
        have hz := (allL_iff _).mp z
        have : ∀ i, i ≤ e - s → dcF C s i = 0 := by
          intro i
          induction i with
          | zero => intro _; rfl
          | succ i ih => intro hi; rw [dcF, ih (by omega), ltr_dgt (hz i (by omega))]; rfl
        exact hd0 (this j hj)
      by_cases hnum : dcF C s j = e - s ∧ dcF C s j ≤ 3
      · have ej : j = e - s := by omega
        have hall : allD C s (e - s) = true := (dcF_all _).mp (by rw [← ej]; omega)
        have es : soT C s (e - s) = 2 := by unfold soT; rw [if_neg (by omega), if_pos ⟨hall, by omega⟩]
        have hQ1 := hQ (zI mem 107 k (nvF C s j)) (zfr.rf.I ⟨rfl, rfl⟩) (fun _ => by rw [zI_s, ej]; exact nvF_num _ hall)
        rw [es] at hQ1
        refine hP _ _ _ _ _ ?_
        refine hP _ _ _ _ _ ⟨fun hz => absurd hz ( nI_ne0 (by omega) (by omega)), fun _ => ?_⟩
        refine hP _ _ _ _ _ ?_
        refine hP _ _ _ _ _ ⟨(zi hn rfl rfl rfl), _, fx_Lexer_numbers hF, (by decide), ?_⟩
        refine hP _ _ _ _ _ ?_
        refine hP _ _ _ _ _ ⟨(zi hn rfl rfl rfl), ?_⟩
        refine hP _ _ _ _ _ ?_
        refine hP _ _ _ _ _ ⟨_, k, (zi hn rfl rfl rfl), hk, by omega, ?_⟩
        refine hP _ _ _ _ _ ?_
        refine hP _ _ _ _ _ ?_
        refine hP _ _ _ _ _ ⟨(zi hn rfl rfl rfl), ?_⟩
        refine hP _ _ _ _ _ ?_
        refine hP _ _ _ _ _ ?_
        refine hP _ _ _ _ _ ⟨fun _ => ?_, fun hz => absurd ( by show nI (dcF C s j) = mem.1 104 1 - nI s; rw [esub, hnum.1]) hz⟩
        refine hP _ _ _ _ _ ?_
        refine hP _ _ _ _ _ ?_
        refine hP _ _ _ _ _ ⟨fun hz => absurd hz ( nI_nlt (a := 3) hnum.2 (by omega)), fun _ => ?_⟩
        refine hP _ _ _ _ _ ?_
        refine hP _ _ _ _ _ ?_
        refine hP _ _ _ _ _ ?_
        exact ⟨rfl, hQ1⟩
      · have es : soT C s (e - s) = 1 := by
          unfold soT
          by_cases z0 : e - s = 0
          · rw [if_pos z0]
          · rw [if_neg z0, if_neg (fun z => hnum (by
              have hj2 : dcF C s (e - s) = e - s := (dcF_all _).mpr z.1
              have := dcF_mono (C := C) (s := s) (i := j) (e - s) hj
              rcases hend with w | w
              · rw [w, hj2]; omega
              · omega)), if_neg nl]
        have hQ1 := hQ (zI mem 107 k (nvF C s j)) (zfr.rf.I ⟨rfl, rfl⟩) (fun z => by rw [es] at z; omega)
        rw [es] at hQ1
        refine hP _ _ _ _ _ ?_
        refine hP _ _ _ _ _ ⟨fun hz => absurd hz ( nI_ne0 (by omega) (by omega)), fun _ => ?_⟩
        refine hP _ _ _ _ _ ?_
        refine hP _ _ _ _ _ ⟨(zi hn rfl rfl rfl), _, fx_Lexer_numbers hF, (by decide), ?_⟩
        refine hP _ _ _ _ _ ?_
        refine hP _ _ _ _ _ ⟨(zi hn rfl rfl rfl), ?_⟩
        refine hP _ _ _ _ _ ?_
        refine hP _ _ _ _ _ ⟨_, k, (zi hn rfl rfl rfl), hk, by omega, ?_⟩
        refine hP _ _ _ _ _ ?_
        refine hP _ _ _ _ _ ?_
        refine hP _ _ _ _ _ ⟨(zi hn rfl rfl rfl), ?_⟩
        refine hP _ _ _ _ _ ?_
        refine hP _ _ _ _ _ ?_
        refine hP _ _ _ _ _ ⟨fun h92 => ?_, fun h92 => ?_⟩
        ·
          refine hP _ _ _ _ _ ?_
          refine hP _ _ _ _ _ ?_
          refine hP _ _ _ _ _ ⟨fun h97 => ?_, fun h97 => ?_⟩
          ·
            refine hP _ _ _ _ _ ?_
            refine hP _ _ _ _ _ ?_
            first | exact ⟨rfl, hQ1⟩ | exact absurd ⟨(nI_eq (by omega) (by omega)).mp (Eq.trans h92 esub), Nat.not_lt.mp fun z => h97 (nI_lt (a := 3) z (by omega))⟩ hnum
          ·
            refine hP _ _ _ _ _ ?_
            refine hP _ _ _ _ _ ?_
            refine hP _ _ _ _ _ ?_
            first | exact ⟨rfl, hQ1⟩ | exact absurd ⟨(nI_eq (by omega) (by omega)).mp (Eq.trans h92 esub), Nat.not_lt.mp fun z => h97 (nI_lt (a := 3) z (by omega))⟩ hnum
        ·
          refine hP _ _ _ _ _ ?_
          refine hP _ _ _ _ _ ?_
          first | exact ⟨rfl, hQ1⟩ | exact absurd ⟨(nI_eq (by omega) (by omega)).mp (Eq.trans h92 esub), Nat.not_lt.mp fun z => h97 (nI_lt (a := 3) z (by omega))⟩ hnum
  have loop : ∀ j, j ≤ e - s → P 7 [.ref 104, .int (nI s), .int (nI (dcF C s j)), .int (nvF C s j), .int (nI (s + j))] [] n mem := by
    refine zloop ?_ ?_
    ·
      refine hP _ _ _ _ _ ?_
      refine hP _ _ _ _ _ ?_
      refine hP _ _ _ _ _ ⟨(zi hn rfl rfl rfl), ?_⟩
      refine hP _ _ _ _ _ ⟨fun _ => ?_, fun hz => absurd ( by rw [he]; exact nI_le (by omega) (by omega)) hz⟩
      exact fin _ (Nat.le_refl _) (Or.inl rfl) _
    · intro j hj ih
      have hdl := dcF_le (C := C) (s := s) j
      have e1 : nI (s + (j + 1)) = nI (s + j) + 1 := nI_succ _
      rw [e1, dcF, nvF] at ih
      by_cases h3 : 3 < dcF C s j
      ·
        refine hP _ _ _ _ _ ?_
        refine hP _ _ _ _ _ ?_
        refine hP _ _ _ _ _ ⟨(zi hn rfl rfl rfl), ?_⟩
        refine hP _ _ _ _ _ ⟨fun hz => absurd hz ( by rw [he]; exact nI_ge (by omega) (by omega)), fun _ => ?_⟩
        refine hP _ _ _ _ _ ?_
        refine hP _ _ _ _ _ ?_
        refine hP _ _ _ _ _ ⟨fun _ => ?_, fun hz => absurd ( nI_lt (a := 3) h3 (by omega)) hz⟩
        exact fin j (by omega) (Or.inr h3) _
      ·
        refine hP _ _ _ _ _ ?_
        refine hP _ _ _ _ _ ?_
        refine hP _ _ _ _ _ ⟨(zi hn rfl rfl rfl), ?_⟩
        refine hP _ _ _ _ _ ⟨fun hz => absurd hz ( by rw [he]; exact nI_ge (by omega) (by omega)), fun _ => ?_⟩
        refine hP _ _ _ _ _ ?_
        refine hP _ _ _ _ _ ?_
        refine hP _ _ _ _ _ ⟨fun hz => absurd hz ( nI_nlt (a := 3) (by omega) (by omega)), fun _ => ?_⟩
        refine hP _ _ _ _ _ ?_
        refine hP _ _ _ _ _ ⟨(zi hn rfl rfl rfl), _, fx_Lexer_tape hF, (by decide), ?_⟩
        refine hP _ _ _ _ _ ⟨(zi hn rfl rfl rfl), _, fx_Tape_bytes hF, (by decide), ?_⟩
        refine hP _ _ _ _ _ ?_
        refine hP _ _ _ _ _ ⟨_, s + j, (zi hn rfl rfl rfl), rfl, by omega, ?_⟩
        refine hP _ _ _ _ _ ⟨Nat.le_of_ble_eq_true rfl, Nat.le_of_ble_eq_true rfl, ?_⟩
        refine ⟨_, rfl, ?_⟩
        rw [rC]
        refine hP _ _ _ _ _ ⟨fun h34 => ?_, fun h34 => ?_⟩
        ·
          have h34 := zb_0.mp h34
          refine hP _ _ _ _ _ ?_
          refine hP _ _ _ _ _ ?_
          first | (rw [show dcF C s j + true.toNat = dcF C s j + 1 from rfl, nI_succ (dcF C s j)] at ih; exact ih) | (rw [h34, if_neg (by decide)] at ih; exact ih)
        ·
          have h34 := zb_n.mp h34
          rw [h34, if_pos rfl] at ih
          refine hP _ _ _ _ _ ?_
          refine hP _ _ _ _ _ ?_
          refine hP _ _ _ _ _ ?_
          refine hP _ _ _ _ _ ?_
          refine hP _ _ _ _ _ ?_
          refine hP _ _ _ _ _ ⟨(zi hn rfl rfl rfl), _, fx_Lexer_tape hF, (by decide), ?_⟩
          refine hP _ _ _ _ _ ⟨(zi hn rfl rfl rfl), _, fx_Tape_bytes hF, (by decide), ?_⟩
          refine hP _ _ _ _ _ ?_
          refine hP _ _ _ _ _ ⟨_, s + j, (zi hn rfl rfl rfl), rfl, by omega, ?_⟩
          rw [rC]
          refine hP _ _ _ _ _ ?_
          refine hP _ _ _ _ _ ?_
          refine hP _ _ _ _ _ ?_
          refine hP _ _ _ _ _ ?_
          refine hP _ _ _ _ _ ?_
          refine hP _ _ _ _ _ ?_
          first | (rw [show dcF C s j + true.toNat = dcF C s j + 1 from rfl, nI_succ (dcF C s j)] at ih; exact ih) | (rw [h34, if_neg (by decide)] at ih; exact ih)
  refine hP _ _ _ _ _ ?_
  refine hP _ _ _ _ _ ?_
  refine hP _ _ _ _ _ ?_
  refine hP _ _ _ _ _ ?_
  refine hP _ _ _ _ _ ?_
  refine hP _ _ _ _ _ ?_
  exact loop 0 (by omega)
