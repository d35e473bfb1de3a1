def mayC (mem : zM) (t : Nat) (ps pt : Int32) : Bool := inC pt (mem.1 t 1) && (!decide (ps ≤ 0) && (!decide ((1 <<< (mem.1 t 1 &&& 31)) ≤ ps) && (decide (ps &&& mem.1 t 3 = 0) && !bt ps (ix pt))))
theorem mayC_in {mem : zM} {t np : Nat} {ps pt : Int32} (hnp : mem.1 t 1 = nI np) (h8 : np ≤ 8) (h : mayC mem t ps pt = true) : ∃ q, q < np ∧ pt = nI q := by
  unfold mayC at h
  rw [Bool.and_eq_true] at h
  exact inC_nI (by omega) (hnp ▸ h.1)
theorem kdC_in {c : Int32} (h : kdC c = true) : ∃ j, j < 6 ∧ c = nI j := inC_nI (c := 6) (by omega) h
def cF (mem : zM) (t np pw c : Nat) (am ps pt : Int32) : Int32 := fsN mem t np pw (opN mem t pw c am (-1)) ps pt
theorem sJ_X {mem M : zM} (h : zfr sJ mem M) : zfr (sX 120) mem M := h.mono fun _ _ z => Or.inl z
theorem cs_fr {n : Nat} {mem M : zM} {t np pw m na : Nat} (h : zfr sJ mem M) (hC : zCs n mem t np pw m na) : zCs n M t np pw m na := by
  obtain ⟨⟨hn, hF⟩, ht, hTl, hU, ⟨hm, hN⟩, hna, hna16⟩ := hC
  obtain ⟨a, b⟩ := tl_frX (sJ_X h) (by omega) hTl
  refine ⟨⟨hn, zFx_q (h.mono fun _ _ => sJ_Q) hF⟩, (h.2.2 100 8 (by unfold sJ; omega)).trans ht, a, b hU, ⟨(h.1 108 5 (by unfold sJ; omega)).trans hm, hN.1, fun k h1 h2 => ?_⟩, (h.1 100 6 (by unfold sJ; omega)).trans hna, hna16⟩
  rw [h.1 110 k (by unfold sJ; omega)]
  exact hN.2 k h1 h2
def k_X10_can : zCt := fun as n mem Q => ∃ (ps pt kd am : Int32) (t np pw m na : Nat), as = [.ref 100, .int ps, .int pt, .int kd, .int am] ∧ zCs n mem t np pw m na ∧
    (if (mayC mem t ps pt && (kdC kd && amC am)) = false then Q (some (.int (-1))) n mem else ∀ M, zfr sJ mem M → Q (some (.int (if cF mem t np pw (ix kd) am ps pt = -1 then -2 else cF mem t np pw (ix kd) am ps pt))) n M)
theorem ok_X10_can {l : Launch} {G : zG} : zOK l G yX10_can cX10_can 5 (some .int) 5 0 0 k_X10_can := by
  intro as n mem Q hK
  obtain ⟨ps, pt, kd, am, t, np, pw, m, na, rfl, hC, hQ⟩ := hK
  refine mtX10_can ok_X10_mayActFor (by decide) ok_X10_isKind (by decide) ok_X10_isAmount (by decide) ok_X10_openPowers (by decide) ok_X10_weighNow (by decide) (List.forall_mem_cons.mpr ⟨rfl, List.forall_mem_cons.mpr ⟨rfl, List.forall_mem_cons.mpr ⟨rfl, List.forall_mem_cons.mpr ⟨rfl, List.forall_mem_cons.mpr ⟨rfl, fun _ h => absurd h List.not_mem_nil⟩⟩⟩⟩⟩) (by simp) rfl (fun P hP => ?_)
  show P 0 [.ref 100, .int ps, .int pt, .int kd, .int am] [] n mem
  obtain ⟨⟨hn, hF⟩, ht, hTl, hU, ⟨hm, hN⟩, hna, hna16⟩ := id hC
  obtain ⟨hT, hnp, hnp8, hpw, hw, hPs⟩ := id hTl
  refine hP _ _ _ _ _ ?_
  refine hP _ _ _ _ _ ?_
  refine hP _ _ _ _ _ ?_
  refine hP _ _ _ _ _ ⟨(zi hn rfl rfl rfl), Nat.le_of_ble_eq_true rfl, Nat.le_of_ble_eq_true rfl, ?_⟩
  refine ⟨_, _, t, np, rfl, ⟨hn, hF⟩, ⟨ht, hT⟩, hnp, hnp8, ?_⟩
  rw [show (inC pt (mem.1 t 1) && (!decide (ps ≤ 0) && (!decide ((1 <<< (mem.1 t 1 &&& 31)) ≤ ps) && (decide (ps &&& mem.1 t 3 = 0) && !bt ps (ix pt))))) = mayC mem t ps pt from rfl]
  refine hP _ _ _ _ _ ⟨fun h6 => ?_, fun h6 => ?_⟩
  ·
    have h6 := zb_0.mp h6
    refine hP _ _ _ _ _ ?_
    refine hP _ _ _ _ _ ?_
    exact ⟨rfl, by rw [if_pos (by simp [h6])] at hQ; exact hQ⟩
  ·
    have h6 := zb_n.mp h6
    refine hP _ _ _ _ _ ?_
    refine hP _ _ _ _ _ ⟨Nat.le_of_ble_eq_true rfl, Nat.le_of_ble_eq_true rfl, ?_⟩
    refine ⟨_, rfl, ?_⟩
    rw [show decide (¬ kd < 0 ∧ ¬ 6 ≤ kd) = kdC kd from rfl]
    refine hP _ _ _ _ _ ⟨fun h13 => ?_, fun h13 => ?_⟩
    ·
      have h13 := zb_0.mp h13
      refine hP _ _ _ _ _ ?_
      refine hP _ _ _ _ _ ?_
      exact ⟨rfl, by rw [if_pos (by simp [h6, h13])] at hQ; exact hQ⟩
    ·
      have h13 := zb_n.mp h13
      refine hP _ _ _ _ _ ?_
      refine hP _ _ _ _ _ ⟨Nat.le_of_ble_eq_true rfl, Nat.le_of_ble_eq_true rfl, ?_⟩
      refine ⟨_, rfl, ?_⟩
      rw [show decide (¬ am < 0 ∧ ¬ 999 < am) = amC am from rfl]
      refine hP _ _ _ _ _ ⟨fun h21 => ?_, fun h21 => ?_⟩
      ·
        have h21 := zb_0.mp h21
        refine hP _ _ _ _ _ ?_
        refine hP _ _ _ _ _ ?_
        exact ⟨rfl, by rw [if_pos (by simp [h6, h13, h21])] at hQ; exact hQ⟩
      ·
        have h21 := zb_n.mp h21
        obtain ⟨c, hc, rfl⟩ := kdC_in h13
        rw [if_neg (by rw [h6, h13, h21]; decide), ix_nI (j := c) (by omega)] at hQ
        refine hP _ _ _ _ _ ?_
        refine hP _ _ _ _ _ ?_
        refine hP _ _ _ _ _ ?_
        refine hP _ _ _ _ _ ?_
        refine hP _ _ _ _ _ ?_
        refine hP _ _ _ _ _ ⟨(zi hn rfl rfl rfl), Nat.le_of_ble_eq_true rfl, Nat.le_of_ble_eq_true rfl, ?_⟩
        refine ⟨t, np, pw, c, _, _, rfl, by omega, ⟨hn, hF⟩, ht, hTl, hU, Or.inl rfl, ?_⟩
        refine hP _ _ _ _ _ ?_
        refine hP _ _ _ _ _ ?_
        refine hP _ _ _ _ _ ⟨(zi hn rfl rfl rfl), Nat.le_of_ble_eq_true rfl, Nat.le_of_ble_eq_true rfl, ?_⟩
        refine ⟨t, np, pw, _, _, _, rfl, ⟨hn, hF⟩, ht, hTl, fun M fM h6' _ => ?_⟩
        have hF' := zFx_q (fM.mono fun _ _ => sJ_Q) hF
        have h6' : M.1 114 6 = cF mem t np pw c am ps pt := h6'
        refine hP _ _ _ _ _ ?_
        refine hP _ _ _ _ _ ⟨(zi hn rfl rfl rfl), _, fx_Book_judge hF', (by decide), ?_⟩
        refine hP _ _ _ _ _ ⟨(zi hn rfl rfl rfl), ?_⟩
        refine hP _ _ _ _ _ ?_
        refine hP _ _ _ _ _ ⟨fun h48 => ?_, fun h48 => ?_⟩
        ·
          refine hP _ _ _ _ _ ?_
          refine hP _ _ _ _ _ ?_
          refine hP _ _ _ _ _ ?_
          first | exact ⟨rfl, by have := hQ M fM; rw [if_pos (h6'.symm.trans h48)] at this; exact this⟩ | exact ⟨rfl, by have := hQ M fM; rw [if_neg (fun z => h48 (h6'.trans z)), ← h6'] at this; exact this⟩
        ·
          refine hP _ _ _ _ _ ?_
          refine hP _ _ _ _ _ ⟨(zi hn rfl rfl rfl), _, fx_Book_judge hF', (by decide), ?_⟩
          refine hP _ _ _ _ _ ⟨(zi hn rfl rfl rfl), ?_⟩
          refine hP _ _ _ _ _ ?_
          first | exact ⟨rfl, by have := hQ M fM; rw [if_pos (h6'.symm.trans h48)] at this; exact this⟩ | exact ⟨rfl, by have := hQ M fM; rw [if_neg (fun z => h48 (h6'.trans z)), ← h6'] at this; exact this⟩
def cB (mem : zM) (t np pw c : Nat) (ps pt : Int32) (a : Nat) : Bool := !decide (cF mem t np pw c (nI a) ps pt = -1)
def k_X10_upTo : zCt := fun as n mem Q => ∃ (ps pt kd : Int32) (t np pw m na : Nat), as = [.ref 100, .int ps, .int pt, .int kd] ∧ zCs n mem t np pw m na ∧
    (if (mayC mem t ps pt && kdC kd) = false then Q (some (.int (-1))) n mem else
      (cB mem t np pw (ix kd) ps pt 0 = false → ∀ M, zfr sJ mem M → Q (some (.int (-2))) n M) ∧
      (∀ a, a < 1000 → cB mem t np pw (ix kd) ps pt a = true → (a + 1 = 1000 ∨ cB mem t np pw (ix kd) ps pt (a + 1) = false) → ∀ M, zfr sJ mem M → Q (some (.int (nI a))) n M))
theorem ok_X10_upTo {l : Launch} {G : zG} : zOK l G yX10_upTo cX10_upTo 8 (some .int) 5 0 0 k_X10_upTo := by
  intro as n mem Q hK
  obtain ⟨ps, pt, kd, t, np, pw, m, na, rfl, hC, hQ⟩ := hK
  refine mtX10_upTo ok_X10_mayActFor (by decide) ok_X10_isKind (by decide) ok_X10_openPowers (by decide) ok_X10_weighNow (by decide) (List.forall_mem_cons.mpr ⟨rfl, List.forall_mem_cons.mpr ⟨rfl, List.forall_mem_cons.mpr ⟨rfl, List.forall_mem_cons.mpr ⟨rfl, fun _ h => absurd h List.not_mem_nil⟩⟩⟩⟩) (by simp) rfl (fun P hP => ?_)
  show P 0 [.ref 100, .int ps, .int pt, .int kd, .null, .null, .null, .null] [] n mem
  obtain ⟨⟨hn, hF⟩, ht, hTl, hU, ⟨hm, hN⟩, hna, hna16⟩ := id hC
  obtain ⟨hT, hnp, hnp8, hpw, hw, hPs⟩ := id hTl
  have loop : ∀ c, c < 6 → (cB mem t np pw c ps pt 0 = false → ∀ M, zfr sJ mem M → Q (some (.int (-2))) n M) → (∀ a, a < 1000 → cB mem t np pw c ps pt a = true → (a + 1 = 1000 ∨ cB mem t np pw c ps pt (a + 1) = false) → ∀ M, zfr sJ mem M → Q (some (.int (nI a))) n M) →
      ∀ d lo hi i, hi = lo + d → hi ≤ 1000 → (lo = 0 ∨ ∃ a, lo = a + 1 ∧ cB mem t np pw c ps pt a = true) → (hi = 1000 ∨ cB mem t np pw c ps pt hi = false) → (i + d ≤ 501 ∨ (i = 0 ∧ d = 1000)) → ∀ M, zfr sJ mem M → ∀ v7, P 29 [.ref 100, .int ps, .int pt, .int (nI c), .int (nI lo - 1), .int (nI hi - 1), .int (nI i), v7] [] n M := by
    intro c hc6 hQ1 hQ2 d
    induction d using Nat.strongRecOn with
    | _ d ih =>
      intro lo hi i hd h1 hlo hhi hi5 M fM v7
      have hC' := cs_fr fM hC
      obtain ⟨⟨-, hF⟩, ht, hTl, hU, -⟩ := id hC'
      by_cases hd0 : d = 0
      · have ehl : hi = lo := by omega
        subst ehl
        have fin : ∀ r, (r = if nI hi - 1 < 0 then -2 else nI hi - 1) → Q (some (.int r)) n M := by
          intro r hr
          rcases hlo with z | ⟨a, z, ha⟩
          · subst z
            rw [if_pos (by decide)] at hr
            rw [hr]
            exact hQ1 (hhi.resolve_left (by omega)) M fM
          · subst z
            rw [nI_pred, if_neg (nI_pos (by omega))] at hr
            rw [hr]
            exact hQ2 a (by omega) ha hhi M fM
        have hlt : i < 999 := by omega
        refine hP _ _ _ _ _ ?_
        refine hP _ _ _ _ _ ?_
        refine hP _ _ _ _ _ ⟨fun hz => absurd hz ( nI_ge (b := 999) hlt (by omega)), fun _ => ?_⟩
        refine hP _ _ _ _ _ ?_
        refine hP _ _ _ _ _ ?_
        refine hP _ _ _ _ _ ⟨fun _ => ?_, fun hz => absurd ( Int32.le_refl _) hz⟩
        refine hP _ _ _ _ _ ?_
        refine hP _ _ _ _ _ ⟨fun h104 => ?_, fun h104 => ?_⟩
        ·
          refine hP _ _ _ _ _ ?_
          refine hP _ _ _ _ _ ?_
          first | exact ⟨rfl, fin _ (by rw [if_pos h104])⟩ | exact ⟨rfl, fin _ (by rw [if_neg h104])⟩ | exact ⟨rfl, fin _ (by rw [if_neg (Int32.not_lt.mpr h104)])⟩ | exact ⟨rfl, fin _ (by rw [if_pos (Int32.not_le.mp h104)])⟩
        ·
          refine hP _ _ _ _ _ ?_
          refine hP _ _ _ _ _ ?_
          refine hP _ _ _ _ _ ?_
          first | exact ⟨rfl, fin _ (by rw [if_pos h104])⟩ | exact ⟨rfl, fin _ (by rw [if_neg h104])⟩ | exact ⟨rfl, fin _ (by rw [if_neg (Int32.not_lt.mpr h104)])⟩ | exact ⟨rfl, fin _ (by rw [if_pos (Int32.not_le.mp h104)])⟩
      · have hlt : i < 999 := by omega
        have elt : ¬ nI hi - 1 ≤ nI lo - 1 := by
          obtain ⟨h', rfl⟩ : ∃ k, hi = k + 1 := ⟨hi - 1, by omega⟩
          rw [nI_pred]
          rcases Nat.eq_zero_or_pos lo with z | z
          · subst z; exact fun w => absurd (Int32.le_trans (nI_pos' (n := h') (by omega)) w) (by decide)
          · obtain ⟨l', rfl⟩ : ∃ k, lo = k + 1 := ⟨lo - 1, by omega⟩
            rw [nI_pred]; exact nI_ge (by omega) (by omega)
        have emid : (nI lo - 1) + ((nI hi - 1 - (nI lo - 1) + 1) / 2) = nI (lo + (d + 1) / 2 - 1) := by
          have e1 : nI hi - 1 - (nI lo - 1) + 1 = nI (d + 1) := by
            rw [show nI hi - 1 - (nI lo - 1) = nI hi - nI lo by simp [Int32.sub_eq_add_neg, Int32.neg_add]; rw [Int32.add_assoc, Int32.add_comm (-1), Int32.add_assoc]; simp, pk_sub (by omega), nI_1]
            congr 1; omega
          rw [e1, show (2 : Int32) = nI 2 from rfl, pk_div (by omega) (by omega) (by omega)]
          rw [show nI lo - 1 + nI ((d + 1) / 2) = (nI lo + nI ((d + 1) / 2)) - 1 by simp [Int32.sub_eq_add_neg]; rw [Int32.add_assoc, Int32.add_comm (-1), Int32.add_assoc], nI_add]
          obtain ⟨k, hk⟩ : ∃ k, lo + (d + 1) / 2 = k + 1 := ⟨lo + (d + 1) / 2 - 1, by omega⟩
          rw [hk, nI_pred]; rfl
        have up := fun g (M' : zM) (f : zfr sJ mem M') v => ih (d - (d + 1) / 2) (by omega) (lo + (d + 1) / 2) hi (i + 1) (by omega) h1 (Or.inr ⟨lo + (d + 1) / 2 - 1, by omega, g⟩) hhi (by omega) M' f v
        have dn := fun g (M' : zM) (f : zfr sJ mem M') v => ih ((d + 1) / 2 - 1) (by omega) lo (lo + (d + 1) / 2 - 1) (i + 1) (by omega) (by omega) hlo (Or.inr g) (by omega) M' f v
        have eup : nI (lo + (d + 1) / 2) - 1 = nI (lo + (d + 1) / 2 - 1) := by
          obtain ⟨k, hk⟩ : ∃ k, lo + (d + 1) / 2 = k + 1 := ⟨lo + (d + 1) / 2 - 1, by omega⟩
          rw [hk, nI_pred]; rfl
        rw [nI_succ i] at up dn
        rw [eup] at up
        refine hP _ _ _ _ _ ?_
        refine hP _ _ _ _ _ ?_
        refine hP _ _ _ _ _ ⟨fun hz => absurd hz ( nI_ge (b := 999) hlt (by omega)), fun _ => ?_⟩
        refine hP _ _ _ _ _ ?_
        refine hP _ _ _ _ _ ?_
        refine hP _ _ _ _ _ ⟨fun hz => absurd hz ( elt), fun _ => ?_⟩
        refine hP _ _ _ _ _ ?_
        refine hP _ _ _ _ _ ?_
        refine hP _ _ _ _ _ ?_
        refine hP _ _ _ _ _ ?_
        refine hP _ _ _ _ _ ?_
        refine hP _ _ _ _ _ ?_
        refine hP _ _ _ _ _ ?_
        refine hP _ _ _ _ _ ⟨by decide, ?_⟩
        refine hP _ _ _ _ _ ?_
        refine hP _ _ _ _ _ ?_
        rw [show (fun x y => x + y) (nI lo - 1) ((fun x y => x / y) ((fun x y => x + y) ((fun x y => x - y) (nI hi - 1) (nI lo - 1)) 1) 2) = nI (lo + (d + 1) / 2 - 1) from emid]
        refine hP _ _ _ _ _ ?_
        refine hP _ _ _ _ _ ?_
        refine hP _ _ _ _ _ ?_
        refine hP _ _ _ _ _ ?_
        refine hP _ _ _ _ _ ?_
        refine hP _ _ _ _ _ ⟨(zi hn rfl rfl rfl), Nat.le_of_ble_eq_true rfl, Nat.le_of_ble_eq_true rfl, ?_⟩
        refine ⟨t, np, pw, c, _, _, rfl, by omega, ⟨hn, hF⟩, ht, hTl, hU, Or.inl rfl, ?_⟩
        refine hP _ _ _ _ _ ?_
        refine hP _ _ _ _ _ ?_
        refine hP _ _ _ _ _ ⟨(zi hn rfl rfl rfl), Nat.le_of_ble_eq_true rfl, Nat.le_of_ble_eq_true rfl, ?_⟩
        refine ⟨t, np, pw, _, _, _, rfl, ⟨hn, hF⟩, ht, hTl, fun M' fM' h6' _ => ?_⟩
        have fN := fM.tr fM'
        have hF' := zFx_q (fN.mono fun _ _ => sJ_Q) (show zFx mem by assumption)
        have h6' : M'.1 114 6 = cF mem t np pw c (nI (lo + (d + 1) / 2 - 1)) ps pt := by rw [h6', opN_fr (sJ_X fM) (by omega) hT, (fsN_fr (sJ_X fM) (by omega) hT).1]; rfl
        refine hP _ _ _ _ _ ?_
        refine hP _ _ _ _ _ ⟨(zi hn rfl rfl rfl), _, fx_Book_judge hF', (by decide), ?_⟩
        refine hP _ _ _ _ _ ⟨(zi hn rfl rfl rfl), ?_⟩
        refine hP _ _ _ _ _ ?_
        refine hP _ _ _ _ _ ⟨fun h80 => ?_, fun h80 => ?_⟩
        ·
          refine hP _ _ _ _ _ ?_
          refine hP _ _ _ _ _ ?_
          refine hP _ _ _ _ _ ?_
          refine hP _ _ _ _ _ ?_
          refine hP _ _ _ _ _ ?_
          refine hP _ _ _ _ _ ?_
          first | exact dn (by unfold cB; rw [show cF mem t np pw c (nI (lo + (d + 1) / 2 - 1)) ps pt = -1 from h6'.symm.trans h80]; rfl) M' fN _ | exact up (by unfold cB; rw [decide_eq_false (fun z => h80 (h6'.trans z))]; rfl) M' fN _
        ·
          refine hP _ _ _ _ _ ?_
          refine hP _ _ _ _ _ ?_
          refine hP _ _ _ _ _ ?_
          refine hP _ _ _ _ _ ?_
          refine hP _ _ _ _ _ ?_
          first | exact dn (by unfold cB; rw [show cF mem t np pw c (nI (lo + (d + 1) / 2 - 1)) ps pt = -1 from h6'.symm.trans h80]; rfl) M' fN _ | exact up (by unfold cB; rw [decide_eq_false (fun z => h80 (h6'.trans z))]; rfl) M' fN _
  refine hP _ _ _ _ _ ?_
  refine hP _ _ _ _ _ ?_
  refine hP _ _ _ _ _ ?_
  refine hP _ _ _ _ _ ⟨(zi hn rfl rfl rfl), Nat.le_of_ble_eq_true rfl, Nat.le_of_ble_eq_true rfl, ?_⟩
  refine ⟨_, _, t, np, rfl, ⟨hn, hF⟩, ⟨ht, hT⟩, hnp, hnp8, ?_⟩
  rw [show (inC pt (mem.1 t 1) && (!decide (ps ≤ 0) && (!decide ((1 <<< (mem.1 t 1 &&& 31)) ≤ ps) && (decide (ps &&& mem.1 t 3 = 0) && !bt ps (ix pt))))) = mayC mem t ps pt from rfl]
  refine hP _ _ _ _ _ ⟨fun h6 => ?_, fun h6 => ?_⟩
  ·
    have h6 := zb_0.mp h6
    refine hP _ _ _ _ _ ?_
    refine hP _ _ _ _ _ ?_
    exact ⟨rfl, by rw [if_pos (by simp [h6])] at hQ; exact hQ⟩
  ·
    have h6 := zb_n.mp h6
    refine hP _ _ _ _ _ ?_
    refine hP _ _ _ _ _ ⟨Nat.le_of_ble_eq_true rfl, Nat.le_of_ble_eq_true rfl, ?_⟩
    refine ⟨_, rfl, ?_⟩
    rw [show decide (¬ kd < 0 ∧ ¬ 6 ≤ kd) = kdC kd from rfl]
    refine hP _ _ _ _ _ ⟨fun h13 => ?_, fun h13 => ?_⟩
    ·
      have h13 := zb_0.mp h13
      refine hP _ _ _ _ _ ?_
      refine hP _ _ _ _ _ ?_
      exact ⟨rfl, by rw [if_pos (by simp [h6, h13])] at hQ; exact hQ⟩
    ·
      have h13 := zb_n.mp h13
      obtain ⟨c, hc, rfl⟩ := kdC_in h13
      rw [if_neg (by rw [h6, h13]; decide), ix_nI (j := c) (by omega)] at hQ
      refine hP _ _ _ _ _ ?_
      refine hP _ _ _ _ _ ?_
      refine hP _ _ _ _ _ ?_
      refine hP _ _ _ _ _ ?_
      refine hP _ _ _ _ _ ?_
      refine hP _ _ _ _ _ ?_
      exact loop c hc hQ.1 hQ.2 1000 0 1000 0 (by omega) (by omega) (Or.inl rfl) (Or.inl rfl) (Or.inr ⟨rfl, rfl⟩) mem zfr.rf _
