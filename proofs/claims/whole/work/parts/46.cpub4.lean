def kaC (mem : zM) (t : Nat) (pt kd am : Int32) : Bool := inC pt (mem.1 t 1) && (kdC kd && amC am)
def alC (mem : zM) (t np pw c : Nat) (am pt : Int32) : Nat → Int32
  | 0 => 0
  | p + 1 => if bt (actC mem t pt) p = true ∧ ¬ cF mem t np pw c am (1 <<< (nI p &&& 31)) pt = -1 then alC mem t np pw c am pt p ||| (1 <<< (nI p &&& 31)) else alC mem t np pw c am pt p
def k_X10_alone : zCt := fun as n mem Q => ∃ (pt kd am : Int32) (t np pw m na : Nat), as = [.ref 100, .int pt, .int kd, .int am] ∧ zCs n mem t np pw m na ∧
    (if kaC mem t pt kd am = false then Q (some (.int (-1))) n mem else ∀ M, zfr sJ mem M → Q (some (.int (alC mem t np pw (ix kd) am pt np))) n M)
theorem ok_X10_alone {l : Launch} {G : zG} : zOK l G yX10_alone cX10_alone 8 (some .int) 5 0 0 k_X10_alone := by
  intro as n mem Q hK
  obtain ⟨pt, kd, am, t, np, pw, m, na, rfl, hC, hQ⟩ := hK
  refine mtX10_alone ok_X10_isParty (by decide) ok_X10_isKind (by decide) ok_X10_isAmount (by decide) ok_X10_openPowers (by decide) ok_X10_actorsFor (by decide) ok_X10_has (by decide) ok_X10_weighNow (by decide) (List.forall_mem_cons.mpr ⟨rfl, List.forall_mem_cons.mpr ⟨rfl, List.forall_mem_cons.mpr ⟨rfl, List.forall_mem_cons.mpr ⟨rfl, fun _ h => absurd h List.not_mem_nil⟩⟩⟩⟩) (by simp) rfl (fun P hP => ?_)
  show P 0 [.ref 100, .int pt, .int kd, .int am, .null, .null, .null, .null] [] n mem
  obtain ⟨⟨hn, hF0⟩, ht0, hTl0, hU0, ⟨hm, hN⟩, hna, hna16⟩ := id hC
  obtain ⟨hT, hnp0, hnp8, hpw, hw, hPs⟩ := id hTl0
  have loop : ∀ c, c < 6 → (∀ M, zfr sJ mem M → Q (some (.int (alC mem t np pw c am pt np))) n M) → ∀ i, i ≤ np → ∀ M, zfr sJ mem M → P 46 [.ref 100, .int pt, .int (nI c), .int am, .int (opN mem t pw c am (-1)), .int (actC mem t pt), .int (alC mem t np pw c am pt i), .int (nI i)] [] n M := by
    intro c hc6 hQ
    refine zloop ?_ ?_
    · intro M fM
      obtain ⟨⟨-, hF⟩, ht, hTl, -⟩ := cs_fr fM hC
      have hnp := hTl.2.1
      refine hP _ _ _ _ _ ?_
      refine hP _ _ _ _ _ ?_
      refine hP _ _ _ _ _ ⟨(zi hn rfl rfl rfl), _, ht, (by omega), ?_⟩
      refine hP _ _ _ _ _ ⟨(ztT hn hT), ?_⟩
      refine hP _ _ _ _ _ ⟨fun _ => ?_, fun hz => absurd ( by rw [hnp]; exact nI_le (Nat.le_refl _) (by omega)) hz⟩
      refine hP _ _ _ _ _ ?_
      refine hP _ _ _ _ _ ?_
      exact ⟨rfl, hQ M fM⟩
    · intro i hi ih M fM
      obtain ⟨⟨-, hF⟩, ht, hTl, -⟩ := cs_fr fM hC
      have hnp := hTl.2.1
      rw [nI_succ i, alC] at ih
      have k1 := fun h => (if_pos (c := bt (actC mem t pt) i = true ∧ ¬ cF mem t np pw c am (1 <<< (nI i &&& 31)) pt = -1) h) ▸ ih
      have k2 := fun h => (if_neg (c := bt (actC mem t pt) i = true ∧ ¬ cF mem t np pw c am (1 <<< (nI i &&& 31)) pt = -1) h) ▸ ih
      refine hP _ _ _ _ _ ?_
      refine hP _ _ _ _ _ ?_
      refine hP _ _ _ _ _ ⟨(zi hn rfl rfl rfl), _, ht, (by omega), ?_⟩
      refine hP _ _ _ _ _ ⟨(ztT hn hT), ?_⟩
      refine hP _ _ _ _ _ ⟨fun hz => absurd hz ( by rw [hnp]; exact nI_ge hi (by omega)), fun _ => ?_⟩
      refine hP _ _ _ _ _ ?_
      refine hP _ _ _ _ _ ?_
      refine hP _ _ _ _ _ ⟨Nat.le_of_ble_eq_true rfl, Nat.le_of_ble_eq_true rfl, ?_⟩
      refine ⟨_, i, rfl, by omega, ?_⟩
      refine hP _ _ _ _ _ ⟨fun h65 => ?_, fun h65 => ?_⟩
      ·
        have h65 := zb_0.mp h65
        refine hP _ _ _ _ _ ?_
        refine hP _ _ _ _ _ ?_
        first | exact k1 ⟨h65, fun z => h89 (h6'.trans z)⟩ M' fN | (show P 46 [_, _, _, _, _, _, .int (_ ||| 0), _] [] n M'; rw [or_0]; exact k2 (fun z => z.2 (h6'.symm.trans h89)) M' fN) | exact k2 (fun z => by rw [h65] at z; exact Bool.false_ne_true z.1) M fM
      ·
        have h65 := zb_n.mp h65
        refine hP _ _ _ _ _ ?_
        refine hP _ _ _ _ _ ?_
        refine hP _ _ _ _ _ ?_
        refine hP _ _ _ _ _ ?_
        refine hP _ _ _ _ _ ?_
        refine hP _ _ _ _ _ ?_
        refine hP _ _ _ _ _ ⟨(zi hn rfl rfl rfl), Nat.le_of_ble_eq_true rfl, Nat.le_of_ble_eq_true rfl, ?_⟩
        refine ⟨t, np, pw, _, _, _, rfl, ⟨hn, hF⟩, ht, hTl, fun M' fM' h6' _ => ?_⟩
        have fN := fM.tr fM'
        have hF' := zFx_q (fN.mono fun _ _ => sJ_Q) hF0
        have h6' : M'.1 114 6 = cF mem t np pw c am (1 <<< (nI i &&& 31)) pt := by rw [h6', (fsN_fr (sJ_X fM) (by omega) hT).1]; rfl
        refine hP _ _ _ _ _ ?_
        refine hP _ _ _ _ _ ?_
        refine hP _ _ _ _ _ ⟨(zi hn rfl rfl rfl), _, fx_Book_judge hF', (by decide), ?_⟩
        refine hP _ _ _ _ _ ⟨(zi hn rfl rfl rfl), ?_⟩
        refine hP _ _ _ _ _ ?_
        refine hP _ _ _ _ _ ⟨fun h89 => ?_, fun h89 => ?_⟩
        ·
          refine hP _ _ _ _ _ ?_
          refine hP _ _ _ _ _ ?_
          refine hP _ _ _ _ _ ?_
          refine hP _ _ _ _ _ ?_
          refine hP _ _ _ _ _ ?_
          refine hP _ _ _ _ _ ?_
          first | exact k1 ⟨h65, fun z => h89 (h6'.trans z)⟩ M' fN | (show P 46 [_, _, _, _, _, _, .int (_ ||| 0), _] [] n M'; rw [or_0]; exact k2 (fun z => z.2 (h6'.symm.trans h89)) M' fN) | exact k2 (fun z => by rw [h65] at z; exact Bool.false_ne_true z.1) M fM
        ·
          refine hP _ _ _ _ _ ?_
          refine hP _ _ _ _ _ ?_
          refine hP _ _ _ _ _ ?_
          refine hP _ _ _ _ _ ?_
          refine hP _ _ _ _ _ ?_
          refine hP _ _ _ _ _ ?_
          refine hP _ _ _ _ _ ?_
          first | exact k1 ⟨h65, fun z => h89 (h6'.trans z)⟩ M' fN | (show P 46 [_, _, _, _, _, _, .int (_ ||| 0), _] [] n M'; rw [or_0]; exact k2 (fun z => z.2 (h6'.symm.trans h89)) M' fN) | exact k2 (fun z => by rw [h65] at z; exact Bool.false_ne_true z.1) M fM
  have hF := hF0
  have ht := ht0
  refine hP _ _ _ _ _ ?_
  refine hP _ _ _ _ _ ?_
  refine hP _ _ _ _ _ ⟨(zi hn rfl rfl rfl), Nat.le_of_ble_eq_true rfl, Nat.le_of_ble_eq_true rfl, ?_⟩
  refine ⟨_, t, rfl, ⟨hn, hF⟩, ⟨ht, hT⟩, ?_⟩
  refine hP _ _ _ _ _ ⟨fun h5 => ?_, fun h5 => ?_⟩
  ·
    have h5 := zb_0.mp h5
    refine hP _ _ _ _ _ ?_
    refine hP _ _ _ _ _ ?_
    exact ⟨rfl, by rw [if_pos (by simp [kaC, h5])] at hQ; exact hQ⟩
  ·
    have h5 := zb_n.mp h5
    refine hP _ _ _ _ _ ?_
    refine hP _ _ _ _ _ ⟨Nat.le_of_ble_eq_true rfl, Nat.le_of_ble_eq_true rfl, ?_⟩
    refine ⟨_, rfl, ?_⟩
    rw [show decide (¬ kd < 0 ∧ ¬ 6 ≤ kd) = kdC kd from rfl]
    refine hP _ _ _ _ _ ⟨fun h12 => ?_, fun h12 => ?_⟩
    ·
      have h12 := zb_0.mp h12
      refine hP _ _ _ _ _ ?_
      refine hP _ _ _ _ _ ?_
      exact ⟨rfl, by rw [if_pos (by simp [kaC, h5, h12])] at hQ; exact hQ⟩
    ·
      have h12 := zb_n.mp h12
      refine hP _ _ _ _ _ ?_
      refine hP _ _ _ _ _ ⟨Nat.le_of_ble_eq_true rfl, Nat.le_of_ble_eq_true rfl, ?_⟩
      refine ⟨_, rfl, ?_⟩
      rw [show decide (¬ am < 0 ∧ ¬ 999 < am) = amC am from rfl]
      refine hP _ _ _ _ _ ⟨fun h19 => ?_, fun h19 => ?_⟩
      ·
        have h19 := zb_0.mp h19
        refine hP _ _ _ _ _ ?_
        refine hP _ _ _ _ _ ?_
        exact ⟨rfl, by rw [if_pos (by simp [kaC, h5, h12, h19])] at hQ; exact hQ⟩
      ·
        have h19 := zb_n.mp h19
        obtain ⟨c, hc, rfl⟩ := kdC_in h12
        rw [if_neg (by unfold kaC; rw [h5, h12, h19]; decide), ix_nI (j := c) (by omega)] at hQ
        refine hP _ _ _ _ _ ?_
        refine hP _ _ _ _ _ ?_
        refine hP _ _ _ _ _ ?_
        refine hP _ _ _ _ _ ?_
        refine hP _ _ _ _ _ ⟨(zi hn rfl rfl rfl), Nat.le_of_ble_eq_true rfl, Nat.le_of_ble_eq_true rfl, ?_⟩
        refine ⟨t, np, pw, c, _, _, rfl, by omega, ⟨hn, hF⟩, ht, hTl0, hU0, Or.inl rfl, ?_⟩
        refine hP _ _ _ _ _ ?_
        refine hP _ _ _ _ _ ?_
        refine hP _ _ _ _ _ ?_
        refine hP _ _ _ _ _ ⟨(zi hn rfl rfl rfl), Nat.le_of_ble_eq_true rfl, Nat.le_of_ble_eq_true rfl, ?_⟩
        refine ⟨_, t, rfl, ⟨hn, hF⟩, ⟨ht, hT⟩, ?_⟩
        refine hP _ _ _ _ _ ?_
        refine hP _ _ _ _ _ ?_
        refine hP _ _ _ _ _ ?_
        refine hP _ _ _ _ _ ?_
        refine hP _ _ _ _ _ ?_
        exact loop c hc hQ 0 (by omega) mem zfr.rf
/-- a set of living persons that can -/
def fwC (mem : zM) (t np pw c : Nat) (am pt : Int32) (s : Nat) : Bool := decide (nI s &&& (actC mem t pt ^^^ (-1)) = 0) && !decide (cF mem t np pw c am (nI s) pt = -1)
def k_X10_fewest : zCt := fun as n mem Q => ∃ (pt kd am : Int32) (t np pw m na : Nat), as = [.ref 100, .int pt, .int kd, .int am] ∧ zCs n mem t np pw m na ∧
    (if kaC mem t pt kd am = false then Q (some (.int (-1))) n mem else
      ((∀ s, 1 ≤ s → s < 2 ^ np → fwC mem t np pw (ix kd) am pt s = false) → ∀ M, zfr sJ mem M → Q (some (.int (-2))) n M) ∧
      (∀ s, 1 ≤ s → s < 2 ^ np → fwC mem t np pw (ix kd) am pt s = true → (∀ s', 1 ≤ s' → s' < 2 ^ np → fwC mem t np pw (ix kd) am pt s' = true → pcI (nI s) < pcI (nI s') ∨ (pcI (nI s) = pcI (nI s') ∧ s ≤ s')) → ∀ M, zfr sJ mem M → Q (some (.int (nI s))) n M))
theorem ok_X10_fewest {l : Launch} {G : zG} : zOK l G yX10_fewest cX10_fewest 9 (some .int) 5 0 0 k_X10_fewest := by
  intro as n mem Q hK
  obtain ⟨pt, kd, am, t, np, pw, m, na, rfl, hC, hQ⟩ := hK
  refine mtX10_fewest ok_X10_isParty (by decide) ok_X10_isKind (by decide) ok_X10_isAmount (by decide) ok_X10_openPowers (by decide) ok_X10_actorsFor (by decide) ok_J6_bitCount_0f7a4 (by decide) ok_X10_weighNow (by decide) (List.forall_mem_cons.mpr ⟨rfl, List.forall_mem_cons.mpr ⟨rfl, List.forall_mem_cons.mpr ⟨rfl, List.forall_mem_cons.mpr ⟨rfl, fun _ h => absurd h List.not_mem_nil⟩⟩⟩⟩) (by simp) rfl (fun P hP => ?_)
  show P 0 [.ref 100, .int pt, .int kd, .int am, .null, .null, .null, .null, .null] [] n mem
  obtain ⟨⟨hn, hF0⟩, ht0, hTl0, hU0, ⟨hm, hN⟩, hna, hna16⟩ := id hC
  obtain ⟨hT, hnp0, hnp8, hpw, hw, hPs⟩ := id hTl0
  have hp8 := pow8 np hnp8
  have loop : ∀ c, c < 6 → ((∀ s, 1 ≤ s → s < 2 ^ np → fwC mem t np pw c am pt s = false) → ∀ M, zfr sJ mem M → Q (some (.int (-2))) n M) →
      (∀ s, 1 ≤ s → s < 2 ^ np → fwC mem t np pw c am pt s = true → (∀ s', 1 ≤ s' → s' < 2 ^ np → fwC mem t np pw c am pt s' = true → pcI (nI s) < pcI (nI s') ∨ (pcI (nI s) = pcI (nI s') ∧ s ≤ s')) → ∀ M, zfr sJ mem M → Q (some (.int (nI s))) n M) →
      ∀ i, i ≤ 2 ^ np → 1 ≤ i → ∀ (f : Int32) (z : Nat), (f = -2 ∧ z = 9 ∧ (∀ s, 1 ≤ s → s < i → fwC mem t np pw c am pt s = false)) ∨ (∃ s, f = nI s ∧ 1 ≤ s ∧ s < i ∧ fwC mem t np pw c am pt s = true ∧ z = pcI (nI s) ∧ ∀ s', 1 ≤ s' → s' < i → fwC mem t np pw c am pt s' = true → pcI (nI s) < pcI (nI s') ∨ (pcI (nI s) = pcI (nI s') ∧ s ≤ s')) → ∀ M, zfr sJ mem M → P 51 [.ref 100, .int pt, .int (nI c), .int am, .int (opN mem t pw c am (-1)), .int (actC mem t pt), .int f, .int (nI z), .int (nI i)] [] n M := by
    intro c hc6 hQ1 hQ2
    refine zloop ?_ ?_
    · intro _ f z hfz M fM
      obtain ⟨⟨-, hF⟩, ht, hTl, -⟩ := cs_fr fM hC
      have hnp := hTl.2.1
      have e1 : (1 : Int32) <<< (M.1 t 1 &&& 31) = nI (2 ^ np) := by rw [hnp]; exact shl_pow np hnp8
      refine hP _ _ _ _ _ ?_
      refine hP _ _ _ _ _ ?_
      refine hP _ _ _ _ _ ?_
      refine hP _ _ _ _ _ ⟨(zi hn rfl rfl rfl), _, ht, (by omega), ?_⟩
      refine hP _ _ _ _ _ ⟨(ztT hn hT), ?_⟩
      refine hP _ _ _ _ _ ?_
      refine hP _ _ _ _ _ ⟨fun _ => ?_, fun hz => absurd ( by show (1 : Int32) <<< (M.1 t 1 &&& 31) ≤ nI (2 ^ np); rw [e1]; exact nI_le (Nat.le_refl _) (by omega)) hz⟩
      refine hP _ _ _ _ _ ?_
      refine hP _ _ _ _ _ ?_
      refine ⟨rfl, ?_⟩
      rcases hfz with ⟨rfl, -, h⟩ | ⟨s, rfl, h1, h2, h3, -, h4⟩
      · exact hQ1 h M fM
      · exact hQ2 s h1 h2 h3 h4 M fM
    · intro i hi ih h1i f z hfz M fM
      obtain ⟨⟨-, hF⟩, ht, hTl, -⟩ := cs_fr fM hC
      have hnp := hTl.2.1
      have e1 : (1 : Int32) <<< (M.1 t 1 &&& 31) = nI (2 ^ np) := by rw [hnp]; exact shl_pow np hnp8
      have hpi := pcI_le i (by omega)
      have hz9 : z ≤ 9 := by
        rcases hfz with ⟨-, h, -⟩ | ⟨s, -, -, h2, -, h, -⟩
        · omega
        · have := pcI_le s (by omega); omega
      rw [nI_succ i] at ih
      -- not taken
      have no : (fwC mem t np pw c am pt i = true → z ≤ pcI (nI i)) → ∀ M, zfr sJ mem M → P 51 [.ref 100, .int pt, .int (nI c), .int am, .int (opN mem t pw c am (-1)), .int (actC mem t pt), .int f, .int (nI z), .int (nI i + 1)] [] n M := by
        intro hno M fM
        refine ih (by omega) f z ?_ M fM
        rcases hfz with ⟨a, b, h⟩ | ⟨s, a, h1, h2, h3, h4, h5⟩
        · refine Or.inl ⟨a, b, fun s h1 h2 => ?_⟩
          by_cases e : s = i
          · subst e
            cases hb : fwC mem t np pw c am pt s with
            | false => rfl
            | true => have := hno hb; omega
          · exact h s h1 (by omega)
        · refine Or.inr ⟨s, a, h1, by omega, h3, h4, fun s' q1 q2 q3 => ?_⟩
          by_cases e : s' = i
          · subst e
            have := hno q3
            rcases Nat.lt_or_ge (pcI (nI s)) (pcI (nI s')) with y | y
            · exact Or.inl y
            · exact Or.inr ⟨by omega, by omega⟩
          · exact h5 s' q1 (by omega) q3
      have yes : fwC mem t np pw c am pt i = true → pcI (nI i) < z → ∀ M, zfr sJ mem M → P 51 [.ref 100, .int pt, .int (nI c), .int am, .int (opN mem t pw c am (-1)), .int (actC mem t pt), .int (nI i), .int (nI (pcI (nI i))), .int (nI i + 1)] [] n M := by
        intro hy hlt M fM
        refine ih (by omega) (nI i) (pcI (nI i)) (Or.inr ⟨i, rfl, h1i, by omega, hy, rfl, fun s' q1 q2 q3 => ?_⟩) M fM
        by_cases e : s' = i
        · subst e; exact Or.inr ⟨rfl, Nat.le_refl _⟩
        · left
          rcases hfz with ⟨-, -, h⟩ | ⟨s, -, h1, h2, h3, h4, h5⟩
          · rw [h s' q1 (by omega)] at q3; cases q3
          · rcases h5 s' q1 (by omega) q3 with y | y <;> omega
      clear hfz
      refine hP _ _ _ _ _ ?_
      refine hP _ _ _ _ _ ?_
      refine hP _ _ _ _ _ ?_
      refine hP _ _ _ _ _ ⟨(zi hn rfl rfl rfl), _, ht, (by omega), ?_⟩
      refine hP _ _ _ _ _ ⟨(ztT hn hT), ?_⟩
      refine hP _ _ _ _ _ ?_
      refine hP _ _ _ _ _ ⟨fun hz => absurd hz ( by show ¬ (1 : Int32) <<< (M.1 t 1 &&& 31) ≤ nI i; rw [e1]; exact nI_ge hi (by omega)), fun _ => ?_⟩
      refine hP _ _ _ _ _ ?_
      refine hP _ _ _ _ _ ?_
      refine hP _ _ _ _ _ ?_
      refine hP _ _ _ _ _ ?_
      refine hP _ _ _ _ _ ?_
      refine hP _ _ _ _ _ ⟨fun h72 => ?_, fun h72 => ?_⟩
      ·
        refine hP _ _ _ _ _ ?_
        refine hP _ _ _ _ _ ⟨Nat.le_of_ble_eq_true rfl, Nat.le_of_ble_eq_true rfl, ?_⟩
        refine ⟨_, rfl, zs8_small (by omega), ?_⟩
        refine hP _ _ _ _ _ ?_
        refine hP _ _ _ _ _ ⟨fun h82 => ?_, fun h82 => ?_⟩
        ·
          refine hP _ _ _ _ _ ?_
          refine hP _ _ _ _ _ ?_
          first | exact yes (by unfold fwC; rw [decide_eq_true (show nI i &&& (actC mem t pt ^^^ (-1)) = 0 from h72), decide_eq_false (fun z => h102 (h6'.trans z))]; rfl) (Nat.not_le.mp fun q => h82 (nI_le q (by omega))) M' fN | exact no (fun h => absurd (show cF mem t np pw c am (nI i) pt = -1 from h6'.symm.trans h102) (by unfold fwC at h; rw [Bool.and_eq_true] at h; exact of_decide_eq_false ((Bool.not_eq_true' _).mp h.2))) M' fN | exact no (fun _ => (nI_leI (by omega) (by omega)).mp h82) M fM | exact no (fun h => absurd (show nI i &&& (actC mem t pt ^^^ (-1)) = 0 from by unfold fwC at h; rw [Bool.and_eq_true] at h; exact of_decide_eq_true h.1) h72) M fM
        ·
          refine hP _ _ _ _ _ ?_
          refine hP _ _ _ _ _ ?_
          refine hP _ _ _ _ _ ?_
          refine hP _ _ _ _ _ ?_
          refine hP _ _ _ _ _ ⟨(zi hn rfl rfl rfl), Nat.le_of_ble_eq_true rfl, Nat.le_of_ble_eq_true rfl, ?_⟩
          refine ⟨t, np, pw, _, _, _, rfl, ⟨hn, hF⟩, ht, hTl, fun M' fM' h6' _ => ?_⟩
          have fN := fM.tr fM'
          have hF' := zFx_q (fN.mono fun _ _ => sJ_Q) hF0
          have h6' : M'.1 114 6 = cF mem t np pw c am (nI i) pt := by rw [h6', (fsN_fr (sJ_X fM) (by omega) hT).1]; rfl
          refine hP _ _ _ _ _ ?_
          refine hP _ _ _ _ _ ⟨(zi hn rfl rfl rfl), _, fx_Book_judge hF', (by decide), ?_⟩
          refine hP _ _ _ _ _ ⟨(zi hn rfl rfl rfl), ?_⟩
          refine hP _ _ _ _ _ ?_
          refine hP _ _ _ _ _ ⟨fun h102 => ?_, fun h102 => ?_⟩
          ·
            refine hP _ _ _ _ _ ?_
            refine hP _ _ _ _ _ ?_
            first | exact yes (by unfold fwC; rw [decide_eq_true (show nI i &&& (actC mem t pt ^^^ (-1)) = 0 from h72), decide_eq_false (fun z => h102 (h6'.trans z))]; rfl) (Nat.not_le.mp fun q => h82 (nI_le q (by omega))) M' fN | exact no (fun h => absurd (show cF mem t np pw c am (nI i) pt = -1 from h6'.symm.trans h102) (by unfold fwC at h; rw [Bool.and_eq_true] at h; exact of_decide_eq_false ((Bool.not_eq_true' _).mp h.2))) M' fN | exact no (fun _ => (nI_leI (by omega) (by omega)).mp h82) M fM | exact no (fun h => absurd (show nI i &&& (actC mem t pt ^^^ (-1)) = 0 from by unfold fwC at h; rw [Bool.and_eq_true] at h; exact of_decide_eq_true h.1) h72) M fM
          ·
            refine hP _ _ _ _ _ ?_
            refine hP _ _ _ _ _ ?_
            refine hP _ _ _ _ _ ?_
            refine hP _ _ _ _ _ ⟨Nat.le_of_ble_eq_true rfl, Nat.le_of_ble_eq_true rfl, ?_⟩
            refine ⟨_, rfl, zs8_small (by omega), ?_⟩
            refine hP _ _ _ _ _ ?_
            refine hP _ _ _ _ _ ?_
            refine hP _ _ _ _ _ ?_
            first | exact yes (by unfold fwC; rw [decide_eq_true (show nI i &&& (actC mem t pt ^^^ (-1)) = 0 from h72), decide_eq_false (fun z => h102 (h6'.trans z))]; rfl) (Nat.not_le.mp fun q => h82 (nI_le q (by omega))) M' fN | exact no (fun h => absurd (show cF mem t np pw c am (nI i) pt = -1 from h6'.symm.trans h102) (by unfold fwC at h; rw [Bool.and_eq_true] at h; exact of_decide_eq_false ((Bool.not_eq_true' _).mp h.2))) M' fN | exact no (fun _ => (nI_leI (by omega) (by omega)).mp h82) M fM | exact no (fun h => absurd (show nI i &&& (actC mem t pt ^^^ (-1)) = 0 from by unfold fwC at h; rw [Bool.and_eq_true] at h; exact of_decide_eq_true h.1) h72) M fM
      ·
        refine hP _ _ _ _ _ ?_
        refine hP _ _ _ _ _ ?_
        first | exact yes (by unfold fwC; rw [decide_eq_true (show nI i &&& (actC mem t pt ^^^ (-1)) = 0 from h72), decide_eq_false (fun z => h102 (h6'.trans z))]; rfl) (Nat.not_le.mp fun q => h82 (nI_le q (by omega))) M' fN | exact no (fun h => absurd (show cF mem t np pw c am (nI i) pt = -1 from h6'.symm.trans h102) (by unfold fwC at h; rw [Bool.and_eq_true] at h; exact of_decide_eq_false ((Bool.not_eq_true' _).mp h.2))) M' fN | exact no (fun _ => (nI_leI (by omega) (by omega)).mp h82) M fM | exact no (fun h => absurd (show nI i &&& (actC mem t pt ^^^ (-1)) = 0 from by unfold fwC at h; rw [Bool.and_eq_true] at h; exact of_decide_eq_true h.1) h72) M fM
  have hF := hF0
  have ht := ht0
  refine hP _ _ _ _ _ ?_
  refine hP _ _ _ _ _ ?_
  refine hP _ _ _ _ _ ⟨(zi hn rfl rfl rfl), Nat.le_of_ble_eq_true rfl, Nat.le_of_ble_eq_true rfl, ?_⟩
  refine ⟨_, t, rfl, ⟨hn, hF⟩, ⟨ht, hT⟩, ?_⟩
  refine hP _ _ _ _ _ ⟨fun h5 => ?_, fun h5 => ?_⟩
  ·
    have h5 := zb_0.mp h5
    refine hP _ _ _ _ _ ?_
    refine hP _ _ _ _ _ ?_
    exact ⟨rfl, by rw [if_pos (by simp [kaC, h5])] at hQ; exact hQ⟩
  ·
    have h5 := zb_n.mp h5
    refine hP _ _ _ _ _ ?_
    refine hP _ _ _ _ _ ⟨Nat.le_of_ble_eq_true rfl, Nat.le_of_ble_eq_true rfl, ?_⟩
    refine ⟨_, rfl, ?_⟩
    rw [show decide (¬ kd < 0 ∧ ¬ 6 ≤ kd) = kdC kd from rfl]
    refine hP _ _ _ _ _ ⟨fun h12 => ?_, fun h12 => ?_⟩
    ·
      have h12 := zb_0.mp h12
      refine hP _ _ _ _ _ ?_
      refine hP _ _ _ _ _ ?_
      exact ⟨rfl, by rw [if_pos (by simp [kaC, h5, h12])] at hQ; exact hQ⟩
    ·
      have h12 := zb_n.mp h12
      refine hP _ _ _ _ _ ?_
      refine hP _ _ _ _ _ ⟨Nat.le_of_ble_eq_true rfl, Nat.le_of_ble_eq_true rfl, ?_⟩
      refine ⟨_, rfl, ?_⟩
      rw [show decide (¬ am < 0 ∧ ¬ 999 < am) = amC am from rfl]
      refine hP _ _ _ _ _ ⟨fun h19 => ?_, fun h19 => ?_⟩
      ·
        have h19 := zb_0.mp h19
        refine hP _ _ _ _ _ ?_
        refine hP _ _ _ _ _ ?_
        exact ⟨rfl, by rw [if_pos (by simp [kaC, h5, h12, h19])] at hQ; exact hQ⟩
      ·
        have h19 := zb_n.mp h19
        obtain ⟨c, hc, rfl⟩ := kdC_in h12
        rw [if_neg (by unfold kaC; rw [h5, h12, h19]; decide), ix_nI (j := c) (by omega)] at hQ
        refine hP _ _ _ _ _ ?_
        refine hP _ _ _ _ _ ?_
        refine hP _ _ _ _ _ ?_
        refine hP _ _ _ _ _ ?_
        refine hP _ _ _ _ _ ⟨(zi hn rfl rfl rfl), Nat.le_of_ble_eq_true rfl, Nat.le_of_ble_eq_true rfl, ?_⟩
        refine ⟨t, np, pw, c, _, _, rfl, by omega, ⟨hn, hF⟩, ht, hTl0, hU0, Or.inl rfl, ?_⟩
        refine hP _ _ _ _ _ ?_
        refine hP _ _ _ _ _ ?_
        refine hP _ _ _ _ _ ?_
        refine hP _ _ _ _ _ ⟨(zi hn rfl rfl rfl), Nat.le_of_ble_eq_true rfl, Nat.le_of_ble_eq_true rfl, ?_⟩
        refine ⟨_, t, rfl, ⟨hn, hF⟩, ⟨ht, hT⟩, ?_⟩
        refine hP _ _ _ _ _ ?_
        refine hP _ _ _ _ _ ?_
        refine hP _ _ _ _ _ ?_
        refine hP _ _ _ _ _ ?_
        refine hP _ _ _ _ _ ?_
        refine hP _ _ _ _ _ ?_
        refine hP _ _ _ _ _ ?_
        exact loop c hc hQ.1 hQ.2 1 (Nat.one_le_two_pow) (Nat.le_refl _) (-2) 9 (Or.inl ⟨rfl, rfl, fun s h1 h2 => by omega⟩) mem zfr.rf
/-- what hangs on a set of powers -/
def haC (mem : zM) (t np pw : Nat) (wo : Int32) (a : Nat) : Int32 := fsC (gC mem t) (mem.1 (120 + a) 1) (ubX mem t np pw (mem.1 (120 + a) 11 &&& wo) (deadM (mem.1 113) (mem.1 (120 + a) 5) 8 ^^^ (-1)) (mem.1 (120 + a) 0)) pw
def hgC (mem : zM) (t np pw : Nat) (wo : Int32) : Nat → Int32
  | 0 => 0
  | a + 1 => if mem.1 (120 + a) 9 = 1 ∧ haC mem t np pw wo a = -1 then hgC mem t np pw wo a ||| (1 <<< (nI a &&& 31)) else hgC mem t np pw wo a
def k_X10_hang : zCt := fun as n mem Q => ∃ (p : Int32) (t np pw m na : Nat), as = [.ref 100, .int p] ∧ zCs n mem t np pw m na ∧
    (if inC p (mem.1 t 2) = false then Q (some (.int (-1))) n mem else ∀ M, zfr sJ mem M → Q (some (.int (hgC mem t np pw (waF (gC mem t) (ix p) pw ^^^ (-1)) na))) n M)
theorem haC_fr {mem M : zM} {t np pw a : Nat} {wo : Int32} (h : zfr sJ mem M) (hT : t = 136 ∨ t = 158) (ha : a < 16) : haC M t np pw wo a = haC mem t np pw wo a ∧ M.1 (120 + a) = mem.1 (120 + a) := by
  have row : ∀ a, a ≠ 114 → a ≠ 115 → a ≠ 116 → M.1 a = mem.1 a := fun a h0 h1 h2 => by funext b; exact h.1 a b (by unfold sJ; omega)
  have g : gC M t = gC mem t := gC_row row hT
  refine ⟨?_, row _ (by omega) (by omega) (by omega)⟩
  unfold haC
  rw [g, row (120 + a) (by omega) (by omega) (by omega), row 113 (by omega) (by omega) (by omega)]
  congr 1
  funext p
  unfold ubX
  rw [g, row t (by omega) (by omega) (by omega)]
theorem ok_X10_hang {l : Launch} {G : zG} : zOK l G yX10_hang cX10_hang 6 (some .int) 4 0 0 k_X10_hang := by
  intro as n mem Q hK
  obtain ⟨p, t, np, pw, m, na, rfl, hC, hQ⟩ := hK
  refine mtX10_hang ok_X10_isPower (by decide) ok_X9_withAllUnder (by decide) ok_X4_deadBy (by decide) ok_X1_weigh (by decide) (List.forall_mem_cons.mpr ⟨rfl, List.forall_mem_cons.mpr ⟨rfl, fun _ h => absurd h List.not_mem_nil⟩⟩) (by simp) rfl (fun P hP => ?_)
  show P 0 [.ref 100, .int p, .null, .null, .null, .null] [] n mem
  obtain ⟨⟨hn, hF0⟩, ht0, hTl0, hU0, ⟨hm, hN⟩, hna0, hna16⟩ := id hC
  obtain ⟨hT, hnp0, hnp8, hpw0, hw, hPs⟩ := id hTl0
  have loop : ∀ (pi : Nat) wo, (∀ M, zfr sJ mem M → Q (some (.int (hgC mem t np pw wo na))) n M) → ∀ i, i ≤ na → ∀ M, zfr sJ mem M → ∀ v5, P 26 [.ref 100, .int (nI pi), .int wo, .int (hgC mem t np pw wo i), .int (nI i), v5] [] n M := by
    intro pi wo hQ
    refine zloop ?_ ?_
    · intro M fM v5
      obtain ⟨⟨-, hF⟩, ht, hTl, -, -, hna, -⟩ := cs_fr fM hC
      refine hP _ _ _ _ _ ?_
      refine hP _ _ _ _ _ ?_
      refine hP _ _ _ _ _ ⟨(zi hn rfl rfl rfl), ?_⟩
      refine hP _ _ _ _ _ ⟨fun _ => ?_, fun hz => absurd ( by rw [hna]; exact nI_le (Nat.le_refl _) (by omega)) hz⟩
      refine hP _ _ _ _ _ ?_
      refine hP _ _ _ _ _ ?_
      exact ⟨rfl, hQ M fM⟩
    · intro i hi ih M fM v5
      obtain ⟨⟨-, hF⟩, ht, hTl, -, -, hna, -⟩ := cs_fr fM hC
      obtain ⟨eh, er⟩ := haC_fr (np := np) (pw := pw) (wo := wo) (a := i) fM hT (by omega)
      rw [nI_succ i, hgC] at ih
      have k1 := fun h => (if_pos (c := mem.1 (120 + i) 9 = 1 ∧ haC mem t np pw wo i = -1) h) ▸ ih
      have k2 := fun h => (if_neg (c := mem.1 (120 + i) 9 = 1 ∧ haC mem t np pw wo i = -1) h) ▸ ih
      have e9 : M.1 (120 + i) 9 = mem.1 (120 + i) 9 := by rw [er]
      refine hP _ _ _ _ _ ?_
      refine hP _ _ _ _ _ ?_
      refine hP _ _ _ _ _ ⟨(zi hn rfl rfl rfl), ?_⟩
      refine hP _ _ _ _ _ ⟨fun hz => absurd hz ( by rw [hna]; exact nI_ge hi (by omega)), fun _ => ?_⟩
      refine hP _ _ _ _ _ ?_
      refine hP _ _ _ _ _ ⟨(zi hn rfl rfl rfl), _, fx_Book_acts hF, (by decide), ?_⟩
      refine hP _ _ _ _ _ ?_
      refine hP _ _ _ _ _ ⟨_, i, (zi hn rfl rfl rfl), rfl, by omega, _, (fx_acts hF (by omega)), (by omega), ?_⟩
      refine hP _ _ _ _ _ ?_
      refine hP _ _ _ _ _ ?_
      refine hP _ _ _ _ _ ⟨(ziA hn (by omega)), ?_⟩
      refine hP _ _ _ _ _ ?_
      refine hP _ _ _ _ _ ⟨fun h50 => ?_, fun h50 => ?_⟩
      ·
        refine hP _ _ _ _ _ ?_
        refine hP _ _ _ _ _ ⟨(zi hn rfl rfl rfl), _, fx_Book_judge hF, (by decide), ?_⟩
        refine hP _ _ _ _ _ ?_
        refine hP _ _ _ _ _ ⟨(zi hn rfl rfl rfl), _, ht, (by omega), ?_⟩
        refine hP _ _ _ _ _ ?_
        refine hP _ _ _ _ _ ⟨(ziA hn (by omega)), ?_⟩
        refine hP _ _ _ _ _ ?_
        refine hP _ _ _ _ _ ?_
        refine hP _ _ _ _ _ ?_
        refine hP _ _ _ _ _ ⟨(zi hn rfl rfl rfl), _, fx_Book_log hF, (by decide), ?_⟩
        refine hP _ _ _ _ _ ?_
        refine hP _ _ _ _ _ ⟨(ziA hn (by omega)), ?_⟩
        refine hP _ _ _ _ _ ⟨(zi hn rfl rfl rfl), Nat.le_of_ble_eq_true rfl, Nat.le_of_ble_eq_true rfl, ?_⟩
        refine ⟨_, rfl, ⟨hn, hF⟩, ?_⟩
        refine hP _ _ _ _ _ ?_
        refine hP _ _ _ _ _ ⟨(ziA hn (by omega)), ?_⟩
        refine hP _ _ _ _ _ ?_
        refine hP _ _ _ _ _ ⟨(ziA hn (by omega)), ?_⟩
        refine hP _ _ _ _ _ ⟨(zi hn rfl rfl rfl), Nat.le_of_ble_eq_true rfl, Nat.le_of_ble_eq_true rfl, ?_⟩
        refine ⟨t, np, pw, _, _, _, _, rfl, ⟨hn, hF⟩, hTl, fun M' fM' h6' _ => ?_⟩
        have fN := fM.tr fM'
        have hF' := zFx_q (fN.mono fun _ _ => sJ_Q) hF0
        have h6' : M'.1 114 6 = haC mem t np pw wo i := by rw [h6', ← eh]; rfl
        refine hP _ _ _ _ _ ?_
        refine hP _ _ _ _ _ ?_
        refine hP _ _ _ _ _ ⟨(zi hn rfl rfl rfl), _, fx_Book_judge hF', (by decide), ?_⟩
        refine hP _ _ _ _ _ ⟨(zi hn rfl rfl rfl), ?_⟩
        refine hP _ _ _ _ _ ?_
        refine hP _ _ _ _ _ ⟨fun h102 => ?_, fun h102 => ?_⟩
        ·
          refine hP _ _ _ _ _ ?_
          refine hP _ _ _ _ _ ?_
          refine hP _ _ _ _ _ ?_
          refine hP _ _ _ _ _ ?_
          refine hP _ _ _ _ _ ?_
          refine hP _ _ _ _ _ ?_
          refine hP _ _ _ _ _ ?_
          refine hP _ _ _ _ _ ?_
          first | exact k1 ⟨e9.symm.trans h50, h6'.symm.trans h102⟩ M' fN _ | (show P 26 [_, _, _, .int (_ ||| 0), _, _] [] n M'; rw [or_0]; exact k2 (fun z => h102 (h6'.trans z.2)) M' fN _) | exact k2 (fun z => h50 (e9.trans z.1)) M fM _
        ·
          refine hP _ _ _ _ _ ?_
          refine hP _ _ _ _ _ ?_
          refine hP _ _ _ _ _ ?_
          refine hP _ _ _ _ _ ?_
          refine hP _ _ _ _ _ ?_
          first | exact k1 ⟨e9.symm.trans h50, h6'.symm.trans h102⟩ M' fN _ | (show P 26 [_, _, _, .int (_ ||| 0), _, _] [] n M'; rw [or_0]; exact k2 (fun z => h102 (h6'.trans z.2)) M' fN _) | exact k2 (fun z => h50 (e9.trans z.1)) M fM _
      ·
        refine hP _ _ _ _ _ ?_
        refine hP _ _ _ _ _ ?_
        first | exact k1 ⟨e9.symm.trans h50, h6'.symm.trans h102⟩ M' fN _ | (show P 26 [_, _, _, .int (_ ||| 0), _, _] [] n M'; rw [or_0]; exact k2 (fun z => h102 (h6'.trans z.2)) M' fN _) | exact k2 (fun z => h50 (e9.trans z.1)) M fM _
  have hF := hF0
  have ht := ht0
  refine hP _ _ _ _ _ ?_
  refine hP _ _ _ _ _ ?_
  refine hP _ _ _ _ _ ⟨(zi hn rfl rfl rfl), Nat.le_of_ble_eq_true rfl, Nat.le_of_ble_eq_true rfl, ?_⟩
  refine ⟨_, t, rfl, ⟨hn, hF⟩, ⟨ht, hT⟩, ?_⟩
  refine hP _ _ _ _ _ ⟨fun h5 => ?_, fun h5 => ?_⟩
  ·
    have h5 := zb_0.mp h5
    refine hP _ _ _ _ _ ?_
    refine hP _ _ _ _ _ ?_
    exact ⟨rfl, by rw [if_pos h5] at hQ; exact hQ⟩
  ·
    have h5 := zb_n.mp h5
    obtain ⟨j, hj, rfl⟩ := inC_nI (by omega) (hpw0 ▸ h5)
    have hx := ix_nI (j := j) (by omega)
    rw [hx, if_neg (by rw [h5]; decide)] at hQ
    refine hP _ _ _ _ _ ?_
    refine hP _ _ _ _ _ ⟨(zi hn rfl rfl rfl), _, ht, (by omega), ?_⟩
    refine hP _ _ _ _ _ ?_
    refine hP _ _ _ _ _ ⟨(ztT hn hT), Nat.le_of_ble_eq_true rfl, Nat.le_of_ble_eq_true rfl, ?_⟩
    refine ⟨t, np, pw, j, rfl, by omega, ⟨hn, hF⟩, hTl0, ?_⟩
    refine hP _ _ _ _ _ ?_
    refine hP _ _ _ _ _ ?_
    refine hP _ _ _ _ _ ?_
    refine hP _ _ _ _ _ ?_
    refine hP _ _ _ _ _ ?_
    refine hP _ _ _ _ _ ?_
    refine hP _ _ _ _ _ ?_
    exact loop j _ hQ 0 (by omega) mem zfr.rf _
