def k_X11_go : zCt := fun as n mem Q => ∃ (sz p : Nat), as = [.ref 180] ∧ zst n mem ∧ mem.1 180 3 = nI sz ∧ sz ≤ 840 ∧ mem.1 180 4 = nI p ∧ p ≤ sz ∧ (∀ M, zfr sG mem M → zTk M (tkP (mem.1 181) sz p) (stP (mem.1 181) sz p) (nmP (mem.1 181) sz p) → (2 ≤ tkP (mem.1 181) sz p → M.1 180 4 = nI (nxP (mem.1 181) sz p)) → Q none n M)
theorem zfr_G4 {M m : zM} {v : Int32} (h : zfr sG M m) {j : Nat} (hj : 4 ≤ j ∧ j ≤ 7) : zfr sG M (zI m 180 j v) := h.I ⟨rfl, Or.inl hj⟩
theorem zb_eq {a b : Bool} : zb a = zb b ↔ a = b := by cases a <;> cases b <;> decide
theorem ok_X11_go {l : Launch} {G : zG} : zOK l G yX11_go cX11_go 5 none 1 0 0 k_X11_go := by
  intro as n mem Q hK
  obtain ⟨sz, p, rfl, ⟨hn, hF0⟩, hsz, hsz8, hp, hps, hQ⟩ := hK
  refine mtX11_go ok_X11_isLetter (by decide) ok_X11_isDigit (by decide) ok_X11_tapeAt (by decide) (List.forall_mem_cons.mpr ⟨rfl, fun _ h => absurd h List.not_mem_nil⟩) (by simp) rfl (fun P hP => ?_)
  show P 0 [.ref 180, .null, .null, .null, .null] [] n mem
  generalize hBm : mem.1 181 = B at hQ
  have hq1 := sk_ge (B := B) (lim := sz) p
  have hq2 := sk_le (B := B) (lim := sz) p hps
  have rB : ∀ M, zfr sG mem M → M.1 181 = B := fun M h => (row_G h (by omega)).trans hBm
  have r3 : ∀ M, zfr sG mem M → M.1 180 3 = nI sz := fun M h => (h.1 180 3 (by unfold sG; omega)).trans hsz
  -- the word's end
  have ends : ∀ s, s < sz → alnum (B s) = true → tkP B sz p = tkC B sz s → stP B sz p = s → ∀ M, zfr sG mem M → M.1 180 4 = nI (en B sz s) → M.1 180 5 = nI s → M.2.1 180 10 = hB B s (min (en B sz s - s) 7) → M.1 180 7 = numI B s (min (en B sz s - s) 3) → ∀ v1 v4, P 312 [.ref 180, v1, .int (zb (ltr (B s))), .int (zb (gdB B s (ltr (B s)) (en B sz s - s))), v4] [] n M := by
    intro s hs ha htk hst M fM h4 h5 h10 h7 v1 v4
    have hge := en_ge (B := B) (sz := sz) s
    have hle := en_le (B := B) (sz := sz) s (by omega)
    have esub : M.1 180 4 - M.1 180 5 = nI (en B sz s - s) := by rw [h4, h5, pk_sub hge]
    have fin : ∀ v, v = (if gdB B s (ltr (B s)) (en B sz s - s) = true ∧ ¬ (ltr (B s) = false ∧ 3 < en B sz s - s) then (if ltr (B s) = true then 2 else 3) else 1) → Q none n (zI M 180 6 v) := by
      intro v hv
      refine hQ _ (zfr_G4 fM (by omega)) ?_ ?_
      · have := tkC_ln hs ha (zI M 180 6 v) h5 h10 h7 (by rw [zI_s]; exact hv)
        unfold nmP
        rw [htk, hst]
        exact this
      · intro _
        have n59 : ¬ B s = 59 := fun z => by rw [not59 z] at ha; cases ha
        unfold nxP
        rw [hst, if_neg n59]
        exact h4
    cases hg : gdB B s (ltr (B s)) (en B sz s - s) with
    | false =>
      rw [hg] at fin
      refine hP _ _ _ _ _ ?_
      refine hP _ _ _ _ _ ?_
      refine hP _ _ _ _ _ ⟨fun _ => ?_, fun hz => absurd ( rfl) hz⟩
      refine hP _ _ _ _ _ ?_
      refine hP _ _ _ _ _ ?_
      refine hP _ _ _ _ _ ⟨(zi hn rfl rfl rfl), ?_⟩
      refine hP _ _ _ _ _ ?_
      exact ⟨rfl, fin 1 (by rw [if_neg (fun z => Bool.false_ne_true z.1)])⟩
    | true =>
      rw [hg] at fin
      cases hL : ltr (B s) with
      | true =>
        rw [hL] at fin
        refine hP _ _ _ _ _ ?_
        refine hP _ _ _ _ _ ?_
        refine hP _ _ _ _ _ ⟨fun hz => absurd hz ( by decide), fun _ => ?_⟩
        refine hP _ _ _ _ _ ?_
        refine hP _ _ _ _ _ ⟨fun hz => absurd hz ( by decide), fun _ => ?_⟩
        refine hP _ _ _ _ _ ?_
        refine hP _ _ _ _ _ ⟨fun hz => absurd hz ( by decide), fun _ => ?_⟩
        refine hP _ _ _ _ _ ?_
        refine hP _ _ _ _ _ ?_
        refine hP _ _ _ _ _ ⟨(zi hn rfl rfl rfl), ?_⟩
        refine hP _ _ _ _ _ ?_
        exact ⟨rfl, fin 2 (by rw [if_pos ⟨rfl, fun z => Bool.false_ne_true z.1.symm⟩, if_pos rfl])⟩
      | false =>
        rw [hL] at fin
        by_cases h3 : en B sz s - s ≤ 3
        ·
          refine hP _ _ _ _ _ ?_
          refine hP _ _ _ _ _ ?_
          refine hP _ _ _ _ _ ⟨fun hz => absurd hz ( by decide), fun _ => ?_⟩
          refine hP _ _ _ _ _ ?_
          refine hP _ _ _ _ _ ⟨fun _ => ?_, fun hz => absurd ( rfl) hz⟩
          refine hP _ _ _ _ _ ?_
          refine hP _ _ _ _ _ ⟨(zi hn rfl rfl rfl), ?_⟩
          refine hP _ _ _ _ _ ?_
          refine hP _ _ _ _ _ ⟨(zi hn rfl rfl rfl), ?_⟩
          refine hP _ _ _ _ _ ?_
          refine hP _ _ _ _ _ ?_
          refine hP _ _ _ _ _ ⟨fun _ => ?_, fun hz => absurd ( by show M.1 180 4 - M.1 180 5 ≤ 3; rw [esub]; exact nI_le (b := 3) h3 (by omega)) hz⟩
          refine hP _ _ _ _ _ ?_
          refine hP _ _ _ _ _ ⟨fun _ => ?_, fun hz => absurd ( rfl) hz⟩
          refine hP _ _ _ _ _ ?_
          refine hP _ _ _ _ _ ⟨(zi hn rfl rfl rfl), ?_⟩
          refine hP _ _ _ _ _ ?_
          exact ⟨rfl, fin 3 (by rw [if_pos ⟨rfl, fun z => by omega⟩, if_neg (by decide)])⟩
        ·
          refine hP _ _ _ _ _ ?_
          refine hP _ _ _ _ _ ?_
          refine hP _ _ _ _ _ ⟨fun hz => absurd hz ( by decide), fun _ => ?_⟩
          refine hP _ _ _ _ _ ?_
          refine hP _ _ _ _ _ ⟨fun _ => ?_, fun hz => absurd ( rfl) hz⟩
          refine hP _ _ _ _ _ ?_
          refine hP _ _ _ _ _ ⟨(zi hn rfl rfl rfl), ?_⟩
          refine hP _ _ _ _ _ ?_
          refine hP _ _ _ _ _ ⟨(zi hn rfl rfl rfl), ?_⟩
          refine hP _ _ _ _ _ ?_
          refine hP _ _ _ _ _ ?_
          refine hP _ _ _ _ _ ⟨fun hz => absurd hz ( by show ¬ M.1 180 4 - M.1 180 5 ≤ 3; rw [esub]; exact nI_ge (a := 3) (by omega) (by omega)), fun _ => ?_⟩
          refine hP _ _ _ _ _ ?_
          refine hP _ _ _ _ _ ?_
          refine hP _ _ _ _ _ ⟨(zi hn rfl rfl rfl), ?_⟩
          refine hP _ _ _ _ _ ?_
          exact ⟨rfl, fin 1 (by rw [if_neg (fun z => z.2 ⟨rfl, by omega⟩)])⟩
  -- letters and digits, one by one
  have loopB : ∀ s, s < sz → alnum (B s) = true → tkP B sz p = tkC B sz s → stP B sz p = s → ∀ d i M, en B sz s - (s + i) = d → s + i ≤ en B sz s → zfr sG mem M → M.1 180 4 = nI (s + i) → M.1 180 5 = nI s → M.2.1 180 10 = hB B s (min i 7) → M.1 180 7 = numI B s (min i 3) → ∀ v4, P 177 [.ref 180, .int (B s), .int (zb (ltr (B s))), .int (zb (gdB B s (ltr (B s)) i)), v4] [] n M := by
    intro s hs ha htk hst d
    have hle := en_le (B := B) (sz := sz) s (by omega)
    induction d with
    | zero =>
      intro i M hd hi fM h4 h5 h10 h7 v4
      have hF := zFx_G fM hF0
      have e : s + i = en B sz s := by omega
      have ei : en B sz s - s = i := by omega
      have key := ends s hs ha htk hst M fM (e ▸ h4) h5 (ei ▸ h10) (ei ▸ h7) (.int (B s)) v4
      rw [ei] at key
      have hst2 := en_stop (B := B) (sz := sz) s
      have hv : ltr (if M.1 180 3 ≤ nI (s + i) then 0 else M.1 181 (s + i)) = false ∧ dgt (if M.1 180 3 ≤ nI (s + i) then 0 else M.1 181 (s + i)) = false := by
        rw [r3 M fM, rB M fM]
        by_cases hc : sz ≤ s + i
        · rw [if_pos (nI_le hc (by omega))]; decide
        · rw [if_neg (nI_ge (by omega) (by omega))]
          have : alnum (B (s + i)) = false := by
            cases hz : alnum (B (s + i)) with
            | false => rfl
            | true => exact absurd ⟨by omega, e ▸ hz⟩ hst2
          unfold alnum at this
          exact Bool.or_eq_false_iff.mp this
      refine hP _ _ _ _ _ ?_
      refine hP _ _ _ _ _ ?_
      refine hP _ _ _ _ _ ⟨(zi hn rfl rfl rfl), ?_⟩
      refine hP _ _ _ _ _ ⟨(zi hn rfl rfl rfl), Nat.le_of_ble_eq_true rfl, Nat.le_of_ble_eq_true rfl, ?_⟩
      refine ⟨s + i, by rw [← h4]; rfl, ⟨hn, hF⟩, fun z => Nat.lt_of_lt_of_le (Nat.not_le.mp fun y => z (by rw [r3 M fM]; exact nI_le y (by omega))) hsz8, ?_⟩
      refine hP _ _ _ _ _ ⟨Nat.le_of_ble_eq_true rfl, Nat.le_of_ble_eq_true rfl, ?_⟩
      refine ⟨_, rfl, ?_⟩
      refine hP _ _ _ _ _ ⟨fun _ => ?_, fun hz => absurd ( zb_0.mpr hv.1) hz⟩
      refine hP _ _ _ _ _ ?_
      refine hP _ _ _ _ _ ?_
      refine hP _ _ _ _ _ ⟨(zi hn rfl rfl rfl), ?_⟩
      refine hP _ _ _ _ _ ⟨(zi hn rfl rfl rfl), Nat.le_of_ble_eq_true rfl, Nat.le_of_ble_eq_true rfl, ?_⟩
      refine ⟨s + i, by rw [← h4]; rfl, ⟨hn, hF⟩, fun z => Nat.lt_of_lt_of_le (Nat.not_le.mp fun y => z (by rw [r3 M fM]; exact nI_le y (by omega))) hsz8, ?_⟩
      refine hP _ _ _ _ _ ⟨Nat.le_of_ble_eq_true rfl, Nat.le_of_ble_eq_true rfl, ?_⟩
      refine ⟨_, rfl, ?_⟩
      refine hP _ _ _ _ _ ⟨fun _ => ?_, fun hz => absurd ( zb_0.mpr hv.2) hz⟩
      exact key
    | succ d ih =>
      intro i M hd hi fM h4 h5 h10 h7 v4
      have hF := zFx_G fM hF0
      have hr := rB M fM
      obtain ⟨hj, hal⟩ := en_all (B := B) (sz := sz) s (s + i) (by omega) (by omega)
      have hv : (if M.1 180 3 ≤ nI (s + i) then 0 else M.1 181 (s + i)) = B (s + i) := by
        rw [r3 M fM, hr, if_neg (nI_ge hj (by omega))]
      have esub : M.1 180 4 - M.1 180 5 = nI i := by rw [h4, h5, pk_sub (by omega)]; congr 1; omega
      have e41 : nI (s + i) + 1 = nI (s + (i + 1)) := nI_1 _
      have tail : ∀ v3, v3 = zb (gdB B s (ltr (B s)) (i + 1)) → P 235 [.ref 180, .int (B s), .int (zb (ltr (B s))), .int v3, .int (B (s + i))] [] n M := by
        intro v3 hv3
        subst hv3
        by_cases h7' : i < 7
        · have e10 : (27 : Int64) * M.2.1 180 10 + (B (s + i)).toInt64 - 96 = hB B s (min (i + 1) 7) := by rw [h10, show min i 7 = i by omega, show min (i + 1) 7 = i + 1 by omega]; rfl
          by_cases h3' : i < 3
          · have e7 : (10 : Int32) * M.1 180 7 + B (s + i) - 48 = numI B s (min (i + 1) 3) := by rw [h7, show min i 3 = i by omega, show min (i + 1) 3 = i + 1 by omega]; rfl
            have ih1 := ih (i + 1) (zI (zI (zJ M 180 10 (27 * M.2.1 180 10 + (B (s + i)).toInt64 - 96)) 180 7 (10 * M.1 180 7 + B (s + i) - 48)) 180 4 (M.1 180 4 + 1)) (by omega) (by omega) (zfr_G4 (zfr_G4 (fM.J ⟨rfl, Or.inr rfl⟩) (by omega)) (by omega)) (by rw [zI_s, h4]; exact e41) h5 e10 e7 (.int (B (s + i)))
            refine hP _ _ _ _ _ ?_
            refine hP _ _ _ _ _ ⟨(zi hn rfl rfl rfl), ?_⟩
            refine hP _ _ _ _ _ ?_
            refine hP _ _ _ _ _ ⟨(zi hn rfl rfl rfl), ?_⟩
            refine hP _ _ _ _ _ ?_
            refine hP _ _ _ _ _ ?_
            refine hP _ _ _ _ _ ⟨fun hz => absurd hz ( by show ¬ 7 ≤ M.1 180 4 - M.1 180 5; rw [esub]; exact nI_ge (b := 7) h7' (by omega)), fun _ => ?_⟩
            refine hP _ _ _ _ _ ?_
            refine hP _ _ _ _ _ ?_
            refine hP _ _ _ _ _ ?_
            refine hP _ _ _ _ _ ⟨(zi hn rfl rfl rfl), ?_⟩
            refine hP _ _ _ _ _ ?_
            refine hP _ _ _ _ _ ?_
            refine hP _ _ _ _ _ ?_
            refine hP _ _ _ _ _ ?_
            refine hP _ _ _ _ _ ?_
            refine hP _ _ _ _ _ ?_
            refine hP _ _ _ _ _ ⟨(zi hn rfl rfl rfl), ?_⟩
            refine hP _ _ _ _ _ ?_
            refine hP _ _ _ _ _ ⟨(zi hn rfl rfl rfl), ?_⟩
            refine hP _ _ _ _ _ ?_
            refine hP _ _ _ _ _ ⟨(zi hn rfl rfl rfl), ?_⟩
            refine hP _ _ _ _ _ ?_
            refine hP _ _ _ _ _ ?_
            refine hP _ _ _ _ _ ⟨fun hz => absurd hz ( by show ¬ 3 ≤ M.1 180 4 - M.1 180 5; rw [esub]; exact nI_ge (b := 3) h3' (by omega)), fun _ => ?_⟩
            refine hP _ _ _ _ _ ?_
            refine hP _ _ _ _ _ ?_
            refine hP _ _ _ _ _ ?_
            refine hP _ _ _ _ _ ⟨(zi hn rfl rfl rfl), ?_⟩
            refine hP _ _ _ _ _ ?_
            refine hP _ _ _ _ _ ?_
            refine hP _ _ _ _ _ ?_
            refine hP _ _ _ _ _ ?_
            refine hP _ _ _ _ _ ?_
            refine hP _ _ _ _ _ ⟨(zi hn rfl rfl rfl), ?_⟩
            refine hP _ _ _ _ _ ?_
            refine hP _ _ _ _ _ ?_
            refine hP _ _ _ _ _ ⟨(zi hn rfl rfl rfl), ?_⟩
            refine hP _ _ _ _ _ ?_
            refine hP _ _ _ _ _ ?_
            refine hP _ _ _ _ _ ⟨(zi hn rfl rfl rfl), ?_⟩
            refine hP _ _ _ _ _ ?_
            exact ih1
          · have e7 : M.1 180 7 = numI B s (min (i + 1) 3) := by rw [h7, show min i 3 = 3 by omega, show min (i + 1) 3 = 3 by omega]
            have ih1 := ih (i + 1) (zI (zJ M 180 10 (27 * M.2.1 180 10 + (B (s + i)).toInt64 - 96)) 180 4 (M.1 180 4 + 1)) (by omega) (by omega) (zfr_G4 (fM.J ⟨rfl, Or.inr rfl⟩) (by omega)) (by rw [zI_s, h4]; exact e41) h5 e10 e7 (.int (B (s + i)))
            refine hP _ _ _ _ _ ?_
            refine hP _ _ _ _ _ ⟨(zi hn rfl rfl rfl), ?_⟩
            refine hP _ _ _ _ _ ?_
            refine hP _ _ _ _ _ ⟨(zi hn rfl rfl rfl), ?_⟩
            refine hP _ _ _ _ _ ?_
            refine hP _ _ _ _ _ ?_
            refine hP _ _ _ _ _ ⟨fun hz => absurd hz ( by show ¬ 7 ≤ M.1 180 4 - M.1 180 5; rw [esub]; exact nI_ge (b := 7) h7' (by omega)), fun _ => ?_⟩
            refine hP _ _ _ _ _ ?_
            refine hP _ _ _ _ _ ?_
            refine hP _ _ _ _ _ ?_
            refine hP _ _ _ _ _ ⟨(zi hn rfl rfl rfl), ?_⟩
            refine hP _ _ _ _ _ ?_
            refine hP _ _ _ _ _ ?_
            refine hP _ _ _ _ _ ?_
            refine hP _ _ _ _ _ ?_
            refine hP _ _ _ _ _ ?_
            refine hP _ _ _ _ _ ?_
            refine hP _ _ _ _ _ ⟨(zi hn rfl rfl rfl), ?_⟩
            refine hP _ _ _ _ _ ?_
            refine hP _ _ _ _ _ ⟨(zi hn rfl rfl rfl), ?_⟩
            refine hP _ _ _ _ _ ?_
            refine hP _ _ _ _ _ ⟨(zi hn rfl rfl rfl), ?_⟩
            refine hP _ _ _ _ _ ?_
            refine hP _ _ _ _ _ ?_
            refine hP _ _ _ _ _ ⟨fun _ => ?_, fun hz => absurd ( by show 3 ≤ M.1 180 4 - M.1 180 5; rw [esub]; exact nI_le (a := 3) (by omega) (by omega)) hz⟩
            refine hP _ _ _ _ _ ?_
            refine hP _ _ _ _ _ ?_
            refine hP _ _ _ _ _ ⟨(zi hn rfl rfl rfl), ?_⟩
            refine hP _ _ _ _ _ ?_
            refine hP _ _ _ _ _ ?_
            refine hP _ _ _ _ _ ⟨(zi hn rfl rfl rfl), ?_⟩
            refine hP _ _ _ _ _ ?_
            exact ih1
        · have e10 : M.2.1 180 10 = hB B s (min (i + 1) 7) := by rw [h10, show min i 7 = 7 by omega, show min (i + 1) 7 = 7 by omega]
          have e7 : M.1 180 7 = numI B s (min (i + 1) 3) := by rw [h7, show min i 3 = 3 by omega, show min (i + 1) 3 = 3 by omega]
          have ih1 := ih (i + 1) (zI M 180 4 (M.1 180 4 + 1)) (by omega) (by omega) (zfr_G4 fM (by omega)) (by rw [zI_s, h4]; exact e41) h5 e10 e7 (.int (B (s + i)))
          refine hP _ _ _ _ _ ?_
          refine hP _ _ _ _ _ ⟨(zi hn rfl rfl rfl), ?_⟩
          refine hP _ _ _ _ _ ?_
          refine hP _ _ _ _ _ ⟨(zi hn rfl rfl rfl), ?_⟩
          refine hP _ _ _ _ _ ?_
          refine hP _ _ _ _ _ ?_
          refine hP _ _ _ _ _ ⟨fun _ => ?_, fun hz => absurd ( by show 7 ≤ M.1 180 4 - M.1 180 5; rw [esub]; exact nI_le (a := 7) (by omega) (by omega)) hz⟩
          refine hP _ _ _ _ _ ?_
          refine hP _ _ _ _ _ ⟨(zi hn rfl rfl rfl), ?_⟩
          refine hP _ _ _ _ _ ?_
          refine hP _ _ _ _ _ ⟨(zi hn rfl rfl rfl), ?_⟩
          refine hP _ _ _ _ _ ?_
          refine hP _ _ _ _ _ ?_
          refine hP _ _ _ _ _ ⟨fun _ => ?_, fun hz => absurd ( by show 3 ≤ M.1 180 4 - M.1 180 5; rw [esub]; exact nI_le (a := 3) (by omega) (by omega)) hz⟩
          refine hP _ _ _ _ _ ?_
          refine hP _ _ _ _ _ ?_
          refine hP _ _ _ _ _ ⟨(zi hn rfl rfl rfl), ?_⟩
          refine hP _ _ _ _ _ ?_
          refine hP _ _ _ _ _ ?_
          refine hP _ _ _ _ _ ⟨(zi hn rfl rfl rfl), ?_⟩
          refine hP _ _ _ _ _ ?_
          exact ih1
      have good : ∀ v4, P 205 [.ref 180, .int (B s), .int (zb (ltr (B s))), .int (zb (gdB B s (ltr (B s)) i)), v4] [] n M := by
        intro v4
        refine hP _ _ _ _ _ ?_
        refine hP _ _ _ _ _ ⟨(zi hn rfl rfl rfl), _, fx_Model_tape hF, (by decide), ?_⟩
        refine hP _ _ _ _ _ ?_
        refine hP _ _ _ _ _ ⟨(zi hn rfl rfl rfl), ?_⟩
        refine hP _ _ _ _ _ ⟨_, s + i, (zi hn rfl rfl rfl), h4, by omega, ?_⟩
        rw [show M.1 181 (s + i) = B (s + i) by rw [hr]]
        refine hP _ _ _ _ _ ?_
        refine hP _ _ _ _ _ ?_
        refine hP _ _ _ _ _ ⟨fun h217 => ?_, fun h217 => ?_⟩
        ·
          refine hP _ _ _ _ _ ?_
          refine hP _ _ _ _ _ ?_
          first | exact tail 1 (by rw [gdB, zb_n.mp h217, decide_eq_true (zb_eq.mp h226)]; rfl) | exact tail 0 (by rw [gdB, zb_0.mp h217]; rfl) | exact tail 0 (by rw [gdB, decide_eq_false (fun z => h226 (zb_eq.mpr z)), Bool.and_false]; rfl)
        ·
          refine hP _ _ _ _ _ ?_
          refine hP _ _ _ _ _ ⟨Nat.le_of_ble_eq_true rfl, Nat.le_of_ble_eq_true rfl, ?_⟩
          refine ⟨_, rfl, ?_⟩
          refine hP _ _ _ _ _ ?_
          refine hP _ _ _ _ _ ⟨fun h226 => ?_, fun h226 => ?_⟩
          ·
            refine hP _ _ _ _ _ ?_
            refine hP _ _ _ _ _ ?_
            refine hP _ _ _ _ _ ?_
            first | exact tail 1 (by rw [gdB, zb_n.mp h217, decide_eq_true (zb_eq.mp h226)]; rfl) | exact tail 0 (by rw [gdB, zb_0.mp h217]; rfl) | exact tail 0 (by rw [gdB, decide_eq_false (fun z => h226 (zb_eq.mpr z)), Bool.and_false]; rfl)
          ·
            refine hP _ _ _ _ _ ?_
            refine hP _ _ _ _ _ ?_
            first | exact tail 1 (by rw [gdB, zb_n.mp h217, decide_eq_true (zb_eq.mp h226)]; rfl) | exact tail 0 (by rw [gdB, zb_0.mp h217]; rfl) | exact tail 0 (by rw [gdB, decide_eq_false (fun z => h226 (zb_eq.mpr z)), Bool.and_false]; rfl)
      refine hP _ _ _ _ _ ?_
      refine hP _ _ _ _ _ ?_
      refine hP _ _ _ _ _ ⟨(zi hn rfl rfl rfl), ?_⟩
      refine hP _ _ _ _ _ ⟨(zi hn rfl rfl rfl), Nat.le_of_ble_eq_true rfl, Nat.le_of_ble_eq_true rfl, ?_⟩
      refine ⟨s + i, by rw [← h4]; rfl, ⟨hn, hF⟩, fun z => Nat.lt_of_lt_of_le (Nat.not_le.mp fun y => z (by rw [r3 M fM]; exact nI_le y (by omega))) hsz8, ?_⟩
      rw [hv]
      refine hP _ _ _ _ _ ⟨Nat.le_of_ble_eq_true rfl, Nat.le_of_ble_eq_true rfl, ?_⟩
      refine ⟨_, rfl, ?_⟩
      refine hP _ _ _ _ _ ⟨fun h188 => ?_, fun h188 => ?_⟩
      ·
        have h188 := zb_0.mp h188
        refine hP _ _ _ _ _ ?_
        refine hP _ _ _ _ _ ?_
        refine hP _ _ _ _ _ ⟨(zi hn rfl rfl rfl), ?_⟩
        refine hP _ _ _ _ _ ⟨(zi hn rfl rfl rfl), Nat.le_of_ble_eq_true rfl, Nat.le_of_ble_eq_true rfl, ?_⟩
        refine ⟨s + i, by rw [← h4]; rfl, ⟨hn, hF⟩, fun z => Nat.lt_of_lt_of_le (Nat.not_le.mp fun y => z (by rw [r3 M fM]; exact nI_le y (by omega))) hsz8, ?_⟩
        rw [hv]
        refine hP _ _ _ _ _ ⟨Nat.le_of_ble_eq_true rfl, Nat.le_of_ble_eq_true rfl, ?_⟩
        refine ⟨_, rfl, ?_⟩
        refine hP _ _ _ _ _ ⟨fun h202 => ?_, fun h202 => ?_⟩
        ·  exact absurd hal (by unfold alnum; rw [h188, zb_0.mp h202]; decide)
        have h202 := zb_n.mp h202
        exact good _
      ·
        have h188 := zb_n.mp h188
        exact good _
  -- behind the blanks
  have mid : ∀ M, zfr sG mem M → ¬ (800 < sz ∧ 800 ≤ sk B sz p) → M.1 180 4 = nI (sk B sz p) → M.1 180 5 = nI (sk B sz p) → P 93 [.ref 180, .null, .null, .null, .null] [] n M := by
    intro M fM hno h4 h5
    have hF := zFx_G fM hF0
    have hr := rB M fM
    by_cases hlt : sk B sz p < sz
    · obtain ⟨htk, hst⟩ := tk_c hno hlt
      generalize sk B sz p = s at hno h4 h5 hlt htk hst hq1 hq2
      have fin : ∀ v, alnum (B s) = false → v = (if B s = 59 then 4 else 1) → Q none n (zI (zI M 180 6 v) 180 4 (M.1 180 4 + 1)) := by
        intro v ha hv
        have een : en B sz s = s := en_n (fun z => by rw [ha] at z; exact Bool.false_ne_true z.2)
        refine hQ _ (zfr_G4 (zfr_G4 fM (by omega)) (by omega)) ?_ ?_
        · rw [htk, hst]
          refine ⟨h5, ?_⟩
          by_cases h59 : B s = 59
          · rw [if_pos h59] at hv
            right; right; right; left
            refine ⟨if_pos h59, ?_⟩
            rw [zI_o (by omega), zI_s]; exact hv
          · rw [if_neg h59] at hv
            right; left
            refine ⟨by unfold tkC; rw [if_neg h59, if_pos een], Or.inl ?_⟩
            rw [zI_o (by omega), zI_s]; exact hv
        · intro h2
          rw [htk] at h2
          by_cases h59 : B s = 59
          · unfold nxP
            rw [hst, if_pos h59, zI_s, h4]; exact nI_1 _
          · unfold tkC at h2
            rw [if_neg h59, if_pos een] at h2; omega
      have word : alnum (B s) = true → ∀ v4, P 177 [.ref 180, .int (B s), .int (zb (ltr (B s))), .int 1, v4] [] n (zI (zJ M 180 10 0) 180 7 0) := fun ha v4 => loopB s hlt ha htk hst (en B sz s - s) 0 (zI (zJ M 180 10 0) 180 7 0) (by omega) (en_ge s) (zfr_G4 (fM.J ⟨rfl, Or.inr rfl⟩) (by omega)) h4 h5 rfl rfl v4
      refine hP _ _ _ _ _ ?_
      refine hP _ _ _ _ _ ⟨(zi hn rfl rfl rfl), ?_⟩
      refine hP _ _ _ _ _ ?_
      refine hP _ _ _ _ _ ⟨(zi hn rfl rfl rfl), ?_⟩
      refine hP _ _ _ _ _ ⟨fun _ => ?_, fun hz => absurd ( by rw [h4, r3 M fM]; exact nI_lt hlt (by omega)) hz⟩
      refine hP _ _ _ _ _ ?_
      refine hP _ _ _ _ _ ⟨(zi hn rfl rfl rfl), _, fx_Model_tape hF, (by decide), ?_⟩
      refine hP _ _ _ _ _ ?_
      refine hP _ _ _ _ _ ⟨(zi hn rfl rfl rfl), ?_⟩
      refine hP _ _ _ _ _ ⟨_, s, (zi hn rfl rfl rfl), h4, by omega, ?_⟩
      rw [show M.1 181 s = B s by rw [hr]]
      refine hP _ _ _ _ _ ?_
      refine hP _ _ _ _ _ ?_
      refine hP _ _ _ _ _ ⟨Nat.le_of_ble_eq_true rfl, Nat.le_of_ble_eq_true rfl, ?_⟩
      refine ⟨_, rfl, ?_⟩
      refine hP _ _ _ _ _ ⟨fun h124 => ?_, fun h124 => ?_⟩
      ·
        have h124 := zb_0.mp h124
        refine hP _ _ _ _ _ ?_
        refine hP _ _ _ _ _ ⟨Nat.le_of_ble_eq_true rfl, Nat.le_of_ble_eq_true rfl, ?_⟩
        refine ⟨_, rfl, ?_⟩
        refine hP _ _ _ _ _ ⟨fun h131 => ?_, fun h131 => ?_⟩
        ·
          have h131 := zb_0.mp h131
          refine hP _ _ _ _ _ ?_
          refine hP _ _ _ _ _ ?_
          refine hP _ _ _ _ _ ?_
          refine hP _ _ _ _ _ ⟨fun h138 => ?_, fun h138 => ?_⟩
          ·
            refine hP _ _ _ _ _ ?_
            refine hP _ _ _ _ _ ?_
            refine hP _ _ _ _ _ ⟨(zi hn rfl rfl rfl), ?_⟩
            refine hP _ _ _ _ _ ?_
            refine hP _ _ _ _ _ ?_
            refine hP _ _ _ _ _ ⟨(zi hn rfl rfl rfl), ?_⟩
            refine hP _ _ _ _ _ ?_
            refine hP _ _ _ _ _ ?_
            refine hP _ _ _ _ _ ⟨(zi hn rfl rfl rfl), ?_⟩
            refine hP _ _ _ _ _ ?_
            first | exact ⟨rfl, fin 4 (by unfold alnum; rw [h124, h131]; rfl) (by rw [if_pos h138])⟩ | exact ⟨rfl, fin 1 (by unfold alnum; rw [h124, h131]; rfl) (by rw [if_neg h138])⟩
          ·
            refine hP _ _ _ _ _ ?_
            refine hP _ _ _ _ _ ⟨(zi hn rfl rfl rfl), ?_⟩
            refine hP _ _ _ _ _ ?_
            refine hP _ _ _ _ _ ?_
            refine hP _ _ _ _ _ ⟨(zi hn rfl rfl rfl), ?_⟩
            refine hP _ _ _ _ _ ?_
            refine hP _ _ _ _ _ ?_
            refine hP _ _ _ _ _ ⟨(zi hn rfl rfl rfl), ?_⟩
            refine hP _ _ _ _ _ ?_
            first | exact ⟨rfl, fin 4 (by unfold alnum; rw [h124, h131]; rfl) (by rw [if_pos h138])⟩ | exact ⟨rfl, fin 1 (by unfold alnum; rw [h124, h131]; rfl) (by rw [if_neg h138])⟩
        ·
          have h131 := zb_n.mp h131
          refine hP _ _ _ _ _ ?_
          refine hP _ _ _ _ _ ⟨Nat.le_of_ble_eq_true rfl, Nat.le_of_ble_eq_true rfl, ?_⟩
          refine ⟨_, rfl, ?_⟩
          refine hP _ _ _ _ _ ?_
          refine hP _ _ _ _ _ ?_
          refine hP _ _ _ _ _ ?_
          refine hP _ _ _ _ _ ?_
          refine hP _ _ _ _ _ ?_
          refine hP _ _ _ _ _ ⟨(zi hn rfl rfl rfl), ?_⟩
          refine hP _ _ _ _ _ ?_
          refine hP _ _ _ _ _ ?_
          refine hP _ _ _ _ _ ⟨(zi hn rfl rfl rfl), ?_⟩
          first | exact word (by unfold alnum; rw [h124]; rfl) _ | exact word (by unfold alnum; rw [h131, Bool.or_true]) _
      ·
        have h124 := zb_n.mp h124
        refine hP _ _ _ _ _ ?_
        refine hP _ _ _ _ _ ⟨Nat.le_of_ble_eq_true rfl, Nat.le_of_ble_eq_true rfl, ?_⟩
        refine ⟨_, rfl, ?_⟩
        refine hP _ _ _ _ _ ?_
        refine hP _ _ _ _ _ ?_
        refine hP _ _ _ _ _ ?_
        refine hP _ _ _ _ _ ?_
        refine hP _ _ _ _ _ ?_
        refine hP _ _ _ _ _ ⟨(zi hn rfl rfl rfl), ?_⟩
        refine hP _ _ _ _ _ ?_
        refine hP _ _ _ _ _ ?_
        refine hP _ _ _ _ _ ⟨(zi hn rfl rfl rfl), ?_⟩
        first | exact word (by unfold alnum; rw [h124]; rfl) _ | exact word (by unfold alnum; rw [h131, Bool.or_true]) _
    · have h8 : ¬ 800 < sz := by omega
      obtain ⟨htk, hst⟩ := tk_b (B := B) h8 hps (by omega)
      refine hP _ _ _ _ _ ?_
      refine hP _ _ _ _ _ ⟨(zi hn rfl rfl rfl), ?_⟩
      refine hP _ _ _ _ _ ?_
      refine hP _ _ _ _ _ ⟨(zi hn rfl rfl rfl), ?_⟩
      refine hP _ _ _ _ _ ⟨fun hz => absurd hz ( by rw [h4, r3 M fM]; exact nI_nlt (by omega) (by omega)), fun _ => ?_⟩
      refine hP _ _ _ _ _ ?_
      refine hP _ _ _ _ _ ?_
      refine hP _ _ _ _ _ ⟨(zi hn rfl rfl rfl), ?_⟩
      refine hP _ _ _ _ _ ?_
      refine ⟨rfl, hQ _ (zfr_G4 fM (by omega)) ?_ (fun z => by omega)⟩
      rw [htk, hst]
      exact ⟨h5, Or.inl ⟨rfl, zI_s⟩⟩
  have after : ∀ M, zfr sG mem M → M.1 180 4 = nI (sk B sz p) → P 52 [.ref 180, .null, .null, .null, .null] [] n M := by
    intro M fM h4
    have h3 := r3 M fM
    have fN : zfr sG mem (zI M 180 5 (M.1 180 4)) := zfr_G4 fM (by omega)
    have h5 : (zI M 180 5 (M.1 180 4)).1 180 5 = nI (sk B sz p) := by rw [zI_s, h4]
    by_cases h8 : 800 < sz
    · by_cases hq8 : 800 ≤ sk B sz p
      · obtain ⟨htk, hst⟩ := tk_a h8 hq8
        refine hP _ _ _ _ _ ?_
        refine hP _ _ _ _ _ ?_
        refine hP _ _ _ _ _ ⟨(zi hn rfl rfl rfl), ?_⟩
        refine hP _ _ _ _ _ ⟨(zi hn rfl rfl rfl), ?_⟩
        refine hP _ _ _ _ _ ?_
        refine hP _ _ _ _ _ ⟨(zi hn rfl rfl rfl), ?_⟩
        refine hP _ _ _ _ _ ?_
        refine hP _ _ _ _ _ ⟨fun hz => absurd hz ( by show ¬ M.1 180 3 ≤ 800; rw [h3]; exact nI_ge (a := 800) h8 (by omega)), fun _ => ?_⟩
        refine hP _ _ _ _ _ ?_
        refine hP _ _ _ _ _ ⟨(zi hn rfl rfl rfl), ?_⟩
        refine hP _ _ _ _ _ ?_
        refine hP _ _ _ _ _ ⟨fun hz => absurd hz ( by rw [h5]; exact nI_nlt (b := 800) hq8 (by omega)), fun _ => ?_⟩
        refine hP _ _ _ _ _ ?_
        refine hP _ _ _ _ _ ?_
        refine hP _ _ _ _ _ ⟨(zi hn rfl rfl rfl), ?_⟩
        refine hP _ _ _ _ _ ?_
        refine hP _ _ _ _ _ ?_
        refine hP _ _ _ _ _ ⟨(zi hn rfl rfl rfl), ?_⟩
        refine hP _ _ _ _ _ ?_
        refine ⟨rfl, hQ _ (zfr_G4 (zfr_G4 fN (by omega)) (by omega)) ?_ (fun z => by omega)⟩
        rw [htk, hst]
        exact ⟨rfl, Or.inr (Or.inl ⟨rfl, Or.inl rfl⟩)⟩
      · have hno : ¬ (800 < sz ∧ 800 ≤ sk B sz p) := fun z => hq8 z.2
        refine hP _ _ _ _ _ ?_
        refine hP _ _ _ _ _ ?_
        refine hP _ _ _ _ _ ⟨(zi hn rfl rfl rfl), ?_⟩
        refine hP _ _ _ _ _ ⟨(zi hn rfl rfl rfl), ?_⟩
        refine hP _ _ _ _ _ ?_
        refine hP _ _ _ _ _ ⟨(zi hn rfl rfl rfl), ?_⟩
        refine hP _ _ _ _ _ ?_
        refine hP _ _ _ _ _ ⟨fun hz => absurd hz ( by show ¬ M.1 180 3 ≤ 800; rw [h3]; exact nI_ge (a := 800) h8 (by omega)), fun _ => ?_⟩
        refine hP _ _ _ _ _ ?_
        refine hP _ _ _ _ _ ⟨(zi hn rfl rfl rfl), ?_⟩
        refine hP _ _ _ _ _ ?_
        refine hP _ _ _ _ _ ⟨fun _ => ?_, fun hz => absurd ( by rw [h5]; exact nI_lt (b := 800) (by omega) (by omega)) hz⟩
        exact mid _ fN hno h4 h5
    · have hno : ¬ (800 < sz ∧ 800 ≤ sk B sz p) := fun z => h8 z.1
      refine hP _ _ _ _ _ ?_
      refine hP _ _ _ _ _ ?_
      refine hP _ _ _ _ _ ⟨(zi hn rfl rfl rfl), ?_⟩
      refine hP _ _ _ _ _ ⟨(zi hn rfl rfl rfl), ?_⟩
      refine hP _ _ _ _ _ ?_
      refine hP _ _ _ _ _ ⟨(zi hn rfl rfl rfl), ?_⟩
      refine hP _ _ _ _ _ ?_
      refine hP _ _ _ _ _ ⟨fun _ => ?_, fun hz => absurd ( by show M.1 180 3 ≤ 800; rw [h3]; exact nI_le (b := 800) (by omega) (by omega)) hz⟩
      exact mid _ fN hno h4 h5
  have loopA : ∀ d q M, sz - q = d → q ≤ sz → zfr sG mem M → M.1 180 4 = nI q → sk B sz q = sk B sz p → P 0 [.ref 180, .null, .null, .null, .null] [] n M := by
    intro d
    induction d with
    | zero =>
      intro q M hd hq fM h4 hsk
      have e : sk B sz p = q := by rw [← hsk]; exact sk_n (fun z => by omega)
      refine hP _ _ _ _ _ ?_
      refine hP _ _ _ _ _ ⟨(zi hn rfl rfl rfl), ?_⟩
      refine hP _ _ _ _ _ ?_
      refine hP _ _ _ _ _ ⟨(zi hn rfl rfl rfl), ?_⟩
      refine hP _ _ _ _ _ ⟨fun _ => ?_, fun hz => absurd ( by rw [h4, r3 M fM]; exact nI_le (by omega) (by omega)) hz⟩
      exact after M fM (by rw [e]; exact h4)
    | succ d ih =>
      intro q M hd hq fM h4 hsk
      have hF := zFx_G fM hF0
      have hr := rB M fM
      have yes : blk (B q) = true → P 0 [.ref 180, .null, .null, .null, .null] [] n (zI M 180 4 (M.1 180 4 + 1)) := fun hb => ih (q + 1) _ (by omega) (by omega) (zfr_G4 fM (by omega)) (by rw [zI_s, h4]; exact nI_1 q) (by rw [← sk_y (by omega) hb]; exact hsk)
      have no : blk (B q) = false → P 52 [.ref 180, .null, .null, .null, .null] [] n M := fun hb => after M fM (by rw [← hsk, sk_n (fun z => by rw [hb] at z; exact Bool.false_ne_true z.2)]; exact h4)
      have hr2 : M.1 181 q = B q := by rw [hr]
      refine hP _ _ _ _ _ ?_
      refine hP _ _ _ _ _ ⟨(zi hn rfl rfl rfl), ?_⟩
      refine hP _ _ _ _ _ ?_
      refine hP _ _ _ _ _ ⟨(zi hn rfl rfl rfl), ?_⟩
      refine hP _ _ _ _ _ ⟨fun hz => absurd hz ( by rw [h4, r3 M fM]; exact nI_ge (by omega) (by omega)), fun _ => ?_⟩
      refine hP _ _ _ _ _ ?_
      refine hP _ _ _ _ _ ⟨(zi hn rfl rfl rfl), _, fx_Model_tape hF, (by decide), ?_⟩
      refine hP _ _ _ _ _ ?_
      refine hP _ _ _ _ _ ⟨(zi hn rfl rfl rfl), ?_⟩
      refine hP _ _ _ _ _ ⟨_, q, (zi hn rfl rfl rfl), h4, by omega, ?_⟩
      refine hP _ _ _ _ _ ?_
      refine hP _ _ _ _ _ ⟨fun h22 => ?_, fun h22 => ?_⟩
      ·
        refine hP _ _ _ _ _ ?_
        refine hP _ _ _ _ _ ?_
        refine hP _ _ _ _ _ ⟨(zi hn rfl rfl rfl), ?_⟩
        refine hP _ _ _ _ _ ?_
        refine hP _ _ _ _ _ ?_
        refine hP _ _ _ _ _ ⟨(zi hn rfl rfl rfl), ?_⟩
        refine hP _ _ _ _ _ ?_
        first | exact yes (decide_eq_true (Or.inl (hr2.symm.trans h22))) | exact yes (decide_eq_true (Or.inr (hr2.symm.trans h36)))
      ·
        refine hP _ _ _ _ _ ?_
        refine hP _ _ _ _ _ ⟨(zi hn rfl rfl rfl), _, fx_Model_tape hF, (by decide), ?_⟩
        refine hP _ _ _ _ _ ?_
        refine hP _ _ _ _ _ ⟨(zi hn rfl rfl rfl), ?_⟩
        refine hP _ _ _ _ _ ⟨_, q, (zi hn rfl rfl rfl), h4, by omega, ?_⟩
        refine hP _ _ _ _ _ ?_
        refine hP _ _ _ _ _ ⟨fun h36 => ?_, fun h36 => ?_⟩
        ·
          refine hP _ _ _ _ _ ?_
          refine hP _ _ _ _ _ ?_
          refine hP _ _ _ _ _ ⟨(zi hn rfl rfl rfl), ?_⟩
          refine hP _ _ _ _ _ ?_
          refine hP _ _ _ _ _ ?_
          refine hP _ _ _ _ _ ⟨(zi hn rfl rfl rfl), ?_⟩
          refine hP _ _ _ _ _ ?_
          first | exact yes (decide_eq_true (Or.inl (hr2.symm.trans h22))) | exact yes (decide_eq_true (Or.inr (hr2.symm.trans h36)))
        ·
          exact no (decide_eq_false (fun z => z.elim (fun w => h22 (hr2.trans w)) (fun w => h36 (hr2.trans w))))
  exact loopA (sz - p) p mem rfl hps zfr.rf hp rfl
