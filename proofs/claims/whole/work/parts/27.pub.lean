/-- what the reference's questions may write -/
def sV (a b : Nat) : Prop := (a = 180 ∧ (b = 0 ∨ (30 ≤ b ∧ b ≤ 33) ∨ (37 ≤ b ∧ b ≤ 39))) ∨ (192 ≤ a ∧ a ≤ 195)
def sA (a b : Nat) : Prop := (a = 180 ∧ 37 ≤ b ∧ b ≤ 39) ∨ a = 195
theorem sA_V {a b : Nat} (h : sA a b) : sV a b := by
  rcases h with h | h
  · exact Or.inl ⟨h.1, by omega⟩
  · exact Or.inr (by omega)
theorem fr_see {M m : zM} {k d : Int32} (h : zfr sV M m) : zfr sV M (zsee m k d) := ((((h.I (Or.inl ⟨rfl, by omega⟩)).I (Or.inl ⟨rfl, by omega⟩)).I (Or.inl ⟨rfl, by omega⟩)).I (Or.inl ⟨rfl, by omega⟩))
theorem fr_vw {M m : zM} {np pw k : Nat} (h : zfr sV M m) : zfr sV M (zVw np pw k m) := by
  refine h.tr ⟨fun a b s => ?_, fun a b s => ?_, fun a b s => ?_⟩
  · have hn : nvw a := by
      refine ⟨?_, ?_, ?_⟩ <;> (intro e; exact s (Or.inr (by omega)))
    rw [zVw_row hn]
  · rw [zVw_2]
  · rw [zVw_2]
theorem fr_ask {M m : zM} {ps kd am : Int32} (h : zfr sA M m) : zfr sA M (zask m ps kd am) := (((h.I (Or.inl ⟨rfl, by omega⟩)).I (Or.inl ⟨rfl, by omega⟩)).I (Or.inl ⟨rfl, by omega⟩))
theorem fr_rw {M m : zM} {r : Nat → Int32} (h : zfr sA M m) : zfr sA M (zrw m 195 r) := by
  refine h.tr ⟨fun a b s => ?_, fun a b s => rfl, fun a b s => rfl⟩
  have : a ≠ 195 := fun e => s (Or.inr e)
  rw [zrw_at, if_neg this]
theorem zFx_fr {M m : zM} (h : zfr sV M m) (hF : zFx M) : zFx m := by
  have e : ∀ a b, ¬ sV a b → m.2.2 a b = M.2.2 a b := h.2.2
  have hl : ∀ q ∈ zfxl, ¬ sV q.1 q.2.1 := by unfold sV; decide +kernel
  refine ⟨fun q hq => (e _ _ (hl q hq)).trans (hF.1 q hq), fun p hp => ?_, fun a ha => ?_, ?_⟩
  · rw [e 137 p (by unfold sV; omega), e 159 p (by unfold sV; omega)]; exact hF.2.1 p hp
  · rw [e 119 a (by unfold sV; omega)]; exact hF.2.2.1 a ha
  · rw [e 100 8 (by unfold sV; omega), e 100 9 (by unfold sV; omega)]; exact hF.2.2.2
theorem zRo_fr {M m : zM} {np pw : Nat} (h : zfr sV M m) (hR : zRo (M.1 180) (M.1 182) (M.1 188) np pw) : zRo (m.1 180) (m.1 182) (m.1 188) np pw := by
  have e2 : m.1 182 = M.1 182 := by funext b; exact h.1 182 b (by unfold sV; omega)
  have e8 : m.1 188 = M.1 188 := by funext b; exact h.1 188 b (by unfold sV; omega)
  obtain ⟨r1, r2, r3, r4, r5, r6⟩ := hR
  exact ⟨(h.1 180 13 (by unfold sV; omega)).trans r1, r2, (h.1 180 15 (by unfold sV; omega)).trans r3, r4, by rw [e2]; exact r5, by rw [e8]; exact r6⟩
theorem zVr_ask {M m : zM} {ps kd am : Int32} (h : zfr sA M m) : zVr (zask m ps kd am) = zVr (zask M ps kd am) := by
  have row : ∀ a, a ≠ 180 → a ≠ 195 → m.1 a = M.1 a := fun a h1 h2 => by funext b; exact h.1 a b (by unfold sA; omega)
  have r0 : (zask m ps kd am).1 180 = (zask M ps kd am).1 180 := by
    funext b
    by_cases e1 : b = 39
    · subst e1; simp [zask, zI_at]
    · by_cases e2 : b = 38
      · subst e2; simp [zask, zI_at]
      · by_cases e3 : b = 37
        · subst e3; simp [zask, zI_at]
        · simp [zask, zI_at, e1, e2, e3]; exact h.1 180 b (by unfold sA; omega)
  unfold zVr
  rw [r0]
  show (_, m.1 182, m.1 187, m.1 192, m.1 193, m.1 194) = (_, M.1 182, M.1 187, M.1 192, M.1 193, M.1 194)
  rw [row 182 (by omega) (by omega), row 187 (by omega) (by omega), row 192 (by omega) (by omega), row 193 (by omega) (by omega), row 194 (by omega) (by omega)]
/-- the reference seen now -/
def zNow (mem : zM) (np pw k : Nat) : zM := zVw np pw k (zsee mem (nI k) (mem.1 180 28))
def canN (M : zM) (np pw q : Nat) (ps kd am : Int32) : Int32 := canM np pw (zVr (zask M ps kd am)) 3 q
/-- the reference as it stands between calls: counts, rows -/
def zMi (n : Nat) (mem : zM) (np pw m na : Nat) : Prop := zst n mem ∧ zMc mem np pw m na ∧ zRo (mem.1 180) (mem.1 182) (mem.1 188) np pw
def k_X11_scope : zCt := fun as n mem Q => ∃ (p w z : Int32) (np pw m na : Nat), as = [.ref 180, .int p, .int w, .int z] ∧ zst n mem ∧ (fun mem : zM => zMi n mem np pw m na ∧
    (if isin p 0 (mem.1 180 15 - 1) = false ∨ isin w 0 (mem.1 180 27) = false ∨ isin z 0 2 = false then Q (some (.int (-1))) n mem
     else ∀ V, V = zVw np pw (ix w) (zsee mem w (mem.1 184 (ix w))) → Q (some (.int (if z = 0 then zb (!bt (V.1 180 32) (ix p) && decide (V.1 192 (ix p) = 0)) else if z = 1 then V.1 193 (ix p) else V.1 194 (ix p)))) n V)) (zI mem 180 0 0)
theorem ok_X11_scope {l : Launch} {G : zG} : zOK l G yX11_scope cX11_scope 4 (some .int) 6 0 0 k_X11_scope := by
  intro as n mem Q hK
  obtain ⟨p, w, z, np, pw, m, na, rfl, ⟨hn, hF⟩, hQ⟩ := hK
  refine mtX11_scope ok_X11_isPower (by decide) ok_X11_isMoment (by decide) ok_X11_isIn (by decide) ok_X11_sees (by decide) ok_X11_isLive (by decide) (List.forall_mem_cons.mpr ⟨rfl, List.forall_mem_cons.mpr ⟨rfl, List.forall_mem_cons.mpr ⟨rfl, List.forall_mem_cons.mpr ⟨rfl, fun _ h => absurd h List.not_mem_nil⟩⟩⟩⟩) (by simp) rfl (fun P hP => ?_)
  show P 0 [.ref 180, .int p, .int w, .int z] [] n mem
  refine hP _ _ _ _ _ ?_
  refine hP _ _ _ _ _ ?_
  refine hP _ _ _ _ _ ⟨(zi hn rfl rfl rfl), ?_⟩
  show P 5 [.ref 180, .int p, .int w, .int z] [] n (zI mem 180 0 0)
  have hF : zFx (zI mem 180 0 0) := hF
  generalize zI mem 180 0 0 = mem at *
  obtain ⟨⟨-, ⟨c1, c2, c3, c4, c5, c6, c7, c8⟩, hR⟩, hQ⟩ := hQ
  refine hP _ _ _ _ _ ?_
  refine hP _ _ _ _ _ ?_
  refine hP _ _ _ _ _ ⟨(zi hn rfl rfl rfl), Nat.le_of_ble_eq_true rfl, Nat.le_of_ble_eq_true rfl, ?_⟩
  refine ⟨_, rfl, ⟨hn, hF⟩, ?_⟩
  refine hP _ _ _ _ _ ⟨fun h10 => ?_, fun h10 => ?_⟩
  ·
    have h10 := zb_0.mp h10
    refine hP _ _ _ _ _ ?_
    refine hP _ _ _ _ _ ?_
    exact ⟨rfl, by simpa [h10] using hQ⟩
  ·
    have h10 := zb_n.mp h10
    refine hP _ _ _ _ _ ?_
    refine hP _ _ _ _ _ ?_
    refine hP _ _ _ _ _ ⟨(zi hn rfl rfl rfl), Nat.le_of_ble_eq_true rfl, Nat.le_of_ble_eq_true rfl, ?_⟩
    refine ⟨_, rfl, ⟨hn, hF⟩, ?_⟩
    refine hP _ _ _ _ _ ⟨fun h18 => ?_, fun h18 => ?_⟩
    ·
      have h18 := zb_0.mp h18
      refine hP _ _ _ _ _ ?_
      refine hP _ _ _ _ _ ?_
      exact ⟨rfl, by simpa [h10, h18] using hQ⟩
    ·
      have h18 := zb_n.mp h18
      refine hP _ _ _ _ _ ?_
      refine hP _ _ _ _ _ ?_
      refine hP _ _ _ _ _ ?_
      refine hP _ _ _ _ _ ⟨Nat.le_of_ble_eq_true rfl, Nat.le_of_ble_eq_true rfl, ?_⟩
      refine ⟨_, _, _, rfl, ?_⟩
      refine hP _ _ _ _ _ ⟨fun h27 => ?_, fun h27 => ?_⟩
      ·
        have h27 := zb_0.mp h27
        refine hP _ _ _ _ _ ?_
        refine hP _ _ _ _ _ ?_
        exact ⟨rfl, by simpa [h10, h18, h27] using hQ⟩
      ·
        have h27 := zb_n.mp h27
        obtain ⟨j, hj, rfl⟩ := isin_nI (by omega) (c3 ▸ h10)
        obtain ⟨k, hk, rfl⟩ := isin_N (c := m) (by omega) (c5 ▸ h18)
        have hx := ix_nI (j := j) (by omega)
        have hy := ix_nI (j := k) (by omega)
        simp only [h10, h18, h27, hx, hy, Bool.true_eq_false, or_self, if_false] at hQ
        have hQ := hQ _ rfl
        refine hP _ _ _ _ _ ?_
        refine hP _ _ _ _ _ ?_
        refine hP _ _ _ _ _ ?_
        refine hP _ _ _ _ _ ⟨(zi hn rfl rfl rfl), _, fx_Model_dayOf hF, (by decide), ?_⟩
        refine hP _ _ _ _ _ ?_
        refine hP _ _ _ _ _ ⟨_, k, (zi hn rfl rfl rfl), rfl, by omega, ?_⟩
        refine hP _ _ _ _ _ ⟨(zi hn rfl rfl rfl), Nat.le_of_ble_eq_true rfl, Nat.le_of_ble_eq_true rfl, ?_⟩
        refine ⟨k, np, pw, _, rfl, by omega, ⟨hn, hF⟩, hR, ?_⟩
        have hF : zFx (zVw np pw k (zsee mem (nI k) (mem.1 184 k))) := zFx_fr (fr_vw (fr_see zfr.rf)) hF
        generalize zVw np pw k (zsee mem (nI k) (mem.1 184 k)) = V at hQ hF ⊢
        refine hP _ _ _ _ _ ?_
        refine hP _ _ _ _ _ ⟨fun h44 => ?_, fun h44 => ?_⟩
        ·
          refine hP _ _ _ _ _ ?_
          refine hP _ _ _ _ _ ?_
          refine hP _ _ _ _ _ ⟨(zi hn rfl rfl rfl), Nat.le_of_ble_eq_true rfl, Nat.le_of_ble_eq_true rfl, ?_⟩
          refine ⟨j, rfl, by omega, ⟨hn, hF⟩, ?_⟩
          refine hP _ _ _ _ _ ⟨fun h52 => ?_, fun h52 => ?_⟩
          ·
            have h52 := zb_0.mp h52
            refine hP _ _ _ _ _ ?_
            refine hP _ _ _ _ _ ?_
            refine hP _ _ _ _ _ ?_
            exact ⟨rfl, by simpa [zb, h10, h18, h27, h44, h52] using hQ⟩
          ·
            have h52 := zb_n.mp h52
            refine hP _ _ _ _ _ ?_
            refine hP _ _ _ _ _ ?_
            refine hP _ _ _ _ _ ?_
            exact ⟨rfl, by simpa [zb, h10, h18, h27, h44, h52] using hQ⟩
        ·
          refine hP _ _ _ _ _ ?_
          refine hP _ _ _ _ _ ?_
          refine hP _ _ _ _ _ ⟨fun h65 => ?_, fun h65 => ?_⟩
          ·
            refine hP _ _ _ _ _ ?_
            refine hP _ _ _ _ _ ⟨(zi hn rfl rfl rfl), _, fx_Model_kindsNow hF, (by decide), ?_⟩
            refine hP _ _ _ _ _ ?_
            refine hP _ _ _ _ _ ⟨_, j, (zi hn rfl rfl rfl), rfl, by omega, ?_⟩
            refine hP _ _ _ _ _ ?_
            refine hP _ _ _ _ _ ?_
            exact ⟨rfl, by simpa [zb, h10, h18, h27, h44, h65] using hQ⟩
          ·
            refine hP _ _ _ _ _ ?_
            refine hP _ _ _ _ _ ⟨(zi hn rfl rfl rfl), _, fx_Model_mostNow hF, (by decide), ?_⟩
            refine hP _ _ _ _ _ ?_
            refine hP _ _ _ _ _ ⟨_, j, (zi hn rfl rfl rfl), rfl, by omega, ?_⟩
            refine hP _ _ _ _ _ ?_
            exact ⟨rfl, by simpa [zb, h10, h18, h27, h44, h65] using hQ⟩
def k_X11_over : zCt := fun as n mem Q => ∃ (p : Int32) (np pw m na : Nat), as = [.ref 180, .int p] ∧ zst n mem ∧ (fun mem : zM => zMi n mem np pw m na ∧
    (if isin p 0 (mem.1 180 15 - 1) = false then Q (some (.int (-1))) n mem else Q (some (.int ((zNow mem np pw m).1 192 (ix p)))) n (zNow mem np pw m))) (zI mem 180 0 0)
theorem ok_X11_over {l : Launch} {G : zG} : zOK l G yX11_over cX11_over 2 (some .int) 7 0 0 k_X11_over := by
  intro as n mem Q hK
  obtain ⟨p, np, pw, m, na, rfl, ⟨hn, hF⟩, hQ⟩ := hK
  refine mtX11_over ok_X11_isPower (by decide) ok_X11_seesNow (by decide) (List.forall_mem_cons.mpr ⟨rfl, List.forall_mem_cons.mpr ⟨rfl, fun _ h => absurd h List.not_mem_nil⟩⟩) (by simp) rfl (fun P hP => ?_)
  show P 0 [.ref 180, .int p] [] n mem
  refine hP _ _ _ _ _ ?_
  refine hP _ _ _ _ _ ?_
  refine hP _ _ _ _ _ ⟨(zi hn rfl rfl rfl), ?_⟩
  show P 5 [.ref 180, .int p] [] n (zI mem 180 0 0)
  have hF : zFx (zI mem 180 0 0) := hF
  generalize zI mem 180 0 0 = mem at *
  obtain ⟨⟨-, ⟨c1, c2, c3, c4, c5, c6, c7, c8⟩, hR⟩, hQ⟩ := hQ
  refine hP _ _ _ _ _ ?_
  refine hP _ _ _ _ _ ?_
  refine hP _ _ _ _ _ ⟨(zi hn rfl rfl rfl), Nat.le_of_ble_eq_true rfl, Nat.le_of_ble_eq_true rfl, ?_⟩
  refine ⟨_, rfl, ⟨hn, hF⟩, ?_⟩
  refine hP _ _ _ _ _ ⟨fun h10 => ?_, fun h10 => ?_⟩
  ·
    have h10 := zb_0.mp h10
    refine hP _ _ _ _ _ ?_
    refine hP _ _ _ _ _ ?_
    exact ⟨rfl, by simpa [h10] using hQ⟩
  ·
    have h10 := zb_n.mp h10
    obtain ⟨j, hj, rfl⟩ := isin_nI (by omega) (c3 ▸ h10)
    have hx := ix_nI (j := j) (by omega)
    simp only [h10, hx, Bool.true_eq_false, if_false] at hQ
    refine hP _ _ _ _ _ ?_
    refine hP _ _ _ _ _ ⟨(zi hn rfl rfl rfl), Nat.le_of_ble_eq_true rfl, Nat.le_of_ble_eq_true rfl, ?_⟩
    refine ⟨m, np, pw, rfl, c5, by omega, ⟨hn, hF⟩, hR, ?_⟩
    have hF : zFx (zNow mem np pw m) := zFx_fr (fr_vw (fr_see zfr.rf)) hF
    unfold zNow at hQ hF
    generalize zVw np pw m (zsee mem (nI m) (mem.1 180 28)) = V at hQ hF ⊢
    refine hP _ _ _ _ _ ?_
    refine hP _ _ _ _ _ ⟨(zi hn rfl rfl rfl), _, fx_Model_whyNow hF, (by decide), ?_⟩
    refine hP _ _ _ _ _ ?_
    refine hP _ _ _ _ _ ⟨_, j, (zi hn rfl rfl rfl), rfl, by omega, ?_⟩
    refine hP _ _ _ _ _ ?_
    exact ⟨rfl, hQ⟩
theorem asked_in {f : Nat → Int32} {ps pt kd am : Int32} {np : Nat} (hnp : f 13 = nI np) (h8 : np ≤ 8) (h : askedM f ps pt kd am = true) : (∃ q, q < np ∧ pt = nI q) ∧ (∃ c, c < 6 ∧ kd = nI c) ∧ ∃ a, a ≤ 999 ∧ am = nI a := by
  simp only [askedM, Bool.and_eq_true] at h
  obtain ⟨a1, a2, a3, -⟩ := h
  obtain ⟨q, hq, e1⟩ := isin_nI (c := np) (by omega) (hnp ▸ a1)
  obtain ⟨c, hc, e2⟩ := isin_N (c := 5) (by omega) a2
  obtain ⟨a, ha, e3⟩ := isin_N (c := 999) (by omega) a3
  exact ⟨⟨q, hq, e1⟩, ⟨c, by omega, e2⟩, ⟨a, ha, e3⟩⟩
def k_X11_can : zCt := fun as n mem Q => ∃ (ps pt kd am : Int32) (np pw m na : Nat), as = [.ref 180, .int ps, .int pt, .int kd, .int am] ∧ zst n mem ∧ (fun mem : zM => zMi n mem np pw m na ∧
    (if askedM (mem.1 180) ps pt kd am = false then Q (some (.int (-1))) n mem
     else ∀ V, zfr sV mem V → Q (some (.int (if canN (zNow mem np pw m) np pw (ix pt) ps kd am = -1 then -2 else canN (zNow mem np pw m) np pw (ix pt) ps kd am))) n V)) (zI mem 180 0 0)
theorem ok_X11_can {l : Launch} {G : zG} : zOK l G yX11_can cX11_can 6 (some .int) 11 0 0 k_X11_can := by
  intro as n mem Q hK
  obtain ⟨ps, pt, kd, am, np, pw, m, na, rfl, ⟨hn, hF⟩, hQ⟩ := hK
  refine mtX11_can ok_X11_isAsked (by decide) ok_X11_seesNow (by decide) ok_X11_can0 (by decide) (List.forall_mem_cons.mpr ⟨rfl, List.forall_mem_cons.mpr ⟨rfl, List.forall_mem_cons.mpr ⟨rfl, List.forall_mem_cons.mpr ⟨rfl, List.forall_mem_cons.mpr ⟨rfl, fun _ h => absurd h List.not_mem_nil⟩⟩⟩⟩⟩) (by simp) rfl (fun P hP => ?_)
  show P 0 [.ref 180, .int ps, .int pt, .int kd, .int am, .null] [] n mem
  refine hP _ _ _ _ _ ?_
  refine hP _ _ _ _ _ ?_
  refine hP _ _ _ _ _ ⟨(zi hn rfl rfl rfl), ?_⟩
  show P 5 [.ref 180, .int ps, .int pt, .int kd, .int am, .null] [] n (zI mem 180 0 0)
  have hF : zFx (zI mem 180 0 0) := hF
  generalize zI mem 180 0 0 = mem at *
  obtain ⟨⟨-, ⟨c1, c2, c3, c4, c5, c6, c7, c8⟩, hR⟩, hQ⟩ := hQ
  refine hP _ _ _ _ _ ?_
  refine hP _ _ _ _ _ ?_
  refine hP _ _ _ _ _ ?_
  refine hP _ _ _ _ _ ?_
  refine hP _ _ _ _ _ ?_
  refine hP _ _ _ _ _ ⟨(zi hn rfl rfl rfl), Nat.le_of_ble_eq_true rfl, Nat.le_of_ble_eq_true rfl, ?_⟩
  refine ⟨_, _, _, _, rfl, ⟨hn, hF⟩, ?_⟩
  refine hP _ _ _ _ _ ⟨fun h14 => ?_, fun h14 => ?_⟩
  ·
    have h14 := zb_0.mp h14
    refine hP _ _ _ _ _ ?_
    refine hP _ _ _ _ _ ?_
    exact ⟨rfl, by simpa [h14] using hQ⟩
  ·
    have h14 := zb_n.mp h14
    obtain ⟨⟨q, hq, rfl⟩, ⟨c, hc, rfl⟩, ⟨a, ha, rfl⟩⟩ := asked_in c1 c2 h14
    have hx := ix_nI (j := q) (by omega)
    simp only [h14, hx, Bool.true_eq_false, if_false] at hQ
    refine hP _ _ _ _ _ ?_
    refine hP _ _ _ _ _ ⟨(zi hn rfl rfl rfl), Nat.le_of_ble_eq_true rfl, Nat.le_of_ble_eq_true rfl, ?_⟩
    refine ⟨m, np, pw, rfl, c5, by omega, ⟨hn, hF⟩, hR, ?_⟩
    have fV : zfr sV mem (zNow mem np pw m) := fr_vw (fr_see zfr.rf)
    have hF := zFx_fr fV hF
    have hR := zRo_fr fV hR
    unfold zNow at hQ hF hR fV
    generalize zVw np pw m (zsee mem (nI m) (mem.1 180 28)) = V at hQ hF hR fV ⊢
    refine hP _ _ _ _ _ ?_
    refine hP _ _ _ _ _ ?_
    refine hP _ _ _ _ _ ?_
    refine hP _ _ _ _ _ ?_
    refine hP _ _ _ _ _ ?_
    refine hP _ _ _ _ _ ⟨(zi hn rfl rfl rfl), Nat.le_of_ble_eq_true rfl, Nat.le_of_ble_eq_true rfl, ?_⟩
    refine ⟨ps, q, c, np, pw, _, rfl, by omega, hc, ⟨hn, hF⟩, hR, fun r hr => ?_⟩
    have hQ := hQ (zrw (zask V ps (nI c) (nI a)) 195 r) (fV.tr ((fr_rw (fr_ask zfr.rf)).mono fun _ _ => sA_V))
    unfold canN at hQ
    refine hP _ _ _ _ _ ?_
    refine hP _ _ _ _ _ ?_
    refine hP _ _ _ _ _ ?_
    refine hP _ _ _ _ _ ⟨fun h37 => ?_, fun h37 => ?_⟩
    ·
      refine hP _ _ _ _ _ ?_
      refine hP _ _ _ _ _ ?_
      refine hP _ _ _ _ _ ?_
      exact ⟨rfl, by simpa [h14, h37] using hQ⟩
    ·
      refine hP _ _ _ _ _ ?_
      refine hP _ _ _ _ _ ?_
      exact ⟨rfl, by simpa [h14, h37] using hQ⟩
