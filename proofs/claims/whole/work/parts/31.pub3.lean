def zAa (mem : zM) (na : Nat) : Prop := ∀ a, a < na → zAr (mem.1 191) a ∧ ∀ h, h < 8 → bt (mem.1 180 14) h = true → bt (mem.1 191 (9 * a)) h = false
def k_X11_binds : zCt := fun as n mem Q => ∃ (a m : Int32) (np pw mo na : Nat), as = [.ref 180, .int a, .int m] ∧ zst n mem ∧ (fun mem : zM => zMi n mem np pw mo na ∧ zAa mem na ∧
    (if isin a 0 (mem.1 180 29 - 1) = false ∨ isin m 0 (mem.1 180 27) = false ∨ m < mem.1 191 (9 * ix a + 5) then Q (some (.int (-1))) n mem else ∀ S, zfr sV mem S → Q (some (.int (bAt mem np pw (ix a) m))) n S)) (zI mem 180 0 0)
theorem ok_X11_binds {l : Launch} {G : zG} : zOK l G yX11_binds cX11_binds 3 (some .int) 14 0 0 k_X11_binds := by
  intro as n mem Q hK
  obtain ⟨a, m, np, pw, mo, na, rfl, ⟨hn, hF⟩, hQ⟩ := hK
  refine mtX11_binds ok_X11_isAct (by decide) ok_X11_isMoment (by decide) ok_X11_its (by decide) ok_X11_bindsAt (by decide) (List.forall_mem_cons.mpr ⟨rfl, List.forall_mem_cons.mpr ⟨rfl, List.forall_mem_cons.mpr ⟨rfl, fun _ h => absurd h List.not_mem_nil⟩⟩⟩) (by simp) rfl (fun P hP => ?_)
  show P 0 [.ref 180, .int a, .int m] [] n mem
  refine hP _ _ _ _ _ ?_
  refine hP _ _ _ _ _ ?_
  refine hP _ _ _ _ _ ⟨(zi hn rfl rfl rfl), ?_⟩
  show P 5 [.ref 180, .int a, .int m] [] n (zI mem 180 0 0)
  have hF : zFx (zI mem 180 0 0) := hF
  generalize zI mem 180 0 0 = mem at *
  obtain ⟨⟨-, ⟨c1, c2, c3, c4, c5, c6, c7, c8⟩, hR⟩, hA, hQ⟩ := hQ
  refine hP _ _ _ _ _ ?_
  refine hP _ _ _ _ _ ?_
  refine hP _ _ _ _ _ ⟨(zi hn rfl rfl rfl), Nat.le_of_ble_eq_true rfl, Nat.le_of_ble_eq_true rfl, ?_⟩
  refine ⟨_, rfl, ⟨hn, hF⟩, ?_⟩
  refine hP _ _ _ _ _ ⟨fun h10 => ?_, fun h10 => ?_⟩
  ·
    have h10 := zb_0.mp h10
    refine hP _ _ _ _ _ ?_
    refine hP _ _ _ _ _ ?_
    first | exact ⟨rfl, hQ⟩ | exact ⟨rfl, by simpa [h10] using hQ⟩
  ·
    have h10 := zb_n.mp h10
    refine hP _ _ _ _ _ ?_
    refine hP _ _ _ _ _ ?_
    refine hP _ _ _ _ _ ⟨(zi hn rfl rfl rfl), Nat.le_of_ble_eq_true rfl, Nat.le_of_ble_eq_true rfl, ?_⟩
    refine ⟨_, rfl, ⟨hn, hF⟩, ?_⟩
    refine hP _ _ _ _ _ ⟨fun h18 => ?_, fun h18 => ?_⟩
    ·
      have h18 := zb_0.mp h18
      refine hP _ _ _ _ _ ?_
      refine hP _ _ _ _ _ ?_
      first | exact ⟨rfl, hQ⟩ | exact ⟨rfl, by simpa [h10, h18] using hQ⟩
    ·
      have h18 := zb_n.mp h18
      obtain ⟨j, hj, rfl⟩ := isin_nI (by omega) (c7 ▸ h10)
      have hx := ix_nI (j := j) (by omega)
      refine hP _ _ _ _ _ ?_
      refine hP _ _ _ _ _ ?_
      refine hP _ _ _ _ _ ?_
      refine hP _ _ _ _ _ ?_
      refine hP _ _ _ _ _ ⟨(zi hn rfl rfl rfl), Nat.le_of_ble_eq_true rfl, Nat.le_of_ble_eq_true rfl, ?_⟩
      refine ⟨j, 5, rfl, by omega, by omega, ⟨hn, hF⟩, ?_⟩
      refine hP _ _ _ _ _ ⟨fun h28 => ?_, fun h28 => ?_⟩
      ·
        refine hP _ _ _ _ _ ?_
        refine hP _ _ _ _ _ ?_
        first | exact ⟨rfl, hQ⟩ | exact ⟨rfl, by simpa [h10, h18, hx, h28] using hQ⟩
      ·
        refine hP _ _ _ _ _ ?_
        refine hP _ _ _ _ _ ?_
        refine hP _ _ _ _ _ ?_
        refine hP _ _ _ _ _ ⟨(zi hn rfl rfl rfl), Nat.le_of_ble_eq_true rfl, Nat.le_of_ble_eq_true rfl, ?_⟩
        refine ⟨j, np, pw, _, mem, rfl, by omega, ⟨hn, hF⟩, hR, (hA j hj).1, zfr.rf, fun S fS => ?_⟩
        simp only [h10, h18, h28, hx, Bool.true_eq_false, or_self, if_false] at hQ
        have hQ := hQ S fS
        refine hP _ _ _ _ _ ?_
        refine hP _ _ _ _ _ ?_
        first | exact ⟨rfl, hQ⟩ | exact ⟨rfl, by simpa [h10, h18, hx, h28] using hQ⟩
def k_X11_used : zCt := fun as n mem Q => ∃ (a : Int32) (np pw mo na : Nat), as = [.ref 180, .int a] ∧ zst n mem ∧ (fun mem : zM => zMi n mem np pw mo na ∧ zAa mem na ∧
    (if isin a 0 (mem.1 180 29 - 1) = false then Q (some (.int (-1))) n mem else ∀ S, zfr sV mem S → Q (some (.int (if bThen mem np pw (ix a) = 0 then 0 else usM np pw (vA mem np 0 (thA mem np pw (ix a)) (ix a) (mem.1 191 (9 * ix a)) (mem.1 191 (9 * ix a + 3)) (mem.1 191 (9 * ix a + 4))) 3 (ix (mem.1 191 (9 * ix a + 1)))))) n S)) (zI mem 180 0 0)
theorem ok_X11_usedBy {l : Launch} {G : zG} : zOK l G yX11_usedBy cX11_usedBy 6 (some .int) 10 0 0 (kUb 3) := ub_all 3
theorem ok_X11_used {l : Launch} {G : zG} : zOK l G yX11_used cX11_used 2 (some .int) 13 0 0 k_X11_used := by
  intro as n mem Q hK
  obtain ⟨a, np, pw, mo, na, rfl, ⟨hn, hF⟩, hQ⟩ := hK
  refine mtX11_used ok_X11_isAct (by decide) ok_X11_bindsThen (by decide) ok_X11_its (by decide) ok_X11_usedBy (by decide) (List.forall_mem_cons.mpr ⟨rfl, List.forall_mem_cons.mpr ⟨rfl, fun _ h => absurd h List.not_mem_nil⟩⟩) (by simp) rfl (fun P hP => ?_)
  show P 0 [.ref 180, .int a] [] n mem
  refine hP _ _ _ _ _ ?_
  refine hP _ _ _ _ _ ?_
  refine hP _ _ _ _ _ ⟨(zi hn rfl rfl rfl), ?_⟩
  show P 5 [.ref 180, .int a] [] n (zI mem 180 0 0)
  have hF : zFx (zI mem 180 0 0) := hF
  generalize zI mem 180 0 0 = mem at *
  obtain ⟨⟨-, ⟨c1, c2, c3, c4, c5, c6, c7, c8⟩, hR⟩, hA, hQ⟩ := hQ
  refine hP _ _ _ _ _ ?_
  refine hP _ _ _ _ _ ?_
  refine hP _ _ _ _ _ ⟨(zi hn rfl rfl rfl), Nat.le_of_ble_eq_true rfl, Nat.le_of_ble_eq_true rfl, ?_⟩
  refine ⟨_, rfl, ⟨hn, hF⟩, ?_⟩
  refine hP _ _ _ _ _ ⟨fun h10 => ?_, fun h10 => ?_⟩
  ·
    have h10 := zb_0.mp h10
    refine hP _ _ _ _ _ ?_
    refine hP _ _ _ _ _ ?_
    exact ⟨rfl, by simpa [h10] using hQ⟩
  ·
    have h10 := zb_n.mp h10
    obtain ⟨j, hj, rfl⟩ := isin_nI (by omega) (c7 ▸ h10)
    have hx := ix_nI (j := j) (by omega)
    simp only [h10, hx, Bool.true_eq_false, if_false] at hQ
    obtain ⟨hAr, hAp⟩ := hA j hj
    obtain ⟨⟨q, hq8, hq⟩, -, ⟨c, hc6, hc⟩, -⟩ := id hAr
    have hxq := ix_nI (j := q) (by omega)
    refine hP _ _ _ _ _ ?_
    refine hP _ _ _ _ _ ?_
    refine hP _ _ _ _ _ ⟨(zi hn rfl rfl rfl), Nat.le_of_ble_eq_true rfl, Nat.le_of_ble_eq_true rfl, ?_⟩
    refine ⟨j, np, pw, mem, rfl, by omega, ⟨hn, hF⟩, hR, hAr, zfr.rf, fun S fS hM _ hvS h37 h38 => ?_⟩
    have hF := zFx_fr fS hF
    have hR := zRo_fr fS hR
    have r1 := row_V fS (a := 191) (by omega)
    have f14 : S.1 180 14 = mem.1 180 14 := fS.1 180 14 (by unfold sV; omega)
    refine hP _ _ _ _ _ ⟨fun h20 => ?_, fun h20 => ?_⟩
    ·
      refine hP _ _ _ _ _ ?_
      refine hP _ _ _ _ _ ?_
      refine hP _ _ _ _ _ ?_
      first | exact ⟨rfl, by simpa [h20] using hQ1⟩ | exact ⟨rfl, by simpa [h20] using hQ S fS⟩
    ·
      refine hP _ _ _ _ _ ?_
      refine hP _ _ _ _ _ ?_
      refine hP _ _ _ _ _ ?_
      refine hP _ _ _ _ _ ?_
      refine hP _ _ _ _ _ ⟨(zi hn rfl rfl rfl), Nat.le_of_ble_eq_true rfl, Nat.le_of_ble_eq_true rfl, ?_⟩
      refine ⟨j, 1, rfl, by omega, by omega, ⟨hn, hF⟩, ?_⟩
      refine hP _ _ _ _ _ ?_
      refine hP _ _ _ _ _ ⟨(zi hn rfl rfl rfl), Nat.le_of_ble_eq_true rfl, Nat.le_of_ble_eq_true rfl, ?_⟩
      refine ⟨q, np, pw, by rw [← hq, ← r1]; rfl, by omega, hq8, ⟨⟨hn, hF⟩, hR, ⟨c, hc6, h38.trans hc⟩, hM⟩, fun h hh hf => by rw [h37]; exact hAp h hh (f14 ▸ hf), fun r hr => ?_⟩
      rw [usM_e hvS]
      have hQ1 := hQ (zrw S 195 r) (fS.tr ((fr_rw zfr.rf).mono fun _ _ => sA_V))
      rw [hq, hxq] at hQ1
      refine hP _ _ _ _ _ ?_
      first | exact ⟨rfl, by simpa [h20] using hQ1⟩ | exact ⟨rfl, by simpa [h20] using hQ S fS⟩
/-- a power and all those under it -/
def haM (g : Nat → Int32) (p : Nat) : Nat → Int32
  | 0 => 1 <<< (nI p &&& 31)
  | s + 1 => if g (8 * (p + 1 + s) + 7) = -1 then haM g p s else (if bt (haM g p s) (ix (g (8 * (p + 1 + s) + 7))) = true then haM g p s ||| (1 <<< (nI (p + 1 + s) &&& 31)) else haM g p s)
def hgM (M : zM) (np pw : Nat) (al : Int32) : Nat → Int32
  | 0 => 0
  | a + 1 => if bThen M np pw a = 1 ∧ canA M np pw al (-1) a = -1 then hgM M np pw al a ||| (1 <<< (nI a &&& 31)) else hgM M np pw al a
theorem zVe_wo {S M : zM} {pw np k : Nat} {on wl wl' th ps kd am : Int32} (h : zVe pw (zVr (zask S ps kd am)) (vP M np k on wl th ps kd am)) : zVe pw (zVr (zask (zI S 180 32 wl') ps kd am)) (vP M np k on wl' th ps kd am) := by
  obtain ⟨⟨a1, a2, a3, a4, a5, a6⟩, b, c, d⟩ := h
  exact ⟨⟨a1, a2, rfl, rfl, rfl, rfl⟩, b, c, d⟩
def k_X11_hang : zCt := fun as n mem Q => ∃ (p : Int32) (np pw mo na : Nat), as = [.ref 180, .int p] ∧ zst n mem ∧ (fun mem : zM => zMi n mem np pw mo na ∧ zAa mem na ∧
    (if isin p 0 (mem.1 180 15 - 1) = false then Q (some (.int (-1))) n mem else ∀ S, zfr sV mem S → Q (some (.int (hgM mem np pw (haM (mem.1 182) (ix p) (pw - 1 - ix p)) na))) n S)) (zI mem 180 0 0)
theorem ok_X11_hang {l : Launch} {G : zG} : zOK l G yX11_hang cX11_hang 5 (some .int) 13 0 0 k_X11_hang := by
  intro as n mem Q hK
  obtain ⟨p, np, pw, mo, na, rfl, ⟨hn, hF⟩, hQ⟩ := hK
  refine mtX11_hang ok_X11_isPower (by decide) ok_X11_has (by decide) ok_X11_bindsThen (by decide) ok_X11_couldThen (by decide) (List.forall_mem_cons.mpr ⟨rfl, List.forall_mem_cons.mpr ⟨rfl, fun _ h => absurd h List.not_mem_nil⟩⟩) (by simp) rfl (fun P hP => ?_)
  show P 0 [.ref 180, .int p, .null, .null, .null] [] n mem
  refine hP _ _ _ _ _ ?_
  refine hP _ _ _ _ _ ?_
  refine hP _ _ _ _ _ ⟨(zi hn rfl rfl rfl), ?_⟩
  show P 5 [.ref 180, .int p, .null, .null, .null] [] n (zI mem 180 0 0)
  have hF : zFx (zI mem 180 0 0) := hF
  generalize zI mem 180 0 0 = mem at *
  obtain ⟨⟨-, ⟨c1, c2, c3, c4, c5, c6, c7, c8⟩, hR⟩, hA, hQ⟩ := hQ
  have loop2 : ∀ (pi : Nat) (al : Int32), (∀ S, zfr sV mem S → Q (some (.int (hgM mem np pw al na))) n S) → ∀ i, i ≤ na → ∀ S, zfr sV mem S → P 83 [.ref 180, .int (nI pi), .int al, .int (hgM mem np pw al i), .int (nI i)] [] n S := by
    intro pi al hQ
    refine zloop ?_ ?_
    · intro S fS
      have e29 : S.1 180 29 = nI na := (fS.1 180 29 (by unfold sV; omega)).trans c7
      refine hP _ _ _ _ _ ?_
      refine hP _ _ _ _ _ ?_
      refine hP _ _ _ _ _ ⟨(zi hn rfl rfl rfl), ?_⟩
      refine hP _ _ _ _ _ ⟨fun _ => ?_, fun hz => absurd ( by rw [e29]; exact nI_le (Nat.le_refl _) (by omega)) hz⟩
      refine hP _ _ _ _ _ ?_
      refine hP _ _ _ _ _ ?_
      exact ⟨rfl, hQ S fS⟩
    · intro i hi ih S fS
      have e29 : S.1 180 29 = nI na := (fS.1 180 29 (by unfold sV; omega)).trans c7
      have hAr := (hA i hi).1
      rw [nI_succ i] at ih
      refine hP _ _ _ _ _ ?_
      refine hP _ _ _ _ _ ?_
      refine hP _ _ _ _ _ ⟨(zi hn rfl rfl rfl), ?_⟩
      refine hP _ _ _ _ _ ⟨fun hz => absurd hz ( by rw [e29]; exact nI_ge hi (by omega)), fun _ => ?_⟩
      refine hP _ _ _ _ _ ?_
      refine hP _ _ _ _ _ ?_
      refine hP _ _ _ _ _ ⟨(zi hn rfl rfl rfl), Nat.le_of_ble_eq_true rfl, Nat.le_of_ble_eq_true rfl, ?_⟩
      refine ⟨i, np, pw, mem, rfl, by omega, ⟨hn, hF⟩, hR, hAr, fS, fun S2 fS2 _ hve _ _ _ => ?_⟩
      refine hP _ _ _ _ _ ?_
      refine hP _ _ _ _ _ ⟨fun h99 => ?_, fun h99 => ?_⟩
      ·
        have gt : thA mem np pw i = -1 := if_pos h99
        rw [gt] at hve
        have fS3 : zfr sV mem (zI S2 180 32 al) := fS2.I (Or.inl ⟨rfl, by omega⟩)
        refine hP _ _ _ _ _ ?_
        refine hP _ _ _ _ _ ?_
        refine hP _ _ _ _ _ ⟨(zi hn rfl rfl rfl), ?_⟩
        refine hP _ _ _ _ _ ?_
        refine hP _ _ _ _ _ ?_
        refine hP _ _ _ _ _ ⟨(zi hn rfl rfl rfl), Nat.le_of_ble_eq_true rfl, Nat.le_of_ble_eq_true rfl, ?_⟩
        refine ⟨i, np, pw, vA mem np al (-1) i, mem, rfl, by omega, ⟨hn, hF⟩, hR, hAr, fS3, fun ps kd am => zVe_wo (hve ps kd am), fun S4 fS4 _ _ _ _ => ?_⟩
        have ih := ih S4 (fS3.tr (fS4.mono fun _ _ => sA_V))
        refine hP _ _ _ _ _ ⟨fun h116 => ?_, fun h116 => ?_⟩
        ·
          have h116 := zb_0.mp h116
          refine hP _ _ _ _ _ ?_
          refine hP _ _ _ _ _ ?_
          refine hP _ _ _ _ _ ?_
          refine hP _ _ _ _ _ ?_
          refine hP _ _ _ _ _ ?_
          refine hP _ _ _ _ _ ?_
          refine hP _ _ _ _ _ ?_
          refine hP _ _ _ _ _ ?_
          first | (have g2 : canA mem np pw al (-1) i = -1 := of_decide_eq_true ((Bool.not_eq_false' _).mp h116); simp only [hgM, h99, g2, and_self, if_true] at ih; exact ih) | (have g2 : ¬ canA mem np pw al (-1) i = -1 := of_decide_eq_false ((Bool.not_eq_true' _).mp h116); simp only [hgM, g2, and_false, if_false] at ih; exact ih) | (have ih := ih S2 fS2; simp only [hgM, h99, false_and, if_false] at ih; exact ih)
        ·
          have h116 := zb_n.mp h116
          refine hP _ _ _ _ _ ?_
          refine hP _ _ _ _ _ ?_
          first | (have g2 : canA mem np pw al (-1) i = -1 := of_decide_eq_true ((Bool.not_eq_false' _).mp h116); simp only [hgM, h99, g2, and_self, if_true] at ih; exact ih) | (have g2 : ¬ canA mem np pw al (-1) i = -1 := of_decide_eq_false ((Bool.not_eq_true' _).mp h116); simp only [hgM, g2, and_false, if_false] at ih; exact ih) | (have ih := ih S2 fS2; simp only [hgM, h99, false_and, if_false] at ih; exact ih)
      ·
        refine hP _ _ _ _ _ ?_
        refine hP _ _ _ _ _ ?_
        refine hP _ _ _ _ _ ?_
        first | (have g2 : canA mem np pw al (-1) i = -1 := of_decide_eq_true ((Bool.not_eq_false' _).mp h116); simp only [hgM, h99, g2, and_self, if_true] at ih; exact ih) | (have g2 : ¬ canA mem np pw al (-1) i = -1 := of_decide_eq_false ((Bool.not_eq_true' _).mp h116); simp only [hgM, g2, and_false, if_false] at ih; exact ih) | (have ih := ih S2 fS2; simp only [hgM, h99, false_and, if_false] at ih; exact ih)
  have loop1 : ∀ pi, pi < pw → (∀ S, zfr sV mem S → Q (some (.int (hgM mem np pw (haM (mem.1 182) pi (pw - 1 - pi)) na))) n S) → ∀ s, s ≤ pw - 1 - pi → P 23 [.ref 180, .int (nI pi), .int (haM (mem.1 182) pi s), .int (nI (pi + 1 + s)), .null] [] n mem := by
    intro pi hpi hQ
    refine zloop ?_ ?_
    · have l2 := loop2 pi _ hQ 0 (by omega) mem zfr.rf
      have e : pi + 1 + (pw - 1 - pi) = pw := by omega
      rw [e]
      refine hP _ _ _ _ _ ?_
      refine hP _ _ _ _ _ ?_
      refine hP _ _ _ _ _ ⟨(zi hn rfl rfl rfl), ?_⟩
      refine hP _ _ _ _ _ ⟨fun _ => ?_, fun hz => absurd ( by rw [c3]; exact nI_le (Nat.le_refl _) (by omega)) hz⟩
      refine hP _ _ _ _ _ ?_
      refine hP _ _ _ _ _ ?_
      refine hP _ _ _ _ _ ?_
      refine hP _ _ _ _ _ ?_
      exact l2
    · intro s hs ih
      have hun := (hR.2.2.2.2.1 (pi + 1 + s) (by omega)).2.2
      have hlt : pi + 1 + s < pw := by omega
      rw [show pi + 1 + (s + 1) = (pi + 1 + s) + 1 by omega, nI_succ (pi + 1 + s)] at ih
      generalize hz : pi + 1 + s = z at *
      refine hP _ _ _ _ _ ?_
      refine hP _ _ _ _ _ ?_
      refine hP _ _ _ _ _ ⟨(zi hn rfl rfl rfl), ?_⟩
      refine hP _ _ _ _ _ ⟨fun hz => absurd hz ( by rw [c3]; exact nI_ge hlt (by omega)), fun _ => ?_⟩
      refine hP _ _ _ _ _ ?_
      refine hP _ _ _ _ _ ⟨(zi hn rfl rfl rfl), _, fx_Model_powers hF, (by decide), ?_⟩
      refine hP _ _ _ _ _ ?_
      refine hP _ _ _ _ _ ?_
      refine hP _ _ _ _ _ ?_
      refine hP _ _ _ _ _ ?_
      refine hP _ _ _ _ _ ?_
      refine hP _ _ _ _ _ ⟨_, 8 * z + 7, (zi hn rfl rfl rfl), nlin 8 z 7, by omega, ?_⟩
      refine hP _ _ _ _ _ ?_
      refine hP _ _ _ _ _ ⟨fun h44 => ?_, fun h44 => ?_⟩
      ·
        refine hP _ _ _ _ _ ?_
        refine hP _ _ _ _ _ ?_
        first | (simp only [haM, hz, hu, hxu] at ih; rw [if_neg (by rw [← hu]; exact h44), h63] at ih; first | (rw [if_pos rfl] at ih; exact ih) | (rw [if_neg (by decide)] at ih; exact ih)) | (simp only [haM, hz] at ih; rw [if_pos h44] at ih; exact ih)
      ·
        obtain ⟨u, huz, hu⟩ := hun.resolve_left h44
        have hxu := ix_nI (j := u) (by omega)
        refine hP _ _ _ _ _ ?_
        refine hP _ _ _ _ _ ?_
        refine hP _ _ _ _ _ ⟨(zi hn rfl rfl rfl), _, fx_Model_powers hF, (by decide), ?_⟩
        refine hP _ _ _ _ _ ?_
        refine hP _ _ _ _ _ ?_
        refine hP _ _ _ _ _ ?_
        refine hP _ _ _ _ _ ?_
        refine hP _ _ _ _ _ ?_
        refine hP _ _ _ _ _ ⟨_, 8 * z + 7, (zi hn rfl rfl rfl), nlin 8 z 7, by omega, ?_⟩
        refine hP _ _ _ _ _ ⟨Nat.le_of_ble_eq_true rfl, Nat.le_of_ble_eq_true rfl, ?_⟩
        refine ⟨_, u, by rw [← hu]; rfl, by omega, ?_⟩
        refine hP _ _ _ _ _ ⟨fun h63 => ?_, fun h63 => ?_⟩
        ·
          have h63 := zb_0.mp h63
          refine hP _ _ _ _ _ ?_
          refine hP _ _ _ _ _ ?_
          first | (simp only [haM, hz, hu, hxu] at ih; rw [if_neg (by rw [← hu]; exact h44), h63] at ih; first | (rw [if_pos rfl] at ih; exact ih) | (rw [if_neg (by decide)] at ih; exact ih)) | (simp only [haM, hz] at ih; rw [if_pos h44] at ih; exact ih)
        ·
          have h63 := zb_n.mp h63
          refine hP _ _ _ _ _ ?_
          refine hP _ _ _ _ _ ?_
          refine hP _ _ _ _ _ ?_
          refine hP _ _ _ _ _ ?_
          refine hP _ _ _ _ _ ?_
          refine hP _ _ _ _ _ ?_
          refine hP _ _ _ _ _ ?_
          refine hP _ _ _ _ _ ?_
          first | (simp only [haM, hz, hu, hxu] at ih; rw [if_neg (by rw [← hu]; exact h44), h63] at ih; first | (rw [if_pos rfl] at ih; exact ih) | (rw [if_neg (by decide)] at ih; exact ih)) | (simp only [haM, hz] at ih; rw [if_pos h44] at ih; exact ih)
  refine hP _ _ _ _ _ ?_
  refine hP _ _ _ _ _ ?_
  refine hP _ _ _ _ _ ⟨(zi hn rfl rfl rfl), Nat.le_of_ble_eq_true rfl, Nat.le_of_ble_eq_true rfl, ?_⟩
  refine ⟨_, rfl, ⟨hn, hF⟩, ?_⟩
  refine hP _ _ _ _ _ ⟨fun h10 => ?_, fun h10 => ?_⟩
  ·
    have h10 := zb_0.mp h10
    refine hP _ _ _ _ _ ?_
    refine hP _ _ _ _ _ ?_
    exact ⟨rfl, by simpa [h10] using hQ⟩
  ·
    have h10 := zb_n.mp h10
    obtain ⟨j, hj, rfl⟩ := isin_nI (by omega) (c3 ▸ h10)
    have hx := ix_nI (j := j) (by omega)
    simp only [h10, hx, Bool.true_eq_false, if_false] at hQ
    have l1 := loop1 j hj hQ 0 (by omega)
    rw [Nat.add_zero, nI_succ j] at l1
    refine hP _ _ _ _ _ ?_
    refine hP _ _ _ _ _ ?_
    refine hP _ _ _ _ _ ?_
    refine hP _ _ _ _ _ ?_
    refine hP _ _ _ _ _ ?_
    refine hP _ _ _ _ _ ?_
    refine hP _ _ _ _ _ ?_
    refine hP _ _ _ _ _ ?_
    exact l1
