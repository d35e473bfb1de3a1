def bdA (M : zM) (np pw : Nat) (pt m : Int32) (a : Nat) : Int32 := if M.1 191 (9 * a + 1) = pt then bAt M np pw a m else 0
def bdM (M : zM) (np pw : Nat) (pt how m : Int32) : Nat → Int32
  | 0 => 0
  | a + 1 => if bdA M np pw pt m a ≤ 0 then bdM M np pw pt how m a else (if how = 0 ∨ how = bdA M np pw pt m a then bdM M np pw pt how m a + M.1 191 (9 * a + 4) else bdM M np pw pt how m a)
def k_X11_bound : zCt := fun as n mem Q => ∃ (pt how : Int32) (np pw mo na : Nat), as = [.ref 180, .int pt, .int how] ∧ zst n mem ∧ (fun mem : zM => zMi n mem np pw mo na ∧ zAa mem na ∧
    (if isin pt 0 (mem.1 180 13 - 1) = false ∨ isin how 0 3 = false then Q (some (.int (-1))) n mem else ∀ S, zfr sV mem S → Q (some (.int (bdM mem np pw pt how (mem.1 180 27) na))) n S)) (zI mem 180 0 0)
theorem ok_X11_bound {l : Launch} {G : zG} : zOK l G yX11_bound cX11_bound 6 (some .int) 14 0 0 k_X11_bound := by
  intro as n mem Q hK
  obtain ⟨pt, how, np, pw, mo, na, rfl, ⟨hn, hF⟩, hQ⟩ := hK
  refine mtX11_bound ok_X11_isParty (by decide) ok_X11_isIn (by decide) ok_X11_its (by decide) ok_X11_bindsAt (by decide) (List.forall_mem_cons.mpr ⟨rfl, List.forall_mem_cons.mpr ⟨rfl, List.forall_mem_cons.mpr ⟨rfl, fun _ h => absurd h List.not_mem_nil⟩⟩⟩) (by simp) rfl (fun P hP => ?_)
  show P 0 [.ref 180, .int pt, .int how, .null, .null, .null] [] n mem
  refine hP _ _ _ _ _ ?_
  refine hP _ _ _ _ _ ?_
  refine hP _ _ _ _ _ ⟨(zi hn rfl rfl rfl), ?_⟩
  show P 5 [.ref 180, .int pt, .int how, .null, .null, .null] [] n (zI mem 180 0 0)
  have hF : zFx (zI mem 180 0 0) := hF
  generalize zI mem 180 0 0 = mem at *
  obtain ⟨⟨-, ⟨c1, c2, c3, c4, c5, c6, c7, c8⟩, hR⟩, hA, hQ⟩ := hQ
  have loop : (∀ S, zfr sV mem S → Q (some (.int (bdM mem np pw pt how (mem.1 180 27) na))) n S) → ∀ i, i ≤ na → ∀ S, zfr sV mem S → ∀ v5, P 29 [.ref 180, .int pt, .int how, .int (bdM mem np pw pt how (mem.1 180 27) i), .int (nI i), v5] [] n S := by
    intro hQ
    refine zloop ?_ ?_
    · intro S fS v5
      have e29 : S.1 180 29 = nI na := (fS.1 180 29 (by unfold sV; omega)).trans c7
      refine hP _ _ _ _ _ ?_
      refine hP _ _ _ _ _ ?_
      refine hP _ _ _ _ _ ⟨(zi hn rfl rfl rfl), ?_⟩
      refine hP _ _ _ _ _ ⟨fun _ => ?_, fun hz => absurd ( by rw [e29]; exact nI_le (Nat.le_refl _) (by omega)) hz⟩
      refine hP _ _ _ _ _ ?_
      refine hP _ _ _ _ _ ?_
      exact ⟨rfl, hQ S fS⟩
    · intro i hi ih S fS v5
      have e29 : S.1 180 29 = nI na := (fS.1 180 29 (by unfold sV; omega)).trans c7
      have e27 : S.1 180 27 = mem.1 180 27 := fS.1 180 27 (by unfold sV; omega)
      have hF' := zFx_fr fS hF
      have hAr := (hA i hi).1
      have r1 := row_V fS (a := 191) (by omega)
      rw [nI_succ i] at ih
      have tail : ∀ T, zfr sV mem T → ∀ b, b = bdA mem np pw pt (mem.1 180 27) i → P 65 [.ref 180, .int pt, .int how, .int (bdM mem np pw pt how (mem.1 180 27) i), .int (nI i), .int b] [] n T := by
        intro T fT b hb
        subst hb
        have hF' := zFx_fr fT hF
        have r1 := row_V fT (a := 191) (by omega)
        refine hP _ _ _ _ _ ?_
        refine hP _ _ _ _ _ ⟨fun h67 => ?_, fun h67 => ?_⟩
        ·
          refine hP _ _ _ _ _ ?_
          refine hP _ _ _ _ _ ?_
          first | (have ih := ih T fT; simp only [bdM, h67, if_true] at ih; exact ih _) | (have ih := ih T fT; rw [bdM, if_neg h67, if_pos (Or.inl h71)] at ih; exact ih _) | (have ih := ih T fT; rw [bdM, if_neg h67, if_pos (Or.inr h77)] at ih; exact ih _) | (have ih := ih T fT; rw [bdM, if_neg h67, if_neg (fun z => z.elim h71 h77)] at ih; exact ih _)
        ·
          refine hP _ _ _ _ _ ?_
          refine hP _ _ _ _ _ ⟨fun h71 => ?_, fun h71 => ?_⟩
          ·
            refine hP _ _ _ _ _ ?_
            refine hP _ _ _ _ _ ?_
            refine hP _ _ _ _ _ ?_
            refine hP _ _ _ _ _ ?_
            refine hP _ _ _ _ _ ⟨(zi hn rfl rfl rfl), Nat.le_of_ble_eq_true rfl, Nat.le_of_ble_eq_true rfl, ?_⟩
            refine ⟨i, 4, rfl, by omega, by omega, ⟨hn, hF'⟩, ?_⟩
            rw [r1]
            refine hP _ _ _ _ _ ?_
            refine hP _ _ _ _ _ ?_
            refine hP _ _ _ _ _ ?_
            refine hP _ _ _ _ _ ?_
            first | (have ih := ih T fT; simp only [bdM, h67, if_true] at ih; exact ih _) | (have ih := ih T fT; rw [bdM, if_neg h67, if_pos (Or.inl h71)] at ih; exact ih _) | (have ih := ih T fT; rw [bdM, if_neg h67, if_pos (Or.inr h77)] at ih; exact ih _) | (have ih := ih T fT; rw [bdM, if_neg h67, if_neg (fun z => z.elim h71 h77)] at ih; exact ih _)
          ·
            refine hP _ _ _ _ _ ?_
            refine hP _ _ _ _ _ ?_
            refine hP _ _ _ _ _ ⟨fun h77 => ?_, fun h77 => ?_⟩
            ·
              refine hP _ _ _ _ _ ?_
              refine hP _ _ _ _ _ ?_
              refine hP _ _ _ _ _ ?_
              refine hP _ _ _ _ _ ?_
              refine hP _ _ _ _ _ ⟨(zi hn rfl rfl rfl), Nat.le_of_ble_eq_true rfl, Nat.le_of_ble_eq_true rfl, ?_⟩
              refine ⟨i, 4, rfl, by omega, by omega, ⟨hn, hF'⟩, ?_⟩
              rw [r1]
              refine hP _ _ _ _ _ ?_
              refine hP _ _ _ _ _ ?_
              refine hP _ _ _ _ _ ?_
              refine hP _ _ _ _ _ ?_
              first | (have ih := ih T fT; simp only [bdM, h67, if_true] at ih; exact ih _) | (have ih := ih T fT; rw [bdM, if_neg h67, if_pos (Or.inl h71)] at ih; exact ih _) | (have ih := ih T fT; rw [bdM, if_neg h67, if_pos (Or.inr h77)] at ih; exact ih _) | (have ih := ih T fT; rw [bdM, if_neg h67, if_neg (fun z => z.elim h71 h77)] at ih; exact ih _)
            ·
              refine hP _ _ _ _ _ ?_
              refine hP _ _ _ _ _ ?_
              first | (have ih := ih T fT; simp only [bdM, h67, if_true] at ih; exact ih _) | (have ih := ih T fT; rw [bdM, if_neg h67, if_pos (Or.inl h71)] at ih; exact ih _) | (have ih := ih T fT; rw [bdM, if_neg h67, if_pos (Or.inr h77)] at ih; exact ih _) | (have ih := ih T fT; rw [bdM, if_neg h67, if_neg (fun z => z.elim h71 h77)] at ih; exact ih _)
      refine hP _ _ _ _ _ ?_
      refine hP _ _ _ _ _ ?_
      refine hP _ _ _ _ _ ⟨(zi hn rfl rfl rfl), ?_⟩
      refine hP _ _ _ _ _ ⟨fun hz => absurd hz ( by rw [e29]; exact nI_ge hi (by omega)), fun _ => ?_⟩
      refine hP _ _ _ _ _ ?_
      refine hP _ _ _ _ _ ?_
      refine hP _ _ _ _ _ ?_
      refine hP _ _ _ _ _ ⟨(zi hn rfl rfl rfl), Nat.le_of_ble_eq_true rfl, Nat.le_of_ble_eq_true rfl, ?_⟩
      refine ⟨i, 1, rfl, by omega, by omega, ⟨hn, hF'⟩, ?_⟩
      rw [r1]
      refine hP _ _ _ _ _ ?_
      refine hP _ _ _ _ _ ⟨fun h46 => ?_, fun h46 => ?_⟩
      ·
        refine hP _ _ _ _ _ ?_
        refine hP _ _ _ _ _ ?_
        refine hP _ _ _ _ _ ?_
        refine hP _ _ _ _ _ ⟨(zi hn rfl rfl rfl), ?_⟩
        refine hP _ _ _ _ _ ⟨(zi hn rfl rfl rfl), Nat.le_of_ble_eq_true rfl, Nat.le_of_ble_eq_true rfl, ?_⟩
        refine ⟨i, np, pw, _, mem, rfl, by omega, ⟨hn, hF⟩, hR, hAr, fS, fun T fT => ?_⟩
        rw [e27]
        refine hP _ _ _ _ _ ?_
        refine hP _ _ _ _ _ ?_
        first | exact tail T fT _ (by unfold bdA; rw [if_pos h46]) | exact tail S fS _ (by unfold bdA; rw [if_neg h46])
      ·
        refine hP _ _ _ _ _ ?_
        refine hP _ _ _ _ _ ?_
        first | exact tail T fT _ (by unfold bdA; rw [if_pos h46]) | exact tail S fS _ (by unfold bdA; rw [if_neg h46])
  refine hP _ _ _ _ _ ?_
  refine hP _ _ _ _ _ ?_
  refine hP _ _ _ _ _ ⟨(zi hn rfl rfl rfl), Nat.le_of_ble_eq_true rfl, Nat.le_of_ble_eq_true rfl, ?_⟩
  refine ⟨_, rfl, ⟨hn, hF⟩, ?_⟩
  refine hP _ _ _ _ _ ⟨fun h10 => ?_, fun h10 => ?_⟩
  ·
    have h10 := zb_0.mp h10
    refine hP _ _ _ _ _ ?_
    refine hP _ _ _ _ _ ?_
    exact ⟨rfl, by simpa [h10] using hQ⟩
  ·
    have h10 := zb_n.mp h10
    refine hP _ _ _ _ _ ?_
    refine hP _ _ _ _ _ ?_
    refine hP _ _ _ _ _ ?_
    refine hP _ _ _ _ _ ⟨Nat.le_of_ble_eq_true rfl, Nat.le_of_ble_eq_true rfl, ?_⟩
    refine ⟨_, _, _, rfl, ?_⟩
    refine hP _ _ _ _ _ ⟨fun h19 => ?_, fun h19 => ?_⟩
    ·
      have h19 := zb_0.mp h19
      refine hP _ _ _ _ _ ?_
      refine hP _ _ _ _ _ ?_
      exact ⟨rfl, by simpa [h10, h19] using hQ⟩
    ·
      have h19 := zb_n.mp h19
      simp only [h10, h19, Bool.true_eq_false, or_self, if_false] at hQ
      refine hP _ _ _ _ _ ?_
      refine hP _ _ _ _ _ ?_
      refine hP _ _ _ _ _ ?_
      refine hP _ _ _ _ _ ?_
      exact loop hQ 0 (by omega) mem zfr.rf _
def T_giveUp (mem : zM) (np pw : Nat) (a : Int32) (m : Nat) (Q : Int32 → zM → Prop) : Prop :=
  if isin a 0 (mem.1 180 29 - 1) = false ∨ mfull mem = true then Q (-1) mem
  else if ¬ mem.1 191 (9 * ix a + 8) = -1 then Q (-2) mem
  else if ¬ bAt mem np pw (ix a) (mem.1 180 27) = 0 then ∀ S, zfr sV mem S → Q (-3) S
  else ∀ S, zfr sV mem S → Q (nI (m + 1)) (zI (zput S m) 191 (9 * ix a + 8) (nI (m + 1)))
def k_X11_giveUp : zCt := fun as n mem Q => ∃ (a : Int32) (np pw m na : Nat), as = [.ref 180, .int a] ∧ zst n mem ∧ (fun mem : zM => zMi n mem np pw m na ∧ zAa mem na ∧ T_giveUp mem np pw a m (fun r mem => Q (some (.int r)) n mem)) (zI mem 180 0 0)
theorem ok_X11_giveUp {l : Launch} {G : zG} : zOK l G yX11_giveUp cX11_giveUp 2 (some .int) 14 0 0 k_X11_giveUp := by
  intro as n mem Q hK
  obtain ⟨a, np, pw, m, na, rfl, ⟨hn, hF⟩, hQ⟩ := hK
  refine mtX11_giveUp ok_X11_isAct (by decide) ok_X11_isFull (by decide) ok_X11_its (by decide) ok_X11_bindsAt (by decide) ok_X11_puts (by decide) (List.forall_mem_cons.mpr ⟨rfl, List.forall_mem_cons.mpr ⟨rfl, fun _ h => absurd h List.not_mem_nil⟩⟩) (by simp) rfl (fun P hP => ?_)
  show P 0 [.ref 180, .int a] [] n mem
  refine hP _ _ _ _ _ ?_
  refine hP _ _ _ _ _ ?_
  refine hP _ _ _ _ _ ⟨(zi hn rfl rfl rfl), ?_⟩
  show P 5 [.ref 180, .int a] [] n (zI mem 180 0 0)
  have hF : zFx (zI mem 180 0 0) := hF
  generalize zI mem 180 0 0 = mem at *
  obtain ⟨⟨-, ⟨c1, c2, c3, c4, c5, c6, c7, c8⟩, hR⟩, hA, hQ⟩ := hQ
  refine hP _ _ _ _ _ ?_
  refine hP _ _ _ _ _ ?_
  refine hP _ _ _ _ _ ⟨(zi hn rfl rfl rfl), Nat.le_of_ble_eq_true rfl, Nat.le_of_ble_eq_true rfl, ?_⟩
  refine ⟨_, rfl, ⟨hn, hF⟩, ?_⟩
  refine hP _ _ _ _ _ ⟨fun h10 => ?_, fun h10 => ?_⟩
  ·
    have h10 := zb_0.mp h10
    refine hP _ _ _ _ _ ?_
    refine hP _ _ _ _ _ ?_
    exact ⟨rfl, by simpa [T_giveUp, h10] using hQ⟩
  ·
    have h10 := zb_n.mp h10
    refine hP _ _ _ _ _ ?_
    refine hP _ _ _ _ _ ⟨(zi hn rfl rfl rfl), Nat.le_of_ble_eq_true rfl, Nat.le_of_ble_eq_true rfl, ?_⟩
    refine ⟨rfl, ⟨hn, hF⟩, ?_⟩
    refine hP _ _ _ _ _ ⟨fun h17 => ?_, fun h17 => ?_⟩
    ·
      have h17 := zb_0.mp h17
      obtain ⟨j, hj, rfl⟩ := isin_nI (by omega) (c7 ▸ h10)
      have hx := ix_nI (j := j) (by omega)
      have hm := full_lt c5 c6 h17
      refine hP _ _ _ _ _ ?_
      refine hP _ _ _ _ _ ?_
      refine hP _ _ _ _ _ ?_
      refine hP _ _ _ _ _ ⟨(zi hn rfl rfl rfl), Nat.le_of_ble_eq_true rfl, Nat.le_of_ble_eq_true rfl, ?_⟩
      refine ⟨j, 8, rfl, by omega, by omega, ⟨hn, hF⟩, ?_⟩
      refine hP _ _ _ _ _ ?_
      refine hP _ _ _ _ _ ⟨fun h30 => ?_, fun h30 => ?_⟩
      ·
        refine hP _ _ _ _ _ ?_
        refine hP _ _ _ _ _ ?_
        refine hP _ _ _ _ _ ?_
        refine hP _ _ _ _ _ ⟨(zi hn rfl rfl rfl), ?_⟩
        refine hP _ _ _ _ _ ⟨(zi hn rfl rfl rfl), Nat.le_of_ble_eq_true rfl, Nat.le_of_ble_eq_true rfl, ?_⟩
        refine ⟨j, np, pw, _, mem, rfl, by omega, ⟨hn, hF⟩, hR, (hA j hj).1, zfr.rf, fun S fS => ?_⟩
        have hF := zFx_fr fS hF
        have e27 : S.1 180 27 = nI m := (fS.1 180 27 (by unfold sV; omega)).trans c5
        refine hP _ _ _ _ _ ⟨fun h45 => ?_, fun h45 => ?_⟩
        ·
          refine hP _ _ _ _ _ ?_
          refine hP _ _ _ _ _ ⟨(zi hn rfl rfl rfl), _, fx_Model_acts hF, (by decide), ?_⟩
          refine hP _ _ _ _ _ ?_
          refine hP _ _ _ _ _ ?_
          refine hP _ _ _ _ _ ?_
          refine hP _ _ _ _ _ ?_
          refine hP _ _ _ _ _ ?_
          refine hP _ _ _ _ _ ?_
          refine hP _ _ _ _ _ ⟨(zi hn rfl rfl rfl), Nat.le_of_ble_eq_true rfl, Nat.le_of_ble_eq_true rfl, ?_⟩
          refine ⟨m, rfl, ⟨hn, hF⟩, e27, hm, ?_⟩
          refine hP _ _ _ _ _ ⟨_, 9 * j + 8, (zi hn rfl rfl rfl), nlin 9 j 8, by omega, ?_⟩
          refine hP _ _ _ _ _ ?_
          refine hP _ _ _ _ _ ⟨(zi hn rfl rfl rfl), ?_⟩
          refine hP _ _ _ _ _ ?_
          exact ⟨rfl, by unfold T_giveUp at hQ; rw [hx, if_neg (by simp [h10, h17]), if_neg (fun z => z h30), if_neg (fun z => z h45)] at hQ; simpa [zput, zI_at] using hQ S fS⟩
        ·
          refine hP _ _ _ _ _ ?_
          refine hP _ _ _ _ _ ?_
          exact ⟨rfl, by unfold T_giveUp at hQ; rw [hx, if_neg (by simp [h10, h17]), if_neg (fun z => z h30), if_pos h45] at hQ; exact hQ S fS⟩
      ·
        refine hP _ _ _ _ _ ?_
        refine hP _ _ _ _ _ ?_
        exact ⟨rfl, by simpa [T_giveUp, h10, h17, hx, h30] using hQ⟩
    ·
      have h17 := zb_n.mp h17
      refine hP _ _ _ _ _ ?_
      refine hP _ _ _ _ _ ?_
      exact ⟨rfl, by simpa [T_giveUp, h10, h17] using hQ⟩
def nowM (mem : zM) (np : Nat) (w : Int32) : Int32 :=
  if w = nI 0 then mem.1 180 13 else if w = nI 1 then mem.1 180 15 else if w = nI 2 then mem.1 180 27 else if w = nI 3 then mem.1 180 28 else if w = nI 4 then mem.1 180 29 else if w = nI 5 then mem.1 180 14 else if w = nI 6 then deadM (mem.1 187) (mem.1 180 27) np else if w = nI 7 then mem.1 180 2 else -1
def k_X11_now : zCt := fun as n mem Q => ∃ (w : Int32) (np pw m na : Nat), as = [.ref 180, .int w] ∧ zst n mem ∧ (fun mem : zM => zMc mem np pw m na ∧ Q (some (.int (nowM mem np w))) n mem) (zI mem 180 0 0)
theorem nI_ne {a b : Nat} (ha : a < 2 ^ 31) (hb : b < 2 ^ 31) (h : a ≠ b) : ¬ nI a = nI b := fun e => h ((nI_eq ha hb).mp e)
theorem out_ne {w : Int32} {c : Nat} (hc : c < 2 ^ 31) (h : w < 0 ∨ nI c ≤ w) {j : Nat} (hj : j < c) : ¬ w = nI j := by
  intro e
  subst e
  rcases h with q | q
  · exact nI_pos (by omega) q
  · exact nI_ge hj hc q
theorem ok_X11_now {l : Launch} {G : zG} : zOK l G yX11_now cX11_now 2 (some .int) 3 0 0 k_X11_now := by
  intro as n mem Q hK
  obtain ⟨w, np, pw, m, na, rfl, ⟨hn, hF⟩, hQ⟩ := hK
  refine mtX11_now ok_X11_dead (by decide) (List.forall_mem_cons.mpr ⟨rfl, List.forall_mem_cons.mpr ⟨rfl, fun _ h => absurd h List.not_mem_nil⟩⟩) (by simp) rfl (fun P hP => ?_)
  show P 0 [.ref 180, .int w] [] n mem
  refine hP _ _ _ _ _ ?_
  refine hP _ _ _ _ _ ?_
  refine hP _ _ _ _ _ ⟨(zi hn rfl rfl rfl), ?_⟩
  show P 5 [.ref 180, .int w] [] n (zI mem 180 0 0)
  have hF : zFx (zI mem 180 0 0) := hF
  generalize zI mem 180 0 0 = mem at *
  obtain ⟨⟨c1, c2, c3, c4, c5, c6, c7, c8⟩, hQ⟩ := hQ
  refine hP _ _ _ _ _ ?_
  refine hP _ _ _ _ _ ⟨fun i6 hi6 hx6 => ?_, fun h6 => ?_⟩
  ·
    have hi6 : i6 < 8 := hi6
    rcases (show i6 = 0 ∨ i6 = 1 ∨ i6 = 2 ∨ i6 = 3 ∨ i6 = 4 ∨ i6 = 5 ∨ i6 = 6 ∨ i6 = 7 by omega) with rfl | rfl | rfl | rfl | rfl | rfl | rfl | rfl
    ·
      refine hP _ _ _ _ _ ?_
      refine hP _ _ _ _ _ ⟨(zi hn rfl rfl rfl), ?_⟩
      refine hP _ _ _ _ _ ?_
      exact ⟨rfl, by rw [hx6] at hQ; exact hQ⟩
    ·
      refine hP _ _ _ _ _ ?_
      refine hP _ _ _ _ _ ⟨(zi hn rfl rfl rfl), ?_⟩
      refine hP _ _ _ _ _ ?_
      exact ⟨rfl, by rw [hx6] at hQ; exact hQ⟩
    ·
      refine hP _ _ _ _ _ ?_
      refine hP _ _ _ _ _ ⟨(zi hn rfl rfl rfl), ?_⟩
      refine hP _ _ _ _ _ ?_
      exact ⟨rfl, by rw [hx6] at hQ; exact hQ⟩
    ·
      refine hP _ _ _ _ _ ?_
      refine hP _ _ _ _ _ ⟨(zi hn rfl rfl rfl), ?_⟩
      refine hP _ _ _ _ _ ?_
      exact ⟨rfl, by rw [hx6] at hQ; exact hQ⟩
    ·
      refine hP _ _ _ _ _ ?_
      refine hP _ _ _ _ _ ⟨(zi hn rfl rfl rfl), ?_⟩
      refine hP _ _ _ _ _ ?_
      exact ⟨rfl, by rw [hx6] at hQ; exact hQ⟩
    ·
      refine hP _ _ _ _ _ ?_
      refine hP _ _ _ _ _ ⟨(zi hn rfl rfl rfl), ?_⟩
      refine hP _ _ _ _ _ ?_
      exact ⟨rfl, by rw [hx6] at hQ; exact hQ⟩
    ·
      refine hP _ _ _ _ _ ?_
      refine hP _ _ _ _ _ ?_
      refine hP _ _ _ _ _ ⟨(zi hn rfl rfl rfl), ?_⟩
      refine hP _ _ _ _ _ ⟨(zi hn rfl rfl rfl), Nat.le_of_ble_eq_true rfl, Nat.le_of_ble_eq_true rfl, ?_⟩
      refine ⟨_, np, rfl, ⟨hn, hF⟩, c1, c2, ?_⟩
      refine hP _ _ _ _ _ ?_
      exact ⟨rfl, by rw [hx6] at hQ; exact hQ⟩
    ·
      refine hP _ _ _ _ _ ?_
      refine hP _ _ _ _ _ ⟨(zi hn rfl rfl rfl), ?_⟩
      refine hP _ _ _ _ _ ?_
      exact ⟨rfl, by rw [hx6] at hQ; exact hQ⟩
  ·
    refine hP _ _ _ _ _ ?_
    refine hP _ _ _ _ _ ?_
    exact ⟨rfl, by have o := fun (j : Nat) (hj : j < 8) => out_ne (c := 8) (by omega) h6 hj; unfold nowM at hQ; rw [if_neg (o 0 (by omega)), if_neg (o 1 (by omega)), if_neg (o 2 (by omega)), if_neg (o 3 (by omega)), if_neg (o 4 (by omega)), if_neg (o 5 (by omega)), if_neg (o 6 (by omega)), if_neg (o 7 (by omega))] at hQ; exact hQ⟩

theorem shl_pow : ∀ np, np ≤ 8 → (1 : Int32) <<< (nI np &&& 31) = nI (2 ^ np) := by decide +kernel
theorem zs8_small {y : Nat} (h : y < 256) : zs8 (nI y) := fun i h1 h2 => (by decide +kernel : ∀ y, y < 256 → ∀ i, i < 32 → 8 ≤ i → bt (nI y) i = false) y h i h2 h1
theorem pc_pos : ∀ y, y < 256 → y ≠ 0 → 1 ≤ pcI (nI y) := by decide +kernel
theorem pc_le : ∀ np, np ≤ 8 → ∀ y, y < 2 ^ np → pcI (nI y) ≤ np := by decide +kernel
theorem pow8 : ∀ np, np ≤ 8 → 2 ^ np ≤ 256 := by decide
/-- a set of persons that can -/
def fwG (f : Nat → Int32) (M : zM) (np pw q : Nat) (kd am : Int32) (s : Nat) : Bool := askedM f (nI s) (nI q) kd am && !decide (canN M np pw q (nI s) kd am = -1)
def k_X11_fewest : zCt := fun as n mem Q => ∃ (pt kd am : Int32) (np pw m na : Nat), as = [.ref 180, .int pt, .int kd, .int am] ∧ zst n mem ∧ (fun mem : zM => zMi n mem np pw m na ∧
    (if kaskedM (mem.1 180) pt kd am = false then Q (some (.int (-1))) n mem
     else ((∀ s, 1 ≤ s → s < 2 ^ np → fwG (mem.1 180) (zNow mem np pw m) np pw (ix pt) kd am s = false) → ∀ V, zfr sV mem V → Q (some (.int (-2))) n V) ∧
       (∀ s, 1 ≤ s → s < 2 ^ np → fwG (mem.1 180) (zNow mem np pw m) np pw (ix pt) kd am s = true → (∀ s', 1 ≤ s' → s' < 2 ^ np → fwG (mem.1 180) (zNow mem np pw m) np pw (ix pt) kd am s' = true → pcI (nI s) < pcI (nI s') ∨ (pcI (nI s) = pcI (nI s') ∧ s ≤ s')) → ∀ V, zfr sV mem V → Q (some (.int (nI s))) n V))) (zI mem 180 0 0)
theorem ok_X11_fewest {l : Launch} {G : zG} : zOK l G yX11_fewest cX11_fewest 6 (some .int) 11 0 0 k_X11_fewest := by
  intro as n mem Q hK
  obtain ⟨pt, kd, am, np, pw, m, na, rfl, ⟨hn, hF⟩, hQ⟩ := hK
  refine mtX11_fewest ok_X11_isKindAsked (by decide) ok_X11_seesNow (by decide) ok_X11_bits (by decide) ok_X11_isAsked (by decide) ok_X11_can0 (by decide) (List.forall_mem_cons.mpr ⟨rfl, List.forall_mem_cons.mpr ⟨rfl, List.forall_mem_cons.mpr ⟨rfl, List.forall_mem_cons.mpr ⟨rfl, fun _ h => absurd h List.not_mem_nil⟩⟩⟩⟩) (by simp) rfl (fun P hP => ?_)
  show P 0 [.ref 180, .int pt, .int kd, .int am, .null, .null] [] n mem
  refine hP _ _ _ _ _ ?_
  refine hP _ _ _ _ _ ?_
  refine hP _ _ _ _ _ ⟨(zi hn rfl rfl rfl), ?_⟩
  show P 5 [.ref 180, .int pt, .int kd, .int am, .null, .null] [] n (zI mem 180 0 0)
  have hF : zFx (zI mem 180 0 0) := hF
  generalize zI mem 180 0 0 = mem at *
  obtain ⟨⟨-, ⟨c1, c2, c3, c4, c5, c6, c7, c8⟩, hR⟩, hQ⟩ := hQ
  have hp8 := pow8 np c2
  have loop : ∀ (V : zM) (q c a : Nat), q < 8 → c < 6 → zfr sV mem V →
      ((∀ s, 1 ≤ s → s < 2 ^ np → fwG (mem.1 180) V np pw q (nI c) (nI a) s = false) → ∀ u, zfr sV mem u → Q (some (.int (-2))) n u) →
      (∀ s, 1 ≤ s → s < 2 ^ np → fwG (mem.1 180) V np pw q (nI c) (nI a) s = true → (∀ s', 1 ≤ s' → s' < 2 ^ np → fwG (mem.1 180) V np pw q (nI c) (nI a) s' = true → pcI (nI s) < pcI (nI s') ∨ (pcI (nI s) = pcI (nI s') ∧ s ≤ s')) → ∀ u, zfr sV mem u → Q (some (.int (nI s))) n u) →
      ∀ i, i ≤ np + 1 → 1 ≤ i → (∀ s, 1 ≤ s → s < 2 ^ np → fwG (mem.1 180) V np pw q (nI c) (nI a) s = true → i ≤ pcI (nI s)) → ∀ u, zfr sA V u → ∀ v5, P 24 [.ref 180, .int (nI q), .int (nI c), .int (nI a), .int (nI i), v5] [] n u := by
    intro V q c a hq8 hc6 fV hQ1 hQ2
    refine zloop ?_ ?_
    · intro _ hg u fu v5
      have fu' := fV.tr (fu.mono fun _ _ => sA_V)
      have r1 := (zRo_fr fu' hR).1
      refine hP _ _ _ _ _ ?_
      refine hP _ _ _ _ _ ?_
      refine hP _ _ _ _ _ ⟨(zi hn rfl rfl rfl), ?_⟩
      refine hP _ _ _ _ _ ⟨fun _ => ?_, fun hz => absurd ( by rw [r1]; exact nI_lt (Nat.lt_succ_self _) (by omega)) hz⟩
      refine hP _ _ _ _ _ ?_
      refine hP _ _ _ _ _ ?_
      refine ⟨rfl, hQ1 (fun s h1 h2 => ?_) u fu'⟩
      cases hb : fwG (mem.1 180) V np pw q (nI c) (nI a) s with
      | false => rfl
      | true => exact absurd (hg s h1 h2 hb) (by have := pc_le np c2 s h2; omega)
    · intro i hi ih h1i hg u fu v5
      have inner : ∀ j, j ≤ 2 ^ np → 1 ≤ j → (∀ s, 1 ≤ s → s < j → fwG (mem.1 180) V np pw q (nI c) (nI a) s = true → i < pcI (nI s)) → ∀ u, zfr sA V u → P 36 [.ref 180, .int (nI q), .int (nI c), .int (nI a), .int (nI i), .int (nI j)] [] n u := by
        refine zloop ?_ ?_
        · intro _ hs u fu
          have fu' := fV.tr (fu.mono fun _ _ => sA_V)
          have r1 := (zRo_fr fu' hR).1
          have ih := ih (by omega) (fun s h1 h2 h3 => hs s h1 h2 h3) u fu
          rw [nI_succ i] at ih
          have e1 : (1 : Int32) <<< (u.1 180 13 &&& 31) = nI (2 ^ np) := by rw [r1]; exact shl_pow np c2
          refine hP _ _ _ _ _ ?_
          refine hP _ _ _ _ _ ?_
          refine hP _ _ _ _ _ ?_
          refine hP _ _ _ _ _ ⟨(zi hn rfl rfl rfl), ?_⟩
          refine hP _ _ _ _ _ ?_
          refine hP _ _ _ _ _ ⟨fun _ => ?_, fun hz => absurd ( by show (1 : Int32) <<< (u.1 180 13 &&& 31) ≤ nI (2 ^ np); rw [e1]; exact nI_le (Nat.le_refl _) (by omega)) hz⟩
          refine hP _ _ _ _ _ ?_
          refine hP _ _ _ _ _ ?_
          exact ih _
        · intro j hj ih2 h1j hs u fu
          have fu' := fV.tr (fu.mono fun _ _ => sA_V)
          have hF := zFx_fr fu' hF
          have hR := zRo_fr fu' hR
          have r1 := hR.1
          have e1 : (1 : Int32) <<< (u.1 180 13 &&& 31) = nI (2 ^ np) := by rw [r1]; exact shl_pow np c2
          rw [nI_succ j] at ih2
          have step : (fwG (mem.1 180) V np pw q (nI c) (nI a) j = true → ¬ pcI (nI j) = i) → ∀ s, 1 ≤ s → s < j + 1 → fwG (mem.1 180) V np pw q (nI c) (nI a) s = true → i < pcI (nI s) := by
            intro hne s h1 h2 h3
            by_cases e : s = j
            · subst e
              have := hg s h1 hj h3
              have := hne h3
              omega
            · exact hs s h1 (by omega) h3
          refine hP _ _ _ _ _ ?_
          refine hP _ _ _ _ _ ?_
          refine hP _ _ _ _ _ ?_
          refine hP _ _ _ _ _ ⟨(zi hn rfl rfl rfl), ?_⟩
          refine hP _ _ _ _ _ ?_
          refine hP _ _ _ _ _ ⟨fun hz => absurd hz ( by show ¬ (1 : Int32) <<< (u.1 180 13 &&& 31) ≤ nI j; rw [e1]; exact nI_ge hj (by omega)), fun _ => ?_⟩
          refine hP _ _ _ _ _ ?_
          refine hP _ _ _ _ _ ⟨Nat.le_of_ble_eq_true rfl, Nat.le_of_ble_eq_true rfl, ?_⟩
          refine ⟨_, rfl, zs8_small (by omega), ?_⟩
          refine hP _ _ _ _ _ ?_
          refine hP _ _ _ _ _ ⟨fun h54 => ?_, fun h54 => ?_⟩
          ·
            refine hP _ _ _ _ _ ?_
            refine hP _ _ _ _ _ ?_
            refine hP _ _ _ _ _ ?_
            refine hP _ _ _ _ _ ?_
            refine hP _ _ _ _ _ ?_
            refine hP _ _ _ _ _ ⟨(zi hn rfl rfl rfl), Nat.le_of_ble_eq_true rfl, Nat.le_of_ble_eq_true rfl, ?_⟩
            refine ⟨_, _, _, _, rfl, ⟨hn, hF⟩, ?_⟩
            rw [asked_fr fu']
            refine hP _ _ _ _ _ ⟨fun h66 => ?_, fun h66 => ?_⟩
            ·
              have h66 := zb_0.mp h66
              refine hP _ _ _ _ _ ?_
              refine hP _ _ _ _ _ ?_
              first | exact ih2 (by omega) (step fun _ e => h54 (by rw [e])) u fu | exact ih2 (by omega) (step fun h _ => by simp [fwG, h66] at h) u fu | exact ih2 (by omega) (step fun h _ => by have gc : canN V np pw q (nI j) (nI c) (nI a) = -1 := h79; simp [fwG, gc] at h) _ fn
            ·
              have h66 := zb_n.mp h66
              refine hP _ _ _ _ _ ?_
              refine hP _ _ _ _ _ ?_
              refine hP _ _ _ _ _ ?_
              refine hP _ _ _ _ _ ?_
              refine hP _ _ _ _ _ ?_
              refine hP _ _ _ _ _ ⟨(zi hn rfl rfl rfl), Nat.le_of_ble_eq_true rfl, Nat.le_of_ble_eq_true rfl, ?_⟩
              refine ⟨_, q, c, np, pw, _, rfl, hq8, hc6, ⟨hn, hF⟩, hR, fun r hr => ?_⟩
              rw [zVr_ask fu]
              have fn := fr_rw (r := r) (fr_ask (ps := nI j) (kd := nI c) (am := nI a) fu)
              refine hP _ _ _ _ _ ?_
              refine hP _ _ _ _ _ ⟨fun h79 => ?_, fun h79 => ?_⟩
              ·
                refine hP _ _ _ _ _ ?_
                refine hP _ _ _ _ _ ?_
                first | exact ih2 (by omega) (step fun _ e => h54 (by rw [e])) u fu | exact ih2 (by omega) (step fun h _ => by simp [fwG, h66] at h) u fu | exact ih2 (by omega) (step fun h _ => by have gc : canN V np pw q (nI j) (nI c) (nI a) = -1 := h79; simp [fwG, gc] at h) _ fn
              ·
                have gc : ¬ canN V np pw q (nI j) (nI c) (nI a) = -1 := h79
                have gp : pcI (nI j) = i := (nI_eq (by have := pcI_le j (by omega); omega) (by omega)).mp h54
                refine hP _ _ _ _ _ ?_
                refine hP _ _ _ _ _ ?_
                refine ⟨rfl, hQ2 j h1j hj (by unfold fwG; rw [h66, decide_eq_false gc]; rfl) (fun s h1 h2 h3 => ?_) _ (fV.tr (fn.mono fun _ _ => sA_V))⟩
                rcases Nat.lt_or_ge s j with z | z
                · left; rw [gp]; exact hs s h1 z h3
                · rcases Nat.lt_or_ge i (pcI (nI s)) with y | y
                  · left; omega
                  · right; have := hg s h1 h2 h3; exact ⟨by omega, z⟩
          ·
            refine hP _ _ _ _ _ ?_
            refine hP _ _ _ _ _ ?_
            first | exact ih2 (by omega) (step fun _ e => h54 (by rw [e])) u fu | exact ih2 (by omega) (step fun h _ => by simp [fwG, h66] at h) u fu | exact ih2 (by omega) (step fun h _ => by have gc : canN V np pw q (nI j) (nI c) (nI a) = -1 := h79; simp [fwG, gc] at h) _ fn
      have fu' := fV.tr (fu.mono fun _ _ => sA_V)
      have r1 := (zRo_fr fu' hR).1
      refine hP _ _ _ _ _ ?_
      refine hP _ _ _ _ _ ?_
      refine hP _ _ _ _ _ ⟨(zi hn rfl rfl rfl), ?_⟩
      refine hP _ _ _ _ _ ⟨fun hz => absurd hz ( by rw [r1]; exact nI_nlt (by omega) (by omega)), fun _ => ?_⟩
      refine hP _ _ _ _ _ ?_
      refine hP _ _ _ _ _ ?_
      exact inner 1 (Nat.one_le_two_pow) (by omega) (fun s h1 h2 => by omega) u fu
  refine hP _ _ _ _ _ ?_
  refine hP _ _ _ _ _ ?_
  refine hP _ _ _ _ _ ?_
  refine hP _ _ _ _ _ ?_
  refine hP _ _ _ _ _ ⟨(zi hn rfl rfl rfl), Nat.le_of_ble_eq_true rfl, Nat.le_of_ble_eq_true rfl, ?_⟩
  refine ⟨_, _, _, rfl, ⟨hn, hF⟩, ?_⟩
  refine hP _ _ _ _ _ ⟨fun h12 => ?_, fun h12 => ?_⟩
  ·
    have h12 := zb_0.mp h12
    refine hP _ _ _ _ _ ?_
    refine hP _ _ _ _ _ ?_
    exact ⟨rfl, by simpa [h12] using hQ⟩
  ·
    have h12 := zb_n.mp h12
    obtain ⟨⟨q, hq, rfl⟩, ⟨c, hc, rfl⟩, ⟨a, ha, rfl⟩⟩ := kasked_in c1 c2 h12
    have hx := ix_nI (j := q) (by omega)
    rw [if_neg (by rw [h12]; decide), hx] at hQ
    refine hP _ _ _ _ _ ?_
    refine hP _ _ _ _ _ ⟨(zi hn rfl rfl rfl), Nat.le_of_ble_eq_true rfl, Nat.le_of_ble_eq_true rfl, ?_⟩
    refine ⟨m, np, pw, rfl, c5, by omega, ⟨hn, hF⟩, hR, ?_⟩
    have fV : zfr sV mem (zNow mem np pw m) := fr_vw (fr_see zfr.rf)
    unfold zNow at hQ fV
    generalize zVw np pw m (zsee mem (nI m) (mem.1 180 28)) = V at hQ fV ⊢
    refine hP _ _ _ _ _ ?_
    refine hP _ _ _ _ _ ?_
    exact loop V q c a (by omega) hc fV hQ.1 hQ.2 1 (by omega) (by omega) (fun s h1 h2 _ => pc_pos s (by omega) (by omega)) V zfr.rf _
