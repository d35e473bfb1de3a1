theorem pcn_le (x : Int32) : ∀ i, pcn x i ≤ i := by
  intro i
  induction i with
  | zero => exact Nat.le_refl _
  | succ i ih => rw [pcn]; have := Bool.toNat_le (bt x i); omega
theorem pcn_set {a : Int32} {v : Nat} (hv : v < 32) (h : bt a v = false) : ∀ i, i ≤ 32 → pcn (a ||| 1 <<< (nI v &&& 31)) i = pcn a i + (if v < i then 1 else 0) := by
  intro i
  induction i with
  | zero => intro _; rfl
  | succ i ih =>
    intro hi
    rw [pcn, pcn, ih (by omega), b_or, b_1shl hv (by omega)]
    by_cases e : i = v
    · subst e
      rw [h, decide_eq_true rfl, if_neg (Nat.lt_irrefl i), if_pos (Nat.lt_succ_self i)]; rfl
    · rw [decide_eq_false e, Bool.or_false]
      by_cases hl : v < i
      · rw [if_pos hl, if_pos (by omega)]; omega
      · rw [if_neg hl, if_neg (by omega)]; rfl
theorem pcI_set {a : Int32} {v : Nat} (hv : v < 8) (h : bt a v = false) : pcI (a ||| 1 <<< (nI v &&& 31)) = pcI a + 1 := by
  unfold pcI
  rw [pcn_set (by omega) h 8 (by omega), if_pos hv]
theorem upd_upd {r : Nat → Int32} {j : Nat} {a b : Int32} : upd (upd r j a) j b = upd r j b := by
  funext i
  by_cases h : i = j <;> simp [upd, h]
theorem upd_s {r : Nat → Int32} {j : Nat} {a : Int32} : upd r j a j = a := by simp [upd]
theorem upd_self {r : Nat → Int32} {j : Nat} {a : Int32} (h : r j = a) : upd r j a = r := by
  funext i
  by_cases e : i = j
  · subst e; simp [upd, h]
  · simp [upd, e]
theorem upd_o {r : Nat → Int32} {i j : Nat} {a : Int32} (h : i ≠ j) : upd r j a i = r i := by simp [upd, h]
def k_X11_readHolders : zCt := fun as n mem Q => ∃ (at' k sz np pw : Nat) (B : Nat → Int32), as = [.ref 180, .int (nI at')] ∧ at' + 1 < 160 ∧ zSx n mem B sz np pw ∧ zAt mem B sz k ∧ mem.1 183 (at' + 1) = 0 ∧ zRes sR n mem Q (hsT (tsS B sz) np (mem.1 183 at') k) (fun x M => zAt M B sz x.1 ∧ M.1 183 = upd (mem.1 183) (at' + 1) x.2)
theorem ok_X11_readHolders {l : Launch} {G : zG} : zOK l G yX11_readHolders cX11_readHolders 2 (some .boolean) 2 0 0 k_X11_readHolders := by
  intro as n mem Q hK
  obtain ⟨at', k, sz, np, pw, B, rfl, hat, hS, hA, h0, hQ⟩ := hK
  refine mtX11_readHolders ok_X11_bad (by decide) ok_X11_has (by decide) ok_X11_go (by decide) (List.forall_mem_cons.mpr ⟨rfl, List.forall_mem_cons.mpr ⟨rfl, fun _ h => absurd h List.not_mem_nil⟩⟩) (by simp) rfl (fun P hP => ?_)
  show P 0 [.ref 180, .int (nI at')] [] n mem
  obtain ⟨⟨hn, hF0⟩, s3, s8, sB, s16, s17, s18, s20⟩ := id hS
  have e0 : nI at' + nI 0 = nI (at' + 0) := nI_add _ _
  have e1 : nI at' + nI 1 = nI (at' + 1) := nI_add _ _
  have loop : ∀ f k a M, 9 ≤ f + pcI a → zfr sR mem M → zAt M B sz k → M.1 180 8 = mem.1 180 8 → M.1 183 = upd (mem.1 183) (at' + 1) a → zRes sR n mem Q (hlT (tsS B sz) np (mem.1 183 at') f k a) (fun x M => zAt M B sz x.1 ∧ M.1 183 = upd (mem.1 183) (at' + 1) x.2) → P 14 [.ref 180, .int (nI at')] [] n M := by
    intro f
    induction f with
    | zero => intro k a M hf; have := pcn_le a 8; unfold pcI at hf; omega
    | succ f ih =>
      intro k a M hf fM hA m8 h183 hQ
      have hS1 := sx_fr fM hS
      have hF := hS1.1.2
      have h3 := zTk_3 hA.1
      have r16 := hS1.2.2.2.2.1
      rw [hlT] at hQ
      have ra : M.1 183 (at' + 1) = a := by rw [h183, upd_s]
      have rg : M.1 183 (at' + 0) = mem.1 183 at' := by rw [h183, upd_o (by omega)]; rfl
      refine hP _ _ _ _ _ ?_
      refine hP _ _ _ _ _ ⟨(zi hn rfl rfl rfl), ?_⟩
      refine hP _ _ _ _ _ ?_
      refine hP _ _ _ _ _ ⟨fun h19 => ?_, fun h19 => ?_⟩
      ·
        have h2 := h3.mp h19
        have hv := zTk_v hA.1 h2
        have hv9 := ts_v h2
        have n2 : ¬ ¬ (tsS B sz k).1 = 2 := fun z => z h2
        rw [if_neg n2] at hQ
        obtain ⟨u1, u2⟩ := hA.2 (by omega)
        refine hP _ _ _ _ _ ?_
        refine hP _ _ _ _ _ ⟨(zi hn rfl rfl rfl), ?_⟩
        refine hP _ _ _ _ _ ?_
        refine hP _ _ _ _ _ ⟨(zi hn rfl rfl rfl), ?_⟩
        refine hP _ _ _ _ _ ⟨fun h30 => ?_, fun h30 => ?_⟩
        ·
          refine hP _ _ _ _ _ ?_
          refine hP _ _ _ _ _ ?_
          refine hP _ _ _ _ _ ⟨(zi hn rfl rfl rfl), Nat.le_of_ble_eq_true rfl, Nat.le_of_ble_eq_true rfl, ?_⟩
          refine ⟨3, _, _, _, rfl, fun z => by omega, ⟨hn, hF⟩, hA.1, ?_⟩
          refine hP _ _ _ _ _ ?_
          first | exact ⟨by decide, rfl, res_f hQ (if_pos (Or.inr (Or.inr (hv.symm.trans (h63.trans rg))))) _ (fr_bad fM r8 r9) rfl rfl⟩ | exact ⟨by decide, rfl, res_f hQ (if_pos (Or.inr (Or.inl h48))) _ (fr_bad fM r8 r9) rfl rfl⟩ | exact ⟨by decide, rfl, res_f hQ (if_pos (Or.inl ((nI_leI (by omega) (by omega)).mp (by rw [← hv, ← r16]; exact h30)))) _ (fr_bad fM r8 r9) rfl rfl⟩
        ·
          have hlt : (tsS B sz k).2.2 < np := Nat.not_le.mp fun z => h30 (by rw [hv, r16]; exact nI_le z (by omega))
          refine hP _ _ _ _ _ ?_
          refine hP _ _ _ _ _ ⟨(zi hn rfl rfl rfl), _, fx_Model_powersRead hF, (by decide), ?_⟩
          refine hP _ _ _ _ _ ?_
          refine hP _ _ _ _ _ ?_
          refine hP _ _ _ _ _ ?_
          refine hP _ _ _ _ _ ⟨_, at' + 1, (zi hn rfl rfl rfl), e1, by omega, ?_⟩
          refine hP _ _ _ _ _ ?_
          refine hP _ _ _ _ _ ⟨(zi hn rfl rfl rfl), ?_⟩
          refine hP _ _ _ _ _ ⟨Nat.le_of_ble_eq_true rfl, Nat.le_of_ble_eq_true rfl, ?_⟩
          refine ⟨a, (tsS B sz k).2.2, by rw [← ra, ← hv]; rfl, by omega, ?_⟩
          refine hP _ _ _ _ _ ⟨fun h48 => ?_, fun h48 => ?_⟩
          ·
            have h48 := zb_0.mp h48
            refine hP _ _ _ _ _ ?_
            refine hP _ _ _ _ _ ⟨(zi hn rfl rfl rfl), ?_⟩
            refine hP _ _ _ _ _ ?_
            refine hP _ _ _ _ _ ⟨(zi hn rfl rfl rfl), _, fx_Model_powersRead hF, (by decide), ?_⟩
            refine hP _ _ _ _ _ ?_
            refine hP _ _ _ _ _ ?_
            refine hP _ _ _ _ _ ?_
            refine hP _ _ _ _ _ ⟨_, at' + 0, (zi hn rfl rfl rfl), e0, by omega, ?_⟩
            refine hP _ _ _ _ _ ⟨fun h63 => ?_, fun h63 => ?_⟩
            ·
              refine hP _ _ _ _ _ ?_
              refine hP _ _ _ _ _ ?_
              refine hP _ _ _ _ _ ⟨(zi hn rfl rfl rfl), Nat.le_of_ble_eq_true rfl, Nat.le_of_ble_eq_true rfl, ?_⟩
              refine ⟨3, _, _, _, rfl, fun z => by omega, ⟨hn, hF⟩, hA.1, ?_⟩
              refine hP _ _ _ _ _ ?_
              first | exact ⟨by decide, rfl, res_f hQ (if_pos (Or.inr (Or.inr (hv.symm.trans (h63.trans rg))))) _ (fr_bad fM r8 r9) rfl rfl⟩ | exact ⟨by decide, rfl, res_f hQ (if_pos (Or.inr (Or.inl h48))) _ (fr_bad fM r8 r9) rfl rfl⟩ | exact ⟨by decide, rfl, res_f hQ (if_pos (Or.inl ((nI_leI (by omega) (by omega)).mp (by rw [← hv, ← r16]; exact h30)))) _ (fr_bad fM r8 r9) rfl rfl⟩
            ·
              refine hP _ _ _ _ _ ?_
              refine hP _ _ _ _ _ ⟨(zi hn rfl rfl rfl), _, fx_Model_powersRead hF, (by decide), ?_⟩
              refine hP _ _ _ _ _ ?_
              refine hP _ _ _ _ _ ?_
              refine hP _ _ _ _ _ ?_
              refine hP _ _ _ _ _ ?_
              refine hP _ _ _ _ _ ⟨_, at' + 1, (zi hn rfl rfl rfl), e1, by omega, ?_⟩
              refine hP _ _ _ _ _ ?_
              refine hP _ _ _ _ _ ?_
              refine hP _ _ _ _ _ ⟨(zi hn rfl rfl rfl), ?_⟩
              refine hP _ _ _ _ _ ?_
              refine hP _ _ _ _ _ ?_
              refine hP _ _ _ _ _ ⟨_, at' + 1, (zi hn rfl rfl rfl), e1, by omega, ?_⟩
              refine hP _ _ _ _ _ ?_
              refine hP _ _ _ _ _ ⟨(zi hn rfl rfl rfl), Nat.le_of_ble_eq_true rfl, Nat.le_of_ble_eq_true rfl, ?_⟩
              refine use_go (k := k + 1) (sx_fr (zfr.rf.I (Or.inr rfl)) hS1) u1 u2 fun M' fM' hA' => ?_
              refine hP _ _ _ _ _ ?_
              rw [if_neg (fun z => z.elim (fun y => by omega) (fun y => y.elim (fun y => by rw [h48] at y; cases y) (fun y => h63 (hv.trans (y.trans rg.symm)))))] at hQ
              refine ih (k + 1) _ M' (by rw [pcI_set (by omega) h48]; omega) ((fM.I (Or.inr rfl)).tr (fM'.mono fun _ _ => sG_R)) hA' (by have q := g8 fM'; exact q.trans m8) ?_ hQ
              rw [row_G fM' (by omega), zupd_I, h183, upd_upd, upd_s, hv]
          ·
            have h48 := zb_n.mp h48
            refine hP _ _ _ _ _ ?_
            refine hP _ _ _ _ _ ?_
            refine hP _ _ _ _ _ ⟨(zi hn rfl rfl rfl), Nat.le_of_ble_eq_true rfl, Nat.le_of_ble_eq_true rfl, ?_⟩
            refine ⟨3, _, _, _, rfl, fun z => by omega, ⟨hn, hF⟩, hA.1, ?_⟩
            refine hP _ _ _ _ _ ?_
            first | exact ⟨by decide, rfl, res_f hQ (if_pos (Or.inr (Or.inr (hv.symm.trans (h63.trans rg))))) _ (fr_bad fM r8 r9) rfl rfl⟩ | exact ⟨by decide, rfl, res_f hQ (if_pos (Or.inr (Or.inl h48))) _ (fr_bad fM r8 r9) rfl rfl⟩ | exact ⟨by decide, rfl, res_f hQ (if_pos (Or.inl ((nI_leI (by omega) (by omega)).mp (by rw [← hv, ← r16]; exact h30)))) _ (fr_bad fM r8 r9) rfl rfl⟩
      ·
        refine hP _ _ _ _ _ ?_
        refine hP _ _ _ _ _ ?_
        exact ⟨by decide, rfl, res_t hQ (if_pos (fun z => h19 (h3.mpr z))) M fM m8 ⟨hA, h183⟩⟩
  have hF := hF0
  have h3 := zTk_3 hA.1
  refine hP _ _ _ _ _ ?_
  refine hP _ _ _ _ _ ⟨(zi hn rfl rfl rfl), ?_⟩
  refine hP _ _ _ _ _ ?_
  refine hP _ _ _ _ _ ⟨fun h5 => ?_, fun h5 => ?_⟩
  ·
    exact loop 9 k 0 mem (by decide) zfr.rf hA rfl (upd_self h0).symm (by unfold hsT at hQ; rw [if_neg (fun z => z (h3.mp h5))] at hQ; exact hQ)
  ·
    refine hP _ _ _ _ _ ?_
    refine hP _ _ _ _ _ ?_
    refine hP _ _ _ _ _ ⟨(zi hn rfl rfl rfl), Nat.le_of_ble_eq_true rfl, Nat.le_of_ble_eq_true rfl, ?_⟩
    refine ⟨1, _, _, _, rfl, fun _ => rfl, ⟨hn, hF⟩, hA.1, ?_⟩
    refine hP _ _ _ _ _ ?_
    exact ⟨by decide, rfl, res_f hQ (if_pos (fun z => h5 (h3.mpr z))) _ (fr_bad zfr.rf r8 r9) rfl rfl⟩
def k_X11_readKinds : zCt := fun as n mem Q => ∃ (at' k sz np pw : Nat) (B : Nat → Int32), as = [.ref 180, .int (nI at')] ∧ at' + 3 < 160 ∧ zSx n mem B sz np pw ∧ zAt mem B sz k ∧ mem.1 183 (at' + 3) = 0 ∧ zRes sR n mem Q (ksT (tsS B sz) k) (fun x M => zAt M B sz x.1 ∧ M.1 183 = upd (mem.1 183) (at' + 3) x.2)
theorem ok_X11_readKinds {l : Launch} {G : zG} : zOK l G yX11_readKinds cX11_readKinds 2 (some .boolean) 2 0 0 k_X11_readKinds := by
  intro as n mem Q hK
  obtain ⟨at', k, sz, np, pw, B, rfl, hat, hS, hA, h0, hQ⟩ := hK
  refine mtX11_readKinds ok_X11_bad (by decide) ok_X11_has (by decide) ok_X11_go (by decide) (List.forall_mem_cons.mpr ⟨rfl, List.forall_mem_cons.mpr ⟨rfl, fun _ h => absurd h List.not_mem_nil⟩⟩) (by simp) rfl (fun P hP => ?_)
  show P 0 [.ref 180, .int (nI at')] [] n mem
  obtain ⟨⟨hn, hF0⟩, s3, s8, sB, s16, s17, s18, s20⟩ := id hS
  have e3 : nI at' + nI 3 = nI (at' + 3) := nI_add _ _
  have loop : ∀ f k a M, 9 ≤ f + pcI a → zfr sR mem M → zAt M B sz k → M.1 180 8 = mem.1 180 8 → M.1 183 = upd (mem.1 183) (at' + 3) a → zRes sR n mem Q (kdT (tsS B sz) f k a) (fun x M => zAt M B sz x.1 ∧ M.1 183 = upd (mem.1 183) (at' + 3) x.2) → P 14 [.ref 180, .int (nI at')] [] n M := by
    intro f
    induction f with
    | zero => intro k a M hf; have := pcn_le a 8; unfold pcI at hf; omega
    | succ f ih =>
      intro k a M hf fM hA m8 h183 hQ
      have hS1 := sx_fr fM hS
      have hF := hS1.1.2
      have h3 := zTk_3 hA.1
      rw [kdT] at hQ
      have ra : M.1 183 (at' + 3) = a := by rw [h183, upd_s]
      refine hP _ _ _ _ _ ?_
      refine hP _ _ _ _ _ ⟨(zi hn rfl rfl rfl), ?_⟩
      refine hP _ _ _ _ _ ?_
      refine hP _ _ _ _ _ ⟨fun h19 => ?_, fun h19 => ?_⟩
      ·
        have h2 := h3.mp h19
        have hv := zTk_v hA.1 h2
        have hv9 := ts_v h2
        have n2 : ¬ ¬ (tsS B sz k).1 = 2 := fun z => z h2
        rw [if_neg n2] at hQ
        obtain ⟨u1, u2⟩ := hA.2 (by omega)
        refine hP _ _ _ _ _ ?_
        refine hP _ _ _ _ _ ⟨(zi hn rfl rfl rfl), ?_⟩
        refine hP _ _ _ _ _ ?_
        refine hP _ _ _ _ _ ⟨fun h28 => ?_, fun h28 => ?_⟩
        ·
          have hlt : (tsS B sz k).2.2 < 6 := (nI_ltI (by omega) (by omega)).mp (by rw [← hv]; exact h28)
          rw [if_neg (by omega)] at hQ
          refine hP _ _ _ _ _ ?_
          refine hP _ _ _ _ _ ⟨(zi hn rfl rfl rfl), _, fx_Model_powersRead hF, (by decide), ?_⟩
          refine hP _ _ _ _ _ ?_
          refine hP _ _ _ _ _ ?_
          refine hP _ _ _ _ _ ?_
          refine hP _ _ _ _ _ ⟨_, at' + 3, (zi hn rfl rfl rfl), e3, by omega, ?_⟩
          refine hP _ _ _ _ _ ?_
          refine hP _ _ _ _ _ ⟨(zi hn rfl rfl rfl), ?_⟩
          refine hP _ _ _ _ _ ⟨Nat.le_of_ble_eq_true rfl, Nat.le_of_ble_eq_true rfl, ?_⟩
          refine ⟨a, (tsS B sz k).2.2, by rw [← ra, ← hv]; rfl, by omega, ?_⟩
          refine hP _ _ _ _ _ ⟨fun h52 => ?_, fun h52 => ?_⟩
          ·
            have h52 := zb_0.mp h52
            refine hP _ _ _ _ _ ?_
            refine hP _ _ _ _ _ ⟨(zi hn rfl rfl rfl), _, fx_Model_powersRead hF, (by decide), ?_⟩
            refine hP _ _ _ _ _ ?_
            refine hP _ _ _ _ _ ?_
            refine hP _ _ _ _ _ ?_
            refine hP _ _ _ _ _ ?_
            refine hP _ _ _ _ _ ⟨_, at' + 3, (zi hn rfl rfl rfl), e3, by omega, ?_⟩
            refine hP _ _ _ _ _ ?_
            refine hP _ _ _ _ _ ?_
            refine hP _ _ _ _ _ ⟨(zi hn rfl rfl rfl), ?_⟩
            refine hP _ _ _ _ _ ?_
            refine hP _ _ _ _ _ ?_
            refine hP _ _ _ _ _ ⟨_, at' + 3, (zi hn rfl rfl rfl), e3, by omega, ?_⟩
            refine hP _ _ _ _ _ ?_
            refine hP _ _ _ _ _ ⟨(zi hn rfl rfl rfl), Nat.le_of_ble_eq_true rfl, Nat.le_of_ble_eq_true rfl, ?_⟩
            refine use_go (k := k + 1) (sx_fr (zfr.rf.I (Or.inr rfl)) hS1) u1 u2 fun M' fM' hA' => ?_
            refine hP _ _ _ _ _ ?_
            rw [if_neg (by rw [h52]; decide)] at hQ
            refine ih (k + 1) _ M' (by rw [pcI_set (by omega) h52]; omega) ((fM.I (Or.inr rfl)).tr (fM'.mono fun _ _ => sG_R)) hA' (by have q := g8 fM'; exact q.trans m8) ?_ hQ
            rw [row_G fM' (by omega), zupd_I, h183, upd_upd, upd_s, hv]
          ·
            have h52 := zb_n.mp h52
            refine hP _ _ _ _ _ ?_
            refine hP _ _ _ _ _ ?_
            refine hP _ _ _ _ _ ⟨(zi hn rfl rfl rfl), Nat.le_of_ble_eq_true rfl, Nat.le_of_ble_eq_true rfl, ?_⟩
            refine ⟨3, _, _, _, rfl, fun z => by omega, ⟨hn, hF⟩, hA.1, ?_⟩
            refine hP _ _ _ _ _ ?_
            exact ⟨by decide, rfl, res_f hQ (if_pos h52) _ (fr_bad fM r8 r9) rfl rfl⟩
        ·
          refine hP _ _ _ _ _ ?_
          refine hP _ _ _ _ _ ?_
          refine hP _ _ _ _ _ ⟨(zi hn rfl rfl rfl), Nat.le_of_ble_eq_true rfl, Nat.le_of_ble_eq_true rfl, ?_⟩
          refine ⟨2, _, _, _, rfl, fun z => by omega, ⟨hn, hF⟩, hA.1, ?_⟩
          refine hP _ _ _ _ _ ?_
          exact ⟨by decide, rfl, res_f hQ (if_pos (Nat.not_lt.mp fun z => h28 (by rw [hv]; exact nI_lt (b := 6) z (by omega)))) _ (fr_bad fM r8 r9) rfl rfl⟩
      ·
        refine hP _ _ _ _ _ ?_
        refine hP _ _ _ _ _ ?_
        exact ⟨by decide, rfl, res_t hQ (if_pos (fun z => h19 (h3.mpr z))) M fM m8 ⟨hA, h183⟩⟩
  have hF := hF0
  have h3 := zTk_3 hA.1
  refine hP _ _ _ _ _ ?_
  refine hP _ _ _ _ _ ⟨(zi hn rfl rfl rfl), ?_⟩
  refine hP _ _ _ _ _ ?_
  refine hP _ _ _ _ _ ⟨fun h5 => ?_, fun h5 => ?_⟩
  ·
    exact loop 9 k 0 mem (by decide) zfr.rf hA rfl (upd_self h0).symm (by unfold ksT at hQ; rw [if_neg (fun z => z (h3.mp h5))] at hQ; exact hQ)
  ·
    refine hP _ _ _ _ _ ?_
    refine hP _ _ _ _ _ ?_
    refine hP _ _ _ _ _ ⟨(zi hn rfl rfl rfl), Nat.le_of_ble_eq_true rfl, Nat.le_of_ble_eq_true rfl, ?_⟩
    refine ⟨1, _, _, _, rfl, fun _ => rfl, ⟨hn, hF⟩, hA.1, ?_⟩
    refine hP _ _ _ _ _ ?_
    exact ⟨by decide, rfl, res_f hQ (if_pos (fun z => h5 (h3.mpr z))) _ (fr_bad zfr.rf r8 r9) rfl rfl⟩
def k_X11_readEnd : zCt := fun as n mem Q => ∃ (k sz np pw : Nat) (B : Nat → Int32), as = [.ref 180] ∧ zSx n mem B sz np pw ∧ zAt mem B sz k ∧ zRes sR n mem Q (tkT (tsS B sz) 3 k) (fun k' M => zAt M B sz k' ∧ M.1 183 = mem.1 183)
theorem ok_X11_readEnd {l : Launch} {G : zG} : zOK l G yX11_readEnd cX11_readEnd 1 (some .boolean) 2 0 0 k_X11_readEnd := by
  intro as n mem Q hK
  obtain ⟨k, sz, np, pw, B, rfl, hS, hA, hQ⟩ := hK
  refine mtX11_readEnd ok_X11_bad (by decide) ok_X11_go (by decide) (List.forall_mem_cons.mpr ⟨rfl, fun _ h => absurd h List.not_mem_nil⟩) (by simp) rfl (fun P hP => ?_)
  show P 0 [.ref 180] [] n mem
  obtain ⟨hn, hF⟩ := hS.1
  have h4 := zTk_4 hA.1
  refine hP _ _ _ _ _ ?_
  refine hP _ _ _ _ _ ⟨(zi hn rfl rfl rfl), ?_⟩
  refine hP _ _ _ _ _ ?_
  refine hP _ _ _ _ _ ⟨fun h5 => ?_, fun h5 => ?_⟩
  ·
    have h5 := h4.mp h5
    obtain ⟨t1, t2⟩ := hA.2 (by omega)
    refine hP _ _ _ _ _ ?_
    refine hP _ _ _ _ _ ⟨(zi hn rfl rfl rfl), Nat.le_of_ble_eq_true rfl, Nat.le_of_ble_eq_true rfl, ?_⟩
    refine use_go hS t1 t2 fun M fM hA' => ?_
    refine hP _ _ _ _ _ ?_
    refine hP _ _ _ _ _ ?_
    exact ⟨by decide, rfl, res_t hQ (if_pos h5) M (fM.mono fun _ _ => sG_R) (g8 fM) ⟨hA', row_G fM (by omega)⟩⟩
  ·
    refine hP _ _ _ _ _ ?_
    refine hP _ _ _ _ _ ?_
    refine hP _ _ _ _ _ ⟨(zi hn rfl rfl rfl), Nat.le_of_ble_eq_true rfl, Nat.le_of_ble_eq_true rfl, ?_⟩
    refine ⟨1, _, _, _, rfl, fun _ => rfl, ⟨hn, hF⟩, hA.1, ?_⟩
    refine hP _ _ _ _ _ ?_
    exact ⟨by decide, rfl, res_f hQ (if_neg (fun z => h5 (h4.mpr z))) _ (fr_bad zfr.rf r8 r9) rfl rfl⟩
/-- a party's line, without its end -/
def paT (T : zTS) (np : Nat) (k : Nat) : zOut Nat := if np = 8 then .inl (4, (T k).2.1) else .inr (k + 1)
def sRp (a b : Nat) : Prop := sR a b ∨ (a = 180 ∧ 16 ≤ b ∧ b ≤ 18)
theorem sR_p {a b : Nat} (h : sR a b) : sRp a b := Or.inl h
def k_X11_readParty : zCt := fun as n mem Q => ∃ (k sz np pw : Nat) (B : Nat → Int32), as = [.ref 180] ∧ zSx n mem B sz np pw ∧ zAt mem B sz k ∧ ((tsS B sz k).1 = 4 ∨ (tsS B sz k).1 = 5) ∧ zRes sRp n mem Q (paT (tsS B sz) np k) (fun k' M => zAt M B sz k' ∧ zSx n M B sz (np + 1) pw ∧ M.1 180 17 = mem.1 180 17 ||| (if (tsS B sz k).1 = 5 then 1 <<< (nI np &&& 31) else 0) ∧ M.1 183 = mem.1 183)
theorem ok_X11_readParty {l : Launch} {G : zG} : zOK l G yX11_readParty cX11_readParty 1 (some .boolean) 2 0 0 k_X11_readParty := by
  intro as n mem Q hK
  obtain ⟨k, sz, np, pw, B, rfl, hS, hA, hk, hQ⟩ := hK
  refine mtX11_readParty ok_X11_bad (by decide) ok_X11_is (by decide) ok_X11_go (by decide) (List.forall_mem_cons.mpr ⟨rfl, fun _ h => absurd h List.not_mem_nil⟩) (by simp) rfl (fun P hP => ?_)
  show P 0 [.ref 180] [] n mem
  obtain ⟨⟨hn, hF⟩, s3, s8, sB, s16, s17, s18, s20⟩ := id hS
  obtain ⟨t1, t2⟩ := hA.2 (by omega)
  unfold paT at hQ
  have e16 : mem.1 180 16 + 1 = nI (np + 1) := by rw [s16]; exact nI_1 np
  by_cases h8 : np = 8
  ·
    refine hP _ _ _ _ _ ?_
    refine hP _ _ _ _ _ ⟨(zi hn rfl rfl rfl), ?_⟩
    refine hP _ _ _ _ _ ?_
    refine hP _ _ _ _ _ ⟨fun _ => ?_, fun hz => absurd ( by rw [s16, h8]; rfl) hz⟩
    refine hP _ _ _ _ _ ?_
    refine hP _ _ _ _ _ ?_
    refine hP _ _ _ _ _ ⟨(zi hn rfl rfl rfl), Nat.le_of_ble_eq_true rfl, Nat.le_of_ble_eq_true rfl, ?_⟩
    refine ⟨4, _, _, _, rfl, fun z => by omega, ⟨hn, hF⟩, hA.1, ?_⟩
    refine hP _ _ _ _ _ ?_
    exact ⟨by decide, rfl, res_f hQ (if_pos h8) _ (fr_bad zfr.rf (sR_p r8) (sR_p r9)) rfl rfl⟩
  · have go : ∀ N, zfr sRp mem N → N.1 180 16 = nI np → N.1 180 17 = mem.1 180 17 ||| (if (tsS B sz k).1 = 5 then 1 <<< (nI np &&& 31) else 0) → N.1 183 = mem.1 183 → N.1 180 4 = mem.1 180 4 → N.1 180 8 = mem.1 180 8 → N.1 180 3 = nI sz → N.1 181 = B → N.1 180 18 = nI pw → zFx N → P 38 [.ref 180] [] n N := by
      intro N fN n16 n17 n183 n4 n8 n3 nB n18 hFN
      have hS1 : zSx n (zI N 180 16 (N.1 180 16 + 1)) B sz (np + 1) pw := ⟨⟨hn, hFN⟩, n3, s8, nB, by rw [zI_s, n16]; exact nI_1 np, by omega, n18, s20⟩
      have f1 : zfr sRp mem (zI N 180 16 (N.1 180 16 + 1)) := fN.I (Or.inr ⟨rfl, by omega⟩)
      refine hP _ _ _ _ _ ?_
      refine hP _ _ _ _ _ ?_
      refine hP _ _ _ _ _ ⟨(zi hn rfl rfl rfl), ?_⟩
      refine hP _ _ _ _ _ ?_
      refine hP _ _ _ _ _ ?_
      refine hP _ _ _ _ _ ⟨(zi hn rfl rfl rfl), ?_⟩
      refine hP _ _ _ _ _ ?_
      refine hP _ _ _ _ _ ⟨(zi hn rfl rfl rfl), Nat.le_of_ble_eq_true rfl, Nat.le_of_ble_eq_true rfl, ?_⟩
      refine use_go (k := k + 1) hS1 (n4.trans t1) t2 fun M fM hA' => ?_
      refine hP _ _ _ _ _ ?_
      refine hP _ _ _ _ _ ?_
      refine ⟨by decide, rfl, res_t hQ (if_neg h8) M (f1.tr (fM.mono fun _ _ z => sR_p (sG_R z))) (by have q := g8 fM; exact q.trans n8) ⟨hA', sx_fr (fM.mono fun _ _ => sG_R) hS1, ?_, ?_⟩⟩
      · rw [fM.1 180 17 (by unfold sG; omega), zI_o (by omega)]; exact n17
      · rw [row_G fM (by omega), zI_ne (by omega)]; exact n183
    refine hP _ _ _ _ _ ?_
    refine hP _ _ _ _ _ ⟨(zi hn rfl rfl rfl), ?_⟩
    refine hP _ _ _ _ _ ?_
    refine hP _ _ _ _ _ ⟨fun hz => absurd hz ( by rw [s16]; exact fun z => h8 ((nI_eq (by omega) (by omega)).mp z)), fun _ => ?_⟩
    refine hP _ _ _ _ _ ?_
    refine hP _ _ _ _ _ ?_
    refine hP _ _ _ _ _ ⟨(zi hn rfl rfl rfl), Nat.le_of_ble_eq_true rfl, Nat.le_of_ble_eq_true rfl, ?_⟩
    refine ⟨1, _, _, _, rfl, by omega, ⟨hn, hF⟩, hA.1, ?_⟩
    refine hP _ _ _ _ _ ⟨fun h20 => ?_, fun h20 => ?_⟩
    ·
      have h20 := zb_0.mp h20
      first | exact go _ (zfr.rf.I (Or.inr ⟨rfl, by omega⟩)) s16 (by rw [zI_s, if_pos (of_decide_eq_true h20), s16]) rfl rfl rfl s3 sB s18 hF | exact go mem zfr.rf s16 (by rw [if_neg (of_decide_eq_false h20), or_0]) rfl rfl rfl s3 sB s18 hF
    ·
      have h20 := zb_n.mp h20
      refine hP _ _ _ _ _ ?_
      refine hP _ _ _ _ _ ?_
      refine hP _ _ _ _ _ ⟨(zi hn rfl rfl rfl), ?_⟩
      refine hP _ _ _ _ _ ?_
      refine hP _ _ _ _ _ ?_
      refine hP _ _ _ _ _ ⟨(zi hn rfl rfl rfl), ?_⟩
      refine hP _ _ _ _ _ ?_
      refine hP _ _ _ _ _ ?_
      refine hP _ _ _ _ _ ⟨(zi hn rfl rfl rfl), ?_⟩
      first | exact go _ (zfr.rf.I (Or.inr ⟨rfl, by omega⟩)) s16 (by rw [zI_s, if_pos (of_decide_eq_true h20), s16]) rfl rfl rfl s3 sB s18 hF | exact go mem zfr.rf s16 (by rw [if_neg (of_decide_eq_false h20), or_0]) rfl rfl rfl s3 sB s18 hF
