/-! ===== lines, a text ===== -/
/-- parties, firms, powers, their rows (with what is upward of each at 8) -/
abbrev zPS : Type := Nat × Int32 × Nat × (Nat → Nat → Int32)
def setR (R : Nat → Nat → Int32) (pw : Nat) (r : zRow) (p j : Nat) : Int32 := if p = pw then (if j < 8 then rowAt r j else 1 <<< (nI pw &&& 31) ||| (if rowAt r 7 = -1 then 0 else R (ix (rowAt r 7)) 8)) else R p j
def rlT (T : zTS) (s : zPS) (k : Nat) : zOut (Nat × zPS) :=
  if (T k).1 = 4 ∨ (T k).1 = 5 then ob (paT T s.1 k) fun k1 => .inr (k1, s.1 + 1, s.2.1 ||| (if (T k).1 = 5 then 1 <<< (nI s.1 &&& 31) else 0), s.2.2.1, s.2.2.2)
  else if (T k).1 = 6 ∨ (T k).1 = 7 then ob (rpT T s.1 s.2.2.1 s.2.2.2 k) fun x => .inr (x.1, s.1, s.2.1, s.2.2.1 + 1, setR s.2.2.2 s.2.2.1 x.2)
  else .inl (1, (T k).2.1)
def lnT (T : zTS) (s : zPS) (k : Nat) : zOut (Nat × zPS) := ob (rlT T s k) fun x => ob (tkT T 3 x.1) fun k' => .inr (k', x.2)
def txT (T : zTS) : Nat → Nat → zPS → zOut zPS
  | 0, _, s => .inr s
  | f + 1, k, s => if (T k).1 = 0 then .inr s else ob (lnT T s k) fun x => txT T f x.1 x.2
/-- the reference has read so far -/
def zRp (n : Nat) (M : zM) (B : Nat → Int32) (sz : Nat) (s : zPS) : Prop := zSx n M B sz s.1 s.2.2.1 ∧ M.1 180 17 = s.2.1 ∧ ∀ p, p < s.2.2.1 → ∀ j, j < 8 → M.1 183 (8 * p + j) = s.2.2.2 p j
theorem rdT_R {T : zTS} {np pw k : Nat} {R R' : Nat → Nat → Int32} (h : ∀ p, p < pw → R p 0 = R' p 0 ∧ R p 6 = R' p 6) : rdT T np pw R k = rdT T np pw R' k := by
  unfold rdT
  rw [gvT_R h]
theorem rpT_R {T : zTS} {np pw k : Nat} {R R' : Nat → Nat → Int32} (h : ∀ p, p < pw → R p 0 = R' p 0 ∧ R p 6 = R' p 6) : rpT T np pw R k = rpT T np pw R' k := by
  unfold rpT
  rw [rdT_R h]
def k_X11_readLine : zCt := fun as n mem Q => ∃ (k sz : Nat) (B : Nat → Int32) (s : zPS), as = [.ref 180] ∧ zRp n mem B sz s ∧ zAt mem B sz k ∧ zRes sRp n mem Q (rlT (tsS B sz) s k) (fun x M => zAt M B sz x.1 ∧ zRp n M B sz x.2)
theorem ok_X11_readLine {l : Launch} {G : zG} : zOK l G yX11_readLine cX11_readLine 1 (some .boolean) 4 0 0 k_X11_readLine := by
  intro as n mem Q hK
  obtain ⟨k, sz, B, s, rfl, hR, hA, hQ⟩ := hK
  refine mtX11_readLine ok_X11_is (by decide) ok_X11_readParty (by decide) ok_X11_readPower (by decide) ok_X11_bad (by decide) (List.forall_mem_cons.mpr ⟨rfl, fun _ h => absurd h List.not_mem_nil⟩) (by simp) rfl (fun P hP => ?_)
  show P 0 [.ref 180] [] n mem
  obtain ⟨hS, h17, hrow⟩ := hR
  obtain ⟨hn, hF⟩ := hS.1
  have party : ((tsS B sz k).1 = 4 ∨ (tsS B sz k).1 = 5) → P 16 [.ref 180] [] n mem := by
    intro h45
    unfold rlT at hQ
    rw [if_pos h45] at hQ
    refine hP _ _ _ _ _ ?_
    refine hP _ _ _ _ _ ⟨(zi hn rfl rfl rfl), Nat.le_of_ble_eq_true rfl, Nat.le_of_ble_eq_true rfl, ?_⟩
    refine ⟨k, sz, s.1, s.2.2.1, B, rfl, hS, hA, h45, res_i (fun e ho M fM g8 g9 => ?_) (fun a ho M fM m8 hg => ?_)⟩
    · refine hP _ _ _ _ _ ?_
      exact ⟨by decide, rfl, res_f hQ (ob_l ho) M fM g8 g9⟩
    refine hP _ _ _ _ _ ?_
    exact ⟨by decide, rfl, res_t hQ (ob_r ho) M fM m8 ⟨hg.1, hg.2.1, by rw [hg.2.2.1, h17], fun p hp j hj => by rw [hg.2.2.2]; exact hrow p hp j hj⟩⟩
  have power : ¬ ((tsS B sz k).1 = 4 ∨ (tsS B sz k).1 = 5) → ((tsS B sz k).1 = 6 ∨ (tsS B sz k).1 = 7) → P 37 [.ref 180] [] n mem := by
    intro n45 h67
    unfold rlT at hQ
    rw [if_neg n45, if_pos h67, ← rpT_R (R := Rm (mem.1 183)) (fun p hp => ⟨hrow p hp 0 (by omega), hrow p hp 6 (by omega)⟩)] at hQ
    refine hP _ _ _ _ _ ?_
    refine hP _ _ _ _ _ ⟨(zi hn rfl rfl rfl), Nat.le_of_ble_eq_true rfl, Nat.le_of_ble_eq_true rfl, ?_⟩
    refine ⟨k, sz, s.1, s.2.2.1, B, rfl, hS, hA, h67, res_i (fun e ho M fM g8 g9 => ?_) (fun a ho M fM m8 hg => ?_)⟩
    · refine hP _ _ _ _ _ ?_
      refine hP _ _ _ _ _ ?_
      exact ⟨by decide, rfl, res_f hQ (ob_l ho) M fM g8 g9⟩
    refine hP _ _ _ _ _ ?_
    refine hP _ _ _ _ _ ?_
    refine ⟨by decide, rfl, res_t hQ (ob_r ho) M fM m8 ⟨hg.1, hg.2.1, hg.2.2.1.trans h17, fun p hp j hj => ?_⟩⟩
    show _ = setR s.2.2.2 s.2.2.1 a.2 p j
    unfold setR
    by_cases e : p = s.2.2.1
    · rw [if_pos e, if_pos hj, e]; exact hg.2.2.2.1 j hj
    · have hp : p < s.2.2.1 + 1 := hp
      rw [if_neg e, hg.2.2.2.2 _ (by omega)]; exact hrow p (by omega) j hj
  refine hP _ _ _ _ _ ?_
  refine hP _ _ _ _ _ ?_
  refine hP _ _ _ _ _ ⟨(zi hn rfl rfl rfl), Nat.le_of_ble_eq_true rfl, Nat.le_of_ble_eq_true rfl, ?_⟩
  refine ⟨0, _, _, _, rfl, by omega, ⟨hn, hF⟩, hA.1, ?_⟩
  refine hP _ _ _ _ _ ⟨fun h5 => ?_, fun h5 => ?_⟩
  ·
    have h5 := zb_0.mp h5
    refine hP _ _ _ _ _ ?_
    refine hP _ _ _ _ _ ?_
    refine hP _ _ _ _ _ ⟨(zi hn rfl rfl rfl), Nat.le_of_ble_eq_true rfl, Nat.le_of_ble_eq_true rfl, ?_⟩
    refine ⟨1, _, _, _, rfl, by omega, ⟨hn, hF⟩, hA.1, ?_⟩
    refine hP _ _ _ _ _ ⟨fun h13 => ?_, fun h13 => ?_⟩
    ·
      have h13 := zb_0.mp h13
      have n45 : ¬ ((tsS B sz k).1 = 4 ∨ (tsS B sz k).1 = 5) := fun z => z.elim (of_decide_eq_false h5) (of_decide_eq_false h13)
      refine hP _ _ _ _ _ ?_
      refine hP _ _ _ _ _ ?_
      refine hP _ _ _ _ _ ⟨(zi hn rfl rfl rfl), Nat.le_of_ble_eq_true rfl, Nat.le_of_ble_eq_true rfl, ?_⟩
      refine ⟨2, _, _, _, rfl, by omega, ⟨hn, hF⟩, hA.1, ?_⟩
      refine hP _ _ _ _ _ ⟨fun h26 => ?_, fun h26 => ?_⟩
      ·
        have h26 := zb_0.mp h26
        refine hP _ _ _ _ _ ?_
        refine hP _ _ _ _ _ ?_
        refine hP _ _ _ _ _ ⟨(zi hn rfl rfl rfl), Nat.le_of_ble_eq_true rfl, Nat.le_of_ble_eq_true rfl, ?_⟩
        refine ⟨3, _, _, _, rfl, by omega, ⟨hn, hF⟩, hA.1, ?_⟩
        refine hP _ _ _ _ _ ⟨fun h34 => ?_, fun h34 => ?_⟩
        ·
          have h34 := zb_0.mp h34
          refine hP _ _ _ _ _ ?_
          refine hP _ _ _ _ _ ?_
          refine hP _ _ _ _ _ ⟨(zi hn rfl rfl rfl), Nat.le_of_ble_eq_true rfl, Nat.le_of_ble_eq_true rfl, ?_⟩
          refine ⟨1, _, _, _, rfl, fun _ => rfl, ⟨hn, hF⟩, hA.1, ?_⟩
          refine hP _ _ _ _ _ ?_
          exact ⟨by decide, rfl, res_f hQ (by unfold rlT; rw [if_neg n45, if_neg (fun z => z.elim (of_decide_eq_false h26) (of_decide_eq_false h34))]) _ (fr_bad zfr.rf (sR_p r8) (sR_p r9)) rfl rfl⟩
        ·
          have h34 := zb_n.mp h34
          first | exact power n45 (Or.inl (of_decide_eq_true h26)) | exact power n45 (Or.inr (of_decide_eq_true h34))
      ·
        have h26 := zb_n.mp h26
        first | exact power n45 (Or.inl (of_decide_eq_true h26)) | exact power n45 (Or.inr (of_decide_eq_true h34))
    ·
      have h13 := zb_n.mp h13
      first | exact party (Or.inl (of_decide_eq_true h5)) | exact party (Or.inr (of_decide_eq_true h13))
  ·
    have h5 := zb_n.mp h5
    first | exact party (Or.inl (of_decide_eq_true h5)) | exact party (Or.inr (of_decide_eq_true h13))
/-- all begins anew -/
def sB (a b : Nat) : Prop := (a = 180 ∧ 27 ≤ b ∧ b ≤ 29) ∨ a = 184 ∨ a = 185 ∨ a = 186 ∨ a = 187 ∨ a = 188
def k_X11_begins : zCt := fun as n mem Q => as = [.ref 180] ∧ zst n mem ∧ (∀ M, zfr sB mem M → M.1 180 27 = 0 → M.1 180 28 = 0 → M.1 180 29 = 0 → (∀ i, i < 60 → M.1 185 i = -1) → (∀ i, i < 160 → M.1 186 i = -1) → (∀ i, i < 8 → M.1 187 i = -1) → (∀ i, i < 301 → M.1 184 i = 0 ∧ M.1 188 i = -1) → Q none n M)
theorem zFx_B {M m : zM} (h : zfr sB M m) (hF : zFx M) : zFx m := by
  have e : ∀ a b, ¬ sB a b → m.2.2 a b = M.2.2 a b := h.2.2
  have hl : ∀ q ∈ zfxl, ¬ sB q.1 q.2.1 := by unfold sB; decide +kernel
  refine ⟨fun q hq => (e _ _ (hl q hq)).trans (hF.1 q hq), fun p hp => ?_, fun a ha => ?_, ?_⟩
  · rw [e 137 p (by unfold sB; omega), e 159 p (by unfold sB; omega)]; exact hF.2.1 p hp
  · rw [e 119 a (by unfold sB; omega)]; exact hF.2.2.1 a ha
  · rw [e 100 8 (by unfold sB; omega), e 100 9 (by unfold sB; omega)]; exact hF.2.2.2
/-- one more of a row is set -/
theorem set_m {M : zM} {a i : Nat} {v : Int32} (h : ∀ j, j < i → M.1 a j = v) : ∀ j, j < i + 1 → (zI M a i v).1 a j = v := by
  intro j hj
  by_cases e : j = i
  · subst e; exact zI_s
  · rw [zI_o e]; exact h j (by omega)
theorem ok_X11_begins {l : Launch} {G : zG} : zOK l G yX11_begins cX11_begins 2 none 0 0 0 k_X11_begins := by
  intro as n mem Q hK
  obtain ⟨rfl, ⟨hn, hF0⟩, hQ⟩ := hK
  refine mtX11_begins (List.forall_mem_cons.mpr ⟨rfl, fun _ h => absurd h List.not_mem_nil⟩) (by simp) rfl (fun P hP => ?_)
  show P 0 [.ref 180, .null] [] n mem
  have l4 : ∀ i, i ≤ 301 → ∀ M, zfr sB mem M → M.1 180 27 = 0 → M.1 180 28 = 0 → M.1 180 29 = 0 → (∀ i, i < 60 → M.1 185 i = -1) → (∀ i, i < 160 → M.1 186 i = -1) → (∀ i, i < 8 → M.1 187 i = -1) → (∀ j, j < i → M.1 184 j = 0) → (∀ j, j < i → M.1 188 j = -1) → P 81 [.ref 180, .int (nI i)] [] n M := by
    refine zloop ?_ ?_
    · intro M fM a b c d e f g h
      refine hP _ _ _ _ _ ?_
      refine hP _ _ _ _ _ ?_
      refine hP _ _ _ _ _ ⟨fun _ => ?_, fun hz => absurd ( by decide) hz⟩
      refine hP _ _ _ _ _ ?_
      exact ⟨rfl, hQ M fM a b c d e f (fun i hi => ⟨g i hi, h i hi⟩)⟩
    · intro i hi ih M fM a b c d e f g h
      have hF := zFx_B fM hF0
      have ih1 := ih (zI (zI M 184 i 0) 188 i (-1)) ((fM.I (Or.inr (Or.inl rfl))).I (Or.inr (Or.inr (Or.inr (Or.inr (Or.inr rfl)))))) a b c d e f (fun j hj => by rw [zI_ne (by omega)]; exact set_m g j hj) (set_m h)
      rw [nI_succ i] at ih1
      refine hP _ _ _ _ _ ?_
      refine hP _ _ _ _ _ ?_
      refine hP _ _ _ _ _ ⟨fun hz => absurd hz ( nI_ge (b := 301) hi (by omega)), fun _ => ?_⟩
      refine hP _ _ _ _ _ ?_
      refine hP _ _ _ _ _ ⟨(zi hn rfl rfl rfl), _, fx_Model_dayOf hF, (by decide), ?_⟩
      refine hP _ _ _ _ _ ?_
      refine hP _ _ _ _ _ ?_
      refine hP _ _ _ _ _ ⟨_, i, (zi hn rfl rfl rfl), rfl, by omega, ?_⟩
      refine hP _ _ _ _ _ ?_
      refine hP _ _ _ _ _ ⟨(zi hn rfl rfl rfl), _, fx_Model_narrowPower hF, (by decide), ?_⟩
      refine hP _ _ _ _ _ ?_
      refine hP _ _ _ _ _ ?_
      refine hP _ _ _ _ _ ⟨_, i, (zi hn rfl rfl rfl), rfl, by omega, ?_⟩
      refine hP _ _ _ _ _ ?_
      refine hP _ _ _ _ _ ?_
      exact ih1
  have l3 : ∀ i, i ≤ 8 → ∀ M, zfr sB mem M → M.1 180 27 = 0 → M.1 180 28 = 0 → M.1 180 29 = 0 → (∀ i, i < 60 → M.1 185 i = -1) → (∀ i, i < 160 → M.1 186 i = -1) → (∀ j, j < i → M.1 187 j = -1) → P 60 [.ref 180, .int (nI i)] [] n M := by
    refine zloop ?_ ?_
    · intro M fM a b c d e f
      refine hP _ _ _ _ _ ?_
      refine hP _ _ _ _ _ ?_
      refine hP _ _ _ _ _ ⟨fun _ => ?_, fun hz => absurd ( by decide) hz⟩
      refine hP _ _ _ _ _ ?_
      refine hP _ _ _ _ _ ?_
      exact l4 0 (by omega) M fM a b c d e f (fun j hj => absurd hj (Nat.not_lt_zero _)) (fun j hj => absurd hj (Nat.not_lt_zero _))
    · intro i hi ih M fM a b c d e f
      have hF := zFx_B fM hF0
      have ih1 := ih (zI M 187 i (-1)) (fM.I (Or.inr (Or.inr (Or.inr (Or.inr (Or.inl rfl)))))) a b c d e (set_m f)
      rw [nI_succ i] at ih1
      refine hP _ _ _ _ _ ?_
      refine hP _ _ _ _ _ ?_
      refine hP _ _ _ _ _ ⟨fun hz => absurd hz ( nI_ge (b := 8) hi (by omega)), fun _ => ?_⟩
      refine hP _ _ _ _ _ ?_
      refine hP _ _ _ _ _ ⟨(zi hn rfl rfl rfl), _, fx_Model_diedAt hF, (by decide), ?_⟩
      refine hP _ _ _ _ _ ?_
      refine hP _ _ _ _ _ ?_
      refine hP _ _ _ _ _ ⟨_, i, (zi hn rfl rfl rfl), rfl, by omega, ?_⟩
      refine hP _ _ _ _ _ ?_
      refine hP _ _ _ _ _ ?_
      exact ih1
  have l2 : ∀ i, i ≤ 160 → ∀ M, zfr sB mem M → M.1 180 27 = 0 → M.1 180 28 = 0 → M.1 180 29 = 0 → (∀ i, i < 60 → M.1 185 i = -1) → (∀ j, j < i → M.1 186 j = -1) → P 38 [.ref 180, .int (nI i)] [] n M := by
    refine zloop ?_ ?_
    · intro M fM a b c d e
      refine hP _ _ _ _ _ ?_
      refine hP _ _ _ _ _ ?_
      refine hP _ _ _ _ _ ⟨fun _ => ?_, fun hz => absurd ( by decide) hz⟩
      refine hP _ _ _ _ _ ?_
      refine hP _ _ _ _ _ ?_
      exact l3 0 (by omega) M fM a b c d e (fun j hj => absurd hj (Nat.not_lt_zero _))
    · intro i hi ih M fM a b c d e
      have hF := zFx_B fM hF0
      have ih1 := ih (zI M 186 i (-1)) (fM.I (Or.inr (Or.inr (Or.inr (Or.inl rfl))))) a b c d (set_m e)
      rw [nI_succ i] at ih1
      refine hP _ _ _ _ _ ?_
      refine hP _ _ _ _ _ ?_
      refine hP _ _ _ _ _ ⟨fun hz => absurd hz ( nI_ge (b := 160) hi (by omega)), fun _ => ?_⟩
      refine hP _ _ _ _ _ ?_
      refine hP _ _ _ _ _ ⟨(zi hn rfl rfl rfl), _, fx_Model_notices hF, (by decide), ?_⟩
      refine hP _ _ _ _ _ ?_
      refine hP _ _ _ _ _ ?_
      refine hP _ _ _ _ _ ⟨_, i, (zi hn rfl rfl rfl), rfl, by omega, ?_⟩
      refine hP _ _ _ _ _ ?_
      refine hP _ _ _ _ _ ?_
      exact ih1
  have l1 : ∀ i, i ≤ 60 → ∀ M, zfr sB mem M → M.1 180 27 = 0 → M.1 180 28 = 0 → M.1 180 29 = 0 → (∀ j, j < i → M.1 185 j = -1) → P 17 [.ref 180, .int (nI i)] [] n M := by
    refine zloop ?_ ?_
    · intro M fM a b c d
      refine hP _ _ _ _ _ ?_
      refine hP _ _ _ _ _ ?_
      refine hP _ _ _ _ _ ⟨fun _ => ?_, fun hz => absurd ( by decide) hz⟩
      refine hP _ _ _ _ _ ?_
      refine hP _ _ _ _ _ ?_
      exact l2 0 (by omega) M fM a b c d (fun j hj => absurd hj (Nat.not_lt_zero _))
    · intro i hi ih M fM a b c d
      have hF := zFx_B fM hF0
      have ih1 := ih (zI M 185 i (-1)) (fM.I (Or.inr (Or.inr (Or.inl rfl)))) a b c (set_m d)
      rw [nI_succ i] at ih1
      refine hP _ _ _ _ _ ?_
      refine hP _ _ _ _ _ ?_
      refine hP _ _ _ _ _ ⟨fun hz => absurd hz ( nI_ge (b := 60) hi (by omega)), fun _ => ?_⟩
      refine hP _ _ _ _ _ ?_
      refine hP _ _ _ _ _ ⟨(zi hn rfl rfl rfl), _, fx_Model_entries hF, (by decide), ?_⟩
      refine hP _ _ _ _ _ ?_
      refine hP _ _ _ _ _ ?_
      refine hP _ _ _ _ _ ⟨_, i, (zi hn rfl rfl rfl), rfl, by omega, ?_⟩
      refine hP _ _ _ _ _ ?_
      refine hP _ _ _ _ _ ?_
      exact ih1
  refine hP _ _ _ _ _ ?_
  refine hP _ _ _ _ _ ?_
  refine hP _ _ _ _ _ ⟨(zi hn rfl rfl rfl), ?_⟩
  refine hP _ _ _ _ _ ?_
  refine hP _ _ _ _ _ ?_
  refine hP _ _ _ _ _ ⟨(zi hn rfl rfl rfl), ?_⟩
  refine hP _ _ _ _ _ ?_
  refine hP _ _ _ _ _ ?_
  refine hP _ _ _ _ _ ⟨(zi hn rfl rfl rfl), ?_⟩
  refine hP _ _ _ _ _ ?_
  refine hP _ _ _ _ _ ?_
  exact l1 0 (by omega) _ (((zfr.rf.I (Or.inl ⟨rfl, by omega⟩)).I (Or.inl ⟨rfl, by omega⟩)).I (Or.inl ⟨rfl, by omega⟩)) rfl rfl rfl (fun j hj => absurd hj (Nat.not_lt_zero _))
