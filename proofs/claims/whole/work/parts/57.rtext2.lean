def sTx (a b : Nat) : Prop := (a = 180 ∧ (b = 0 ∨ (2 ≤ b ∧ b ≤ 10) ∨ (16 ≤ b ∧ b ≤ 18))) ∨ a = 183
def sTy (a b : Nat) : Prop := sTx a b ∨ (a = 180 ∧ 13 ≤ b ∧ b ≤ 15) ∨ a = 182 ∨ sB a b
theorem sRp_x {a b : Nat} (h : sRp a b) : sTx a b := by unfold sRp sR at h; unfold sTx; omega
theorem sR_x {a b : Nat} (h : sR a b) : sTx a b := sRp_x (sR_p h)
theorem zFx_y {M m : zM} (h : zfr sTy M m) (hF : zFx M) : zFx m := by
  have e : ∀ a b, ¬ sTy a b → m.2.2 a b = M.2.2 a b := h.2.2
  have hl : ∀ q ∈ zfxl, ¬ sTy q.1 q.2.1 := by unfold sTy sTx sB; decide +kernel
  refine ⟨fun q hq => (e _ _ (hl q hq)).trans (hF.1 q hq), fun p hp => ?_, fun a ha => ?_, ?_⟩
  · rw [e 137 p (by unfold sTy sTx sB; omega), e 159 p (by unfold sTy sTx sB; omega)]; exact hF.2.1 p hp
  · rw [e 119 a (by unfold sTy sTx sB; omega)]; exact hF.2.2.1 a ha
  · rw [e 100 8 (by unfold sTy sTx sB; omega), e 100 9 (by unfold sTy sTx sB; omega)]; exact hF.2.2.2
def txR (B : Nat → Int32) (sz : Nat) : zOut zPS := txT (tsS B sz) 29 0 (0, 0, 0, fun _ _ => 0)
/-- the reference behind a text that was taken -/
def txG (s : zPS) (M : zM) : Prop := M.1 180 2 = 0 ∧ M.1 180 8 = 0 ∧ M.1 180 13 = nI s.1 ∧ M.1 180 14 = s.2.1 ∧ M.1 180 15 = nI s.2.2.1 ∧ (∀ p, p < s.2.2.1 → ∀ j, j < 8 → M.1 182 (8 * p + j) = s.2.2.2 p j) ∧ M.1 180 27 = 0 ∧ M.1 180 28 = 0 ∧ M.1 180 29 = 0 ∧ (∀ i, i < 60 → M.1 185 i = -1) ∧ (∀ i, i < 160 → M.1 186 i = -1) ∧ (∀ i, i < 8 → M.1 187 i = -1) ∧ (∀ i, i < 301 → M.1 184 i = 0 ∧ M.1 188 i = -1)
def txK (n : Nat) (mem : zM) (Q : zPo) (o : zOut zPS) : Prop := match o with
  | .inl e => ∀ M, zfr sTx mem M → M.1 180 2 = 0 → M.1 180 8 = nI e.1 → Q (some (.int (-1 - nI e.2))) n M
  | .inr s => ∀ M, zfr sTy mem M → txG s M → Q (some (.int (nI (s.1 + s.2.2.1)))) n M
theorem txK_f {n : Nat} {mem : zM} {Q : zPo} {o : zOut zPS} {e : Nat × Nat} (h : txK n mem Q o) (ho : o = .inl e) : ∀ M, zfr sTx mem M → M.1 180 2 = 0 → M.1 180 8 = nI e.1 → Q (some (.int (-1 - nI e.2))) n M := by subst ho; exact h
theorem txK_t {n : Nat} {mem : zM} {Q : zPo} {o : zOut zPS} {s : zPS} (h : txK n mem Q o) (ho : o = .inr s) : ∀ M, zfr sTy mem M → txG s M → Q (some (.int (nI (s.1 + s.2.2.1)))) n M := by subst ho; exact h
def k_X11_text : zCt := fun as n mem Q => ∃ (sz : Nat), as = [.ref 180] ∧ zst n mem ∧ mem.1 180 2 = nI sz ∧ sz ≤ 840 ∧ txK n mem Q (txR (mem.1 181) sz)
theorem rl_n {T : zTS} {s : zPS} {k : Nat} {x : Nat × zPS} (h : rlT T s k = .inr x) : x.2.1 + x.2.2.2.1 = s.1 + s.2.2.1 + 1 := by
  unfold rlT at h
  split at h
  · unfold paT at h
    split at h
    · cases h
    · cases h; show s.1 + 1 + s.2.2.1 = _; omega
  · split at h
    · cases hr : rpT T s.1 s.2.2.1 s.2.2.2 k with
      | inl e => rw [ob_l hr] at h; cases h
      | inr a => rw [ob_r hr] at h; cases h; show s.1 + (s.2.2.1 + 1) = _; omega
    · cases h
theorem ok_X11_text {l : Launch} {G : zG} : zOK l G yX11_text cX11_text 3 (some .int) 5 0 0 k_X11_text := by
  intro as n mem Q hK
  obtain ⟨sz, rfl, ⟨hn, hF0⟩, hsz, hsz8, hQ⟩ := hK
  refine mtX11_text ok_X11_go (by decide) ok_X11_readLine (by decide) ok_X11_readEnd (by decide) ok_X11_begins (by decide) (List.forall_mem_cons.mpr ⟨rfl, fun _ h => absurd h List.not_mem_nil⟩) (by simp) rfl (fun P hP => ?_)
  show P 0 [.ref 180, .null, .null] [] n mem
  generalize hBm : mem.1 181 = B at hQ
  -- what was read is taken
  have takes : ∀ (s : zPS) M, s.1 ≤ 8 → s.2.2.1 ≤ 20 → zfr sTy mem M → M.1 180 2 = 0 → M.1 180 8 = 0 → M.1 180 13 = nI s.1 → M.1 180 14 = s.2.1 → M.1 180 15 = nI s.2.2.1 → (∀ p, p < s.2.2.1 → ∀ j, j < 8 → M.1 183 (8 * p + j) = s.2.2.2 p j) → txK n mem Q (.inr s) → ∀ i, i ≤ 160 → ∀ M', zfr (fun a _ => a = 182) M M' → (∀ j, j < i → M'.1 182 j = M.1 183 j) → P 109 [.ref 180, .int (nI (s.1 + s.2.2.1)), .int (nI i)] [] n M' := by
    intro s M h8 h20 fM m2 m8 m13 m14 m15 mr hQ
    refine zloop ?_ ?_
    · intro M' fM' h182
      have e : ∀ a b, a ≠ 182 → M'.1 a b = M.1 a b := fun a b h => fM'.1 a b h
      have fy : zfr sTy mem M' := fM.tr (fM'.mono fun a b z => Or.inr (Or.inr (Or.inl z)))
      have hF := zFx_y fy hF0
      refine hP _ _ _ _ _ ?_
      refine hP _ _ _ _ _ ?_
      refine hP _ _ _ _ _ ⟨fun _ => ?_, fun hz => absurd ( by decide) hz⟩
      refine hP _ _ _ _ _ ?_
      refine hP _ _ _ _ _ ⟨(zi hn rfl rfl rfl), Nat.le_of_ble_eq_true rfl, Nat.le_of_ble_eq_true rfl, ?_⟩
      refine ⟨rfl, ⟨hn, hF⟩, fun N fN a b c d e' f g => ?_⟩
      have en : ∀ j, ¬ (27 ≤ j ∧ j ≤ 29) → N.1 180 j = M.1 180 j := fun j hj => (fN.1 180 j (by unfold sB; omega)).trans (e 180 j (by omega))
      refine hP _ _ _ _ _ ?_
      refine hP _ _ _ _ _ ?_
      refine ⟨rfl, hQ N (fy.tr (fN.mono fun a b z => Or.inr (Or.inr (Or.inr z)))) ⟨(en 2 (by omega)).trans m2, (en 8 (by omega)).trans m8, (en 13 (by omega)).trans m13, (en 14 (by omega)).trans m14, (en 15 (by omega)).trans m15, fun p hp j hj => ?_, a, b, c, d, e', f, g⟩⟩
      rw [fN.1 182 (8 * p + j) (by unfold sB; omega), h182 (8 * p + j) (by omega)]
      exact mr p hp j hj
    · intro i hi ih M' fM' h182
      have e : ∀ a b, a ≠ 182 → M'.1 a b = M.1 a b := fun a b h => fM'.1 a b h
      have fy : zfr sTy mem M' := fM.tr (fM'.mono fun a b z => Or.inr (Or.inr (Or.inl z)))
      have hF := zFx_y fy hF0
      have ih1 := ih (zI M' 182 i (M'.1 183 i)) (fM'.I rfl) (fun j hj => by
        by_cases z : j = i
        · subst z; rw [zI_s, e 183 j (by omega)]
        · rw [zI_o z]; exact h182 j (by omega))
      rw [nI_succ i] at ih1
      refine hP _ _ _ _ _ ?_
      refine hP _ _ _ _ _ ?_
      refine hP _ _ _ _ _ ⟨fun hz => absurd hz ( nI_ge (b := 160) hi (by omega)), fun _ => ?_⟩
      refine hP _ _ _ _ _ ?_
      refine hP _ _ _ _ _ ⟨(zi hn rfl rfl rfl), _, fx_Model_powers hF, (by decide), ?_⟩
      refine hP _ _ _ _ _ ?_
      refine hP _ _ _ _ _ ?_
      refine hP _ _ _ _ _ ⟨(zi hn rfl rfl rfl), _, fx_Model_powersRead hF, (by decide), ?_⟩
      refine hP _ _ _ _ _ ?_
      refine hP _ _ _ _ _ ⟨_, i, (zi hn rfl rfl rfl), rfl, by omega, ?_⟩
      refine hP _ _ _ _ _ ⟨_, i, (zi hn rfl rfl rfl), rfl, by omega, ?_⟩
      refine hP _ _ _ _ _ ?_
      refine hP _ _ _ _ _ ?_
      exact ih1
  have fault : ∀ (e : Nat × Nat) M v1 v2, zfr sTx mem M → M.1 180 2 = 0 → M.1 180 8 = nI e.1 → M.1 180 9 = nI e.2 → txK n mem Q (.inl e) → P 70 [.ref 180, v1, v2] [] n M := by
    intro e M v1 v2 fM m2 m8 m9 hQ
    have hQ := hQ M fM m2 m8
    rw [← m9] at hQ
    refine hP _ _ _ _ _ ?_
    refine hP _ _ _ _ _ ?_
    refine hP _ _ _ _ _ ⟨(zi hn rfl rfl rfl), ?_⟩
    refine hP _ _ _ _ _ ?_
    refine hP _ _ _ _ _ ?_
    exact ⟨rfl, hQ⟩
  have f60 : ∀ M v1 v2, P 70 [.ref 180, v1, v2] [] n M → P 60 [.ref 180, v1, v2] [.int 0] n M := fun M v1 v2 h => by
    refine hP _ _ _ _ _ ⟨fun _ => ?_, fun hz => absurd ( rfl) hz⟩
    exact h
  have f67 : ∀ M v1 v2, P 70 [.ref 180, v1, v2] [] n M → P 67 [.ref 180, v1, v2] [.int 0] n M := fun M v1 v2 h => by
    refine hP _ _ _ _ _ ⟨fun _ => ?_, fun hz => absurd ( rfl) hz⟩
    exact h
  have loop : ∀ f k (s : zPS) M, 29 ≤ f + s.1 + s.2.2.1 → zfr sTx mem M → zRp n M B sz s → zAt M B sz k → M.1 180 2 = 0 → M.1 180 8 = 0 → txK n mem Q (txT (tsS B sz) f k s) → P 49 [.ref 180, .int (nI (s.1 + s.2.2.1)), .null] [] n M := by
    intro f
    induction f with
    | zero => intro k s M hf _ hR; have := hR.1.2.2.2.2.2.1; have := hR.1.2.2.2.2.2.2.2; omega
    | succ f ih =>
      intro k s M hf fM hR hA m2 m8 hQ
      have hF := hR.1.1.2
      have h0 := zTk_0 hA.1
      rw [txT] at hQ
      by_cases hk0 : (tsS B sz k).1 = 0
      · rw [if_pos hk0] at hQ
        obtain ⟨⟨-, -, -, -, r16, r8', r18, r20⟩, r17, rr⟩ := hR
        have fM1 : zfr sTy mem M := fM.mono fun _ _ z => Or.inl z
        have fy : zfr sTy mem (zI (zI (zI M 180 13 (M.1 180 16)) 180 14 (M.1 180 17)) 180 15 (M.1 180 18)) := zfr.I (zfr.I (zfr.I fM1 (Or.inr (Or.inl ⟨rfl, by omega⟩))) (Or.inr (Or.inl ⟨rfl, by omega⟩))) (Or.inr (Or.inl ⟨rfl, by omega⟩))
        refine hP _ _ _ _ _ ?_
        refine hP _ _ _ _ _ ⟨(zi hn rfl rfl rfl), ?_⟩
        refine hP _ _ _ _ _ ⟨fun _ => ?_, fun hz => absurd ( h0.mpr hk0) hz⟩
        refine hP _ _ _ _ _ ?_
        refine hP _ _ _ _ _ ?_
        refine hP _ _ _ _ _ ⟨(zi hn rfl rfl rfl), ?_⟩
        refine hP _ _ _ _ _ ⟨(zi hn rfl rfl rfl), ?_⟩
        refine hP _ _ _ _ _ ?_
        refine hP _ _ _ _ _ ?_
        refine hP _ _ _ _ _ ⟨(zi hn rfl rfl rfl), ?_⟩
        refine hP _ _ _ _ _ ⟨(zi hn rfl rfl rfl), ?_⟩
        refine hP _ _ _ _ _ ?_
        refine hP _ _ _ _ _ ?_
        refine hP _ _ _ _ _ ⟨(zi hn rfl rfl rfl), ?_⟩
        refine hP _ _ _ _ _ ⟨(zi hn rfl rfl rfl), ?_⟩
        refine hP _ _ _ _ _ ?_
        refine hP _ _ _ _ _ ?_
        exact takes s _ r8' r20 fy m2 m8 r16 r17 r18 rr hQ 0 (by omega) _ zfr.rf (fun j hj => absurd hj (Nat.not_lt_zero _))
      · rw [if_neg hk0] at hQ
        unfold lnT at hQ
        refine hP _ _ _ _ _ ?_
        refine hP _ _ _ _ _ ⟨(zi hn rfl rfl rfl), ?_⟩
        refine hP _ _ _ _ _ ⟨fun hz => absurd hz ( fun z => hk0 (h0.mp z)), fun _ => ?_⟩
        refine hP _ _ _ _ _ ?_
        refine hP _ _ _ _ _ ⟨(zi hn rfl rfl rfl), Nat.le_of_ble_eq_true rfl, Nat.le_of_ble_eq_true rfl, ?_⟩
        refine ⟨k, sz, B, s, rfl, hR, hA, res_i (fun e ho M' fM' g8' g9' => f60 M' _ _ (fault e M' _ _ (fM.tr (fM'.mono fun _ _ => sRp_x)) ((fM'.1 180 2 (by unfold sRp sR; omega)).trans m2) g8' g9' (by rw [ob_l (ob_l ho)] at hQ; exact hQ))) (fun x ho M1 fM1 q8 hg => ?_)⟩
        rw [ob_r ho] at hQ
        have f1 := fM.tr (fM1.mono fun _ _ => sRp_x)
        have m2' : M1.1 180 2 = 0 := (fM1.1 180 2 (by unfold sRp sR; omega)).trans m2
        refine hP _ _ _ _ _ ⟨fun hz => absurd hz ( by decide), fun _ => ?_⟩
        refine hP _ _ _ _ _ ?_
        refine hP _ _ _ _ _ ⟨(zi hn rfl rfl rfl), Nat.le_of_ble_eq_true rfl, Nat.le_of_ble_eq_true rfl, ?_⟩
        refine ⟨x.1, sz, x.2.1, x.2.2.2.1, B, rfl, hg.2.1, hg.1, res_i (fun e ho2 M' fM' g8' g9' => f67 M' _ _ (fault e M' _ _ (f1.tr (fM'.mono fun _ _ => sR_x)) ((fM'.1 180 2 (by unfold sR; omega)).trans m2') g8' g9' (by rw [ob_l (ob_l ho2)] at hQ; exact hQ))) (fun k' ho2 M2 fM2 q82 hg2 => ?_)⟩
        rw [ob_r ho2, ob_r (a := (k', x.2)) rfl] at hQ
        refine hP _ _ _ _ _ ⟨fun hz => absurd hz ( by decide), fun _ => ?_⟩
        refine hP _ _ _ _ _ ?_
        refine hP _ _ _ _ _ ?_
        have hn1 := rl_n ho
        have ih1 := ih k' x.2 M2 (by omega) (f1.tr (fM2.mono fun _ _ => sR_x)) ⟨sx_fr fM2 hg.2.1, (fM2.1 180 17 (by unfold sR; omega)).trans hg.2.2.1, fun p hp j hj => by rw [hg2.2]; exact hg.2.2.2 p hp j hj⟩ hg2.1 ((fM2.1 180 2 (by unfold sR; omega)).trans m2') (q82.trans (q8.trans m8)) hQ
        rw [hn1, nI_succ (s.1 + s.2.2.1)] at ih1
        exact ih1
  generalize hM0 : zI (zI (zI (zI (zI (zI (zI (zI mem 180 0 0) 180 3 (mem.1 180 2)) 180 2 0) 180 8 0) 180 4 0) 180 16 0) 180 17 0) 180 18 0 = M0
  have fM0 : zfr sTx mem M0 := by
    rw [← hM0]
    refine zfr.I (zfr.I (zfr.I (zfr.I (zfr.I (zfr.I (zfr.I (zfr.I zfr.rf ?_) ?_) ?_) ?_) ?_) ?_) ?_) ?_ <;> exact Or.inl ⟨rfl, by omega⟩
  have hF1 : zFx M0 := zFx_y (fM0.mono fun _ _ z => Or.inl z) hF0
  have e2 : M0.1 180 2 = 0 := by rw [← hM0]; rfl
  have e3 : M0.1 180 3 = nI sz := by rw [← hM0, ← hsz]; rfl
  have e4 : M0.1 180 4 = nI 0 := by rw [← hM0]; rfl
  have e8 : M0.1 180 8 = 0 := by rw [← hM0]; rfl
  have e16 : M0.1 180 16 = nI 0 := by rw [← hM0]; rfl
  have e17 : M0.1 180 17 = 0 := by rw [← hM0]; rfl
  have e18 : M0.1 180 18 = nI 0 := by rw [← hM0]; rfl
  have eB : M0.1 181 = B := by rw [← hBm]; funext j; exact fM0.1 181 j (by unfold sTx; omega)
  have hS0 : zSx n M0 B sz 0 0 := ⟨⟨hn, hF1⟩, e3, hsz8, eB, e16, by omega, e18, by omega⟩
  refine hP _ _ _ _ _ ?_
  refine hP _ _ _ _ _ ?_
  refine hP _ _ _ _ _ ⟨(zi hn rfl rfl rfl), ?_⟩
  refine hP _ _ _ _ _ ?_
  refine hP _ _ _ _ _ ?_
  refine hP _ _ _ _ _ ⟨(zi hn rfl rfl rfl), ?_⟩
  refine hP _ _ _ _ _ ⟨(zi hn rfl rfl rfl), ?_⟩
  refine hP _ _ _ _ _ ?_
  refine hP _ _ _ _ _ ?_
  refine hP _ _ _ _ _ ⟨(zi hn rfl rfl rfl), ?_⟩
  refine hP _ _ _ _ _ ?_
  refine hP _ _ _ _ _ ?_
  refine hP _ _ _ _ _ ⟨(zi hn rfl rfl rfl), ?_⟩
  refine hP _ _ _ _ _ ?_
  refine hP _ _ _ _ _ ?_
  refine hP _ _ _ _ _ ⟨(zi hn rfl rfl rfl), ?_⟩
  refine hP _ _ _ _ _ ?_
  refine hP _ _ _ _ _ ?_
  refine hP _ _ _ _ _ ⟨(zi hn rfl rfl rfl), ?_⟩
  refine hP _ _ _ _ _ ?_
  refine hP _ _ _ _ _ ?_
  refine hP _ _ _ _ _ ⟨(zi hn rfl rfl rfl), ?_⟩
  refine hP _ _ _ _ _ ?_
  refine hP _ _ _ _ _ ?_
  refine hP _ _ _ _ _ ⟨(zi hn rfl rfl rfl), ?_⟩
  refine hP _ _ _ _ _ ?_
  refine hP _ _ _ _ _ ?_
  show P 45 [.ref 180, .int 0, .null] [] n (zI (zI (zI (zI (zI (zI (zI (zI mem 180 0 0) 180 3 (mem.1 180 2)) 180 2 0) 180 8 0) 180 4 0) 180 16 0) 180 17 0) 180 18 0)
  rw [hM0]
  refine hP _ _ _ _ _ ?_
  refine hP _ _ _ _ _ ⟨(zi hn rfl rfl rfl), Nat.le_of_ble_eq_true rfl, Nat.le_of_ble_eq_true rfl, ?_⟩
  refine use_go (k := 0) hS0 e4 (Nat.zero_le _) fun M fM hA => ?_
  exact loop 29 0 (0, 0, 0, fun _ _ => 0) M (by show 29 ≤ 29 + 0 + 0; omega) (fM0.tr (fM.mono fun _ _ z => sR_x (sG_R z))) ⟨sx_fr (fM.mono fun _ _ => sG_R) hS0, (fM.1 180 17 (by unfold sG; omega)).trans e17, fun p hp => absurd hp (Nat.not_lt_zero _)⟩ hA ((fM.1 180 2 (by unfold sG; omega)).trans e2) ((g8 fM).trans e8) hQ
