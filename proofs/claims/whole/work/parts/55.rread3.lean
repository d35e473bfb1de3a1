theorem res_i {α : Type} {S : Nat → Nat → Prop} {n : Nat} {mem : zM} {Q : zPo} {o : zOut α} {good : α → zM → Prop} (hf : ∀ e, o = .inl e → ∀ M, zfr S mem M → M.1 180 8 = nI e.1 → M.1 180 9 = nI e.2 → Q (some (.int 0)) n M) (ht : ∀ a, o = .inr a → ∀ M, zfr S mem M → M.1 180 8 = mem.1 180 8 → good a M → Q (some (.int 1)) n M) : zRes S n mem Q o good := by
  cases o with
  | inl e => exact hf e rfl
  | inr a => exact ht a rfl
theorem ob_l {α β : Type} {x : zOut α} {f : α → zOut β} {e : Nat × Nat} (h : x = .inl e) : ob x f = .inl e := by subst h; rfl
theorem ob_r {α β : Type} {x : zOut α} {f : α → zOut β} {a : α} (h : x = .inr a) : ob x f = f a := by subst h; rfl
def rowAt (r : zRow) (j : Nat) : Int32 := match j with
  | 0 => r.1 | 1 => r.2.1 | 2 => r.2.2.1 | 3 => r.2.2.2.1 | 4 => r.2.2.2.2.1 | 5 => r.2.2.2.2.2.1 | 6 => r.2.2.2.2.2.2.1 | _ => r.2.2.2.2.2.2.2
def rpT (T : zTS) (np pw : Nat) (R : Nat → Nat → Int32) (k : Nat) : zOut (Nat × zRow) := if pw = 20 then .inl (4, (T k).2.1) else rdT T np pw R k
theorem gvT_R {T : zTS} {np pw k : Nat} {R R' : Nat → Nat → Int32} (h : ∀ p, p < pw → R p 0 = R' p 0 ∧ R p 6 = R' p 6) : gvT T np pw R k = gvT T np pw R' k := by
  unfold gvT
  by_cases hc : (T (k + 1)).2.2 < pw
  · rw [(h _ hc).1, (h _ hc).2]
  · have e : ∀ q : Prop, (pw ≤ (T (k + 1)).2.2 ∨ q) = True := fun q => eq_true (Or.inl (by omega))
    simp only [e, if_true]
theorem gv_inr {T : zTS} {np pw k : Nat} {R : Nat → Nat → Int32} {a : Nat × Int32 × Int32} (h : gvT T np pw R k = .inr a) : a.1 = k + 2 := by
  unfold gvT at h
  split at h
  · cases h
  · split at h
    · split at h
      · cases h
      · cases h; rfl
    · split at h
      · cases h
      · cases h; rfl
theorem hl_s8 {T : zTS} {np : Nat} {gv : Int32} (h8 : np ≤ 8) : ∀ f k a x, (∀ i, np ≤ i → i < 32 → bt a i = false) → hlT T np gv f k a = .inr x → ∀ i, np ≤ i → i < 32 → bt x.2 i = false := by
  intro f
  induction f with
  | zero => intro k a x ha h; cases h; exact ha
  | succ f ih =>
    intro k a x ha h
    rw [hlT] at h
    split at h
    · cases h; exact ha
    · split at h
      · cases h
      · rename_i hc
        refine ih _ _ _ (fun i h1 h2 => ?_) h
        have hv : (T k).2.2 < np := Nat.not_le.mp fun z => hc (Or.inl z)
        rw [b_or, ha i h1 h2, b_1shl (by omega) h2, decide_eq_false (by omega)]; rfl
theorem hs_bits {T : zTS} {np k : Nat} {gv : Int32} {x : Nat × Int32} (h8 : np ≤ 8) (h : hsT T np gv k = .inr x) : ∀ i, np ≤ i → i < 32 → bt x.2 i = false := by
  unfold hsT at h
  split at h
  · cases h
  · exact hl_s8 h8 9 k 0 x (fun i _ _ => b_0 i) h
theorem hs_s8 {T : zTS} {np k : Nat} {gv : Int32} {x : Nat × Int32} (h8 : np ≤ 8) (h : hsT T np gv k = .inr x) : zs8 x.2 := fun i h1 h2 => hs_bits h8 h i (by omega) h2
def clr (r : Nat → Int32) (a i : Nat) : Nat → Int32 := fun x => if a ≤ x ∧ x < a + i then 0 else r x
theorem clr_0 {r : Nat → Int32} {a : Nat} : clr r a 0 = r := by
  funext x; unfold clr; rw [if_neg (by omega)]
theorem clr_s {r : Nat → Int32} {a i : Nat} : upd (clr r a i) (a + i) 0 = clr r a (i + 1) := by
  funext x
  show (if x = a + i then 0 else if a ≤ x ∧ x < a + i then 0 else r x) = if a ≤ x ∧ x < a + (i + 1) then 0 else r x
  by_cases h : x = a + i
  · rw [if_pos h, if_pos (by omega)]
  · by_cases h2 : a ≤ x ∧ x < a + i
    · rw [if_neg h, if_pos h2, if_pos (by omega)]
    · rw [if_neg h, if_neg h2, if_neg (by omega)]
def rpG (n : Nat) (mem : zM) (B : Nat → Int32) (sz np pw : Nat) (x : Nat × zRow) (M : zM) : Prop := zAt M B sz x.1 ∧ zSx n M B sz np (pw + 1) ∧ M.1 180 17 = mem.1 180 17 ∧ (∀ j, j < 8 → M.1 183 (8 * pw + j) = rowAt x.2 j) ∧ (∀ i, i < 8 * pw → M.1 183 i = mem.1 183 i)
/-- a power's row, half read -/
def rpI (n : Nat) (mem : zM) (B : Nat → Int32) (sz np pw : Nat) (row : zRow) (M : zM) : Prop := zfr sRp mem M ∧ zSx n M B sz np pw ∧ (M.1 180 17 = mem.1 180 17 ∧ M.1 180 8 = mem.1 180 8) ∧ (∀ i, i < 8 * pw → M.1 183 i = mem.1 183 i) ∧ ∀ j, j < 8 → M.1 183 (8 * pw + j) = rowAt row j
def k_X11_readPower : zCt := fun as n mem Q => ∃ (k sz np pw : Nat) (B : Nat → Int32), as = [.ref 180] ∧ zSx n mem B sz np pw ∧ zAt mem B sz k ∧ ((tsS B sz k).1 = 6 ∨ (tsS B sz k).1 = 7) ∧ zRes sRp n mem Q (rpT (tsS B sz) np pw (Rm (mem.1 183)) k) (rpG n mem B sz np pw)
theorem fr_p {mem M N : zM} (h : zfr sRp mem M) (k : zfr sR M N) : zfr sRp mem N := h.tr (k.mono fun _ _ => sR_p)
theorem rpI_u {n : Nat} {mem M M' : zM} {B : Nat → Int32} {sz np pw j0 : Nat} {row row' : zRow} {v : Int32} (h : rpI n mem B sz np pw row M) (f : zfr sR M M') (h8 : M'.1 180 8 = M.1 180 8) (e : M'.1 183 = upd (M.1 183) (8 * pw + j0) v) (hr : ∀ j, j < 8 → rowAt row' j = if j = j0 then v else rowAt row j) : rpI n mem B sz np pw row' M' := by
  obtain ⟨a, b, c, d, g⟩ := h
  refine ⟨fr_p a f, sx_fr f b, ⟨(f.1 180 17 (by unfold sR; omega)).trans c.1, h8.trans c.2⟩, fun i hi => ?_, fun j hj => ?_⟩
  · rw [e, upd_o (by omega)]; exact d i hi
  · rw [e, hr j hj]
    by_cases z : j = j0
    · subst z; rw [upd_s, if_pos rfl]
    · rw [upd_o (by omega), if_neg z]; exact g j hj
theorem rpI_0 {n : Nat} {mem M M' : zM} {B : Nat → Int32} {sz np pw : Nat} {row : zRow} (h : rpI n mem B sz np pw row M) (f : zfr sR M M') (h8 : M'.1 180 8 = M.1 180 8) (e : M'.1 183 = M.1 183) : rpI n mem B sz np pw row M' := by
  obtain ⟨a, b, c, d, g⟩ := h
  exact ⟨fr_p a f, sx_fr f b, ⟨(f.1 180 17 (by unfold sR; omega)).trans c.1, h8.trans c.2⟩, fun i hi => by rw [e]; exact d i hi, fun j hj => by rw [e]; exact g j hj⟩
theorem j8 {C : Nat → Prop} (h0 : C 0) (h1 : C 1) (h2 : C 2) (h3 : C 3) (h4 : C 4) (h5 : C 5) (h6 : C 6) (h7 : C 7) : ∀ j, j < 8 → C j := by
  intro j hj
  rcases (show j = 0 ∨ j = 1 ∨ j = 2 ∨ j = 3 ∨ j = 4 ∨ j = 5 ∨ j = 6 ∨ j = 7 by omega) with rfl | rfl | rfl | rfl | rfl | rfl | rfl | rfl <;> assumption
theorem ok_X11_readPower {l : Launch} {G : zG} : zOK l G yX11_readPower cX11_readPower 3 (some .boolean) 3 0 0 k_X11_readPower := by
  intro as n mem Q hK
  obtain ⟨k, sz, np, pw, B, rfl, hS, hA, hk, hQ⟩ := hK
  refine mtX11_readPower ok_X11_bad (by decide) ok_X11_readGiver (by decide) ok_X11_readWord (by decide) ok_X11_readHolders (by decide) ok_X11_bits (by decide) ok_X11_readNumber (by decide) ok_X11_readKinds (by decide) ok_X11_is (by decide) ok_X11_go (by decide) (List.forall_mem_cons.mpr ⟨rfl, fun _ h => absurd h List.not_mem_nil⟩) (by simp) rfl (fun P hP => ?_)
  show P 0 [.ref 180, .null, .null] [] n mem
  obtain ⟨⟨hn, hF⟩, s3, s8, sB, s16, s17, s18, s20⟩ := id hS
  unfold rpT at hQ
  by_cases h20 : pw = 20
  ·
    refine hP _ _ _ _ _ ?_
    refine hP _ _ _ _ _ ⟨(zi hn rfl rfl rfl), ?_⟩
    refine hP _ _ _ _ _ ?_
    refine hP _ _ _ _ _ ⟨fun _ => ?_, fun hz => absurd ( by rw [s18, h20]; rfl) hz⟩
    refine hP _ _ _ _ _ ?_
    refine hP _ _ _ _ _ ?_
    refine hP _ _ _ _ _ ⟨(zi hn rfl rfl rfl), Nat.le_of_ble_eq_true rfl, Nat.le_of_ble_eq_true rfl, ?_⟩
    refine ⟨4, _, _, _, rfl, fun z => by omega, ⟨hn, hF⟩, hA.1, ?_⟩
    refine hP _ _ _ _ _ ?_
    exact ⟨by decide, rfl, res_f hQ (if_pos h20) _ (fr_bad zfr.rf (sR_p r8) (sR_p r9)) rfl rfl⟩
  rw [if_neg h20] at hQ
  have e18 : nI 8 * mem.1 180 18 = nI (8 * pw) := by rw [s18]; exact pk_mul 8 pw
  have ea : ∀ j : Nat, nI (8 * pw) + nI j = nI (8 * pw + j) := fun j => nI_add _ _
  have f0 : ∀ (p0 : Nat), p0 = 87 ∨ p0 = 128 ∨ p0 = 153 ∨ p0 = 182 → ∀ M v1 v2, Q (some (.int 0)) n M → P p0 [.ref 180, v1, v2] [] n M := by
    intro p0 hp0 M v1 v2 h
    rcases hp0 with rfl | rfl | rfl | rfl
    ·
      refine hP _ _ _ _ _ ?_
      refine hP _ _ _ _ _ ?_
      exact ⟨by decide, rfl, h⟩
    ·
      refine hP _ _ _ _ _ ?_
      refine hP _ _ _ _ _ ?_
      exact ⟨by decide, rfl, h⟩
    ·
      refine hP _ _ _ _ _ ?_
      refine hP _ _ _ _ _ ?_
      exact ⟨by decide, rfl, h⟩
    ·
      refine hP _ _ _ _ _ ?_
      refine hP _ _ _ _ _ ?_
      exact ⟨by decide, rfl, h⟩
  unfold rdT at hQ
  -- from 'sub' on
  have tail3 : ∀ (g : Nat × Int32 × Int32) (h : Nat × Int32) (t : Nat × Nat) (d : Nat × Int32) (m : Nat × Nat) (l : Nat × Int32) M, zRes sRp n mem Q (if (tsS B sz l.1).1 = 13 then .inr (l.1 + 1, g.2.1, h.2, nI t.2, d.2, nI m.2, l.2, 1, g.2.2) else .inr (l.1, g.2.1, h.2, nI t.2, d.2, nI m.2, l.2, 0, g.2.2)) (rpG n mem B sz np pw) → rpI n mem B sz np pw (g.2.1, h.2, nI t.2, d.2, nI m.2, l.2, 0, g.2.2) M → zAt M B sz l.1 → ∀ v2, P 184 [.ref 180, .int (nI (8 * pw)), v2] [] n M := by
    intro g h t d m l M hQ hI hA1 v2
    have hS1 := hI.2.1
    have hF := hS1.1.2
    have last : ∀ N s, (∃ k', zRes sRp n mem Q (.inr (k', g.2.1, h.2, nI t.2, d.2, nI m.2, l.2, s, g.2.2)) (rpG n mem B sz np pw) ∧ zAt N B sz k') → rpI n mem B sz np pw (g.2.1, h.2, nI t.2, d.2, nI m.2, l.2, s, g.2.2) N → P 207 [.ref 180, .int (nI (8 * pw)), v2] [] n N := by
      intro N s hk hI
      obtain ⟨k', hQ, hAN⟩ := hk
      obtain ⟨fN, hSN, ⟨n17, n8⟩, low, rows⟩ := hI
      have hF := hSN.1.2
      obtain ⟨q1, q2, q3, q4, q5, q6, q7, q8⟩ := hSN
      refine hP _ _ _ _ _ ?_
      refine hP _ _ _ _ _ ?_
      refine hP _ _ _ _ _ ⟨(zi hn rfl rfl rfl), ?_⟩
      refine hP _ _ _ _ _ ?_
      refine hP _ _ _ _ _ ?_
      refine hP _ _ _ _ _ ⟨(zi hn rfl rfl rfl), ?_⟩
      refine hP _ _ _ _ _ ?_
      refine hP _ _ _ _ _ ?_
      exact ⟨by decide, rfl, res_t hQ rfl _ (fN.I (Or.inr ⟨rfl, by omega⟩)) n8 ⟨hAN, ⟨q1, q2, q3, q4, q5, q6, by rw [zI_s, q7]; exact nI_1 pw, by omega⟩, n17, rows, low⟩⟩
    refine hP _ _ _ _ _ ?_
    refine hP _ _ _ _ _ ?_
    refine hP _ _ _ _ _ ⟨(zi hn rfl rfl rfl), Nat.le_of_ble_eq_true rfl, Nat.le_of_ble_eq_true rfl, ?_⟩
    refine ⟨9, _, _, _, rfl, by omega, ⟨hn, hF⟩, hA1.1, ?_⟩
    refine hP _ _ _ _ _ ⟨fun h190 => ?_, fun h190 => ?_⟩
    ·
      have h190 := zb_0.mp h190
      exact last M 0 ⟨l.1, by rw [if_neg (of_decide_eq_false h190)] at hQ; exact hQ, hA1⟩ hI
    ·
      have h190 := zb_n.mp h190
      have h190 := of_decide_eq_true h190
      rw [if_pos h190] at hQ
      obtain ⟨u1, u2⟩ := hA1.2 (by omega)
      refine hP _ _ _ _ _ ?_
      refine hP _ _ _ _ _ ⟨(zi hn rfl rfl rfl), _, fx_Model_powersRead hF, (by decide), ?_⟩
      refine hP _ _ _ _ _ ?_
      refine hP _ _ _ _ _ ?_
      refine hP _ _ _ _ _ ?_
      refine hP _ _ _ _ _ ?_
      refine hP _ _ _ _ _ ⟨_, 8 * pw + 6, (zi hn rfl rfl rfl), ea 6, by omega, ?_⟩
      refine hP _ _ _ _ _ ?_
      refine hP _ _ _ _ _ ⟨(zi hn rfl rfl rfl), Nat.le_of_ble_eq_true rfl, Nat.le_of_ble_eq_true rfl, ?_⟩
      refine use_go (k := l.1 + 1) (sx_fr (zfr.rf.I (Or.inr rfl)) hS1) u1 u2 fun M' fM' hA' => ?_
      have hI1 : rpI n mem B sz np pw (g.2.1, h.2, nI t.2, d.2, nI m.2, l.2, 1, g.2.2) (zI M 183 (8 * pw + 6) 1) := rpI_u hI (zfr.rf.I (Or.inr rfl)) rfl zupd_I (j8 rfl rfl rfl rfl rfl rfl rfl rfl)
      exact last M' 1 ⟨_, hQ, hA'⟩ (rpI_0 hI1 (fM'.mono fun _ _ => sG_R) (g8 fM') (row_G fM' (by omega)))
      done
  have f60 : ∀ M v1 v2, Q (some (.int 0)) n M → P 60 [.ref 180, v1, v2] [.int 0] n M := fun M v1 v2 h => by
    refine hP _ _ _ _ _ ⟨fun _ => ?_, fun hz => absurd ( rfl) hz⟩
    exact f0 87 (by omega) M v1 v2 h
  have f68 : ∀ M v1 v2, Q (some (.int 0)) n M → P 68 [.ref 180, v1, v2] [.int 0] n M := fun M v1 v2 h => by
    refine hP _ _ _ _ _ ⟨fun _ => ?_, fun hz => absurd ( rfl) hz⟩
    exact f0 87 (by omega) M v1 v2 h
  have f76 : ∀ M v1 v2, Q (some (.int 0)) n M → P 76 [.ref 180, v1, v2] [.int 0] n M := fun M v1 v2 h => by
    refine hP _ _ _ _ _ ⟨fun _ => ?_, fun hz => absurd ( rfl) hz⟩
    exact f0 87 (by omega) M v1 v2 h
  have f84 : ∀ M v1 v2, Q (some (.int 0)) n M → P 84 [.ref 180, v1, v2] [.int 0] n M := fun M v1 v2 h => by
    refine hP _ _ _ _ _ ⟨fun _ => ?_, fun hz => absurd ( rfl) hz⟩
    exact f0 87 (by omega) M v1 v2 h
  have f108 : ∀ M v1 v2, Q (some (.int 0)) n M → P 108 [.ref 180, v1, v2] [.int 0] n M := fun M v1 v2 h => by
    refine hP _ _ _ _ _ ⟨fun _ => ?_, fun hz => absurd ( rfl) hz⟩
    exact f0 128 (by omega) M v1 v2 h
  have f117 : ∀ M v1 v2, Q (some (.int 0)) n M → P 117 [.ref 180, v1, v2] [.int 0] n M := fun M v1 v2 h => by
    refine hP _ _ _ _ _ ⟨fun _ => ?_, fun hz => absurd ( rfl) hz⟩
    exact f0 128 (by omega) M v1 v2 h
  have f125 : ∀ M v1 v2, Q (some (.int 0)) n M → P 125 [.ref 180, v1, v2] [.int 0] n M := fun M v1 v2 h => by
    refine hP _ _ _ _ _ ⟨fun _ => ?_, fun hz => absurd ( rfl) hz⟩
    exact f0 128 (by omega) M v1 v2 h
  have f136 : ∀ M v1 v2, Q (some (.int 0)) n M → P 136 [.ref 180, v1, v2] [.int 0] n M := fun M v1 v2 h => by
    refine hP _ _ _ _ _ ⟨fun _ => ?_, fun hz => absurd ( rfl) hz⟩
    exact f0 153 (by omega) M v1 v2 h
  have f150 : ∀ M v1 v2, Q (some (.int 0)) n M → P 150 [.ref 180, v1, v2] [.int 0] n M := fun M v1 v2 h => by
    refine hP _ _ _ _ _ ⟨fun _ => ?_, fun hz => absurd ( rfl) hz⟩
    exact f0 153 (by omega) M v1 v2 h
  have f179 : ∀ M v1 v2, Q (some (.int 0)) n M → P 179 [.ref 180, v1, v2] [.int 0] n M := fun M v1 v2 h => by
    refine hP _ _ _ _ _ ⟨fun _ => ?_, fun hz => absurd ( rfl) hz⟩
    exact f0 182 (by omega) M v1 v2 h
  -- from 'till' on
  have tail2 : ∀ (g : Nat × Int32 × Int32) (h : Nat × Int32) (t : Nat × Nat) (d : Nat × Int32) (m : Nat × Nat) M, zRes sRp n mem Q (ob (tlT (tsS B sz) m.1) fun l => if (tsS B sz l.1).1 = 13 then .inr (l.1 + 1, g.2.1, h.2, nI t.2, d.2, nI m.2, l.2, 1, g.2.2) else .inr (l.1, g.2.1, h.2, nI t.2, d.2, nI m.2, l.2, 0, g.2.2)) (rpG n mem B sz np pw) → rpI n mem B sz np pw (g.2.1, h.2, nI t.2, d.2, nI m.2, -1, 0, g.2.2) M → zAt M B sz m.1 → ∀ v2, P 155 [.ref 180, .int (nI (8 * pw)), v2] [] n M := by
    intro g h t d m M hQ hI hA1 v2
    have hS1 := hI.2.1
    have hF := hS1.1.2
    refine hP _ _ _ _ _ ?_
    refine hP _ _ _ _ _ ?_
    refine hP _ _ _ _ _ ⟨(zi hn rfl rfl rfl), Nat.le_of_ble_eq_true rfl, Nat.le_of_ble_eq_true rfl, ?_⟩
    refine ⟨8, _, _, _, rfl, by omega, ⟨hn, hF⟩, hA1.1, ?_⟩
    refine hP _ _ _ _ _ ⟨fun h161 => ?_, fun h161 => ?_⟩
    ·
      have h161 := zb_0.mp h161
      first | exact tail3 g h t d m (a.1, nI a.2) M' hQ hI hg.1 v2 | exact tail3 g h t d m (m.1, -1) M (by rw [ob_r (a := (m.1, -1)) (by unfold tlT; rw [if_neg (of_decide_eq_false h161)])] at hQ; exact hQ) hI hA1 v2
    ·
      have h161 := zb_n.mp h161
      have h161 := of_decide_eq_true h161
      unfold tlT at hQ
      rw [if_pos h161] at hQ
      obtain ⟨u1, u2⟩ := hA1.2 (by omega)
      refine hP _ _ _ _ _ ?_
      refine hP _ _ _ _ _ ⟨(zi hn rfl rfl rfl), Nat.le_of_ble_eq_true rfl, Nat.le_of_ble_eq_true rfl, ?_⟩
      refine use_go (k := m.1 + 1) hS1 u1 u2 fun M1 fM1 hA1 => ?_
      have hI := rpI_0 hI (fM1.mono fun _ _ => sG_R) (g8 fM1) (row_G fM1 (by omega))
      refine hP _ _ _ _ _ ?_
      refine hP _ _ _ _ _ ?_
      refine hP _ _ _ _ _ ?_
      refine hP _ _ _ _ _ ?_
      refine hP _ _ _ _ _ ?_
      refine hP _ _ _ _ _ ?_
      refine hP _ _ _ _ _ ⟨(zi hn rfl rfl rfl), Nat.le_of_ble_eq_true rfl, Nat.le_of_ble_eq_true rfl, ?_⟩
      refine ⟨8 * pw + 5, 0, 999, m.1 + 1, sz, np, pw, B, by rw [← ea 5]; rfl, by omega, by omega, by omega, hI.2.1, hA1, res_i (fun e ho M' fM' g8 g9 => f179 M' _ _ (res_f hQ (ob_l (ob_l ho)) M' (fr_p hI.1 fM') g8 g9)) (fun a ho M' fM' q8fM' hg => ?_)⟩
      have hI := rpI_u (row' := (g.2.1, h.2, nI t.2, d.2, nI m.2, nI a.2, 0, g.2.2)) hI fM' q8fM' hg.2 (j8 rfl rfl rfl rfl rfl rfl rfl rfl)
      rw [ob_r ho, ob_r (a := (a.1, nI a.2)) rfl] at hQ
      refine hP _ _ _ _ _ ⟨fun hz => absurd hz ( by decide), fun _ => ?_⟩
      first | exact tail3 g h t d m (a.1, nI a.2) M' hQ hI hg.1 v2 | exact tail3 g h t d m (m.1, -1) M (by rw [ob_r (a := (m.1, -1)) (by unfold tlT; rw [if_neg (of_decide_eq_false h161)])] at hQ; exact hQ) hI hA1 v2
  -- from 'by' on
  have tail1 : ∀ (g : Nat × Int32 × Int32) (h : Nat × Int32) k2 M, zRes sRp n mem Q (ob (nbT (tsS B sz) 1 (pcI h.2) k2) fun t => ob (tkT (tsS B sz) 10 t.1) fun k3 => ob (ksT (tsS B sz) k3) fun d => ob (tkT (tsS B sz) 11 d.1) fun k4 => ob (nbT (tsS B sz) 0 999 k4) fun m => ob (tlT (tsS B sz) m.1) fun l =>
    if (tsS B sz l.1).1 = 13 then .inr (l.1 + 1, g.2.1, h.2, nI t.2, d.2, nI m.2, l.2, 1, g.2.2) else .inr (l.1, g.2.1, h.2, nI t.2, d.2, nI m.2, l.2, 0, g.2.2)) (rpG n mem B sz np pw) → rpI n mem B sz np pw (g.2.1, h.2, 0, 0, 0, -1, 0, g.2.2) M → zs8 h.2 → zAt M B sz k2 → ∀ v2, P 89 [.ref 180, .int (nI (8 * pw)), v2] [] n M := by
    intro g h k2 M hQ hI hs8 hA1 v2
    have hF := hI.2.1.1.2
    have r1 : M.1 183 (8 * pw + 1) = h.2 := hI.2.2.2.2 1 (by omega)
    have hp8 : pcI h.2 ≤ 8 := pcn_le _ 8
    refine hP _ _ _ _ _ ?_
    refine hP _ _ _ _ _ ?_
    refine hP _ _ _ _ _ ?_
    refine hP _ _ _ _ _ ?_
    refine hP _ _ _ _ _ ?_
    refine hP _ _ _ _ _ ?_
    refine hP _ _ _ _ _ ⟨(zi hn rfl rfl rfl), _, fx_Model_powersRead hF, (by decide), ?_⟩
    refine hP _ _ _ _ _ ?_
    refine hP _ _ _ _ _ ?_
    refine hP _ _ _ _ _ ?_
    refine hP _ _ _ _ _ ⟨_, 8 * pw + 1, (zi hn rfl rfl rfl), ea 1, by omega, ?_⟩
    refine hP _ _ _ _ _ ⟨Nat.le_of_ble_eq_true rfl, Nat.le_of_ble_eq_true rfl, ?_⟩
    refine ⟨h.2, by rw [← r1]; rfl, hs8, ?_⟩
    refine hP _ _ _ _ _ ⟨(zi hn rfl rfl rfl), Nat.le_of_ble_eq_true rfl, Nat.le_of_ble_eq_true rfl, ?_⟩
    refine ⟨8 * pw + 2, 1, pcI h.2, k2, sz, np, pw, B, by rw [← ea 2]; rfl, by omega, by omega, by omega, hI.2.1, hA1, res_i (fun e ho M' fM' g8 g9 => f108 M' _ _ (res_f hQ (ob_l ho) M' (fr_p hI.1 fM') g8 g9)) (fun t ho1 M2 fM2 q8fM2 hg2 => ?_)⟩
    have hI := rpI_u (row' := (g.2.1, h.2, nI t.2, 0, 0, -1, 0, g.2.2)) hI fM2 q8fM2 hg2.2 (j8 rfl rfl rfl rfl rfl rfl rfl rfl)
    rw [ob_r ho1] at hQ
    refine hP _ _ _ _ _ ⟨fun hz => absurd hz ( by decide), fun _ => ?_⟩
    refine hP _ _ _ _ _ ?_
    refine hP _ _ _ _ _ ?_
    refine hP _ _ _ _ _ ⟨(zi hn rfl rfl rfl), Nat.le_of_ble_eq_true rfl, Nat.le_of_ble_eq_true rfl, ?_⟩
    refine ⟨6, t.1, sz, np, pw, B, rfl, by omega, hI.2.1, hg2.1, res_i (fun e ho M' fM' g8 g9 => f117 M' _ _ (res_f hQ (ob_l ho) M' (fr_p hI.1 fM') g8 g9)) (fun k3 ho2 M3 fM3 q8fM3 hg3 => ?_)⟩
    have hI := rpI_0 hI fM3 q8fM3 hg3.2
    rw [ob_r ho2] at hQ
    refine hP _ _ _ _ _ ⟨fun hz => absurd hz ( by decide), fun _ => ?_⟩
    refine hP _ _ _ _ _ ?_
    refine hP _ _ _ _ _ ?_
    refine hP _ _ _ _ _ ⟨(zi hn rfl rfl rfl), Nat.le_of_ble_eq_true rfl, Nat.le_of_ble_eq_true rfl, ?_⟩
    refine ⟨8 * pw, k3, sz, np, pw, B, rfl, by omega, hI.2.1, hg3.1, hI.2.2.2.2 3 (by omega), res_i (fun e ho M' fM' g8 g9 => f125 M' _ _ (res_f hQ (ob_l ho) M' (fr_p hI.1 fM') g8 g9)) (fun d ho3 M4 fM4 q8fM4 hg4 => ?_)⟩
    have hI := rpI_u (row' := (g.2.1, h.2, nI t.2, d.2, 0, -1, 0, g.2.2)) hI fM4 q8fM4 hg4.2 (j8 rfl rfl rfl rfl rfl rfl rfl rfl)
    rw [ob_r ho3] at hQ
    refine hP _ _ _ _ _ ⟨fun hz => absurd hz ( by decide), fun _ => ?_⟩
    refine hP _ _ _ _ _ ?_
    refine hP _ _ _ _ _ ?_
    refine hP _ _ _ _ _ ⟨(zi hn rfl rfl rfl), Nat.le_of_ble_eq_true rfl, Nat.le_of_ble_eq_true rfl, ?_⟩
    refine ⟨7, d.1, sz, np, pw, B, rfl, by omega, hI.2.1, hg4.1, res_i (fun e ho M' fM' g8 g9 => f136 M' _ _ (res_f hQ (ob_l ho) M' (fr_p hI.1 fM') g8 g9)) (fun k4 ho4 M5 fM5 q8fM5 hg5 => ?_)⟩
    have hI := rpI_0 hI fM5 q8fM5 hg5.2
    rw [ob_r ho4] at hQ
    refine hP _ _ _ _ _ ⟨fun hz => absurd hz ( by decide), fun _ => ?_⟩
    refine hP _ _ _ _ _ ?_
    refine hP _ _ _ _ _ ?_
    refine hP _ _ _ _ _ ?_
    refine hP _ _ _ _ _ ?_
    refine hP _ _ _ _ _ ?_
    refine hP _ _ _ _ _ ?_
    refine hP _ _ _ _ _ ⟨(zi hn rfl rfl rfl), Nat.le_of_ble_eq_true rfl, Nat.le_of_ble_eq_true rfl, ?_⟩
    refine ⟨8 * pw + 4, 0, 999, k4, sz, np, pw, B, by rw [← ea 4]; rfl, by omega, by omega, by omega, hI.2.1, hg5.1, res_i (fun e ho M' fM' g8 g9 => f150 M' _ _ (res_f hQ (ob_l ho) M' (fr_p hI.1 fM') g8 g9)) (fun m ho5 M6 fM6 q8fM6 hg6 => ?_)⟩
    have hI := rpI_u (row' := (g.2.1, h.2, nI t.2, d.2, nI m.2, -1, 0, g.2.2)) hI fM6 q8fM6 hg6.2 (j8 rfl rfl rfl rfl rfl rfl rfl rfl)
    rw [ob_r ho5] at hQ
    refine hP _ _ _ _ _ ⟨fun hz => absurd hz ( by decide), fun _ => ?_⟩
    exact tail2 g h t d m M6 hQ hI hg6.1 v2
  have first : ∀ M, rpI n mem B sz np pw (0, 0, 0, 0, 0, -1, 0, 0) M → zAt M B sz k → ∀ v2, P 55 [.ref 180, .int (nI (8 * pw)), v2] [] n M := by
    intro M hI hA v2
    have hR : ∀ p, p < pw → Rm (M.1 183) p 0 = Rm (mem.1 183) p 0 ∧ Rm (M.1 183) p 6 = Rm (mem.1 183) p 6 := fun p hp => ⟨hI.2.2.2.1 _ (by omega), hI.2.2.2.1 _ (by omega)⟩
    rw [← gvT_R hR] at hQ
    refine hP _ _ _ _ _ ?_
    refine hP _ _ _ _ _ ?_
    refine hP _ _ _ _ _ ⟨(zi hn rfl rfl rfl), Nat.le_of_ble_eq_true rfl, Nat.le_of_ble_eq_true rfl, ?_⟩
    refine ⟨k, sz, np, pw, B, rfl, by omega, hI.2.1, hA, hk, res_i (fun e ho M' fM' g8 g9 => f60 M' _ _ (res_f hQ (ob_l ho) M' (fr_p hI.1 fM') g8 g9)) (fun g ho1 M1 fM1 q8fM1 hg1 => ?_)⟩
    have hI : rpI n mem B sz np pw (g.2.1, 0, 0, 0, 0, -1, 0, g.2.2) M1 := by
      refine ⟨fr_p hI.1 fM1, sx_fr fM1 hI.2.1, ⟨(fM1.1 180 17 (by unfold sR; omega)).trans hI.2.2.1.1, q8fM1.trans hI.2.2.1.2⟩, fun i hi => ?_, ?_⟩
      · rw [hg1.2, upd_o (by omega), upd_o (by omega)]; exact hI.2.2.2.1 i hi
      · intro j hj
        rw [hg1.2]
        have hrow := hI.2.2.2.2 j hj
        by_cases z7 : j = 7
        · subst z7; rw [upd_s]; rfl
        · by_cases z0 : j = 0
          · subst z0; rw [upd_o (by omega)]; exact upd_s
          · rw [upd_o (by omega), upd_o (by omega), hrow]
            rcases (show j = 1 ∨ j = 2 ∨ j = 3 ∨ j = 4 ∨ j = 5 ∨ j = 6 by omega) with rfl | rfl | rfl | rfl | rfl | rfl <;> rfl
    rw [ob_r ho1] at hQ
    refine hP _ _ _ _ _ ⟨fun hz => absurd hz ( by decide), fun _ => ?_⟩
    refine hP _ _ _ _ _ ?_
    refine hP _ _ _ _ _ ?_
    refine hP _ _ _ _ _ ⟨(zi hn rfl rfl rfl), Nat.le_of_ble_eq_true rfl, Nat.le_of_ble_eq_true rfl, ?_⟩
    refine ⟨4, g.1, sz, np, pw, B, rfl, by omega, hI.2.1, hg1.1, res_i (fun e ho M' fM' g8 g9 => f68 M' _ _ (res_f hQ (ob_l ho) M' (fr_p hI.1 fM') g8 g9)) (fun k1 ho2 M2 fM2 q8fM2 hg2 => ?_)⟩
    have hI := rpI_0 hI fM2 q8fM2 hg2.2
    rw [ob_r ho2] at hQ
    refine hP _ _ _ _ _ ⟨fun hz => absurd hz ( by decide), fun _ => ?_⟩
    refine hP _ _ _ _ _ ?_
    refine hP _ _ _ _ _ ?_
    refine hP _ _ _ _ _ ⟨(zi hn rfl rfl rfl), Nat.le_of_ble_eq_true rfl, Nat.le_of_ble_eq_true rfl, ?_⟩
    have egv : M2.1 183 (8 * pw) = g.2.1 := hI.2.2.2.2 0 (by omega)
    refine ⟨8 * pw, k1, sz, np, pw, B, rfl, by omega, hI.2.1, hg2.1, hI.2.2.2.2 1 (by omega), ?_⟩
    rw [egv]
    refine res_i (fun e ho M' fM' g8 g9 => f76 M' _ _ (res_f hQ (ob_l ho) M' (fr_p hI.1 fM') g8 g9)) (fun h ho3 M3 fM3 q8fM3 hg3 => ?_)
    have hI := rpI_u (row' := (g.2.1, h.2, 0, 0, 0, -1, 0, g.2.2)) hI fM3 q8fM3 hg3.2 (j8 rfl rfl rfl rfl rfl rfl rfl rfl)
    rw [ob_r ho3] at hQ
    have hs8 : zs8 h.2 := hs_s8 hI.2.1.2.2.2.2.2.1 ho3
    refine hP _ _ _ _ _ ⟨fun hz => absurd hz ( by decide), fun _ => ?_⟩
    refine hP _ _ _ _ _ ?_
    refine hP _ _ _ _ _ ?_
    refine hP _ _ _ _ _ ⟨(zi hn rfl rfl rfl), Nat.le_of_ble_eq_true rfl, Nat.le_of_ble_eq_true rfl, ?_⟩
    refine ⟨5, h.1, sz, np, pw, B, rfl, by omega, hI.2.1, hg3.1, res_i (fun e ho M' fM' g8 g9 => f84 M' _ _ (res_f hQ (ob_l ho) M' (fr_p hI.1 fM') g8 g9)) (fun k2 ho4 M4 fM4 q8fM4 hg4 => ?_)⟩
    have hI := rpI_0 hI fM4 q8fM4 hg4.2
    rw [ob_r ho4] at hQ
    refine hP _ _ _ _ _ ⟨fun hz => absurd hz ( by decide), fun _ => ?_⟩
    exact tail1 g h k2 M4 hQ hI hs8 hg4.1 v2
  have loop : ∀ i, i ≤ 8 → ∀ M, zfr sR mem M → M.1 180 8 = mem.1 180 8 → M.1 183 = clr (mem.1 183) (8 * pw) i → zAt M B sz k → P 25 [.ref 180, .int (nI (8 * pw)), .int (nI i)] [] n M := by
    refine zloop ?_ ?_
    · intro M fM m8 hc hAM
      have hF := zFx_R fM hF
      have hI : rpI n mem B sz np pw (0, 0, 0, 0, 0, -1, 0, 0) (zI M 183 (8 * pw + 5) (-1)) := by
        have fN : zfr sR mem (zI M 183 (8 * pw + 5) (-1)) := fM.I (Or.inr rfl)
        refine ⟨fN.mono fun _ _ => sR_p, sx_fr fN hS, ⟨fN.1 180 17 (by unfold sR; omega), m8⟩, fun i hi => ?_, fun j hj => ?_⟩
        · rw [zI_o (by omega), hc]; unfold clr; rw [if_neg (by omega)]
        · by_cases z : j = 5
          · subst z; rw [zI_s]; rfl
          · rw [zI_o (by omega), hc]
            unfold clr
            rw [if_pos (by omega)]
            rcases (show j = 0 ∨ j = 1 ∨ j = 2 ∨ j = 3 ∨ j = 4 ∨ j = 6 ∨ j = 7 by omega) with rfl | rfl | rfl | rfl | rfl | rfl | rfl <;> rfl
      refine hP _ _ _ _ _ ?_
      refine hP _ _ _ _ _ ?_
      refine hP _ _ _ _ _ ⟨fun _ => ?_, fun hz => absurd ( by decide) hz⟩
      refine hP _ _ _ _ _ ?_
      refine hP _ _ _ _ _ ⟨(zi hn rfl rfl rfl), _, fx_Model_powersRead hF, (by decide), ?_⟩
      refine hP _ _ _ _ _ ?_
      refine hP _ _ _ _ _ ?_
      refine hP _ _ _ _ _ ?_
      refine hP _ _ _ _ _ ?_
      refine hP _ _ _ _ _ ⟨_, 8 * pw + 5, (zi hn rfl rfl rfl), ea 5, by omega, ?_⟩
      exact first _ hI hAM _
    · intro i hi ih M fM m8 hc hAM
      have hF := zFx_R fM hF
      have ih1 := ih (zI M 183 (8 * pw + i) 0) (fM.I (Or.inr rfl)) m8 (by rw [zupd_I, hc, clr_s]) hAM
      rw [nI_succ i] at ih1
      refine hP _ _ _ _ _ ?_
      refine hP _ _ _ _ _ ?_
      refine hP _ _ _ _ _ ⟨fun hz => absurd hz ( nI_ge (b := 8) hi (by omega)), fun _ => ?_⟩
      refine hP _ _ _ _ _ ?_
      refine hP _ _ _ _ _ ⟨(zi hn rfl rfl rfl), _, fx_Model_powersRead hF, (by decide), ?_⟩
      refine hP _ _ _ _ _ ?_
      refine hP _ _ _ _ _ ?_
      refine hP _ _ _ _ _ ?_
      refine hP _ _ _ _ _ ?_
      refine hP _ _ _ _ _ ⟨_, 8 * pw + i, (zi hn rfl rfl rfl), ea i, by omega, ?_⟩
      refine hP _ _ _ _ _ ?_
      refine hP _ _ _ _ _ ?_
      exact ih1
  refine hP _ _ _ _ _ ?_
  refine hP _ _ _ _ _ ⟨(zi hn rfl rfl rfl), ?_⟩
  refine hP _ _ _ _ _ ?_
  refine hP _ _ _ _ _ ⟨fun hz => absurd hz ( by rw [s18]; exact fun z => h20 ((nI_eq (by omega) (by omega)).mp z)), fun _ => ?_⟩
  refine hP _ _ _ _ _ ?_
  refine hP _ _ _ _ _ ?_
  refine hP _ _ _ _ _ ⟨(zi hn rfl rfl rfl), ?_⟩
  refine hP _ _ _ _ _ ?_
  refine hP _ _ _ _ _ ?_
  rw [show (fun x y => x * y) 8 (mem.1 180 18) = nI (8 * pw) from e18]
  refine hP _ _ _ _ _ ?_
  refine hP _ _ _ _ _ ?_
  exact loop 0 (by omega) mem zfr.rf rfl clr_0.symm hA
