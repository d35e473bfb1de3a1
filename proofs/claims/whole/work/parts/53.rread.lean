/-! ===== the stream of tokens ===== -/
def psS (B : Nat → Int32) (sz : Nat) : Nat → Nat
  | 0 => 0
  | k + 1 => nxP B sz (psS B sz k)
def tsS (B : Nat → Int32) (sz : Nat) : zTS := fun k => (tkP B sz (psS B sz k), stP B sz (psS B sz k), ix (nmP B sz (psS B sz k)))
theorem numI_nI {B : Nat → Int32} {s : Nat} : ∀ n, n ≤ 3 → allD B s n = true → ∃ v, v < 10 ^ n ∧ numI B s n = nI v := by
  intro n
  induction n with
  | zero => intro _ _; exact ⟨0, by decide, rfl⟩
  | succ n ih =>
    intro h3 h
    rw [allD, Bool.and_eq_true] at h
    obtain ⟨v, hv, e⟩ := ih (by omega) h.1
    obtain ⟨d, h1, h2, e2⟩ := dgt_nI h.2
    refine ⟨10 * v + (d - 48), ?_, ?_⟩
    · rw [Nat.pow_succ]; omega
    · rw [numI, e, e2, show (10 : Int32) = nI 10 from rfl, pk_mul, nI_add, show (48 : Int32) = nI 48 from rfl, pk_sub (by omega)]
      congr 1; omega
theorem wT_cases (B : Nat → Int32) (s n : Nat) : wT B s n = 1 ∨ 4 ≤ wT B s n ∧ wT B s n < 14 := by
  have key : ∀ k, k ≤ 10 → wF B s n k = 1 ∨ 4 ≤ wF B s n k ∧ wF B s n k < 14 := by
    intro k
    induction k with
    | zero => intro _; exact Or.inl rfl
    | succ k ih =>
      intro hk
      rw [wF]
      split
      · right; omega
      · exact ih (by omega)
  exact key 10 (Nat.le_refl _)
theorem num_ok {B : Nat → Int32} {sz p : Nat} (h : tkP B sz p = 2) : ix (nmP B sz p) ≤ 999 ∧ nmP B sz p = nI (ix (nmP B sz p)) := by
  have h2 := (nx_lt (B := B) (sz := sz) (p := p) (by omega)).2.1
  have e : stP B sz p = sk B (min sz 800) p := by unfold stP at h2 ⊢; omega
  unfold tkP at h
  rw [if_neg (by rw [← e]; omega), ← e] at h
  unfold nmP
  generalize stP B sz p = s at h
  unfold tkC at h
  split at h
  · omega
  · split at h
    · omega
    · split at h
      · rename_i hc
        obtain ⟨v, hv, e⟩ := numI_nI _ hc.2 hc.1
        have hp : 10 ^ (en B sz s - s) ≤ 10 ^ 3 := Nat.pow_le_pow_right (by omega) hc.2
        have hv9 : v ≤ 999 := by have : v < 10 ^ 3 := Nat.lt_of_lt_of_le hv hp; omega
        rw [e, ix_nI (by omega)]
        exact ⟨hv9, rfl⟩
      · split at h
        · have := wT_cases B s (en B sz s - s); omega
        · omega
/-- a token's kind is one of fourteen -/
theorem tk_lt (B : Nat → Int32) (sz p : Nat) : tkP B sz p < 14 := by
  unfold tkP tkC
  split
  · split <;> omega
  · split
    · omega
    · split
      · omega
      · split
        · omega
        · split
          · have := wT_cases B (sk B (min sz 800) p) (en B sz (sk B (min sz 800) p) - sk B (min sz 800) p); omega
          · omega
theorem zTk_w {mem : zM} {k s : Nat} {v v' : Int32} (h : zTk mem k s v) (hv : k = 2 → v = v') : zTk mem k s v' := by
  refine ⟨h.1, ?_⟩
  rcases h.2 with h | h | ⟨a, b, c⟩ | h | h
  · exact Or.inl h
  · exact Or.inr (Or.inl h)
  · exact Or.inr (Or.inr (Or.inl ⟨a, b, by rw [← hv a]; exact c⟩))
  · exact Or.inr (Or.inr (Or.inr (Or.inl h)))
  · exact Or.inr (Or.inr (Or.inr (Or.inr h)))
/-- what stays while a text is read: the bytes, their number; parties and powers so far -/
def zSx (n : Nat) (mem : zM) (B : Nat → Int32) (sz np pw : Nat) : Prop := zst n mem ∧ mem.1 180 3 = nI sz ∧ sz ≤ 840 ∧ mem.1 181 = B ∧ mem.1 180 16 = nI np ∧ np ≤ 8 ∧ mem.1 180 18 = nI pw ∧ pw ≤ 20
def zAt (mem : zM) (B : Nat → Int32) (sz k : Nat) : Prop := zTk mem (tsS B sz k).1 (tsS B sz k).2.1 (nI (tsS B sz k).2.2) ∧ (2 ≤ (tsS B sz k).1 → mem.1 180 4 = nI (psS B sz (k + 1)) ∧ psS B sz (k + 1) ≤ sz)
def sR (a b : Nat) : Prop := (a = 180 ∧ 4 ≤ b ∧ b ≤ 10) ∨ a = 183
theorem sG_R {a b : Nat} (h : sG a b) : sR a b := by unfold sG at h; unfold sR; omega
theorem zFx_R {M m : zM} (h : zfr sR M m) (hF : zFx M) : zFx m := by
  have e : ∀ a b, ¬ sR a b → m.2.2 a b = M.2.2 a b := h.2.2
  have hl : ∀ q ∈ zfxl, ¬ sR q.1 q.2.1 := by unfold sR; decide +kernel
  refine ⟨fun q hq => (e _ _ (hl q hq)).trans (hF.1 q hq), fun p hp => ?_, fun a ha => ?_, ?_⟩
  · rw [e 137 p (by unfold sR; omega), e 159 p (by unfold sR; omega)]; exact hF.2.1 p hp
  · rw [e 119 a (by unfold sR; omega)]; exact hF.2.2.1 a ha
  · rw [e 100 8 (by unfold sR; omega), e 100 9 (by unfold sR; omega)]; exact hF.2.2.2
theorem sx_fr {n : Nat} {mem M : zM} {B : Nat → Int32} {sz np pw : Nat} (h : zfr sR mem M) (hS : zSx n mem B sz np pw) : zSx n M B sz np pw := by
  obtain ⟨⟨hn, hF⟩, a, b, c, d, e, f, g⟩ := hS
  refine ⟨⟨hn, zFx_R h hF⟩, (h.1 180 3 (by unfold sR; omega)).trans a, b, ?_, (h.1 180 16 (by unfold sR; omega)).trans d, e, (h.1 180 18 (by unfold sR; omega)).trans f, g⟩
  rw [← c]; funext j; exact h.1 181 j (by unfold sR; omega)
theorem use_go {n : Nat} {mem : zM} {B : Nat → Int32} {sz np pw k : Nat} {Q : zPo} (hS : zSx n mem B sz np pw) (h4 : mem.1 180 4 = nI (psS B sz k)) (hle : psS B sz k ≤ sz) (hQ : ∀ M, zfr sG mem M → zAt M B sz k → Q none n M) : k_X11_go [.ref 180] n mem Q := by
  obtain ⟨hst, a, b, c, -⟩ := hS
  refine ⟨sz, psS B sz k, rfl, hst, a, b, h4, hle, fun M fM hT hto => hQ M fM ?_⟩
  rw [c] at hT hto
  refine ⟨zTk_w hT fun h2 => (num_ok h2).2, fun h2 => ⟨hto h2, (nx_lt h2).2.2.2⟩⟩
/-- what a reader gives: a fault, told and placed; or it goes on -/
def zRes {α : Type} (S : Nat → Nat → Prop) (n : Nat) (mem : zM) (Q : zPo) (o : zOut α) (good : α → zM → Prop) : Prop := match o with
  | .inl e => ∀ M, zfr S mem M → M.1 180 8 = nI e.1 → M.1 180 9 = nI e.2 → Q (some (.int 0)) n M
  | .inr a => ∀ M, zfr S mem M → M.1 180 8 = mem.1 180 8 → good a M → Q (some (.int 1)) n M
theorem res_f {α : Type} {S : Nat → Nat → Prop} {n : Nat} {mem : zM} {Q : zPo} {o : zOut α} {good : α → zM → Prop} {e : Nat × Nat} (h : zRes S n mem Q o good) (ho : o = .inl e) : ∀ M, zfr S mem M → M.1 180 8 = nI e.1 → M.1 180 9 = nI e.2 → Q (some (.int 0)) n M := by subst ho; exact h
theorem res_t {α : Type} {S : Nat → Nat → Prop} {n : Nat} {mem : zM} {Q : zPo} {o : zOut α} {good : α → zM → Prop} {a : α} (h : zRes S n mem Q o good) (ho : o = .inr a) : ∀ M, zfr S mem M → M.1 180 8 = mem.1 180 8 → good a M → Q (some (.int 1)) n M := by subst ho; exact h
theorem g8 {mem M : zM} (h : zfr sG mem M) : M.1 180 8 = mem.1 180 8 := h.1 180 8 (by unfold sG; omega)
theorem fr_bad {S : Nat → Nat → Prop} {mem M : zM} {a b : Int32} (h : zfr S mem M) (h8 : S 180 8) (h9 : S 180 9) : zfr S mem (zI (zI M 180 8 a) 180 9 b) := (h.I h8).I h9
theorem r8 : sR 180 8 := Or.inl ⟨rfl, by omega⟩
theorem r9 : sR 180 9 := Or.inl ⟨rfl, by omega⟩
theorem at_183 {mem : zM} {B : Nat → Int32} {sz k j : Nat} {v : Int32} (h : zAt mem B sz k) : zAt (zI mem 183 j v) B sz k := h
def k_X11_readWord : zCt := fun as n mem Q => ∃ (w k sz np pw : Nat) (B : Nat → Int32), as = [.ref 180, .int (nI w)] ∧ w < 10 ∧ zSx n mem B sz np pw ∧ zAt mem B sz k ∧ zRes sR n mem Q (tkT (tsS B sz) (4 + w) k) (fun k' M => zAt M B sz k' ∧ M.1 183 = mem.1 183)
theorem ok_X11_readWord {l : Launch} {G : zG} : zOK l G yX11_readWord cX11_readWord 2 (some .boolean) 2 0 0 k_X11_readWord := by
  intro as n mem Q hK
  obtain ⟨w, k, sz, np, pw, B, rfl, hw, hS, hA, hQ⟩ := hK
  refine mtX11_readWord ok_X11_is (by decide) ok_X11_bad (by decide) ok_X11_go (by decide) (List.forall_mem_cons.mpr ⟨rfl, List.forall_mem_cons.mpr ⟨rfl, fun _ h => absurd h List.not_mem_nil⟩⟩) (by simp) rfl (fun P hP => ?_)
  show P 0 [.ref 180, .int (nI w)] [] n mem
  have hst := hS.1
  obtain ⟨hn, hF⟩ := hst
  refine hP _ _ _ _ _ ?_
  refine hP _ _ _ _ _ ?_
  refine hP _ _ _ _ _ ⟨(zi hn rfl rfl rfl), Nat.le_of_ble_eq_true rfl, Nat.le_of_ble_eq_true rfl, ?_⟩
  refine ⟨w, _, _, _, rfl, hw, ⟨hn, hF⟩, hA.1, ?_⟩
  refine hP _ _ _ _ _ ⟨fun h5 => ?_, fun h5 => ?_⟩
  ·
    have h5 := zb_0.mp h5
    refine hP _ _ _ _ _ ?_
    refine hP _ _ _ _ _ ?_
    refine hP _ _ _ _ _ ⟨(zi hn rfl rfl rfl), Nat.le_of_ble_eq_true rfl, Nat.le_of_ble_eq_true rfl, ?_⟩
    refine ⟨1, _, _, _, rfl, fun _ => rfl, ⟨hn, hF⟩, hA.1, ?_⟩
    refine hP _ _ _ _ _ ?_
    exact ⟨by decide, rfl, res_f hQ (if_neg (of_decide_eq_false h5)) _ (fr_bad zfr.rf r8 r9) rfl rfl⟩
  ·
    have h5 := zb_n.mp h5
    have h5 := of_decide_eq_true h5
    obtain ⟨t1, t2⟩ := hA.2 (by omega)
    refine hP _ _ _ _ _ ?_
    refine hP _ _ _ _ _ ⟨(zi hn rfl rfl rfl), Nat.le_of_ble_eq_true rfl, Nat.le_of_ble_eq_true rfl, ?_⟩
    refine use_go hS t1 t2 fun M fM hA' => ?_
    refine hP _ _ _ _ _ ?_
    refine hP _ _ _ _ _ ?_
    exact ⟨by decide, rfl, res_t hQ (if_pos h5) M (fM.mono fun _ _ => sG_R) (g8 fM) ⟨hA', row_G fM (by omega)⟩⟩
theorem isin_v {v lo hi : Nat} (h1 : v < 2 ^ 30) (h2 : lo < 2 ^ 30) (h3 : hi < 2 ^ 30) : isin (nI v) (nI lo) (nI hi) = decide (¬ (v < lo ∨ hi < v)) := by
  unfold isin
  congr 1
  rw [nI_ltI (by omega) (by omega), nI_ltI (by omega) (by omega), not_or]
theorem zupd_I {mem : zM} {a j : Nat} {v : Int32} : (zI mem a j v).1 a = upd (mem.1 a) j v := by
  funext b
  by_cases h : b = j
  · subst h; rw [zI_s]; simp [upd]
  · rw [zI_o h]; simp [upd, h]
def k_X11_readNumber : zCt := fun as n mem Q => ∃ (at' lo hi k sz np pw : Nat) (B : Nat → Int32), as = [.ref 180, .int (nI at'), .int (nI lo), .int (nI hi)] ∧ at' < 160 ∧ lo ≤ 999 ∧ hi ≤ 999 ∧ zSx n mem B sz np pw ∧ zAt mem B sz k ∧ zRes sR n mem Q (nbT (tsS B sz) lo hi k) (fun x M => zAt M B sz x.1 ∧ M.1 183 = upd (mem.1 183) at' (nI x.2))
theorem ts_v {B : Nat → Int32} {sz k : Nat} (h : (tsS B sz k).1 = 2) : (tsS B sz k).2.2 ≤ 999 := (num_ok h).1
theorem ok_X11_readNumber {l : Launch} {G : zG} : zOK l G yX11_readNumber cX11_readNumber 4 (some .boolean) 2 0 0 k_X11_readNumber := by
  intro as n mem Q hK
  obtain ⟨at', lo, hi, k, sz, np, pw, B, rfl, hat, hlo, hhi, hS, hA, hQ⟩ := hK
  refine mtX11_readNumber ok_X11_bad (by decide) ok_X11_isIn (by decide) ok_X11_go (by decide) (List.forall_mem_cons.mpr ⟨rfl, List.forall_mem_cons.mpr ⟨rfl, List.forall_mem_cons.mpr ⟨rfl, List.forall_mem_cons.mpr ⟨rfl, fun _ h => absurd h List.not_mem_nil⟩⟩⟩⟩) (by simp) rfl (fun P hP => ?_)
  show P 0 [.ref 180, .int (nI at'), .int (nI lo), .int (nI hi)] [] n mem
  have hst := hS.1
  obtain ⟨hn, hF⟩ := hst
  have h3 := zTk_3 hA.1
  refine hP _ _ _ _ _ ?_
  refine hP _ _ _ _ _ ⟨(zi hn rfl rfl rfl), ?_⟩
  refine hP _ _ _ _ _ ?_
  refine hP _ _ _ _ _ ⟨fun h5 => ?_, fun h5 => ?_⟩
  ·
    have h2 := h3.mp h5
    have hv := zTk_v hA.1 h2
    have hv9 := ts_v h2
    obtain ⟨t1, t2⟩ := hA.2 (by omega)
    refine hP _ _ _ _ _ ?_
    refine hP _ _ _ _ _ ⟨(zi hn rfl rfl rfl), ?_⟩
    refine hP _ _ _ _ _ ?_
    refine hP _ _ _ _ _ ?_
    refine hP _ _ _ _ _ ⟨Nat.le_of_ble_eq_true rfl, Nat.le_of_ble_eq_true rfl, ?_⟩
    refine ⟨_, _, _, rfl, ?_⟩
    rw [hv, isin_v (by omega) (by omega) (by omega)]
    refine hP _ _ _ _ _ ⟨fun h23 => ?_, fun h23 => ?_⟩
    ·
      have h23 := zb_0.mp h23
      refine hP _ _ _ _ _ ?_
      refine hP _ _ _ _ _ ?_
      refine hP _ _ _ _ _ ⟨(zi hn rfl rfl rfl), Nat.le_of_ble_eq_true rfl, Nat.le_of_ble_eq_true rfl, ?_⟩
      refine ⟨2, _, _, _, rfl, fun z => by omega, ⟨hn, hF⟩, hA.1, ?_⟩
      refine hP _ _ _ _ _ ?_
      exact ⟨by decide, rfl, res_f hQ (by unfold nbT; rw [if_neg (fun z => z h2), if_pos (Decidable.not_not.mp (of_decide_eq_false h23))]) _ (fr_bad zfr.rf r8 r9) rfl rfl⟩
    ·
      have h23 := zb_n.mp h23
      refine hP _ _ _ _ _ ?_
      refine hP _ _ _ _ _ ⟨(zi hn rfl rfl rfl), _, fx_Model_powersRead hF, (by decide), ?_⟩
      refine hP _ _ _ _ _ ?_
      refine hP _ _ _ _ _ ?_
      refine hP _ _ _ _ _ ⟨(zi hn rfl rfl rfl), ?_⟩
      refine hP _ _ _ _ _ ⟨_, at', (zi hn rfl rfl rfl), rfl, hat, ?_⟩
      refine hP _ _ _ _ _ ?_
      refine hP _ _ _ _ _ ⟨(zi hn rfl rfl rfl), Nat.le_of_ble_eq_true rfl, Nat.le_of_ble_eq_true rfl, ?_⟩
      refine use_go (k := k + 1) (sx_fr (zfr.rf.I (Or.inr rfl)) hS) t1 t2 fun M fM hA' => ?_
      refine hP _ _ _ _ _ ?_
      refine hP _ _ _ _ _ ?_
      exact ⟨by decide, rfl, res_t hQ (by unfold nbT; rw [if_neg (fun z => z h2), if_neg (of_decide_eq_true h23)]) M ((zfr.rf.I (Or.inr rfl)).tr (fM.mono fun _ _ => sG_R)) (by have q := g8 fM; exact q) ⟨hA', by rw [row_G fM (by omega), zupd_I, hv]⟩⟩
  ·
    refine hP _ _ _ _ _ ?_
    refine hP _ _ _ _ _ ?_
    refine hP _ _ _ _ _ ⟨(zi hn rfl rfl rfl), Nat.le_of_ble_eq_true rfl, Nat.le_of_ble_eq_true rfl, ?_⟩
    refine ⟨1, _, _, _, rfl, fun _ => rfl, ⟨hn, hF⟩, hA.1, ?_⟩
    refine hP _ _ _ _ _ ?_
    exact ⟨by decide, rfl, res_f hQ (if_pos (fun z => h5 (h3.mpr z))) _ (fr_bad zfr.rf r8 r9) rfl rfl⟩
def Rm (r : Nat → Int32) (p j : Nat) : Int32 := r (8 * p + j)
def k_X11_readGiver : zCt := fun as n mem Q => ∃ (k sz np pw : Nat) (B : Nat → Int32), as = [.ref 180, .int (nI (8 * pw))] ∧ pw < 20 ∧ zSx n mem B sz np pw ∧ zAt mem B sz k ∧ ((tsS B sz k).1 = 6 ∨ (tsS B sz k).1 = 7) ∧ zRes sR n mem Q (gvT (tsS B sz) np pw (Rm (mem.1 183)) k) (fun g M => zAt M B sz g.1 ∧ M.1 183 = upd (upd (mem.1 183) (8 * pw) g.2.1) (8 * pw + 7) g.2.2)
theorem ok_X11_readGiver {l : Launch} {G : zG} : zOK l G yX11_readGiver cX11_readGiver 3 (some .boolean) 2 0 0 k_X11_readGiver := by
  intro as n mem Q hK
  obtain ⟨k, sz, np, pw, B, rfl, hpw20, hS, hA, hk67, hQ⟩ := hK
  refine mtX11_readGiver ok_X11_is (by decide) ok_X11_go (by decide) ok_X11_bad (by decide) (List.forall_mem_cons.mpr ⟨rfl, List.forall_mem_cons.mpr ⟨rfl, fun _ h => absurd h List.not_mem_nil⟩⟩) (by simp) rfl (fun P hP => ?_)
  show P 0 [.ref 180, .int (nI (8 * pw)), .null] [] n mem
  obtain ⟨⟨hn, hF0⟩, s3, s8, sB, s16, s17, s18, s20⟩ := id hS
  have e0 : nI (8 * pw) + nI 0 = nI (8 * pw + 0) := nI_add _ _
  have e7 : nI (8 * pw) + nI 7 = nI (8 * pw + 7) := nI_add _ _
  obtain ⟨t1, t2⟩ := hA.2 (by omega)
  -- the last part
  have tail : ∀ M (b : Bool), zfr sG mem M → zAt M B sz (k + 1) → (tsS B sz (k + 1)).1 = 2 → b = decide ((tsS B sz k).1 = 7) → (b = true → (tsS B sz (k + 1)).2.2 < pw) → gvT (tsS B sz) np pw (Rm (mem.1 183)) k = .inr (k + 2, (if b = true then mem.1 183 (8 * (tsS B sz (k + 1)).2.2) else nI (tsS B sz (k + 1)).2.2), (if b = true then nI (tsS B sz (k + 1)).2.2 else -1)) → P 77 [.ref 180, .int (nI (8 * pw)), .int (zb b)] [] n M := by
    intro M b fM hA1 h2 hb hlt ho
    have hS1 := sx_fr (fM.mono fun _ _ => sG_R) hS
    have hF := hS1.1.2
    have hv := zTk_v hA1.1 h2
    have hv9 := ts_v h2
    obtain ⟨u1, u2⟩ := hA1.2 (by omega)
    have r183 : M.1 183 = mem.1 183 := row_G fM (by omega)
    cases b with
    | true =>
      have hlt := hlt rfl
      refine hP _ _ _ _ _ ?_
      refine hP _ _ _ _ _ ⟨(zi hn rfl rfl rfl), _, fx_Model_powersRead hF, (by decide), ?_⟩
      refine hP _ _ _ _ _ ?_
      refine hP _ _ _ _ _ ?_
      refine hP _ _ _ _ _ ?_
      refine hP _ _ _ _ _ ?_
      refine hP _ _ _ _ _ ⟨fun hz => absurd hz ( by decide), fun _ => ?_⟩
      refine hP _ _ _ _ _ ?_
      refine hP _ _ _ _ _ ⟨(zi hn rfl rfl rfl), _, fx_Model_powersRead hF, (by decide), ?_⟩
      refine hP _ _ _ _ _ ?_
      refine hP _ _ _ _ _ ?_
      refine hP _ _ _ _ _ ⟨(zi hn rfl rfl rfl), ?_⟩
      refine hP _ _ _ _ _ ?_
      refine hP _ _ _ _ _ ?_
      refine hP _ _ _ _ _ ?_
      refine hP _ _ _ _ _ ⟨_, 8 * (tsS B sz (k + 1)).2.2, (zi hn rfl rfl rfl), by rw [hv]; exact nlin 8 _ 0, by omega, ?_⟩
      refine hP _ _ _ _ _ ?_
      refine hP _ _ _ _ _ ⟨_, 8 * pw + 0, (zi hn rfl rfl rfl), e0, by omega, ?_⟩
      refine hP _ _ _ _ _ ?_
      refine hP _ _ _ _ _ ⟨(zi hn rfl rfl rfl), _, fx_Model_powersRead hF, (by decide), ?_⟩
      refine hP _ _ _ _ _ ?_
      refine hP _ _ _ _ _ ?_
      refine hP _ _ _ _ _ ?_
      refine hP _ _ _ _ _ ?_
      refine hP _ _ _ _ _ ⟨fun hz => absurd hz ( by decide), fun _ => ?_⟩
      refine hP _ _ _ _ _ ?_
      refine hP _ _ _ _ _ ⟨(zi hn rfl rfl rfl), ?_⟩
      refine hP _ _ _ _ _ ?_
      refine hP _ _ _ _ _ ⟨_, 8 * pw + 7, (zi hn rfl rfl rfl), e7, by omega, ?_⟩
      refine hP _ _ _ _ _ ?_
      refine hP _ _ _ _ _ ⟨(zi hn rfl rfl rfl), Nat.le_of_ble_eq_true rfl, Nat.le_of_ble_eq_true rfl, ?_⟩
      refine use_go (k := k + 2) (sx_fr ((zfr.rf.I (Or.inr rfl)).I (Or.inr rfl)) hS1) u1 u2 fun M' fM' hA' => ?_
      refine hP _ _ _ _ _ ?_
      refine hP _ _ _ _ _ ?_
      refine ⟨by decide, rfl, res_t hQ ho M' ((fM.mono fun _ _ => sG_R).tr (((zfr.rf.I (Or.inr rfl)).I (Or.inr rfl)).tr (fM'.mono fun _ _ => sG_R))) (by have q := g8 fM'; have q2 := g8 fM; exact q.trans q2) ⟨hA', ?_⟩⟩
      rw [row_G fM' (by omega), zupd_I, zupd_I, r183, Nat.add_zero, if_pos rfl, if_pos rfl]
      show upd _ _ ((zI M 183 (8 * pw) (mem.1 183 (8 * (tsS B sz (k + 1)).2.2))).1 180 7) = _
      rw [zI_ne (by omega), hv]
    | false =>
      refine hP _ _ _ _ _ ?_
      refine hP _ _ _ _ _ ⟨(zi hn rfl rfl rfl), _, fx_Model_powersRead hF, (by decide), ?_⟩
      refine hP _ _ _ _ _ ?_
      refine hP _ _ _ _ _ ?_
      refine hP _ _ _ _ _ ?_
      refine hP _ _ _ _ _ ?_
      refine hP _ _ _ _ _ ⟨fun _ => ?_, fun hz => absurd ( rfl) hz⟩
      refine hP _ _ _ _ _ ?_
      refine hP _ _ _ _ _ ⟨(zi hn rfl rfl rfl), ?_⟩
      refine hP _ _ _ _ _ ⟨_, 8 * pw + 0, (zi hn rfl rfl rfl), e0, by omega, ?_⟩
      refine hP _ _ _ _ _ ?_
      refine hP _ _ _ _ _ ⟨(zi hn rfl rfl rfl), _, fx_Model_powersRead hF, (by decide), ?_⟩
      refine hP _ _ _ _ _ ?_
      refine hP _ _ _ _ _ ?_
      refine hP _ _ _ _ _ ?_
      refine hP _ _ _ _ _ ?_
      refine hP _ _ _ _ _ ⟨fun _ => ?_, fun hz => absurd ( rfl) hz⟩
      refine hP _ _ _ _ _ ?_
      refine hP _ _ _ _ _ ⟨_, 8 * pw + 7, (zi hn rfl rfl rfl), e7, by omega, ?_⟩
      refine hP _ _ _ _ _ ?_
      refine hP _ _ _ _ _ ⟨(zi hn rfl rfl rfl), Nat.le_of_ble_eq_true rfl, Nat.le_of_ble_eq_true rfl, ?_⟩
      refine use_go (k := k + 2) (sx_fr ((zfr.rf.I (Or.inr rfl)).I (Or.inr rfl)) hS1) u1 u2 fun M' fM' hA' => ?_
      refine hP _ _ _ _ _ ?_
      refine hP _ _ _ _ _ ?_
      refine ⟨by decide, rfl, res_t hQ ho M' ((fM.mono fun _ _ => sG_R).tr (((zfr.rf.I (Or.inr rfl)).I (Or.inr rfl)).tr (fM'.mono fun _ _ => sG_R))) (by have q := g8 fM'; have q2 := g8 fM; exact q.trans q2) ⟨hA', ?_⟩⟩
      rw [row_G fM' (by omega), zupd_I, zupd_I, r183, Nat.add_zero, hv]
      rfl
  have hF := hF0
  refine hP _ _ _ _ _ ?_
  refine hP _ _ _ _ _ ?_
  refine hP _ _ _ _ _ ⟨(zi hn rfl rfl rfl), Nat.le_of_ble_eq_true rfl, Nat.le_of_ble_eq_true rfl, ?_⟩
  refine ⟨3, _, _, _, rfl, by omega, ⟨hn, hF⟩, hA.1, ?_⟩
  refine hP _ _ _ _ _ ?_
  refine hP _ _ _ _ _ ?_
  refine hP _ _ _ _ _ ⟨(zi hn rfl rfl rfl), Nat.le_of_ble_eq_true rfl, Nat.le_of_ble_eq_true rfl, ?_⟩
  refine use_go hS t1 t2 fun M fM hA1 => ?_
  have hS1 := sx_fr (fM.mono fun _ _ => sG_R) hS
  have hF := hS1.1.2
  have h3 := zTk_3 hA1.1
  have r183 : M.1 183 = mem.1 183 := row_G fM (by omega)
  have fR := fM.mono fun _ _ => sG_R
  refine hP _ _ _ _ _ ?_
  refine hP _ _ _ _ _ ⟨(zi hn rfl rfl rfl), ?_⟩
  refine hP _ _ _ _ _ ?_
  refine hP _ _ _ _ _ ⟨fun h15 => ?_, fun h15 => ?_⟩
  ·
    have h2 := h3.mp h15
    have hv := zTk_v hA1.1 h2
    have hv9 := ts_v h2
    have n2 : ¬ ¬ (tsS B sz (k + 1)).1 = 2 := fun z => z h2
    refine hP _ _ _ _ _ ?_
    refine hP _ _ _ _ _ ⟨fun h25 => ?_, fun h25 => ?_⟩
    ·
      have h25 := zb_0.mp h25
      have h7 := of_decide_eq_false h25
      refine hP _ _ _ _ _ ?_
      refine hP _ _ _ _ _ ⟨(zi hn rfl rfl rfl), ?_⟩
      refine hP _ _ _ _ _ ?_
      refine hP _ _ _ _ _ ⟨(zi hn rfl rfl rfl), ?_⟩
      refine hP _ _ _ _ _ ⟨fun h68 => ?_, fun h68 => ?_⟩
      ·
        first | exact tail M _ fM hA1 h2 rfl (fun _ => hlt) (by unfold gvT; rw [if_neg n2, if_pos h7, if_neg (fun z => z.elim (fun y => by omega) (fun y => h54 (by rw [r183]; exact y))), decide_eq_true h7]; rfl) | exact tail M _ fM hA1 h2 rfl (fun z => by rw [h25] at z; cases z) (by unfold gvT; rw [if_neg n2, if_neg h7, if_neg (Nat.not_le.mpr ((nI_ltI (by omega) (by omega)).mp (by rw [← hv, ← hS1.2.2.2.2.1]; exact h68))), decide_eq_false h7]; rfl)
      ·
        refine hP _ _ _ _ _ ?_
        refine hP _ _ _ _ _ ?_
        refine hP _ _ _ _ _ ⟨(zi hn rfl rfl rfl), Nat.le_of_ble_eq_true rfl, Nat.le_of_ble_eq_true rfl, ?_⟩
        refine ⟨3, _, _, _, rfl, fun z => by omega, ⟨hn, hF⟩, hA1.1, ?_⟩
        refine hP _ _ _ _ _ ?_
        first | exact ⟨by decide, rfl, res_f hQ (by unfold gvT; rw [if_neg n2, if_pos h7, if_pos (Or.inr (by show mem.1 183 _ = 0; rw [← r183]; exact h54))]) _ (fr_bad fR r8 r9) rfl rfl⟩ | exact ⟨by decide, rfl, res_f hQ (by unfold gvT; rw [if_neg n2, if_pos h7, if_pos (Or.inl ((nI_leI (by omega) (by omega)).mp (by rw [← hv, ← hS1.2.2.2.2.2.2.1]; exact h36)))]) _ (fr_bad fR r8 r9) rfl rfl⟩ | exact ⟨by decide, rfl, res_f hQ (by unfold gvT; rw [if_neg n2, if_neg h7, if_pos (Nat.not_lt.mp fun z => h68 (by rw [hv, hS1.2.2.2.2.1]; exact nI_lt z (by omega)))]) _ (fr_bad fR r8 r9) rfl rfl⟩
    ·
      have h25 := zb_n.mp h25
      have h7 := of_decide_eq_true h25
      refine hP _ _ _ _ _ ?_
      refine hP _ _ _ _ _ ⟨(zi hn rfl rfl rfl), ?_⟩
      refine hP _ _ _ _ _ ?_
      refine hP _ _ _ _ _ ⟨(zi hn rfl rfl rfl), ?_⟩
      refine hP _ _ _ _ _ ⟨fun h36 => ?_, fun h36 => ?_⟩
      ·
        refine hP _ _ _ _ _ ?_
        refine hP _ _ _ _ _ ?_
        refine hP _ _ _ _ _ ⟨(zi hn rfl rfl rfl), Nat.le_of_ble_eq_true rfl, Nat.le_of_ble_eq_true rfl, ?_⟩
        refine ⟨3, _, _, _, rfl, fun z => by omega, ⟨hn, hF⟩, hA1.1, ?_⟩
        refine hP _ _ _ _ _ ?_
        first | exact ⟨by decide, rfl, res_f hQ (by unfold gvT; rw [if_neg n2, if_pos h7, if_pos (Or.inr (by show mem.1 183 _ = 0; rw [← r183]; exact h54))]) _ (fr_bad fR r8 r9) rfl rfl⟩ | exact ⟨by decide, rfl, res_f hQ (by unfold gvT; rw [if_neg n2, if_pos h7, if_pos (Or.inl ((nI_leI (by omega) (by omega)).mp (by rw [← hv, ← hS1.2.2.2.2.2.2.1]; exact h36)))]) _ (fr_bad fR r8 r9) rfl rfl⟩ | exact ⟨by decide, rfl, res_f hQ (by unfold gvT; rw [if_neg n2, if_neg h7, if_pos (Nat.not_lt.mp fun z => h68 (by rw [hv, hS1.2.2.2.2.1]; exact nI_lt z (by omega)))]) _ (fr_bad fR r8 r9) rfl rfl⟩
      ·
        have hlt : (tsS B sz (k + 1)).2.2 < pw := Nat.not_le.mp fun z => h36 (by rw [hv, hS1.2.2.2.2.2.2.1]; exact nI_le z (by omega))
        refine hP _ _ _ _ _ ?_
        refine hP _ _ _ _ _ ⟨(zi hn rfl rfl rfl), _, fx_Model_powersRead hF, (by decide), ?_⟩
        refine hP _ _ _ _ _ ?_
        refine hP _ _ _ _ _ ?_
        refine hP _ _ _ _ _ ⟨(zi hn rfl rfl rfl), ?_⟩
        refine hP _ _ _ _ _ ?_
        refine hP _ _ _ _ _ ?_
        refine hP _ _ _ _ _ ?_
        refine hP _ _ _ _ _ ⟨_, 8 * (tsS B sz (k + 1)).2.2 + 6, (zi hn rfl rfl rfl), by rw [hv]; exact nlin 8 _ 6, by omega, ?_⟩
        refine hP _ _ _ _ _ ⟨fun h54 => ?_, fun h54 => ?_⟩
        ·
          refine hP _ _ _ _ _ ?_
          refine hP _ _ _ _ _ ?_
          refine hP _ _ _ _ _ ?_
          refine hP _ _ _ _ _ ⟨(zi hn rfl rfl rfl), Nat.le_of_ble_eq_true rfl, Nat.le_of_ble_eq_true rfl, ?_⟩
          refine ⟨3, _, _, _, rfl, fun z => by omega, ⟨hn, hF⟩, hA1.1, ?_⟩
          refine hP _ _ _ _ _ ?_
          first | exact ⟨by decide, rfl, res_f hQ (by unfold gvT; rw [if_neg n2, if_pos h7, if_pos (Or.inr (by show mem.1 183 _ = 0; rw [← r183]; exact h54))]) _ (fr_bad fR r8 r9) rfl rfl⟩ | exact ⟨by decide, rfl, res_f hQ (by unfold gvT; rw [if_neg n2, if_pos h7, if_pos (Or.inl ((nI_leI (by omega) (by omega)).mp (by rw [← hv, ← hS1.2.2.2.2.2.2.1]; exact h36)))]) _ (fr_bad fR r8 r9) rfl rfl⟩ | exact ⟨by decide, rfl, res_f hQ (by unfold gvT; rw [if_neg n2, if_neg h7, if_pos (Nat.not_lt.mp fun z => h68 (by rw [hv, hS1.2.2.2.2.1]; exact nI_lt z (by omega)))]) _ (fr_bad fR r8 r9) rfl rfl⟩
        ·
          first | exact tail M _ fM hA1 h2 rfl (fun _ => hlt) (by unfold gvT; rw [if_neg n2, if_pos h7, if_neg (fun z => z.elim (fun y => by omega) (fun y => h54 (by rw [r183]; exact y))), decide_eq_true h7]; rfl) | exact tail M _ fM hA1 h2 rfl (fun z => by rw [h25] at z; cases z) (by unfold gvT; rw [if_neg n2, if_neg h7, if_neg (Nat.not_le.mpr ((nI_ltI (by omega) (by omega)).mp (by rw [← hv, ← hS1.2.2.2.2.1]; exact h68))), decide_eq_false h7]; rfl)
  ·
    refine hP _ _ _ _ _ ?_
    refine hP _ _ _ _ _ ?_
    refine hP _ _ _ _ _ ⟨(zi hn rfl rfl rfl), Nat.le_of_ble_eq_true rfl, Nat.le_of_ble_eq_true rfl, ?_⟩
    refine ⟨1, _, _, _, rfl, fun _ => rfl, ⟨hn, hF⟩, hA1.1, ?_⟩
    refine hP _ _ _ _ _ ?_
    exact ⟨by decide, rfl, res_f hQ (if_pos (fun z => h15 (h3.mpr z))) _ (fr_bad fR r8 r9) rfl rfl⟩
