/-! ===== the class's reader: K the last token, t what is told, np parties, pw powers ===== -/
def S3 (a b : Nat) : Prop := a = 103 ∧ 2 ≤ b
def cRw (x : Nat) (J : Nat → Prop) (a b : Nat) : Prop := (a = 103 ∧ 2 ≤ b) ∨ (a = x ∧ J b)
def sC (a b : Nat) : Prop := (a = 103 ∧ 1 ≤ b) ∨ ((a = 136 ∨ a = 158) ∧ 1 ≤ b) ∨ (138 ≤ a ∧ a ≤ 157) ∨ (160 ≤ a ∧ a ≤ 179)
theorem S3_w {x : Nat} {J : Nat → Prop} {a b : Nat} (h : S3 a b) : cRw x J a b := Or.inl h
theorem S3_C {a b : Nat} (h : S3 a b) : sC a b := by unfold S3 at h; unfold sC; omega
theorem rw_C {t p : Nat} {J : Nat → Prop} (hT : t = 136 ∨ t = 158) (hp : p < 20) {a b : Nat} (h : cRw (t + 2 + p) J a b) : sC a b := by
  unfold sC
  rcases h with h | h
  · omega
  · have := h.1; omega
theorem zFx_C {M m : zM} (h : zfr sC M m) (hF : zFx M) : zFx m := by
  have e : ∀ a b, ¬ sC a b → m.2.2 a b = M.2.2 a b := h.2.2
  have hl : ∀ q ∈ zfxl, ¬ sC q.1 q.2.1 := by unfold sC; decide +kernel
  refine ⟨fun q hq => (e _ _ (hl q hq)).trans (hF.1 q hq), fun p hp => ?_, fun a ha => ?_, ?_⟩
  · rw [e 137 p (by unfold sC; omega), e 159 p (by unfold sC; omega)]; exact hF.2.1 p hp
  · rw [e 119 a (by unfold sC; omega)]; exact hF.2.2.1 a ha
  · rw [e 100 8 (by unfold sC; omega), e 100 9 (by unfold sC; omega)]; exact hF.2.2.2
def qB (n : Nat) (M : zM) (T : zTS) (K : Nat) : Prop := zst n M ∧ zLx M T K ∧ ∀ i, (T i).1 = 2 → (T i).2.2 ≤ 999
theorem lx_fr {mem M : zM} {T : zTS} {K : Nat} (h : zfr sC mem M) (hL : zLx mem T K) : zLx M T K := by
  obtain ⟨a, b, c, d, e⟩ := hL
  refine ⟨(h.1 104 5 (by unfold sC; omega)).trans a, b, c, d, fun i hi => ?_⟩
  obtain ⟨p, q, r, s⟩ := e i hi
  exact ⟨p, (h.2.2 105 i (by unfold sC; omega)).trans q, (h.1 106 i (by unfold sC; omega)).trans r, fun z => (h.1 107 i (by unfold sC; omega)).trans (s z)⟩
theorem qB_fr {n : Nat} {mem M : zM} {T : zTS} {K : Nat} (h : zfr sC mem M) (hB : qB n mem T K) : qB n M T K := ⟨⟨hB.1.1, zFx_C h hB.1.2⟩, lx_fr h hB.2.1, hB.2.2⟩
def qA (M : zM) (T : zTS) (K k : Nat) : Prop := k ≤ K ∧ M.1 103 2 = nI k ∧ M.2.2 103 3 = (T k).1 + 2 ∧ ((T k).1 = 2 → M.1 103 4 = nI (T k).2.2)
theorem at_lt {n : Nat} {M : zM} {T : zTS} {K k : Nat} (hB : qB n M T K) (hk : k ≤ K) : (T k).1 < 14 := (hB.2.1.2.2.2.2 k hk).1
theorem at_s {n : Nat} {M : zM} {T : zTS} {K k : Nat} (hB : qB n M T K) (hk : k ≤ K) (h : 2 ≤ (T k).1) : k + 1 ≤ K := by
  rcases Nat.lt_or_ge k K with z | z
  · exact z
  · have : k = K := by omega
    subst this
    have := hB.2.1.2.2.2.1; omega
def cRes {α : Type} (S : Nat → Nat → Prop) (n : Nat) (mem : zM) (Q : zPo) (o : zOut α) (good : α → zM → Prop) : Prop := match o with
  | .inl e => ∀ M, zfr S mem M → M.1 103 5 = nI e.1 → M.1 103 6 = nI e.2 → Q (some (.int 0)) n M
  | .inr a => ∀ M, zfr S mem M → M.1 103 5 = mem.1 103 5 → good a M → Q (some (.int 1)) n M
theorem cr_f {α : Type} {S : Nat → Nat → Prop} {n : Nat} {mem : zM} {Q : zPo} {o : zOut α} {good : α → zM → Prop} {e : Nat × Nat} (h : cRes S n mem Q o good) (ho : o = .inl e) : ∀ M, zfr S mem M → M.1 103 5 = nI e.1 → M.1 103 6 = nI e.2 → Q (some (.int 0)) n M := by subst ho; exact h
theorem cr_t {α : Type} {S : Nat → Nat → Prop} {n : Nat} {mem : zM} {Q : zPo} {o : zOut α} {good : α → zM → Prop} {a : α} (h : cRes S n mem Q o good) (ho : o = .inr a) : ∀ M, zfr S mem M → M.1 103 5 = mem.1 103 5 → good a M → Q (some (.int 1)) n M := by subst ho; exact h
theorem cr_i {α : Type} {S : Nat → Nat → Prop} {n : Nat} {mem : zM} {Q : zPo} {o : zOut α} {good : α → zM → Prop} (hf : ∀ e, o = .inl e → ∀ M, zfr S mem M → M.1 103 5 = nI e.1 → M.1 103 6 = nI e.2 → Q (some (.int 0)) n M) (ht : ∀ a, o = .inr a → ∀ M, zfr S mem M → M.1 103 5 = mem.1 103 5 → good a M → Q (some (.int 1)) n M) : cRes S n mem Q o good := by
  cases o with
  | inl e => exact hf e rfl
  | inr a => exact ht a rfl
def k_X7_refuse : zCt := fun as n mem Q => ∃ (w k s : Nat), as = [.ref 103, .int (nI w)] ∧ zst n mem ∧ mem.1 103 2 = nI k ∧ k ≤ 800 ∧ mem.1 106 k = nI s ∧ Q (some (.int 0)) n (zI (zI mem 103 5 (nI w)) 103 6 (nI s))
theorem ok_X7_refuse {l : Launch} {G : zG} : zOK l G yX7_refuse cX7_refuse 2 (some .boolean) 0 0 0 k_X7_refuse := by
  intro as n mem Q hK
  obtain ⟨w, k, s, rfl, ⟨hn, hF⟩, hk, hk8, hs, hQ⟩ := hK
  refine mtX7_refuse (List.forall_mem_cons.mpr ⟨rfl, List.forall_mem_cons.mpr ⟨rfl, fun _ h => absurd h List.not_mem_nil⟩⟩) (by simp) rfl (fun P hP => ?_)
  show P 0 [.ref 103, .int (nI w)] [] n mem
  rw [← hs] at hQ
  refine hP _ _ _ _ _ ?_
  refine hP _ _ _ _ _ ?_
  refine hP _ _ _ _ _ ⟨(zi hn rfl rfl rfl), ?_⟩
  refine hP _ _ _ _ _ ?_
  refine hP _ _ _ _ _ ?_
  refine hP _ _ _ _ _ ⟨(zi hn rfl rfl rfl), _, fx_TextReader_lexer hF, (by decide), ?_⟩
  refine hP _ _ _ _ _ ⟨(zi hn rfl rfl rfl), _, fx_Lexer_starts hF, (by decide), ?_⟩
  refine hP _ _ _ _ _ ?_
  refine hP _ _ _ _ _ ⟨(zi hn rfl rfl rfl), ?_⟩
  refine hP _ _ _ _ _ ⟨_, k, (zi hn rfl rfl rfl), hk, by omega, ?_⟩
  refine hP _ _ _ _ _ ⟨(zi hn rfl rfl rfl), ?_⟩
  refine hP _ _ _ _ _ ?_
  refine hP _ _ _ _ _ ?_
  exact ⟨by decide, rfl, hQ⟩
theorem use_rf {n w : Nat} {mem : zM} {T : zTS} {K k : Nat} {Q : zPo} (hB : qB n mem T K) (hA : qA mem T K k) (hQ : ∀ M, zfr S3 mem M → M.1 103 5 = nI w → M.1 103 6 = nI (T k).2.1 → Q (some (.int 0)) n M) : k_X7_refuse [.ref 103, .int (nI w)] n mem Q :=
  ⟨w, k, (T k).2.1, rfl, hB.1, hA.2.1, by have := hA.1; have := hB.2.1.2.1; omega, (hB.2.1.2.2.2.2 k hA.1).2.2.1, hQ _ ((zfr.rf.I ⟨rfl, by omega⟩).I ⟨rfl, by omega⟩) (by rw [zI_o (by omega), zI_s]) zI_s⟩
def k_X7_goTo : zCt := fun as n mem Q => ∃ (j K : Nat) (T : zTS), as = [.ref 103, .int (nI j)] ∧ qB n mem T K ∧ j ≤ K ∧ (∀ M, zfr S3 mem M → M.1 103 5 = mem.1 103 5 → qA M T K j → Q none n M)
theorem ok_X7_goTo {l : Launch} {G : zG} : zOK l G yX7_goTo cX7_goTo 2 none 1 0 0 k_X7_goTo := by
  intro as n mem Q hK
  obtain ⟨j, K, T, rfl, hB, hj, hQ⟩ := hK
  refine mtX7_goTo (by decide) (List.forall_mem_cons.mpr ⟨rfl, List.forall_mem_cons.mpr ⟨rfl, fun _ h => absurd h List.not_mem_nil⟩⟩) (by simp) rfl (fun P hP => ?_)
  show P 0 [.ref 103, .int (nI j)] [] n mem
  obtain ⟨⟨hn, hF⟩, ⟨l5, l8, -, -, lr⟩, -⟩ := hB
  have emin : (if mem.1 104 5 < nI j then mem.1 104 5 else nI j) = nI j := by rw [l5, mn_nI (by omega) (by omega), Nat.min_eq_left hj]
  obtain ⟨-, r1, -, r3⟩ := lr j hj
  refine hP _ _ _ _ _ ?_
  refine hP _ _ _ _ _ ?_
  refine hP _ _ _ _ _ ?_
  refine hP _ _ _ _ _ ⟨(zi hn rfl rfl rfl), _, fx_TextReader_lexer hF, (by decide), ?_⟩
  refine hP _ _ _ _ _ ⟨(zi hn rfl rfl rfl), ?_⟩
  refine hP _ _ _ _ _ ⟨Nat.le_of_ble_eq_true rfl, ?_⟩
  show P 12 [.ref 103, .int (nI j)] [.int (if mem.1 104 5 < nI j then mem.1 104 5 else nI j), .ref 103] n mem
  rw [emin]
  refine hP _ _ _ _ _ ⟨(zi hn rfl rfl rfl), ?_⟩
  refine hP _ _ _ _ _ ?_
  refine hP _ _ _ _ _ ?_
  refine hP _ _ _ _ _ ⟨(zi hn rfl rfl rfl), _, fx_TextReader_lexer hF, (by decide), ?_⟩
  refine hP _ _ _ _ _ ⟨(zi hn rfl rfl rfl), _, fx_Lexer_tokens hF, (by decide), ?_⟩
  refine hP _ _ _ _ _ ?_
  refine hP _ _ _ _ _ ⟨(zi hn rfl rfl rfl), ?_⟩
  refine hP _ _ _ _ _ ⟨_, j, (zi hn rfl rfl rfl), zI_s, by omega, _, r1, (by omega), ?_⟩
  refine hP _ _ _ _ _ ⟨(zi hn rfl rfl rfl), ?_⟩
  have hF : zFx (zR (zI mem 103 2 (nI j)) 103 3 ((T j).1 + 2)) := zFx_C ((zfr.rf.I (by unfold sC; omega)).R (by unfold sC; omega)) hF
  refine hP _ _ _ _ _ ?_
  refine hP _ _ _ _ _ ?_
  refine hP _ _ _ _ _ ⟨(zi hn rfl rfl rfl), _, fx_TextReader_lexer hF, (by decide), ?_⟩
  refine hP _ _ _ _ _ ⟨(zi hn rfl rfl rfl), _, fx_Lexer_numbers hF, (by decide), ?_⟩
  refine hP _ _ _ _ _ ?_
  refine hP _ _ _ _ _ ⟨(zi hn rfl rfl rfl), ?_⟩
  refine hP _ _ _ _ _ ⟨_, j, (zi hn rfl rfl rfl), by rw [zR_1, zI_s], by omega, ?_⟩
  refine hP _ _ _ _ _ ⟨(zi hn rfl rfl rfl), ?_⟩
  refine hP _ _ _ _ _ ?_
  refine ⟨rfl, hQ _ (((zfr.rf.I ⟨rfl, by omega⟩).R ⟨rfl, by omega⟩).I ⟨rfl, by omega⟩) rfl ⟨hj, ?_, ?_, fun z => ?_⟩⟩
  · rw [zI_o (by omega), zR_1, zI_s]
  · show (zR (zI mem 103 2 (nI j)) 103 3 ((T j).1 + 2)).2.2 103 3 = _
    exact zR_s
  · rw [zI_s, zR_1, zI_ne (by omega)]; exact r3 z
def k_X7_take : zCt := fun as n mem Q => ∃ (due k K : Nat) (T : zTS), as = [.ref 103, .ref (due + 2)] ∧ 2 ≤ due ∧ due < 14 ∧ qB n mem T K ∧ qA mem T K k ∧ cRes S3 n mem Q (tkT T due k) (fun k' M => qA M T K k')
theorem ok_X7_take {l : Launch} {G : zG} : zOK l G yX7_take cX7_take 2 (some .boolean) 2 0 0 k_X7_take := by
  intro as n mem Q hK
  obtain ⟨due, k, K, T, rfl, hd2, hd14, hB, hA, hQ⟩ := hK
  refine mtX7_take ok_X7_refuse (by decide) ok_X7_goTo (by decide) (List.forall_mem_cons.mpr ⟨rfl, List.forall_mem_cons.mpr ⟨rfl, fun _ h => absurd h List.not_mem_nil⟩⟩) (by simp) rfl (fun P hP => ?_)
  show P 0 [.ref 103, .ref (due + 2)] [] n mem
  obtain ⟨hn, hF⟩ := hB.1
  have ht := at_lt hB hA.1
  refine hP _ _ _ _ _ ?_
  refine hP _ _ _ _ _ ⟨(zi hn rfl rfl rfl), _, hA.2.2.1, (by omega), ?_⟩
  refine hP _ _ _ _ _ ?_
  refine hP _ _ _ _ _ ⟨ztk ht, ztk hd14, fun h5 => ?_, fun h5 => ?_⟩
  ·
    have hd : (T k).1 = due := by have h5 : (T k).1 + 2 = due + 2 := h5; omega
    refine hP _ _ _ _ _ ?_
    refine hP _ _ _ _ _ ?_
    refine hP _ _ _ _ _ ⟨(zi hn rfl rfl rfl), ?_⟩
    refine hP _ _ _ _ _ ?_
    refine hP _ _ _ _ _ ?_
    refine hP _ _ _ _ _ ⟨(zi hn rfl rfl rfl), Nat.le_of_ble_eq_true rfl, Nat.le_of_ble_eq_true rfl, ?_⟩
    refine ⟨k + 1, K, T, by rw [hA.2.1, nI_succ k]; rfl, hB, at_s hB hA.1 (by omega), fun M fM h5' hA' => ?_⟩
    refine hP _ _ _ _ _ ?_
    refine hP _ _ _ _ _ ?_
    exact ⟨by decide, rfl, cr_t hQ (if_pos hd) M fM h5' hA'⟩
  ·
    refine hP _ _ _ _ _ ?_
    refine hP _ _ _ _ _ ?_
    refine hP _ _ _ _ _ ⟨(zi hn rfl rfl rfl), Nat.le_of_ble_eq_true rfl, Nat.le_of_ble_eq_true rfl, ?_⟩
    refine use_rf (w := 1) hB hA fun M fM h5' h6' => ?_
    refine hP _ _ _ _ _ ?_
    exact ⟨by decide, rfl, cr_f hQ (if_neg (fun z => h5 (by rw [z]))) M fM h5' h6'⟩
theorem tk_y {n due : Nat} {mem : zM} {T : zTS} {K k : Nat} {Q : zPo} (h2 : 2 ≤ due) (h14 : due < 14) (hB : qB n mem T K) (hA : qA mem T K k) (hk : (T k).1 = due) (hQ : ∀ M, zfr S3 mem M → M.1 103 5 = mem.1 103 5 → qA M T K (k + 1) → Q (some (.int 1)) n M) : k_X7_take [.ref 103, .ref (due + 2)] n mem Q :=
  ⟨due, k, K, T, rfl, h2, h14, hB, hA, by unfold tkT; rw [if_pos hk]; exact hQ⟩
theorem tk_n {n due : Nat} {mem : zM} {T : zTS} {K k : Nat} {Q : zPo} (h2 : 2 ≤ due) (h14 : due < 14) (hB : qB n mem T K) (hA : qA mem T K k) (hk : ¬ (T k).1 = due) (hQ : ∀ M, zfr S3 mem M → M.1 103 5 = nI 1 → M.1 103 6 = nI (T k).2.1 → Q (some (.int 0)) n M) : k_X7_take [.ref 103, .ref (due + 2)] n mem Q :=
  ⟨due, k, K, T, rfl, h2, h14, hB, hA, by unfold tkT; rw [if_neg hk]; exact hQ⟩
/-- what is told so far -/
def cP (n : Nat) (M : zM) (T : zTS) (K t np pw : Nat) : Prop := qB n M T K ∧ (t = 136 ∨ t = 158) ∧ M.2.2 103 1 = t ∧ M.1 t 1 = nI np ∧ np ≤ 8 ∧ M.1 t 2 = nI pw ∧ pw ≤ 20
theorem cP_fr {n : Nat} {mem M : zM} {T : zTS} {K t np pw p : Nat} {J : Nat → Prop} (hp : p < 20) (h : zfr (cRw (t + 2 + p) J) mem M) (hC : cP n mem T K t np pw) : cP n M T K t np pw := by
  obtain ⟨a, b, c, d, e, f, g⟩ := hC
  have h1 : zfr sC mem M := h.mono fun _ _ => rw_C b hp
  exact ⟨qB_fr h1 a, b, (h.2.2 103 1 (by unfold cRw; omega)).trans c, (h.1 t 1 (by unfold cRw; omega)).trans d, e, (h.1 t 2 (by unfold cRw; omega)).trans f, g⟩
theorem cP_3 {n : Nat} {mem M : zM} {T : zTS} {K t np pw : Nat} (h : zfr S3 mem M) (hC : cP n mem T K t np pw) : cP n M T K t np pw := cP_fr (p := 0) (J := fun _ => False) (by omega) (h.mono fun _ _ => S3_w) hC
theorem at_w {M : zM} {T : zTS} {K k x j : Nat} {v : Int32} (hx : x ≠ 103) (h : qA M T K k) : qA (zI M x j v) T K k := ⟨h.1, by rw [zI_ne (by omega)]; exact h.2.1, h.2.2.1, fun z => by rw [zI_ne (by omega)]; exact h.2.2.2 z⟩
def k_X7_readGiver : zCt := fun as n mem Q => ∃ (k K t np pw : Nat) (T : zTS) (R : Nat → Nat → Int32), as = [.ref 103, .ref (t + 2 + pw)] ∧ pw < 20 ∧ cP n mem T K t np pw ∧ qA mem T K k ∧ (T k).1 = 6 ∧ cRes (cRw (t + 2 + pw) (fun b => b = 0)) n mem Q (gvT T np pw R k) (fun g M => qA M T K g.1 ∧ M.1 (t + 2 + pw) 0 = g.2.1)
theorem ok_X7_readGiver {l : Launch} {G : zG} : zOK l G yX7_readGiver cX7_readGiver 2 (some .boolean) 3 0 0 k_X7_readGiver := by
  intro as n mem Q hK
  obtain ⟨k, K, t, np, pw, T, R, rfl, hpw, hC, hA, hk, hQ⟩ := hK
  refine mtX7_readGiver ok_X7_take (by decide) ok_X7_refuse (by decide) (List.forall_mem_cons.mpr ⟨rfl, List.forall_mem_cons.mpr ⟨rfl, fun _ h => absurd h List.not_mem_nil⟩⟩) (by simp) rfl (fun P hP => ?_)
  show P 0 [.ref 103, .ref (t + 2 + pw)] [] n mem
  have hB := hC.1
  have hnp := hC.2.2.2.2.1
  obtain ⟨hn, hF⟩ := hB.1
  have hT := hC.2.1
  unfold gvT at hQ
  have wr : ∀ {M : zM} {v : Int32}, zfr S3 mem M → zfr (cRw (t + 2 + pw) (fun b => b = 0)) mem (zI M (t + 2 + pw) 0 v) := fun f => (f.mono fun _ _ => S3_w).I (Or.inr ⟨rfl, rfl⟩)
  refine hP _ _ _ _ _ ?_
  refine hP _ _ _ _ _ ?_
  refine hP _ _ _ _ _ ⟨(zi hn rfl rfl rfl), Nat.le_of_ble_eq_true rfl, Nat.le_of_ble_eq_true rfl, ?_⟩
  refine tk_y (due := 6) (by omega) (by omega) hB hA hk fun M f1 q1 hA1 => ?_
  have hC1 := cP_3 f1 hC
  have hB1 := hC1.1
  have hF := hB1.1.2
  have ht := at_lt hB1 hA1.1
  refine hP _ _ _ _ _ ⟨fun hz => absurd hz ( by decide), fun _ => ?_⟩
  refine hP _ _ _ _ _ ?_
  refine hP _ _ _ _ _ ⟨(zi hn rfl rfl rfl), _, hA1.2.2.1, (by omega), ?_⟩
  refine hP _ _ _ _ _ ?_
  refine hP _ _ _ _ _ ⟨ztk ht, ztc rfl rfl, fun h19 => ?_, fun h19 => ?_⟩
  ·
    have h2 : (T (k + 1)).1 = 2 := by have h19 : (T (k + 1)).1 + 2 = 4 := h19; omega
    have hv := hA1.2.2.2 h2
    have hv9 := hB.2.2 _ h2
    rw [if_neg (fun z => z h2), if_neg (show ¬ (T k).1 = 7 by omega)] at hQ
    refine hP _ _ _ _ _ ?_
    refine hP _ _ _ _ _ ⟨(zi hn rfl rfl rfl), ?_⟩
    refine hP _ _ _ _ _ ?_
    refine hP _ _ _ _ _ ⟨(zi hn rfl rfl rfl), _, hC1.2.2.1, (by omega), ?_⟩
    refine hP _ _ _ _ _ ⟨(ztT hn hT), ?_⟩
    refine hP _ _ _ _ _ ⟨fun h33 => ?_, fun h33 => ?_⟩
    ·
      refine hP _ _ _ _ _ ?_
      refine hP _ _ _ _ _ ?_
      refine hP _ _ _ _ _ ⟨(zi hn rfl rfl rfl), ?_⟩
      refine hP _ _ _ _ _ ⟨(ztP hn hT hpw), ?_⟩
      have hA2 : qA (zI M (t + 2 + pw) 0 (M.1 103 4)) T K (k + 1) := at_w (by omega) hA1
      have fw := wr f1 (v := M.1 103 4)
      have hB2 := (cP_fr hpw fw hC).1
      have q2 : (zI M (t + 2 + pw) 0 (M.1 103 4)).1 103 5 = mem.1 103 5 := by rw [zI_ne (by omega)]; exact q1
      by_cases h2 : (T (k + 1)).1 = 2
      · have hv := hA1.2.2.2 h2
        have hv9 := hB.2.2 _ h2
        have hlt : (T (k + 1)).2.2 < np := by
          first | exact (nI_ltI (by omega) (by have := hC.2.2.2.2.1; omega)).mp (by rw [← hv, ← hC1.2.2.2.1]; exact h33) | exact absurd (show (T (k + 1)).1 + 2 = 4 by omega) h19
        have ho : gvT T np pw R k = .inr (k + 2, nI (T (k + 1)).2.2, -1) := by unfold gvT; rw [if_neg (fun z => z h2), if_neg (show ¬ (T k).1 = 7 by omega), if_neg (Nat.not_le.mpr hlt)]
        have hQ1 : cRes (cRw (t + 2 + pw) (fun b => b = 0)) n mem Q (gvT T np pw R k) (fun g M => qA M T K g.1 ∧ M.1 (t + 2 + pw) 0 = g.2.1) := by unfold gvT; first | exact hQ | (rw [if_neg (fun z => z h2), if_neg (show ¬ (T k).1 = 7 by omega)]; exact hQ)
        refine hP _ _ _ _ _ ?_
        refine hP _ _ _ _ _ ?_
        refine hP _ _ _ _ _ ⟨(zi hn rfl rfl rfl), Nat.le_of_ble_eq_true rfl, Nat.le_of_ble_eq_true rfl, ?_⟩
        refine tk_y (due := 2) (by omega) (by omega) hB2 hA2 h2 fun M3 f3 q3 hA3 => ?_
        refine hP _ _ _ _ _ ?_
        exact ⟨by decide, rfl, cr_t hQ1 ho M3 (fw.tr (f3.mono fun _ _ => S3_w)) (q3.trans q2) ⟨hA3, by rw [f3.1 (t + 2 + pw) 0 (by unfold S3; omega), zI_s]; exact hv⟩⟩
      · have ho : gvT T np pw R k = .inl (1, (T (k + 1)).2.1) := by unfold gvT; rw [if_pos h2]
        have hQ1 : cRes (cRw (t + 2 + pw) (fun b => b = 0)) n mem Q (gvT T np pw R k) (fun g M => qA M T K g.1 ∧ M.1 (t + 2 + pw) 0 = g.2.1) := by unfold gvT; first | exact hQ | exact absurd (by have h19 : (T (k + 1)).1 + 2 = 4 := h19; omega) h2
        refine hP _ _ _ _ _ ?_
        refine hP _ _ _ _ _ ?_
        refine hP _ _ _ _ _ ⟨(zi hn rfl rfl rfl), Nat.le_of_ble_eq_true rfl, Nat.le_of_ble_eq_true rfl, ?_⟩
        refine tk_n (due := 2) (by omega) (by omega) hB2 hA2 h2 fun M3 f3 q3 q4 => ?_
        refine hP _ _ _ _ _ ?_
        exact ⟨by decide, rfl, cr_f hQ1 ho M3 (fw.tr (f3.mono fun _ _ => S3_w)) q3 q4⟩
    ·
      refine hP _ _ _ _ _ ?_
      refine hP _ _ _ _ _ ?_
      refine hP _ _ _ _ _ ⟨(zi hn rfl rfl rfl), Nat.le_of_ble_eq_true rfl, Nat.le_of_ble_eq_true rfl, ?_⟩
      refine use_rf (w := 3) hB1 hA1 fun M2 f2 h5' h6' => ?_
      refine hP _ _ _ _ _ ?_
      exact ⟨by decide, rfl, cr_f hQ (if_pos (Nat.not_lt.mp fun z => h33 (by rw [hv, hC1.2.2.2.1]; exact nI_lt z (by omega)))) M2 ((f1.tr f2).mono fun _ _ => S3_w) h5' h6'⟩
  ·
    refine hP _ _ _ _ _ ?_
    refine hP _ _ _ _ _ ?_
    refine hP _ _ _ _ _ ⟨(zi hn rfl rfl rfl), ?_⟩
    refine hP _ _ _ _ _ ⟨(ztP hn hT hpw), ?_⟩
    have hA2 : qA (zI M (t + 2 + pw) 0 (M.1 103 4)) T K (k + 1) := at_w (by omega) hA1
    have fw := wr f1 (v := M.1 103 4)
    have hB2 := (cP_fr hpw fw hC).1
    have q2 : (zI M (t + 2 + pw) 0 (M.1 103 4)).1 103 5 = mem.1 103 5 := by rw [zI_ne (by omega)]; exact q1
    by_cases h2 : (T (k + 1)).1 = 2
    · have hv := hA1.2.2.2 h2
      have hv9 := hB.2.2 _ h2
      have hlt : (T (k + 1)).2.2 < np := by
        first | exact (nI_ltI (by omega) (by have := hC.2.2.2.2.1; omega)).mp (by rw [← hv, ← hC1.2.2.2.1]; exact h33) | exact absurd (show (T (k + 1)).1 + 2 = 4 by omega) h19
      have ho : gvT T np pw R k = .inr (k + 2, nI (T (k + 1)).2.2, -1) := by unfold gvT; rw [if_neg (fun z => z h2), if_neg (show ¬ (T k).1 = 7 by omega), if_neg (Nat.not_le.mpr hlt)]
      have hQ1 : cRes (cRw (t + 2 + pw) (fun b => b = 0)) n mem Q (gvT T np pw R k) (fun g M => qA M T K g.1 ∧ M.1 (t + 2 + pw) 0 = g.2.1) := by unfold gvT; first | exact hQ | (rw [if_neg (fun z => z h2), if_neg (show ¬ (T k).1 = 7 by omega)]; exact hQ)
      refine hP _ _ _ _ _ ?_
      refine hP _ _ _ _ _ ?_
      refine hP _ _ _ _ _ ⟨(zi hn rfl rfl rfl), Nat.le_of_ble_eq_true rfl, Nat.le_of_ble_eq_true rfl, ?_⟩
      refine tk_y (due := 2) (by omega) (by omega) hB2 hA2 h2 fun M3 f3 q3 hA3 => ?_
      refine hP _ _ _ _ _ ?_
      exact ⟨by decide, rfl, cr_t hQ1 ho M3 (fw.tr (f3.mono fun _ _ => S3_w)) (q3.trans q2) ⟨hA3, by rw [f3.1 (t + 2 + pw) 0 (by unfold S3; omega), zI_s]; exact hv⟩⟩
    · have ho : gvT T np pw R k = .inl (1, (T (k + 1)).2.1) := by unfold gvT; rw [if_pos h2]
      have hQ1 : cRes (cRw (t + 2 + pw) (fun b => b = 0)) n mem Q (gvT T np pw R k) (fun g M => qA M T K g.1 ∧ M.1 (t + 2 + pw) 0 = g.2.1) := by unfold gvT; first | exact hQ | exact absurd (by have h19 : (T (k + 1)).1 + 2 = 4 := h19; omega) h2
      refine hP _ _ _ _ _ ?_
      refine hP _ _ _ _ _ ?_
      refine hP _ _ _ _ _ ⟨(zi hn rfl rfl rfl), Nat.le_of_ble_eq_true rfl, Nat.le_of_ble_eq_true rfl, ?_⟩
      refine tk_n (due := 2) (by omega) (by omega) hB2 hA2 h2 fun M3 f3 q3 q4 => ?_
      refine hP _ _ _ _ _ ?_
      exact ⟨by decide, rfl, cr_f hQ1 ho M3 (fw.tr (f3.mono fun _ _ => S3_w)) q3 q4⟩
def k_X7_readUpper : zCt := fun as n mem Q => ∃ (k K t np pw : Nat) (T : zTS) (R : Nat → Nat → Int32), as = [.ref 103, .ref (t + 2 + pw)] ∧ pw < 20 ∧ cP n mem T K t np pw ∧ qA mem T K k ∧ (T k).1 = 7 ∧ (∀ p, p < pw → mem.1 (t + 2 + p) 0 = R p 0 ∧ mem.1 (t + 2 + p) 6 = R p 6 ∧ mem.1 (t + 2 + p) 8 = R p 8) ∧ cRes (cRw (t + 2 + pw) (fun b => b = 0 ∨ b = 7 ∨ b = 8)) n mem Q (gvT T np pw R k) (fun g M => qA M T K g.1 ∧ M.1 (t + 2 + pw) 0 = g.2.1 ∧ M.1 (t + 2 + pw) 7 = g.2.2 ∧ M.1 (t + 2 + pw) 8 = mem.1 (t + 2 + pw) 8 ||| R (ix g.2.2) 8)
theorem ok_X7_readUpper {l : Launch} {G : zG} : zOK l G yX7_readUpper cX7_readUpper 3 (some .boolean) 3 0 0 k_X7_readUpper := by
  intro as n mem Q hK
  obtain ⟨k, K, t, np, pw, T, R, rfl, hpw, hC, hA, hk, hR, hQ⟩ := hK
  refine mtX7_readUpper ok_X7_take (by decide) ok_X7_refuse (by decide) (List.forall_mem_cons.mpr ⟨rfl, List.forall_mem_cons.mpr ⟨rfl, fun _ h => absurd h List.not_mem_nil⟩⟩) (by simp) rfl (fun P hP => ?_)
  show P 0 [.ref 103, .ref (t + 2 + pw), .null] [] n mem
  have hB := hC.1
  obtain ⟨hn, hF⟩ := hB.1
  have hT := hC.2.1
  unfold gvT at hQ
  refine hP _ _ _ _ _ ?_
  refine hP _ _ _ _ _ ?_
  refine hP _ _ _ _ _ ⟨(zi hn rfl rfl rfl), Nat.le_of_ble_eq_true rfl, Nat.le_of_ble_eq_true rfl, ?_⟩
  refine tk_y (due := 7) (by omega) (by omega) hB hA hk fun M f1 q1 hA1 => ?_
  have hC1 := cP_3 f1 hC
  have hB1 := hC1.1
  have hF := hB1.1.2
  have ht := at_lt hB1 hA1.1
  refine hP _ _ _ _ _ ⟨fun hz => absurd hz ( by decide), fun _ => ?_⟩
  refine hP _ _ _ _ _ ?_
  refine hP _ _ _ _ _ ⟨(zi hn rfl rfl rfl), _, hA1.2.2.1, (by omega), ?_⟩
  refine hP _ _ _ _ _ ?_
  refine hP _ _ _ _ _ ⟨ztk ht, ztc rfl rfl, fun h19 => ?_, fun h19 => ?_⟩
  ·
    have h2 : (T (k + 1)).1 = 2 := by have h19 : (T (k + 1)).1 + 2 = 4 := h19; omega
    have hv := hA1.2.2.2 h2
    have hv9 := hB.2.2 _ h2
    have rM : ∀ p j, M.1 (t + 2 + p) j = mem.1 (t + 2 + p) j := fun p j => f1.1 _ j (by unfold S3; omega)
    rw [if_neg (fun z => z h2), if_pos hk] at hQ
    refine hP _ _ _ _ _ ?_
    refine hP _ _ _ _ _ ⟨(zi hn rfl rfl rfl), ?_⟩
    refine hP _ _ _ _ _ ?_
    refine hP _ _ _ _ _ ⟨(zi hn rfl rfl rfl), _, hC1.2.2.1, (by omega), ?_⟩
    refine hP _ _ _ _ _ ⟨(ztT hn hT), ?_⟩
    refine hP _ _ _ _ _ ⟨fun h39 => ?_, fun h39 => ?_⟩
    ·
      refine hP _ _ _ _ _ ?_
      refine hP _ _ _ _ _ ?_
      refine hP _ _ _ _ _ ⟨(zi hn rfl rfl rfl), Nat.le_of_ble_eq_true rfl, Nat.le_of_ble_eq_true rfl, ?_⟩
      refine use_rf (w := 3) hB1 hA1 fun M2 f2 h5' h6' => ?_
      refine hP _ _ _ _ _ ?_
      first | exact ⟨by decide, rfl, cr_f hQ (if_pos (Or.inr (by rw [← hR1.2.1, ← rM]; exact h57))) M2 ((f1.tr f2).mono fun _ _ => S3_w) h5' h6'⟩ | exact ⟨by decide, rfl, cr_f hQ (if_pos (Or.inl ((nI_leI (by have := hC.2.2.2.2.2.2; omega) (by omega)).mp (by rw [← hv, ← hC1.2.2.2.2.2.1]; exact h39)))) M2 ((f1.tr f2).mono fun _ _ => S3_w) h5' h6'⟩
    ·
      have hlt : (T (k + 1)).2.2 < pw := Nat.not_le.mp fun z => h39 (by rw [hv, hC1.2.2.2.2.2.1]; exact nI_le z (by omega))
      have hR1 := hR _ hlt
      refine hP _ _ _ _ _ ?_
      refine hP _ _ _ _ _ ⟨(zi hn rfl rfl rfl), _, hC1.2.2.1, (by omega), ?_⟩
      refine hP _ _ _ _ _ ⟨(ztT hn hT), _, (fx_tp hF hT), (by omega), ?_⟩
      refine hP _ _ _ _ _ ?_
      refine hP _ _ _ _ _ ⟨(zi hn rfl rfl rfl), ?_⟩
      refine hP _ _ _ _ _ ⟨_, (T (k + 1)).2.2, (ztA hn hT), hv, by omega, _, (fx_pw hF hT (by omega)), (by omega), ?_⟩
      refine hP _ _ _ _ _ ⟨(ztP hn hT (by omega)), ?_⟩
      refine hP _ _ _ _ _ ⟨fun h57 => ?_, fun h57 => ?_⟩
      ·
        refine hP _ _ _ _ _ ?_
        refine hP _ _ _ _ _ ?_
        refine hP _ _ _ _ _ ⟨(zi hn rfl rfl rfl), Nat.le_of_ble_eq_true rfl, Nat.le_of_ble_eq_true rfl, ?_⟩
        refine use_rf (w := 3) hB1 hA1 fun M2 f2 h5' h6' => ?_
        refine hP _ _ _ _ _ ?_
        first | exact ⟨by decide, rfl, cr_f hQ (if_pos (Or.inr (by rw [← hR1.2.1, ← rM]; exact h57))) M2 ((f1.tr f2).mono fun _ _ => S3_w) h5' h6'⟩ | exact ⟨by decide, rfl, cr_f hQ (if_pos (Or.inl ((nI_leI (by have := hC.2.2.2.2.2.2; omega) (by omega)).mp (by rw [← hv, ← hC1.2.2.2.2.2.1]; exact h39)))) M2 ((f1.tr f2).mono fun _ _ => S3_w) h5' h6'⟩
      ·
        have hnor : ¬ (pw ≤ (T (k + 1)).2.2 ∨ R (T (k + 1)).2.2 6 = 0) := fun z => z.elim (fun y => by omega) (fun y => h57 (by rw [← hR1.2.1, ← rM] at y; exact y))
        rw [if_neg hnor] at hQ
        refine hP _ _ _ _ _ ?_
        refine hP _ _ _ _ _ ⟨(zi hn rfl rfl rfl), _, hC1.2.2.1, (by omega), ?_⟩
        refine hP _ _ _ _ _ ⟨(ztT hn hT), _, (fx_tp hF hT), (by omega), ?_⟩
        refine hP _ _ _ _ _ ?_
        refine hP _ _ _ _ _ ⟨(zi hn rfl rfl rfl), ?_⟩
        refine hP _ _ _ _ _ ⟨_, (T (k + 1)).2.2, (ztA hn hT), hv, by omega, _, (fx_pw hF hT (by omega)), (by omega), ?_⟩
        refine hP _ _ _ _ _ ?_
        refine hP _ _ _ _ _ ?_
        refine hP _ _ _ _ _ ?_
        refine hP _ _ _ _ _ ⟨(zi hn rfl rfl rfl), ?_⟩
        refine hP _ _ _ _ _ ⟨(ztP hn hT hpw), ?_⟩
        refine hP _ _ _ _ _ ?_
        refine hP _ _ _ _ _ ?_
        refine hP _ _ _ _ _ ⟨(ztP hn hT (by omega)), ?_⟩
        refine hP _ _ _ _ _ ⟨(ztP hn hT hpw), ?_⟩
        refine hP _ _ _ _ _ ?_
        refine hP _ _ _ _ _ ?_
        refine hP _ _ _ _ _ ⟨(ztP hn hT hpw), ?_⟩
        refine hP _ _ _ _ _ ?_
        refine hP _ _ _ _ _ ⟨(ztP hn hT (by omega)), ?_⟩
        refine hP _ _ _ _ _ ?_
        refine hP _ _ _ _ _ ⟨(ztP hn hT hpw), ?_⟩
        refine hP _ _ _ _ _ ?_
        refine hP _ _ _ _ _ ?_
        refine hP _ _ _ _ _ ⟨(zi hn rfl rfl rfl), Nat.le_of_ble_eq_true rfl, Nat.le_of_ble_eq_true rfl, ?_⟩
        have fw : zfr (cRw (t + 2 + pw) (fun b => b = 0 ∨ b = 7 ∨ b = 8)) mem (zI (zI (zI M (t + 2 + pw) 7 (M.1 103 4)) (t + 2 + pw) 0 ((zI M (t + 2 + pw) 7 (M.1 103 4)).1 (t + 2 + (T (k + 1)).2.2) 0)) (t + 2 + pw) 8 ((zI (zI M (t + 2 + pw) 7 (M.1 103 4)) (t + 2 + pw) 0 ((zI M (t + 2 + pw) 7 (M.1 103 4)).1 (t + 2 + (T (k + 1)).2.2) 0)).1 (t + 2 + pw) 8 ||| (zI (zI M (t + 2 + pw) 7 (M.1 103 4)) (t + 2 + pw) 0 ((zI M (t + 2 + pw) 7 (M.1 103 4)).1 (t + 2 + (T (k + 1)).2.2) 0)).1 (t + 2 + (T (k + 1)).2.2) 8)) := (((f1.mono fun _ _ => S3_w).I (Or.inr ⟨rfl, Or.inr (Or.inl rfl)⟩)).I (Or.inr ⟨rfl, Or.inl rfl⟩)).I (Or.inr ⟨rfl, Or.inr (Or.inr rfl)⟩)
        refine tk_y (due := 2) (by omega) (by omega) (cP_fr hpw fw hC).1 (at_w (by omega) (at_w (by omega) (at_w (by omega) hA1))) h2 fun M3 f3 q3 hA3 => ?_
        refine hP _ _ _ _ _ ?_
        have r3 : ∀ j, M3.1 (t + 2 + pw) j = _ := fun j => f3.1 (t + 2 + pw) j (by unfold S3; omega)
        refine ⟨by decide, rfl, hQ M3 (fw.tr (f3.mono fun _ _ => S3_w)) (q3.trans (by rw [zI_ne (by omega), zI_ne (by omega), zI_ne (by omega)]; exact q1)) ⟨hA3, ?_, ?_, ?_⟩⟩
        · rw [r3, zI_o (by omega), zI_s, zI_ne (by omega), rM]; exact hR1.1
        · rw [r3, zI_o (by omega), zI_o (by omega), zI_s]; exact hv
        · rw [r3, zI_s, zI_o (by omega), zI_o (by omega), zI_ne (by omega), zI_ne (by omega), rM, rM, hR1.2.2]
          show _ = _ ||| R (ix (nI (T (k + 1)).2.2)) 8
          rw [ix_nI (by omega)]
  ·
    refine hP _ _ _ _ _ ?_
    refine hP _ _ _ _ _ ?_
    refine hP _ _ _ _ _ ⟨(zi hn rfl rfl rfl), Nat.le_of_ble_eq_true rfl, Nat.le_of_ble_eq_true rfl, ?_⟩
    refine use_rf (w := 1) hB1 hA1 fun M2 f2 h5' h6' => ?_
    refine hP _ _ _ _ _ ?_
    exact ⟨by decide, rfl, cr_f hQ (if_pos (fun z => h19 (by show (T (k + 1)).1 + 2 = 4; omega))) M2 ((f1.tr f2).mono fun _ _ => S3_w) h5' h6'⟩
