/-! ===== the class's lexer: a token, all tokens ===== -/
theorem ztc {i : Nat} (h1 : Nat.ble 2 i = true) (h2 : Nat.ble i 15 = true) : ztok i := ⟨Nat.le_of_ble_eq_true h1, Nat.lt_succ_of_le (Nat.le_of_ble_eq_true h2)⟩
theorem so_tkC {C : Nat → Int32} {sz s : Nat} (h : ¬ C s = 59) : soT C s (en C sz s - s) = tkC C sz s := by
  have := en_ge (B := C) (sz := sz) s
  unfold soT tkC
  rw [if_neg h]
  by_cases z : en C sz s = s
  · rw [if_pos (by omega), if_pos z]
  · rw [if_neg (by omega), if_neg z]
theorem mn_nI {a b : Nat} (ha : a < 2 ^ 31) (hb : b < 2 ^ 31) : (if nI b < nI a then nI b else nI a) = nI (min a b) := by
  by_cases h : b < a
  · rw [if_pos (nI_lt h ha), Nat.min_eq_right (by omega)]
  · rw [if_neg (nI_nlt (by omega) hb), Nat.min_eq_left (by omega)]
def sF (k a b : Nat) : Prop := (a = 104 ∧ b = 1) ∨ ((a = 105 ∨ a = 106 ∨ a = 107) ∧ b = k)
/-- what the lexer writes -/
def sL (a b : Nat) : Prop := (a = 104 ∧ (b = 1 ∨ b = 5)) ∨ a = 105 ∨ a = 106 ∨ a = 107
theorem sF_L {k a b : Nat} (h : sF k a b) : sL a b := by unfold sF at h; unfold sL; omega
theorem zFx_L {M m : zM} (h : zfr sL M m) (hF : zFx M) : zFx m := by
  have e : ∀ a b, ¬ sL a b → m.2.2 a b = M.2.2 a b := h.2.2
  have hl : ∀ q ∈ zfxl, ¬ sL q.1 q.2.1 := by unfold sL; decide +kernel
  refine ⟨fun q hq => (e _ _ (hl q hq)).trans (hF.1 q hq), fun p hp => ?_, fun a ha => ?_, ?_⟩
  · rw [e 137 p (by unfold sL; omega), e 159 p (by unfold sL; omega)]; exact hF.2.1 p hp
  · rw [e 119 a (by unfold sL; omega)]; exact hF.2.2.1 a ha
  · rw [e 100 8 (by unfold sL; omega), e 100 9 (by unfold sL; omega)]; exact hF.2.2.2
theorem zR_1 {m : zM} {i j v : Nat} : (zR m i j v).1 = m.1 := rfl
theorem zR_s {m : zM} {i j v : Nat} : (zR m i j v).2.2 i j = v := by simp [zR, zup]
theorem zR_o {m : zM} {i j v a b : Nat} (h : ¬ (a = i ∧ b = j)) : (zR m i j v).2.2 a b = m.2.2 a b := by
  show zup m.2.2 i j v a b = _
  unfold zup
  by_cases ha : a = i
  · by_cases hb : b = j
    · exact absurd ⟨ha, hb⟩ h
    · rw [if_pos ha, if_neg hb]
  · rw [if_neg ha]
def k_X2_findToken : zCt := fun as n mem Q => ∃ (sz p k : Nat), as = [.ref 104] ∧ zst n mem ∧ mem.1 101 1 = nI sz ∧ sz ≤ 840 ∧ mem.1 104 1 = nI p ∧ p ≤ sz ∧ mem.1 104 5 = nI k ∧ k ≤ 800 ∧
    (∀ M, zfr (sF k) mem M → M.2.2 105 k = tkP (mem.1 102) sz p + 2 → M.1 106 k = nI (stP (mem.1 102) sz p) → (tkP (mem.1 102) sz p = 2 → M.1 107 k = nmP (mem.1 102) sz p) → (2 ≤ tkP (mem.1 102) sz p → M.1 104 1 = nI (nxP (mem.1 102) sz p)) → Q none n M)
theorem ok_X2_findToken {l : Launch} {G : zG} : zOK l G yX2_findToken cX2_findToken 3 none 7 0 0 k_X2_findToken := by
  intro as n mem Q hK
  obtain ⟨sz, p, k, rfl, ⟨hn, hF0⟩, hsz, hsz8, hp, hpsz, hk, hk8, hQ⟩ := hK
  refine mtX2_findToken ok_X2_isBlank (by decide) ok_X2_isLetter (by decide) ok_X2_isDigit (by decide) ok_X2_sortOut (by decide) (by decide) (List.forall_mem_cons.mpr ⟨rfl, fun _ h => absurd h List.not_mem_nil⟩) (by simp) rfl (fun P hP => ?_)
  show P 0 [.ref 104, .null, .null] [] n mem
  generalize hC : mem.1 102 = C at hQ
  generalize hlim : min sz 800 = lim
  have hl1 : lim ≤ sz := by omega
  have hl2 : lim ≤ 800 := by omega
  generalize hs' : sk C lim p = s'
  have hs1 : p ≤ s' := by rw [← hs']; exact sk_ge p
  have hs2 : s' ≤ sz := by
    rw [← hs']
    by_cases z : p ≤ lim
    · have := sk_le (B := C) (lim := lim) p z; omega
    · rw [sk_n (by omega)]; exact hpsz
  generalize hst : min s' lim = st
  have e_st : stP C sz p = st := by unfold stP; rw [hlim, hs', hst]
  have e_tk : tkP C sz p = if lim ≤ s' then (if lim < sz then 1 else 0) else tkC C sz s' := by unfold tkP; rw [hlim, hs']
  rw [e_st, e_tk] at hQ
  have row : ∀ {M : zM}, zfr (sF k) mem M → ∀ j, M.1 102 j = C j := fun fM j => by rw [← hC]; exact fM.1 102 j (by unfold sF; omega)
  have rsz : ∀ {M : zM}, zfr (sF k) mem M → M.1 101 1 = nI sz := fun fM => (fM.1 101 1 (by unfold sF; omega)).trans hsz
  have rk : ∀ {M : zM}, zfr (sF k) mem M → M.1 104 5 = nI k := fun fM => (fM.1 104 5 (by unfold sF; omega)).trans hk
  have rF : ∀ {M : zM}, zfr (sF k) mem M → zFx M := fun fM => zFx_L (fM.mono fun _ _ => sF_L) hF0
  -- a word or a number
  have tail : ∀ M, zfr (sF k) mem M → M.1 104 1 = nI (en C sz st) → M.1 106 k = nI st → st < lim → ¬ C st = 59 → ∀ v1, P 211 [.ref 104, v1, .int (nI st)] [] n M := by
    intro M fM m1 m6 hlt h59 v1
    have es : s' = st := by omega
    rw [if_neg (show ¬ lim ≤ s' by omega), es, ← so_tkC h59] at hQ
    have hF := rF fM
    have g1 := en_ge (B := C) (sz := sz) st
    have g2 := en_le (B := C) (sz := sz) st (by omega)
    have r102 : M.1 102 = C := by funext j; exact row fM j
    refine hP _ _ _ _ _ ?_
    refine hP _ _ _ _ _ ⟨(zi hn rfl rfl rfl), _, fx_Lexer_tokens hF, (by decide), ?_⟩
    refine hP _ _ _ _ _ ?_
    refine hP _ _ _ _ _ ⟨(zi hn rfl rfl rfl), ?_⟩
    refine hP _ _ _ _ _ ?_
    refine hP _ _ _ _ _ ?_
    refine hP _ _ _ _ _ ⟨(zi hn rfl rfl rfl), Nat.le_of_ble_eq_true rfl, Nat.le_of_ble_eq_true rfl, ?_⟩
    refine ⟨st, en C sz st, k, rfl, ⟨hn, hF⟩, m1, g1, by omega, rk fM, hk8, fun j h1 h2 => by rw [r102]; exact (en_all (B := C) (sz := sz) st j h1 h2).2, fun M' fM' hnum => ?_⟩
    rw [r102] at hnum ⊢
    have fM1 : zfr (sF k) mem M' := fM.tr (fM'.mono fun a b z => Or.inr ⟨Or.inr (Or.inr z.1), z.2⟩)
    have ht := tk_lt C sz p
    rw [e_tk, if_neg (show ¬ lim ≤ s' by omega), es, ← so_tkC h59] at ht
    refine hP _ _ _ _ _ ⟨_, k, (zi hn rfl rfl rfl), rk fM, by omega, ztk ht, ?_⟩
    refine hP _ _ _ _ _ ?_
    refine ⟨rfl, hQ _ (fM1.R (Or.inr ⟨Or.inl rfl, rfl⟩)) zR_s ((fM'.1 106 k (by omega)).trans m6) (fun z => (hnum z).trans ?_) (fun _ => (fM'.1 104 1 (by omega)).trans (m1.trans ?_))⟩
    · unfold nmP; rw [e_st]
    · unfold nxP; rw [e_st, if_neg h59]
  have loop2 : ∀ d q M, sz - q = d → en C sz q = en C sz st → st ≤ q → q ≤ sz → zfr (sF k) mem M → M.1 104 1 = nI q → M.1 106 k = nI st → st < lim → ¬ C st = 59 → ∀ v1, P 148 [.ref 104, v1, .int (nI st)] [] n M := by
    intro d
    induction d with
    | zero =>
      intro q M hd he h1 h2 fM m1 m6 hlt h59 v1
      have hF := rF fM
      have eq : q = en C sz st := by rw [← he, en_n (by omega)]
      refine hP _ _ _ _ _ ?_
      refine hP _ _ _ _ _ ⟨(zi hn rfl rfl rfl), ?_⟩
      refine hP _ _ _ _ _ ?_
      refine hP _ _ _ _ _ ⟨(zi hn rfl rfl rfl), _, fx_Lexer_tape hF, (by decide), ?_⟩
      refine hP _ _ _ _ _ ⟨(zi hn rfl rfl rfl), ?_⟩
      refine hP _ _ _ _ _ ⟨fun _ => ?_, fun hz => absurd ( by rw [m1, rsz fM]; exact nI_le (by omega) (by omega)) hz⟩
      exact tail M fM (by rw [m1, eq]) m6 hlt h59 v1
    | succ d ih =>
      intro q M hd he h1 h2 fM m1 m6 hlt h59 v1
      have hF := rF fM
      have r := row fM q
      have stop : alnum (C q) = false → P 211 [.ref 104, v1, .int (nI st)] [] n M := fun ha => tail M fM (by rw [m1, ← he, en_n (fun z => by rw [ha] at z; cases z.2)]) m6 hlt h59 v1
      have go : alnum (C q) = true → P 148 [.ref 104, v1, .int (nI st)] [] n (zI M 104 1 (M.1 104 1 + 1)) := fun ha => ih (q + 1) _ (by omega) (by rw [← he, en_y (by omega) ha]) (by omega) (by omega) (fM.I (Or.inl ⟨rfl, rfl⟩)) (by rw [zI_s, m1]; exact nI_1 q) (by rw [zI_ne (by omega)]; exact m6) hlt h59 v1
      refine hP _ _ _ _ _ ?_
      refine hP _ _ _ _ _ ⟨(zi hn rfl rfl rfl), ?_⟩
      refine hP _ _ _ _ _ ?_
      refine hP _ _ _ _ _ ⟨(zi hn rfl rfl rfl), _, fx_Lexer_tape hF, (by decide), ?_⟩
      refine hP _ _ _ _ _ ⟨(zi hn rfl rfl rfl), ?_⟩
      refine hP _ _ _ _ _ ⟨fun hz => absurd hz ( by rw [m1, rsz fM]; exact nI_ge (by omega) (by omega)), fun _ => ?_⟩
      refine hP _ _ _ _ _ ?_
      refine hP _ _ _ _ _ ⟨(zi hn rfl rfl rfl), _, fx_Lexer_tape hF, (by decide), ?_⟩
      refine hP _ _ _ _ _ ⟨(zi hn rfl rfl rfl), _, fx_Tape_bytes hF, (by decide), ?_⟩
      refine hP _ _ _ _ _ ?_
      refine hP _ _ _ _ _ ⟨(zi hn rfl rfl rfl), ?_⟩
      refine hP _ _ _ _ _ ⟨_, q, (zi hn rfl rfl rfl), m1, by omega, ?_⟩
      refine hP _ _ _ _ _ ⟨Nat.le_of_ble_eq_true rfl, Nat.le_of_ble_eq_true rfl, ?_⟩
      refine ⟨_, rfl, ?_⟩
      rw [r]
      refine hP _ _ _ _ _ ⟨fun h177 => ?_, fun h177 => ?_⟩
      ·
        have h177 := zb_0.mp h177
        refine hP _ _ _ _ _ ?_
        refine hP _ _ _ _ _ ⟨(zi hn rfl rfl rfl), _, fx_Lexer_tape hF, (by decide), ?_⟩
        refine hP _ _ _ _ _ ⟨(zi hn rfl rfl rfl), _, fx_Tape_bytes hF, (by decide), ?_⟩
        refine hP _ _ _ _ _ ?_
        refine hP _ _ _ _ _ ⟨(zi hn rfl rfl rfl), ?_⟩
        refine hP _ _ _ _ _ ⟨_, q, (zi hn rfl rfl rfl), m1, by omega, ?_⟩
        refine hP _ _ _ _ _ ⟨Nat.le_of_ble_eq_true rfl, Nat.le_of_ble_eq_true rfl, ?_⟩
        refine ⟨_, rfl, ?_⟩
        rw [r]
        refine hP _ _ _ _ _ ⟨fun h195 => ?_, fun h195 => ?_⟩
        ·
          have h195 := zb_0.mp h195
          exact stop (by unfold alnum; rw [h177, h195]; rfl)
        ·
          have h195 := zb_n.mp h195
          refine hP _ _ _ _ _ ?_
          refine hP _ _ _ _ _ ?_
          refine hP _ _ _ _ _ ⟨(zi hn rfl rfl rfl), ?_⟩
          refine hP _ _ _ _ _ ?_
          refine hP _ _ _ _ _ ?_
          refine hP _ _ _ _ _ ⟨(zi hn rfl rfl rfl), ?_⟩
          refine hP _ _ _ _ _ ?_
          first | exact go (by unfold alnum; rw [h177]; rfl) | exact go (by unfold alnum; rw [h195]; exact Bool.or_true _)
      ·
        have h177 := zb_n.mp h177
        refine hP _ _ _ _ _ ?_
        refine hP _ _ _ _ _ ?_
        refine hP _ _ _ _ _ ⟨(zi hn rfl rfl rfl), ?_⟩
        refine hP _ _ _ _ _ ?_
        refine hP _ _ _ _ _ ?_
        refine hP _ _ _ _ _ ⟨(zi hn rfl rfl rfl), ?_⟩
        refine hP _ _ _ _ _ ?_
        first | exact go (by unfold alnum; rw [h177]; rfl) | exact go (by unfold alnum; rw [h195]; exact Bool.or_true _)
  have body : ∀ M, zfr (fun a b => a = 104 ∧ b = 1) mem M → M.1 104 1 = nI s' → P 53 [.ref 104, .int (nI lim), .null] [] n M := by
    intro M fM0 m1
    have fM : zfr (sF k) mem M := fM0.mono fun a b z => Or.inl z
    have hF := rF fM
    have emin : (if nI lim < M.1 104 1 then nI lim else M.1 104 1) = nI st := by rw [m1, mn_nI (by omega) (by omega), hst]
    have fN : zfr (sF k) mem (zI M 106 k (nI st)) := fM.I (Or.inr ⟨Or.inr (Or.inl rfl), rfl⟩)
    by_cases hlt : st = lim
    · have hle : lim ≤ s' := by omega
      rw [if_pos hle] at hQ
      refine hP _ _ _ _ _ ?_
      refine hP _ _ _ _ _ ⟨(zi hn rfl rfl rfl), ?_⟩
      refine hP _ _ _ _ _ ?_
      refine hP _ _ _ _ _ ⟨Nat.le_of_ble_eq_true rfl, ?_⟩
      refine hP _ _ _ _ _ ?_
      show P 62 [.ref 104, .int (nI lim), .int (if nI lim < M.1 104 1 then nI lim else M.1 104 1)] [] n M
      rw [emin]
      refine hP _ _ _ _ _ ?_
      refine hP _ _ _ _ _ ⟨(zi hn rfl rfl rfl), _, fx_Lexer_starts hF, (by decide), ?_⟩
      refine hP _ _ _ _ _ ?_
      refine hP _ _ _ _ _ ⟨(zi hn rfl rfl rfl), ?_⟩
      refine hP _ _ _ _ _ ?_
      refine hP _ _ _ _ _ ⟨_, k, (zi hn rfl rfl rfl), rk fM, by omega, ?_⟩
      refine hP _ _ _ _ _ ?_
      refine hP _ _ _ _ _ ?_
      refine hP _ _ _ _ _ ⟨fun _ => ?_, fun hz => absurd ( by show nI st = nI lim; rw [hlt]) hz⟩
      refine hP _ _ _ _ _ ?_
      refine hP _ _ _ _ _ ⟨(zi hn rfl rfl rfl), _, fx_Lexer_tokens hF, (by decide), ?_⟩
      refine hP _ _ _ _ _ ?_
      refine hP _ _ _ _ _ ⟨(zi hn rfl rfl rfl), ?_⟩
      refine hP _ _ _ _ _ ?_
      refine hP _ _ _ _ _ ⟨(zi hn rfl rfl rfl), _, fx_Lexer_tape hF, (by decide), ?_⟩
      refine hP _ _ _ _ _ ⟨(zi hn rfl rfl rfl), ?_⟩
      refine hP _ _ _ _ _ ?_
      refine hP _ _ _ _ _ ⟨fun h93 => ?_, fun h93 => ?_⟩
      ·
        refine hP _ _ _ _ _ ?_
        refine hP _ _ _ _ _ ⟨_, k, (zi hn rfl rfl rfl), (show M.1 104 5 = nI k from rk fM), by omega, ztc rfl rfl, ?_⟩
        refine hP _ _ _ _ _ ?_
        refine hP _ _ _ _ _ ?_
        first | exact ⟨rfl, hQ _ (fN.R (Or.inr ⟨Or.inl rfl, rfl⟩)) (by rw [zR_s, if_neg (Nat.not_lt.mpr ((nI_leI (by omega) (by omega)).mp (by have h93 : M.1 101 1 ≤ nI lim := h93; rw [rsz fM] at h93; exact h93)))]) (by rw [zR_1, zI_s]) (fun z => absurd z (by split <;> omega)) (fun z => absurd z (by split <;> omega))⟩ | exact ⟨rfl, hQ _ (fN.R (Or.inr ⟨Or.inl rfl, rfl⟩)) (by rw [zR_s, if_pos (Nat.not_le.mp fun z => (show ¬ M.1 101 1 ≤ nI lim from h93) (by rw [rsz fM]; exact nI_le z (by omega)))]) (by rw [zR_1, zI_s]) (fun z => absurd z (by split <;> omega)) (fun z => absurd z (by split <;> omega))⟩
      ·
        refine hP _ _ _ _ _ ?_
        refine hP _ _ _ _ _ ?_
        refine hP _ _ _ _ _ ⟨_, k, (zi hn rfl rfl rfl), (show M.1 104 5 = nI k from rk fM), by omega, ztc rfl rfl, ?_⟩
        refine hP _ _ _ _ _ ?_
        refine hP _ _ _ _ _ ?_
        first | exact ⟨rfl, hQ _ (fN.R (Or.inr ⟨Or.inl rfl, rfl⟩)) (by rw [zR_s, if_neg (Nat.not_lt.mpr ((nI_leI (by omega) (by omega)).mp (by have h93 : M.1 101 1 ≤ nI lim := h93; rw [rsz fM] at h93; exact h93)))]) (by rw [zR_1, zI_s]) (fun z => absurd z (by split <;> omega)) (fun z => absurd z (by split <;> omega))⟩ | exact ⟨rfl, hQ _ (fN.R (Or.inr ⟨Or.inl rfl, rfl⟩)) (by rw [zR_s, if_pos (Nat.not_le.mp fun z => (show ¬ M.1 101 1 ≤ nI lim from h93) (by rw [rsz fM]; exact nI_le z (by omega)))]) (by rw [zR_1, zI_s]) (fun z => absurd z (by split <;> omega)) (fun z => absurd z (by split <;> omega))⟩
    · have hlt : st < lim := by omega
      have es : s' = st := by omega
      have r := row fM st
      refine hP _ _ _ _ _ ?_
      refine hP _ _ _ _ _ ⟨(zi hn rfl rfl rfl), ?_⟩
      refine hP _ _ _ _ _ ?_
      refine hP _ _ _ _ _ ⟨Nat.le_of_ble_eq_true rfl, ?_⟩
      refine hP _ _ _ _ _ ?_
      show P 62 [.ref 104, .int (nI lim), .int (if nI lim < M.1 104 1 then nI lim else M.1 104 1)] [] n M
      rw [emin]
      refine hP _ _ _ _ _ ?_
      refine hP _ _ _ _ _ ⟨(zi hn rfl rfl rfl), _, fx_Lexer_starts hF, (by decide), ?_⟩
      refine hP _ _ _ _ _ ?_
      refine hP _ _ _ _ _ ⟨(zi hn rfl rfl rfl), ?_⟩
      refine hP _ _ _ _ _ ?_
      refine hP _ _ _ _ _ ⟨_, k, (zi hn rfl rfl rfl), rk fM, by omega, ?_⟩
      refine hP _ _ _ _ _ ?_
      refine hP _ _ _ _ _ ?_
      refine hP _ _ _ _ _ ⟨fun hz => absurd hz ( by show ¬ nI st = nI lim; exact nI_ne (by omega) (by omega) (by omega)), fun _ => ?_⟩
      refine hP _ _ _ _ _ ?_
      refine hP _ _ _ _ _ ⟨(zi hn rfl rfl rfl), _, fx_Lexer_tape hF, (by decide), ?_⟩
      refine hP _ _ _ _ _ ⟨(zi hn rfl rfl rfl), _, fx_Tape_bytes hF, (by decide), ?_⟩
      refine hP _ _ _ _ _ ?_
      refine hP _ _ _ _ _ ⟨_, st, (zi hn rfl rfl rfl), rfl, by omega, ?_⟩
      refine hP _ _ _ _ _ ?_
      refine hP _ _ _ _ _ ⟨fun h120 => ?_, fun h120 => ?_⟩
      ·
        have h120 : C st = 59 := r.symm.trans h120
        refine hP _ _ _ _ _ ?_
        refine hP _ _ _ _ _ ?_
        refine hP _ _ _ _ _ ⟨(zi hn rfl rfl rfl), ?_⟩
        refine hP _ _ _ _ _ ?_
        refine hP _ _ _ _ _ ?_
        refine hP _ _ _ _ _ ⟨(zi hn rfl rfl rfl), ?_⟩
        refine hP _ _ _ _ _ ?_
        refine hP _ _ _ _ _ ⟨(zi hn rfl rfl rfl), _, fx_Lexer_tokens hF, (by decide), ?_⟩
        refine hP _ _ _ _ _ ?_
        refine hP _ _ _ _ _ ⟨(zi hn rfl rfl rfl), ?_⟩
        refine hP _ _ _ _ _ ?_
        refine hP _ _ _ _ _ ⟨_, k, (zi hn rfl rfl rfl), (show M.1 104 5 = nI k from rk fM), by omega, ztc rfl rfl, ?_⟩
        refine hP _ _ _ _ _ ?_
        refine hP _ _ _ _ _ ?_
        rw [if_neg (show ¬ lim ≤ s' by omega), es] at hQ
        have e3 : tkC C sz st = 3 := by unfold tkC; rw [if_pos h120]
        refine ⟨rfl, hQ _ ((fN.I (Or.inl ⟨rfl, rfl⟩)).R (Or.inr ⟨Or.inl rfl, rfl⟩)) (by rw [zR_s, e3]) (by rw [zR_1, zI_ne (by omega), zI_s]) (fun z => absurd (e3.symm.trans z) (by omega)) (fun _ => ?_)⟩
        rw [zR_1, zI_s, zI_ne (by omega), m1, es]
        unfold nxP
        rw [e_st, if_pos h120]; exact nI_1 st
      ·
        exact loop2 (sz - st) st _ rfl rfl (by omega) (by omega) fN (by rw [zI_ne (by omega), m1, es]) (by rw [zI_s]) hlt (fun z => h120 (r.trans z)) _
  have loop1 : ∀ d q M, lim - q = d → sk C lim q = s' → q ≤ sz → zfr (fun a b => a = 104 ∧ b = 1) mem M → M.1 104 1 = nI q → P 14 [.ref 104, .int (nI lim), .null] [] n M := by
    intro d
    induction d with
    | zero =>
      intro q M hd he h2 fM m1
      have hF := rF (fM.mono fun a b z => Or.inl z)
      have eq : s' = q := by rw [← he, sk_n (by omega)]
      refine hP _ _ _ _ _ ?_
      refine hP _ _ _ _ _ ⟨(zi hn rfl rfl rfl), ?_⟩
      refine hP _ _ _ _ _ ?_
      refine hP _ _ _ _ _ ⟨fun _ => ?_, fun hz => absurd ( by rw [m1]; exact nI_le (by omega) (by omega)) hz⟩
      exact body M fM (by rw [m1, eq])
    | succ d ih =>
      intro q M hd he h2 fM m1
      have fM1 : zfr (sF k) mem M := fM.mono fun a b z => Or.inl z
      have hF := rF fM1
      have r := row fM1 q
      refine hP _ _ _ _ _ ?_
      refine hP _ _ _ _ _ ⟨(zi hn rfl rfl rfl), ?_⟩
      refine hP _ _ _ _ _ ?_
      refine hP _ _ _ _ _ ⟨fun hz => absurd hz ( by rw [m1]; exact nI_ge (by omega) (by omega)), fun _ => ?_⟩
      refine hP _ _ _ _ _ ?_
      refine hP _ _ _ _ _ ⟨(zi hn rfl rfl rfl), _, fx_Lexer_tape hF, (by decide), ?_⟩
      refine hP _ _ _ _ _ ⟨(zi hn rfl rfl rfl), _, fx_Tape_bytes hF, (by decide), ?_⟩
      refine hP _ _ _ _ _ ?_
      refine hP _ _ _ _ _ ⟨(zi hn rfl rfl rfl), ?_⟩
      refine hP _ _ _ _ _ ⟨_, q, (zi hn rfl rfl rfl), m1, by omega, ?_⟩
      refine hP _ _ _ _ _ ⟨Nat.le_of_ble_eq_true rfl, Nat.le_of_ble_eq_true rfl, ?_⟩
      refine ⟨_, rfl, ?_⟩
      rw [r]
      refine hP _ _ _ _ _ ⟨fun h37 => ?_, fun h37 => ?_⟩
      ·
        have h37 := zb_0.mp h37
        exact body M fM (by rw [m1, ← he, sk_n (fun z => by rw [h37] at z; cases z.2)])
      ·
        have h37 := zb_n.mp h37
        refine hP _ _ _ _ _ ?_
        refine hP _ _ _ _ _ ?_
        refine hP _ _ _ _ _ ⟨(zi hn rfl rfl rfl), ?_⟩
        refine hP _ _ _ _ _ ?_
        refine hP _ _ _ _ _ ?_
        refine hP _ _ _ _ _ ⟨(zi hn rfl rfl rfl), ?_⟩
        refine hP _ _ _ _ _ ?_
        exact ih (q + 1) _ (by omega) (by rw [← he, sk_y (by omega) h37]) (by omega) (fM.I ⟨rfl, rfl⟩) (by rw [zI_s, m1]; exact nI_1 q)
  have emin0 : (if (800 : Int32) < mem.1 101 1 then (800 : Int32) else mem.1 101 1) = nI lim := by rw [hsz, ← hlim]; exact mn_nI (a := sz) (b := 800) (by omega) (by omega)
  have hF := hF0
  refine hP _ _ _ _ _ ?_
  refine hP _ _ _ _ _ ⟨(zi hn rfl rfl rfl), _, fx_Lexer_tape hF, (by decide), ?_⟩
  refine hP _ _ _ _ _ ⟨(zi hn rfl rfl rfl), ?_⟩
  refine hP _ _ _ _ _ ?_
  refine hP _ _ _ _ _ ⟨Nat.le_of_ble_eq_true rfl, ?_⟩
  refine hP _ _ _ _ _ ?_
  show P 14 [.ref 104, .int (if (800 : Int32) < mem.1 101 1 then (800 : Int32) else mem.1 101 1), .null] [] n mem
  rw [emin0]
  exact loop1 (lim - p) p mem rfl hs' hpsz zfr.rf hp
theorem ps_ge {B : Nat → Int32} {sz : Nat} : ∀ k, (∀ i, i < k → 2 ≤ (tsS B sz i).1) → k ≤ psS B sz k ∧ psS B sz k ≤ sz := by
  intro k
  induction k with
  | zero => intro _; exact ⟨Nat.le_refl _, Nat.zero_le _⟩
  | succ k ih =>
    intro h
    have a := ih fun i hi => h i (by omega)
    have b := nx_lt (h k (by omega))
    show k + 1 ≤ nxP B sz (psS B sz k) ∧ nxP B sz (psS B sz k) ≤ sz
    omega
/-- the tokens as the lexer holds them, up to the last one, K -/
def zLx (M : zM) (T : zTS) (K : Nat) : Prop := M.1 104 5 = nI K ∧ K ≤ 800 ∧ (∀ i, i < K → 2 ≤ (T i).1) ∧ (T K).1 < 2 ∧ ∀ i, i ≤ K → (T i).1 < 14 ∧ M.2.2 105 i = (T i).1 + 2 ∧ M.1 106 i = nI (T i).2.1 ∧ ((T i).1 = 2 → M.1 107 i = nI (T i).2.2)
def k_X2_scan : zCt := fun as n mem Q => ∃ (sz : Nat), as = [.ref 104] ∧ zst n mem ∧ mem.1 101 1 = nI sz ∧ sz ≤ 840 ∧ (∀ M K, zfr sL mem M → zLx M (tsS (mem.1 102) sz) K → Q none n M)
theorem ok_X2_scan {l : Launch} {G : zG} : zOK l G yX2_scan cX2_scan 1 none 8 0 0 k_X2_scan := by
  intro as n mem Q hK
  obtain ⟨sz, rfl, ⟨hn, hF0⟩, hsz, hsz8, hQ⟩ := hK
  refine mtX2_scan ok_X2_findToken (by decide) (List.forall_mem_cons.mpr ⟨rfl, fun _ h => absurd h List.not_mem_nil⟩) (by simp) rfl (fun P hP => ?_)
  show P 0 [.ref 104] [] n mem
  generalize hC : mem.1 102 = C at hQ
  have row : ∀ {M : zM}, zfr sL mem M → M.1 102 = C := fun fM => by rw [← hC]; funext j; exact fM.1 102 j (by unfold sL; omega)
  have rsz : ∀ {M : zM}, zfr sL mem M → M.1 101 1 = nI sz := fun fM => (fM.1 101 1 (by unfold sL; omega)).trans hsz
  have loop : ∀ d k M, 800 - k = d → k ≤ 800 → zfr sL mem M → M.1 104 5 = nI k → (∀ i, i < k → 2 ≤ (tsS C sz i).1) → (∀ i, i ≤ k → M.2.2 105 i = (tsS C sz i).1 + 2 ∧ M.1 106 i = nI (tsS C sz i).2.1 ∧ ((tsS C sz i).1 = 2 → M.1 107 i = nI (tsS C sz i).2.2)) → (2 ≤ (tsS C sz k).1 → M.1 104 1 = nI (psS C sz (k + 1))) → P 14 [.ref 104] [] n M := by
    intro d
    induction d with
    | zero =>
      intro k M hd hk fM m5 h2 hr hnx
      have hF := zFx_L fM hF0
      have g := ps_ge k h2
      have last : (tsS C sz k).1 < 2 := by
        rcases Nat.lt_or_ge (tsS C sz k).1 2 with z | z
        · exact z
        · have := nx_lt z; omega
      refine hP _ _ _ _ _ ?_
      refine hP _ _ _ _ _ ⟨(zi hn rfl rfl rfl), ?_⟩
      refine hP _ _ _ _ _ ?_
      refine hP _ _ _ _ _ ⟨fun _ => ?_, fun hz => absurd ( by rw [m5]; exact nI_le (a := 800) (by omega) (by omega)) hz⟩
      refine hP _ _ _ _ _ ?_
      exact ⟨rfl, hQ M k fM ⟨m5, hk, h2, last, fun i hi => ⟨tk_lt _ _ _, hr i hi⟩⟩⟩
    | succ d ih =>
      intro k M hd hk fM m5 h2 hr hnx
      have hF := zFx_L fM hF0
      have r105 := (hr k (Nat.le_refl _)).1
      have htk : (tsS C sz k).1 < 14 := tk_lt _ _ _
      have out : (tsS C sz k).1 < 2 → P 71 [.ref 104] [] n M := by
        intro last
        refine hP _ _ _ _ _ ?_
        exact ⟨rfl, hQ M k fM ⟨m5, hk, h2, last, fun i hi => ⟨tk_lt _ _ _, hr i hi⟩⟩⟩
      refine hP _ _ _ _ _ ?_
      refine hP _ _ _ _ _ ⟨(zi hn rfl rfl rfl), ?_⟩
      refine hP _ _ _ _ _ ?_
      refine hP _ _ _ _ _ ⟨fun hz => absurd hz ( by rw [m5]; exact nI_ge (b := 800) (by omega) (by omega)), fun _ => ?_⟩
      refine hP _ _ _ _ _ ?_
      refine hP _ _ _ _ _ ⟨(zi hn rfl rfl rfl), _, fx_Lexer_tokens hF, (by decide), ?_⟩
      refine hP _ _ _ _ _ ?_
      refine hP _ _ _ _ _ ⟨(zi hn rfl rfl rfl), ?_⟩
      refine hP _ _ _ _ _ ⟨_, k, (zi hn rfl rfl rfl), m5, by omega, _, r105, (by omega), ?_⟩
      refine hP _ _ _ _ _ ?_
      refine hP _ _ _ _ _ ⟨ztk htk, ztc rfl rfl, fun h36 => ?_, fun h36 => ?_⟩
      ·
        first | exact out (by have h36 : (tsS C sz k).1 + 2 = 2 := h36; omega) | exact out (by have h51 : (tsS C sz k).1 + 2 = 3 := h51; omega)
      ·
        refine hP _ _ _ _ _ ?_
        refine hP _ _ _ _ _ ⟨(zi hn rfl rfl rfl), _, fx_Lexer_tokens hF, (by decide), ?_⟩
        refine hP _ _ _ _ _ ?_
        refine hP _ _ _ _ _ ⟨(zi hn rfl rfl rfl), ?_⟩
        refine hP _ _ _ _ _ ⟨_, k, (zi hn rfl rfl rfl), m5, by omega, _, r105, (by omega), ?_⟩
        refine hP _ _ _ _ _ ?_
        refine hP _ _ _ _ _ ⟨ztk htk, ztc rfl rfl, fun h51 => ?_, fun h51 => ?_⟩
        ·
          first | exact out (by have h36 : (tsS C sz k).1 + 2 = 2 := h36; omega) | exact out (by have h51 : (tsS C sz k).1 + 2 = 3 := h51; omega)
        ·
          have hge : 2 ≤ (tsS C sz k).1 := by
            have h36 : ¬ (tsS C sz k).1 + 2 = 2 := h36
            have h51 : ¬ (tsS C sz k).1 + 2 = 3 := h51
            omega
          have g := nx_lt hge
          have h2' : ∀ i, i < k + 1 → 2 ≤ (tsS C sz i).1 := fun i hi => by
            by_cases z : i = k
            · subst z; exact hge
            · exact h2 i (by omega)
          have g2 := ps_ge (k + 1) h2'
          have g3 := nx_lt hge
          have fN : zfr sL mem (zI M 104 5 (M.1 104 5 + 1)) := fM.I (Or.inl ⟨rfl, Or.inr rfl⟩)
          have n5 : (zI M 104 5 (M.1 104 5 + 1)).1 104 5 = nI (k + 1) := by rw [zI_s, m5]; exact nI_1 k
          refine hP _ _ _ _ _ ?_
          refine hP _ _ _ _ _ ?_
          refine hP _ _ _ _ _ ⟨(zi hn rfl rfl rfl), ?_⟩
          refine hP _ _ _ _ _ ?_
          refine hP _ _ _ _ _ ?_
          refine hP _ _ _ _ _ ⟨(zi hn rfl rfl rfl), ?_⟩
          refine hP _ _ _ _ _ ?_
          refine hP _ _ _ _ _ ⟨(zi hn rfl rfl rfl), Nat.le_of_ble_eq_true rfl, Nat.le_of_ble_eq_true rfl, ?_⟩
          refine ⟨sz, psS C sz (k + 1), k + 1, rfl, ⟨hn, hF⟩, rsz fN, hsz8, (hnx hge), g2.2, n5, by omega, fun M' fM' a b c d' => ?_⟩
          rw [row fN] at a b c d'
          refine hP _ _ _ _ _ ?_
          refine ih (k + 1) M' (by omega) (by omega) (fN.tr (fM'.mono fun _ _ => sF_L)) ((fM'.1 104 5 (by unfold sF; omega)).trans n5) h2' (fun i hi => ?_) d'
          by_cases z : i = k + 1
          · subst z; exact ⟨a, b, fun q => (c q).trans (num_ok q).2⟩
          · have h1 := hr i (by omega)
            refine ⟨(fM'.2.2 105 i (by unfold sF; omega)).trans h1.1, (fM'.1 106 i (by unfold sF; omega)).trans h1.2.1, fun q => (fM'.1 107 i (by unfold sF; omega)).trans (h1.2.2 q)⟩
  have f0 : zfr sL mem (zI (zI mem 104 1 0) 104 5 0) := (zfr.rf.I (Or.inl ⟨rfl, Or.inl rfl⟩)).I (Or.inl ⟨rfl, Or.inr rfl⟩)
  have hF := hF0
  refine hP _ _ _ _ _ ?_
  refine hP _ _ _ _ _ ?_
  refine hP _ _ _ _ _ ⟨(zi hn rfl rfl rfl), ?_⟩
  refine hP _ _ _ _ _ ?_
  refine hP _ _ _ _ _ ?_
  refine hP _ _ _ _ _ ⟨(zi hn rfl rfl rfl), ?_⟩
  refine hP _ _ _ _ _ ?_
  refine hP _ _ _ _ _ ⟨(zi hn rfl rfl rfl), Nat.le_of_ble_eq_true rfl, Nat.le_of_ble_eq_true rfl, ?_⟩
  refine ⟨sz, 0, 0, rfl, ⟨hn, hF⟩, rsz f0, hsz8, rfl, Nat.zero_le _, rfl, by omega, fun M' fM' a b c d' => ?_⟩
  rw [row f0] at a b c d'
  refine loop 800 0 M' rfl (by omega) (f0.tr (fM'.mono fun _ _ => sF_L)) (fM'.1 104 5 (by unfold sF; omega)) (fun i hi => absurd hi (Nat.not_lt_zero _)) (fun i hi => ?_) d'
  have : i = 0 := by omega
  subst this
  exact ⟨a, b, fun q => (c q).trans (num_ok q).2⟩
