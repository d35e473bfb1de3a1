def rsT (T : zTS) (k : Nat) : zOut (Nat × Nat × Int32 × Int32) := ob (tkT T 11 k) fun k4 => ob (nbT T 0 999 k4) fun m => ob (tlT T m.1) fun l => if (T l.1).1 = 13 then .inr (l.1 + 1, m.2, l.2, 1) else .inr (l.1, m.2, l.2, 0)
theorem nb_y {T : zTS} {k : Nat} (h9 : ∀ i, (T i).1 = 2 → (T i).2.2 ≤ 999) (h : (T k).1 = 2) : nbT T 0 999 k = .inr (k + 1, (T k).2.2) := by
  have := h9 k h
  unfold nbT
  rw [if_neg (fun z => z h), if_neg (by omega)]
theorem nb_n {T : zTS} {k : Nat} (h : ¬ (T k).1 = 2) : nbT T 0 999 k = .inl (1, (T k).2.1) := if_pos h
def k_X7_readRest : zCt := fun as n mem Q => ∃ (k K t np pw : Nat) (T : zTS), as = [.ref 103, .ref (t + 2 + pw)] ∧ pw < 20 ∧ cP n mem T K t np pw ∧ qA mem T K k ∧ mem.1 (t + 2 + pw) 5 = -1 ∧ mem.1 (t + 2 + pw) 6 = 0 ∧ cRes (cRw (t + 2 + pw) (fun b => 4 ≤ b ∧ b ≤ 6)) n mem Q (rsT T k) (fun r M => qA M T K r.1 ∧ M.1 (t + 2 + pw) 4 = nI r.2.1 ∧ M.1 (t + 2 + pw) 5 = r.2.2.1 ∧ M.1 (t + 2 + pw) 6 = r.2.2.2)
theorem ok_X7_readRest {l : Launch} {G : zG} : zOK l G yX7_readRest cX7_readRest 3 (some .boolean) 3 0 0 k_X7_readRest := by
  intro as n mem Q hK
  obtain ⟨k, K, t, np, pw, T, rfl, hpw, hC, hA, h5, h6, hQ⟩ := hK
  refine mtX7_readRest ok_X7_take (by decide) (List.forall_mem_cons.mpr ⟨rfl, List.forall_mem_cons.mpr ⟨rfl, fun _ h => absurd h List.not_mem_nil⟩⟩) (by simp) rfl (fun P hP => ?_)
  show P 0 [.ref 103, .ref (t + 2 + pw), .null] [] n mem
  have hB := hC.1
  have hn := hB.1.1
  have hT := hC.2.1
  have h9 := hB.2.2
  have hx : t + 2 + pw ≠ 103 := by omega
  have ends : ∀ (g : Bool) M, Q (some (.int (zb g))) n M → P 105 [.ref 103, .ref (t + 2 + pw), .int (zb g)] [] n M := by
    intro g M h
    refine hP _ _ _ _ _ ?_
    refine hP _ _ _ _ _ ?_
    exact ⟨by cases g <;> decide, rfl, h⟩
  have bad78 : ∀ M, Q (some (.int 0)) n M → P 78 [.ref 103, .ref (t + 2 + pw), .int 0] [] n M := by
    intro M h
    refine hP _ _ _ _ _ ?_
    refine hP _ _ _ _ _ ⟨fun _ => ?_, fun hz => absurd ( rfl) hz⟩
    exact ends false M h
  have tail : ∀ k m (l : Int32) M, zfr (cRw (t + 2 + pw) (fun b => 4 ≤ b ∧ b ≤ 6)) mem M → M.1 103 5 = mem.1 103 5 → qA M T K k → M.1 (t + 2 + pw) 4 = nI m → M.1 (t + 2 + pw) 5 = l → M.1 (t + 2 + pw) 6 = 0 → cRes (cRw (t + 2 + pw) (fun b => 4 ≤ b ∧ b ≤ 6)) n mem Q (if (T k).1 = 13 then .inr (k + 1, m, l, 1) else .inr (k, m, l, 0)) (fun r M => qA M T K r.1 ∧ M.1 (t + 2 + pw) 4 = nI r.2.1 ∧ M.1 (t + 2 + pw) 5 = r.2.2.1 ∧ M.1 (t + 2 + pw) 6 = r.2.2.2) → P 78 [.ref 103, .ref (t + 2 + pw), .int 1] [] n M := by
    intro k m l M fM q5 hA m4 m5 m6 hQ
    have hC1 := cP_fr hpw fM hC
    have hB1 := hC1.1
    have hF := hB1.1.2
    have ht := at_lt hB1 hA.1
    by_cases h13 : (T k).1 = 13
    · have fw : zfr (cRw (t + 2 + pw) (fun b => 4 ≤ b ∧ b ≤ 6)) mem (zI M (t + 2 + pw) 6 1) := fM.I (Or.inr ⟨rfl, by omega⟩)
      refine hP _ _ _ _ _ ?_
      refine hP _ _ _ _ _ ⟨fun hz => absurd hz ( by decide), fun _ => ?_⟩
      refine hP _ _ _ _ _ ?_
      refine hP _ _ _ _ _ ⟨(zi hn rfl rfl rfl), _, hA.2.2.1, (by omega), ?_⟩
      refine hP _ _ _ _ _ ?_
      refine hP _ _ _ _ _ ⟨ztk ht, ztc rfl rfl, fun _ => ?_, fun hz => absurd ( by show (T k).1 + 2 = 15; omega) hz⟩
      refine hP _ _ _ _ _ ?_
      refine hP _ _ _ _ _ ?_
      refine hP _ _ _ _ _ ⟨Or.inr rfl, (ztP hn hT hpw), ?_⟩
      refine hP _ _ _ _ _ ?_
      refine hP _ _ _ _ _ ?_
      refine hP _ _ _ _ _ ⟨(zi hn rfl rfl rfl), Nat.le_of_ble_eq_true rfl, Nat.le_of_ble_eq_true rfl, ?_⟩
      refine tk_y (due := 13) (by omega) (by omega) (cP_fr hpw fw hC).1 (at_w hx hA) h13 fun M3 f3 q3 hA3 => ?_
      refine hP _ _ _ _ _ ?_
      have r3 : ∀ j, M3.1 (t + 2 + pw) j = (zI M (t + 2 + pw) 6 1).1 (t + 2 + pw) j := fun j => f3.1 _ j (by unfold S3; omega)
      exact ends true M3 (cr_t hQ (if_pos h13) M3 (rw_tr fw f3) (q3.trans (by rw [zI_ne (by omega)]; exact q5)) ⟨hA3, by rw [r3, zI_o (by omega)]; exact m4, by rw [r3, zI_o (by omega)]; exact m5, by rw [r3, zI_s]⟩)
    ·
      refine hP _ _ _ _ _ ?_
      refine hP _ _ _ _ _ ⟨fun hz => absurd hz ( by decide), fun _ => ?_⟩
      refine hP _ _ _ _ _ ?_
      refine hP _ _ _ _ _ ⟨(zi hn rfl rfl rfl), _, hA.2.2.1, (by omega), ?_⟩
      refine hP _ _ _ _ _ ?_
      refine hP _ _ _ _ _ ⟨ztk ht, ztc rfl rfl, fun hz => absurd hz ( fun z => h13 (by have z : (T k).1 + 2 = 15 := z; omega)), fun _ => ?_⟩
      exact ends true M (cr_t hQ (if_neg h13) M fM q5 ⟨hA, m4, m5, m6⟩)
  have hF := hB.1.2
  by_cases h11 : (T k).1 = 11
  · unfold rsT at hQ
    rw [ob_r (tkT_y h11)] at hQ
    have start : ∀ M, zfr S3 mem M → M.1 103 5 = mem.1 103 5 → qA M T K (k + 1) → P 12 [.ref 103, .ref (t + 2 + pw), .null] [] n M := by
      intro M f1 q1 hA1
      have hF := (cP_3 f1 hC).1.1.2
      have fw : zfr (cRw (t + 2 + pw) (fun b => 4 ≤ b ∧ b ≤ 6)) mem (zI M (t + 2 + pw) 4 (M.1 103 4)) := (f1.mono fun _ _ => S3_w).I (Or.inr ⟨rfl, by omega⟩)
      have hB2 := (cP_fr hpw fw hC).1
      by_cases h2 : (T (k + 1)).1 = 2
      · rw [ob_r (nb_y h9 h2)] at hQ
        refine hP _ _ _ _ _ ?_
        refine hP _ _ _ _ _ ?_
        refine hP _ _ _ _ _ ⟨(zi hn rfl rfl rfl), ?_⟩
        refine hP _ _ _ _ _ ⟨(ztP hn hT hpw), ?_⟩
        refine hP _ _ _ _ _ ?_
        refine hP _ _ _ _ _ ?_
        refine hP _ _ _ _ _ ⟨(zi hn rfl rfl rfl), Nat.le_of_ble_eq_true rfl, Nat.le_of_ble_eq_true rfl, ?_⟩
        refine tk_y (due := 2) (by omega) (by omega) hB2 (at_w hx hA1) h2 fun M3 f3 q3 hA3 => ?_
        have fw3 := rw_tr fw f3
        have q5 : M3.1 103 5 = mem.1 103 5 := q3.trans (by rw [zI_ne (by omega)]; exact q1)
        have r3 : ∀ j, j ≠ 4 → M3.1 (t + 2 + pw) j = mem.1 (t + 2 + pw) j := fun j hj => (f3.1 _ j (by unfold S3; omega)).trans (by rw [zI_o hj]; exact f1.1 _ j (by unfold S3; omega))
        have m4 : M3.1 (t + 2 + pw) 4 = nI (T (k + 1)).2.2 := (f3.1 _ 4 (by unfold S3; omega)).trans (by rw [zI_s]; exact hA1.2.2.2 h2)
        have m5 : M3.1 (t + 2 + pw) 5 = -1 := (r3 5 (by omega)).trans h5
        have m6 : M3.1 (t + 2 + pw) 6 = 0 := (r3 6 (by omega)).trans h6
        have hC3 := cP_fr hpw fw3 hC
        have hF := hC3.1.1.2
        have ht := at_lt hC3.1 hA3.1
        refine hP _ _ _ _ _ ?_
        refine hP _ _ _ _ _ ?_
        refine hP _ _ _ _ _ ⟨fun hz => absurd hz ( by decide), fun _ => ?_⟩
        refine hP _ _ _ _ _ ?_
        refine hP _ _ _ _ _ ⟨(zi hn rfl rfl rfl), _, hA3.2.2.1, (by omega), ?_⟩
        refine hP _ _ _ _ _ ?_
        refine hP _ _ _ _ _ ⟨ztk ht, ztc rfl rfl, fun h39 => ?_, fun h39 => ?_⟩
        ·
          have h12 : (T (k + 2)).1 = 12 := by have h39 : (T (k + 1 + 1)).1 + 2 = 14 := h39; show (T (k + 1 + 1)).1 = 12; omega
          refine hP _ _ _ _ _ ?_
          refine hP _ _ _ _ _ ?_
          refine hP _ _ _ _ _ ⟨(zi hn rfl rfl rfl), Nat.le_of_ble_eq_true rfl, Nat.le_of_ble_eq_true rfl, ?_⟩
          refine tk_y (due := 12) (by omega) (by omega) hC3.1 hA3 h12 fun M4 f4 q4 hA4 => ?_
          have fw4 : zfr (cRw (t + 2 + pw) (fun b => 4 ≤ b ∧ b ≤ 6)) mem (zI M4 (t + 2 + pw) 5 (M4.1 103 4)) := (rw_tr fw3 f4).I (Or.inr ⟨rfl, by omega⟩)
          have hC4 := cP_fr hpw fw4 hC
          have q45 : (zI M4 (t + 2 + pw) 5 (M4.1 103 4)).1 103 5 = mem.1 103 5 := by rw [zI_ne (by omega)]; exact q4.trans q5
          have r4 : ∀ j, M4.1 (t + 2 + pw) j = M3.1 (t + 2 + pw) j := fun j => f4.1 _ j (by unfold S3; omega)
          refine hP _ _ _ _ _ ?_
          refine hP _ _ _ _ _ ?_
          refine hP _ _ _ _ _ ?_
          refine hP _ _ _ _ _ ⟨(zi hn rfl rfl rfl), ?_⟩
          refine hP _ _ _ _ _ ⟨(ztP hn hT hpw), ?_⟩
          refine hP _ _ _ _ _ ?_
          refine hP _ _ _ _ _ ⟨fun hz => absurd hz ( by decide), fun _ => ?_⟩
          by_cases h22 : (T (k + 1 + 1 + 1)).1 = 2
          · have ho : tlT T (k + 1 + 1) = .inr (k + 1 + 1 + 1 + 1, nI (T (k + 1 + 1 + 1)).2.2) := by unfold tlT; rw [if_pos h12, ob_r (nb_y h9 h22)]
            rw [ob_r ho] at hQ
            refine hP _ _ _ _ _ ?_
            refine hP _ _ _ _ _ ?_
            refine hP _ _ _ _ _ ⟨(zi hn rfl rfl rfl), Nat.le_of_ble_eq_true rfl, Nat.le_of_ble_eq_true rfl, ?_⟩
            refine tk_y (due := 2) (by omega) (by omega) hC4.1 (at_w hx hA4) h22 fun M5 f5' q5' hA5 => ?_
            have r5 : ∀ j, M5.1 (t + 2 + pw) j = (zI M4 (t + 2 + pw) 5 (M4.1 103 4)).1 (t + 2 + pw) j := fun j => f5'.1 _ j (by unfold S3; omega)
            refine hP _ _ _ _ _ ⟨fun hz => absurd hz (by decide), fun _ => ?_⟩
            refine hP _ _ _ _ _ ?_
            refine hP _ _ _ _ _ ?_
            refine hP _ _ _ _ _ ?_
            exact tail _ _ _ M5 (rw_tr fw4 f5') (q5'.trans q45) hA5 (by rw [r5, zI_o (by omega), r4]; exact m4) (by rw [r5, zI_s]; exact hA4.2.2.2 h22) (by rw [r5, zI_o (by omega), r4]; exact m6) hQ
          · have ho : tlT T (k + 1 + 1) = .inl (1, (T (k + 1 + 1 + 1)).2.1) := by unfold tlT; rw [if_pos h12, ob_l (nb_n h22)]
            refine hP _ _ _ _ _ ?_
            refine hP _ _ _ _ _ ?_
            refine hP _ _ _ _ _ ⟨(zi hn rfl rfl rfl), Nat.le_of_ble_eq_true rfl, Nat.le_of_ble_eq_true rfl, ?_⟩
            refine tk_n (due := 2) (by omega) (by omega) hC4.1 (at_w hx hA4) h22 fun M5 f5' q5' q6' => ?_
            refine hP _ _ _ _ _ ⟨fun _ => ?_, fun hz => absurd rfl hz⟩
            refine hP _ _ _ _ _ ?_
            refine hP _ _ _ _ _ ?_
            exact bad78 M5 (cr_f hQ (ob_l ho) M5 (rw_tr fw4 f5') q5' q6')
        ·
          have h12 : ¬ (T (k + 1 + 1)).1 = 12 := fun z => h39 (by show (T (k + 1 + 1)).1 + 2 = 14; omega)
          rw [ob_r (tlT_n h12)] at hQ
          exact tail _ _ _ M3 fw3 q5 hA3 m4 m5 m6 hQ
      ·
        refine hP _ _ _ _ _ ?_
        refine hP _ _ _ _ _ ?_
        refine hP _ _ _ _ _ ⟨(zi hn rfl rfl rfl), ?_⟩
        refine hP _ _ _ _ _ ⟨(ztP hn hT hpw), ?_⟩
        refine hP _ _ _ _ _ ?_
        refine hP _ _ _ _ _ ?_
        refine hP _ _ _ _ _ ⟨(zi hn rfl rfl rfl), Nat.le_of_ble_eq_true rfl, Nat.le_of_ble_eq_true rfl, ?_⟩
        refine tk_n (due := 2) (by omega) (by omega) hB2 (at_w hx hA1) h2 fun M3 f3 q3 q4 => ?_
        refine hP _ _ _ _ _ ?_
        refine hP _ _ _ _ _ ?_
        refine hP _ _ _ _ _ ⟨fun _ => ?_, fun hz => absurd ( rfl) hz⟩
        exact bad78 M3 (cr_f hQ (ob_l (nb_n h2)) M3 (rw_tr fw f3) q3 q4)
    refine hP _ _ _ _ _ ?_
    refine hP _ _ _ _ _ ?_
    refine hP _ _ _ _ _ ⟨(zi hn rfl rfl rfl), Nat.le_of_ble_eq_true rfl, Nat.le_of_ble_eq_true rfl, ?_⟩
    refine tk_y (due := 11) (by omega) (by omega) hB hA h11 fun M f1 q1 hA1 => ?_
    refine hP _ _ _ _ _ ⟨fun hz => absurd hz ( by decide), fun _ => ?_⟩
    exact start M f1 q1 hA1
  ·
    refine hP _ _ _ _ _ ?_
    refine hP _ _ _ _ _ ?_
    refine hP _ _ _ _ _ ⟨(zi hn rfl rfl rfl), Nat.le_of_ble_eq_true rfl, Nat.le_of_ble_eq_true rfl, ?_⟩
    refine tk_n (due := 11) (by omega) (by omega) hB hA h11 fun M f1 q1 q2 => ?_
    refine hP _ _ _ _ _ ⟨fun _ => ?_, fun hz => absurd ( rfl) hz⟩
    refine hP _ _ _ _ _ ?_
    refine hP _ _ _ _ _ ?_
    exact ⟨by decide, rfl, cr_f hQ (ob_l (if_neg h11)) M (f1.mono fun _ _ => S3_w) q1 q2⟩
def cClr (r : Nat → Int32) : Prop := r 1 = 0 ∧ r 3 = 0 ∧ r 5 = -1 ∧ r 6 = 0 ∧ r 7 = -1 ∧ r 11 = -1 ∧ r 12 = -1 ∧ r 13 = -1 ∧ r 14 = 0
def k_X5_clear : zCt := fun as n mem Q => ∃ (x : Nat), as = [.ref x] ∧ zst n mem ∧ zis n x (.inl 5) ∧ (∀ M, zfr (fun a _ => a = x) mem M → cClr (M.1 x) → Q none n M)
theorem ok_X5_clear {l : Launch} {G : zG} : zOK l G yX5_clear cX5_clear 1 none 0 0 0 k_X5_clear := by
  intro as n mem Q hK
  obtain ⟨x, rfl, ⟨hn, hF⟩, hx, hQ⟩ := hK
  refine mtX5_clear (List.forall_mem_cons.mpr ⟨rfl, fun _ h => absurd h List.not_mem_nil⟩) (by simp) rfl (fun P hP => ?_)
  show P 0 [.ref x] [] n mem
  refine hP _ _ _ _ _ ?_
  refine hP _ _ _ _ _ ?_
  refine hP _ _ _ _ _ ⟨hx, ?_⟩
  refine hP _ _ _ _ _ ?_
  refine hP _ _ _ _ _ ?_
  refine hP _ _ _ _ _ ⟨hx, ?_⟩
  refine hP _ _ _ _ _ ?_
  refine hP _ _ _ _ _ ?_
  refine hP _ _ _ _ _ ⟨hx, ?_⟩
  refine hP _ _ _ _ _ ?_
  refine hP _ _ _ _ _ ?_
  refine hP _ _ _ _ _ ⟨Or.inl rfl, hx, ?_⟩
  refine hP _ _ _ _ _ ?_
  refine hP _ _ _ _ _ ?_
  refine hP _ _ _ _ _ ⟨hx, ?_⟩
  refine hP _ _ _ _ _ ?_
  refine hP _ _ _ _ _ ?_
  refine hP _ _ _ _ _ ⟨hx, ?_⟩
  refine hP _ _ _ _ _ ?_
  refine hP _ _ _ _ _ ?_
  refine hP _ _ _ _ _ ⟨hx, ?_⟩
  refine hP _ _ _ _ _ ?_
  refine hP _ _ _ _ _ ?_
  refine hP _ _ _ _ _ ⟨hx, ?_⟩
  refine hP _ _ _ _ _ ?_
  refine hP _ _ _ _ _ ?_
  refine hP _ _ _ _ _ ⟨hx, ?_⟩
  refine hP _ _ _ _ _ ?_
  refine ⟨rfl, hQ _ (zfr.I (zfr.I (zfr.I (zfr.I (zfr.I (zfr.I (zfr.I (zfr.I (zfr.I zfr.rf rfl) rfl) rfl) rfl) rfl) rfl) rfl) rfl) rfl) ?_⟩
  unfold cClr
  simp [zI_at]
def cRow (r R : Nat → Int32) : Prop := (∀ j, j ≤ 8 → r j = R j) ∧ r 9 = R 3 ∧ r 10 = R 4 ∧ r 11 = -1 ∧ r 12 = -1 ∧ r 13 = -1 ∧ r 14 = 0
theorem ob_a {α β γ : Type} {x : zOut α} {f : α → zOut β} {g : β → zOut γ} : ob (ob x f) g = ob x (fun a => ob (f a) g) := by cases x <;> rfl
theorem ob_if {α β : Type} {c : Prop} [Decidable c] {a b : α} {f : α → zOut β} : ob (if c then .inr a else .inr b) f = if c then f a else f b := by split <;> rfl
theorem rdT_c {T : zTS} {np pw k : Nat} {R : Nat → Nat → Int32} : rdT T np pw R k = ob (gvT T np pw R k) fun g => ob (ob (tkT T 8 g.1) fun k1 => hsT T np g.2.1 k1) fun h => ob (ob (tkT T 9 h.1) fun k2 => nbT T 1 (pcI h.2) k2) fun t => ob (ob (tkT T 10 t.1) fun k3 => ksT T k3) fun d => ob (rsT T d.1) fun r => .inr (r.1, g.2.1, h.2, nI t.2, d.2, nI r.2.1, r.2.2.1, r.2.2.2, g.2.2) := by
  unfold rdT rsT
  simp only [ob_a, ob_if]
theorem gv6 {T : zTS} {np pw k : Nat} {R : Nat → Nat → Int32} {g : Nat × Int32 × Int32} (h6 : (T k).1 = 6) (h : gvT T np pw R k = .inr g) : g.2.2 = -1 := by
  unfold gvT at h
  split at h
  · cases h
  · rw [if_neg (by omega)] at h
    split at h
    · cases h
    · cases h; rfl
theorem gv7 {T : zTS} {np pw k : Nat} {R : Nat → Nat → Int32} {g : Nat × Int32 × Int32} (h7 : (T k).1 = 7) (h : gvT T np pw R k = .inr g) : ∃ v, v < pw ∧ g.2.2 = nI v := by
  unfold gvT at h
  by_cases c : (T (k + 1)).1 = 2
  · rw [if_neg (fun z => z c), if_pos h7] at h
    split at h
    · cases h
    · rename_i hc
      cases h
      exact ⟨_, Nat.not_le.mp fun z => hc (Or.inl z), rfl⟩
  · rw [if_pos c] at h; cases h
theorem nI_m1 {v : Nat} (h : v < 2 ^ 31) : ¬ nI v = -1 := fun z => by
  have : ¬ nI v < 0 := nI_pos h
  rw [z] at this; exact this (by decide)
/-- a power's line -/
def fPw (t pw a b : Nat) : Prop := (a = 103 ∧ 2 ≤ b) ∨ (a = t ∧ b = 2) ∨ (a = t + 2 + pw ∧ pw < 20)
def k_X7_readPower : zCt := fun as n mem Q => ∃ (k K t np pw : Nat) (T : zTS) (R : Nat → Nat → Int32), as = [.ref 103] ∧ cP n mem T K t np pw ∧ qA mem T K k ∧ ((T k).1 = 6 ∨ (T k).1 = 7) ∧ (∀ p, p < pw → mem.1 (t + 2 + p) 0 = R p 0 ∧ mem.1 (t + 2 + p) 6 = R p 6 ∧ mem.1 (t + 2 + p) 8 = R p 8) ∧ cRes (fPw t pw) n mem Q (rpT T np pw R k) (fun x M => qA M T K x.1 ∧ pw < 20 ∧ M.1 t 2 = nI (pw + 1) ∧ cRow (M.1 (t + 2 + pw)) (setR R pw x.2 pw))
theorem ok_X7_readPower {l : Launch} {G : zG} : zOK l G yX7_readPower cX7_readPower 3 (some .boolean) 4 0 0 k_X7_readPower := by
  intro as n mem Q hK
  obtain ⟨k, K, t, np, pw, T, R, rfl, hC, hA, hk, hR, hQ⟩ := hK
  refine mtX7_readPower ok_X7_refuse (by decide) ok_X5_clear (by decide) ok_X7_readUpper (by decide) ok_X7_readGiver (by decide) ok_X7_readHolders (by decide) ok_X7_readTogether (by decide) ok_X7_readKinds (by decide) ok_X7_readRest (by decide) (List.forall_mem_cons.mpr ⟨rfl, fun _ h => absurd h List.not_mem_nil⟩) (by simp) rfl (fun P hP => ?_)
  show P 0 [.ref 103, .null, .null] [] n mem
  have hB := hC.1
  have hn := hB.1.1
  have hF := hB.1.2
  have hT := hC.2.1
  have hp20 := hC.2.2.2.2.2.2
  have r2 := hC.2.2.2.2.2.1
  unfold rpT at hQ
  by_cases h20 : pw = 20
  · rw [if_pos h20] at hQ
    refine hP _ _ _ _ _ ?_
    refine hP _ _ _ _ _ ⟨(zi hn rfl rfl rfl), _, hC.2.2.1, (by omega), ?_⟩
    refine hP _ _ _ _ _ ⟨(ztT hn hT), ?_⟩
    refine hP _ _ _ _ _ ?_
    refine hP _ _ _ _ _ ⟨fun hz => absurd hz ( by rw [r2, h20]; decide), fun _ => ?_⟩
    refine hP _ _ _ _ _ ?_
    refine hP _ _ _ _ _ ?_
    refine hP _ _ _ _ _ ⟨(zi hn rfl rfl rfl), Nat.le_of_ble_eq_true rfl, Nat.le_of_ble_eq_true rfl, ?_⟩
    refine use_rf (w := 4) hB hA fun M2 f2 h5' h6' => ?_
    refine hP _ _ _ _ _ ?_
    exact ⟨by decide, rfl, hQ M2 (f2.mono fun _ _ z => Or.inl z) h5' h6'⟩
  rw [if_neg h20, rdT_c] at hQ
  have hpw : pw < 20 := by omega
  have hx : t + 2 + pw ≠ 103 := by omega
  generalize hxe : t + 2 + pw = x at hx
  have zx : zis n x (.inl 5) := by rw [← hxe]; exact ztP hn hT hpw
  have f111 : ∀ M v1 v2, Q (some (.int 0)) n M → P 111 [.ref 103, v1, v2] [] n M := by
    intro M v1 v2 h
    refine hP _ _ _ _ _ ?_
    refine hP _ _ _ _ _ ?_
    exact ⟨by decide, rfl, h⟩
  have f74 : ∀ M v2, Q (some (.int 0)) n M → P 74 [.ref 103, .ref x, v2] [.int 0] n M := by
    intro M v2 h
    refine hP _ _ _ _ _ ?_
    refine hP _ _ _ _ _ ?_
    refine hP _ _ _ _ _ ⟨fun _ => ?_, fun hz => absurd ( rfl) hz⟩
    exact f111 M _ _ h
  have toP : ∀ {M : zM}, zfr (cRw x (fun _ => True)) mem M → zfr (fPw t pw) mem M := fun f => f.mono fun a b z => by
    rcases z with z | z
    · exact Or.inl z
    · exact Or.inr (Or.inr ⟨by rw [hxe]; exact z.1, hpw⟩)
  have up : ∀ {J : Nat → Prop} {M N : zM}, zfr (cRw x (fun _ => True)) mem M → zfr (cRw x J) M N → zfr (cRw x (fun _ => True)) mem N := fun f g => f.tr (g.mono fun a b z => z.imp id fun y => ⟨y.1, trivial⟩)
  have st : ∀ {M : zM}, zfr (cRw x (fun _ => True)) mem M → cP n M T K t np pw := fun f => cP_fr (p := pw) hpw (by rw [hxe]; exact f) hC
  have ot : ∀ {J : Nat → Prop} {M N : zM} {j : Nat}, zfr (cRw x J) M N → ¬ J j → N.1 x j = M.1 x j := fun f hj => f.1 x _ (fun z => z.elim (fun y => hx y.1) (fun y => hj y.2))
  have hbl : (∀ i, np ≤ i → i < 32 → True) := fun _ _ _ => trivial
  have after : ∀ (g : Nat × Int32 × Int32) M1, gvT T np pw R k = .inr g → zfr (cRw x (fun _ => True)) mem M1 → M1.1 103 5 = mem.1 103 5 → qA M1 T K g.1 → M1.1 x 0 = g.2.1 → M1.1 x 7 = g.2.2 → M1.1 x 8 = 1 <<< (nI pw &&& 31) ||| (if g.2.2 = -1 then 0 else R (ix g.2.2) 8) → M1.1 x 1 = 0 → M1.1 x 3 = 0 → M1.1 x 5 = -1 → M1.1 x 6 = 0 → M1.1 x 11 = -1 → M1.1 x 12 = -1 → M1.1 x 13 = -1 → M1.1 x 14 = 0 → ∀ v2, P 74 [.ref 103, .ref x, v2] [.int 1] n M1 := by
    intro g M1 hog f1 q1 hA1 a0 a7 a8 a1 a3 a5 a6 a11 a12 a13 a14 v2
    rw [ob_r hog] at hQ
    have c1 := st f1
    refine hP _ _ _ _ _ ?_
    refine hP _ _ _ _ _ ?_
    refine hP _ _ _ _ _ ⟨fun hz => absurd hz ( by decide), fun _ => ?_⟩
    refine hP _ _ _ _ _ ?_
    refine hP _ _ _ _ _ ?_
    refine hP _ _ _ _ _ ⟨(zi hn rfl rfl rfl), Nat.le_of_ble_eq_true rfl, Nat.le_of_ble_eq_true rfl, ?_⟩
    rw [← hxe] at a0 a1
    refine ⟨g.1, K, t, np, pw, T, by rw [hxe]; rfl, hpw, c1, hA1, a1, ?_⟩
    rw [a0, hxe]
    rw [hxe] at a0 a1
    refine cr_i (fun e ho M' f' g5 g6 => ?_) (fun h ho2 M2 f2 q2 hg2 => ?_)
    · exact hP _ _ _ _ _ ⟨fun _ => f111 M' _ _ (cr_f hQ (ob_l ho) M' (toP (up f1 f')) g5 g6), fun hz => absurd rfl hz⟩
    rw [ob_r ho2] at hQ
    have fm2 := up f1 f2
    have c2 := st fm2
    have hs : zs8 h.2 := by
      cases hz : tkT T 8 g.1 with
      | inl e => rw [ob_l hz] at ho2; cases ho2
      | inr k1 => rw [ob_r hz] at ho2; exact hs_s8 hC.2.2.2.2.1 ho2
    refine hP _ _ _ _ _ ⟨fun hz => absurd hz ( by decide), fun _ => ?_⟩
    refine hP _ _ _ _ _ ?_
    refine hP _ _ _ _ _ ?_
    refine hP _ _ _ _ _ ⟨(zi hn rfl rfl rfl), Nat.le_of_ble_eq_true rfl, Nat.le_of_ble_eq_true rfl, ?_⟩
    obtain ⟨hA2, b1⟩ := hg2
    rw [← hxe] at b1
    refine ⟨h.1, K, t, np, pw, T, by rw [hxe]; rfl, hpw, c2, hA2, by rw [b1]; exact hs, ?_⟩
    rw [b1, hxe]
    rw [hxe] at b1
    refine cr_i (fun e ho M' f' g5 g6 => ?_) (fun tg ho3 M3 f3 q3 hg3 => ?_)
    · exact hP _ _ _ _ _ ⟨fun _ => f111 M' _ _ (cr_f hQ (ob_l ho) M' (toP (up fm2 f')) g5 g6), fun hz => absurd rfl hz⟩
    rw [ob_r ho3] at hQ
    have fm3 := up fm2 f3
    have c3 := st fm3
    obtain ⟨hA3, b2⟩ := hg3
    refine hP _ _ _ _ _ ⟨fun hz => absurd hz ( by decide), fun _ => ?_⟩
    refine hP _ _ _ _ _ ?_
    refine hP _ _ _ _ _ ?_
    refine hP _ _ _ _ _ ⟨(zi hn rfl rfl rfl), Nat.le_of_ble_eq_true rfl, Nat.le_of_ble_eq_true rfl, ?_⟩
    have a33 : M3.1 x 3 = 0 := (ot f3 (by omega)).trans ((ot f2 (by omega)).trans a3)
    refine ⟨tg.1, K, t, np, pw, T, by rw [hxe]; rfl, hpw, c3, hA3, by rw [hxe]; exact a33, ?_⟩
    rw [hxe]
    refine cr_i (fun e ho M' f' g5 g6 => ?_) (fun d ho4 M4 f4 q4 hg4 => ?_)
    · exact hP _ _ _ _ _ ⟨fun _ => f111 M' _ _ (cr_f hQ (ob_l ho) M' (toP (up fm3 f')) g5 g6), fun hz => absurd rfl hz⟩
    rw [ob_r ho4] at hQ
    have fm4 := up fm3 f4
    have c4 := st fm4
    obtain ⟨hA4, b3⟩ := hg4
    refine hP _ _ _ _ _ ⟨fun hz => absurd hz ( by decide), fun _ => ?_⟩
    refine hP _ _ _ _ _ ?_
    refine hP _ _ _ _ _ ?_
    refine hP _ _ _ _ _ ⟨(zi hn rfl rfl rfl), Nat.le_of_ble_eq_true rfl, Nat.le_of_ble_eq_true rfl, ?_⟩
    have a45 : M4.1 x 5 = -1 := (ot f4 (by omega)).trans ((ot f3 (by omega)).trans ((ot f2 (by omega)).trans a5))
    have a46 : M4.1 x 6 = 0 := (ot f4 (by omega)).trans ((ot f3 (by omega)).trans ((ot f2 (by omega)).trans a6))
    refine ⟨d.1, K, t, np, pw, T, by rw [hxe]; rfl, hpw, c4, hA4, by rw [hxe]; exact a45, by rw [hxe]; exact a46, ?_⟩
    rw [hxe]
    refine cr_i (fun e ho M' f' g5 g6 => ?_) (fun r ho5 M5 f5 q5 hg5 => ?_)
    · exact hP _ _ _ _ _ ⟨fun _ => f111 M' _ _ (cr_f hQ (ob_l ho) M' (toP (up fm4 f')) g5 g6), fun hz => absurd rfl hz⟩
    rw [ob_r ho5] at hQ
    have fm5 := up fm4 f5
    have c5 := st fm5
    have hF := c5.1.1.2
    obtain ⟨hA5, b4, b5, b6⟩ := hg5
    have low : ∀ j, (j = 0 ∨ j = 7 ∨ j = 8 ∨ 11 ≤ j) → M5.1 x j = M1.1 x j := fun j hj => (ot f5 (by omega)).trans ((ot f4 (by omega)).trans ((ot f3 (by omega)).trans (ot f2 (by omega))))
    have l1 : M5.1 x 1 = h.2 := (ot f5 (by omega)).trans ((ot f4 (by omega)).trans ((ot f3 (by omega)).trans b1))
    have l2 : M5.1 x 2 = nI tg.2 := (ot f5 (by omega)).trans ((ot f4 (by omega)).trans b2)
    have l3 : M5.1 x 3 = d.2 := (ot f5 (by omega)).trans b3
    refine hP _ _ _ _ _ ⟨fun hz => absurd hz ( by decide), fun _ => ?_⟩
    refine hP _ _ _ _ _ ?_
    refine hP _ _ _ _ _ ?_
    refine hP _ _ _ _ _ ⟨zx, ?_⟩
    refine hP _ _ _ _ _ ⟨zx, ?_⟩
    refine hP _ _ _ _ _ ?_
    refine hP _ _ _ _ _ ?_
    refine hP _ _ _ _ _ ⟨zx, ?_⟩
    refine hP _ _ _ _ _ ⟨zx, ?_⟩
    refine hP _ _ _ _ _ ?_
    refine hP _ _ _ _ _ ⟨(zi hn rfl rfl rfl), _, c5.2.2.1, (by omega), ?_⟩
    refine hP _ _ _ _ _ ?_
    refine hP _ _ _ _ _ ⟨(ztT hn hT), ?_⟩
    refine hP _ _ _ _ _ ?_
    refine hP _ _ _ _ _ ?_
    refine hP _ _ _ _ _ ⟨(ztT hn hT), ?_⟩
    refine hP _ _ _ _ _ ?_
    refine hP _ _ _ _ _ ?_
    have htx : t ≠ x := by omega
    refine ⟨by decide, rfl, hQ _ ((((toP fm5).I (Or.inr (Or.inr ⟨hxe.symm, hpw⟩))).I (Or.inr (Or.inr ⟨hxe.symm, hpw⟩))).I (Or.inr (Or.inl ⟨rfl, rfl⟩))) (by rw [zI_ne (by omega), zI_ne (by omega), zI_ne (by omega)]; exact q5.trans (q4.trans (q3.trans (q2.trans q1)))) ⟨at_w (by omega) (at_w hx (at_w hx hA5)), hpw, by rw [zI_s, zI_ne htx, zI_ne htx, c5.2.2.2.2.2.1]; exact nI_1 pw, ?_⟩⟩
    rw [hxe, zI_ne htx.symm]
    have fl : ∀ j, j ≠ 9 → j ≠ 10 → (zI (zI M5 x 9 (M5.1 x 3)) x 10 ((zI M5 x 9 (M5.1 x 3)).1 x 4)).1 x j = M5.1 x j := fun j h9 h10 => by rw [zI_o h10, zI_o h9]
    refine ⟨fun j hj => ?_, ?_, ?_, ?_, ?_, ?_, ?_⟩
    · rw [fl j (by omega) (by omega)]
      unfold setR
      rw [if_pos rfl]
      by_cases hj8 : j = 8
      · subst hj8; rw [if_neg (by omega), low 8 (by omega), a8]; rfl
      · rw [if_pos (by omega)]
        rcases (show j = 0 ∨ j = 1 ∨ j = 2 ∨ j = 3 ∨ j = 4 ∨ j = 5 ∨ j = 6 ∨ j = 7 by omega) with rfl | rfl | rfl | rfl | rfl | rfl | rfl | rfl
        · exact (low 0 (by omega)).trans a0
        · exact l1
        · exact l2
        · exact l3
        · exact b4
        · exact b5
        · exact b6
        · exact (low 7 (by omega)).trans a7
    · rw [zI_o (by omega), zI_s, l3]; unfold setR; rw [if_pos rfl, if_pos (by decide)]; rfl
    · rw [zI_s, zI_o (by omega), b4]; unfold setR; rw [if_pos rfl, if_pos (by decide)]; rfl
    · rw [fl 11 (by omega) (by omega), low 11 (by omega)]; exact a11
    · rw [fl 12 (by omega) (by omega), low 12 (by omega)]; exact a12
    · rw [fl 13 (by omega) (by omega), low 13 (by omega)]; exact a13
    · rw [fl 14 (by omega) (by omega), low 14 (by omega)]; exact a14
  have e8 : (1 : Int32) <<< (mem.1 t 2 &&& 31) = 1 <<< (nI pw &&& 31) := by rw [r2]
  refine hP _ _ _ _ _ ?_
  refine hP _ _ _ _ _ ⟨(zi hn rfl rfl rfl), _, hC.2.2.1, (by omega), ?_⟩
  refine hP _ _ _ _ _ ⟨(ztT hn hT), ?_⟩
  refine hP _ _ _ _ _ ?_
  refine hP _ _ _ _ _ ⟨fun _ => ?_, fun hz => absurd ( by rw [r2]; exact nI_lt (b := 20) (by omega) (by omega)) hz⟩
  refine hP _ _ _ _ _ ?_
  refine hP _ _ _ _ _ ⟨(zi hn rfl rfl rfl), _, hC.2.2.1, (by omega), ?_⟩
  refine hP _ _ _ _ _ ⟨(ztT hn hT), _, (fx_tp hF hT), (by omega), ?_⟩
  refine hP _ _ _ _ _ ?_
  refine hP _ _ _ _ _ ⟨(zi hn rfl rfl rfl), _, hC.2.2.1, (by omega), ?_⟩
  refine hP _ _ _ _ _ ⟨(ztT hn hT), ?_⟩
  refine hP _ _ _ _ _ ⟨_, pw, (ztA hn hT), r2, by omega, _, ((fx_pw hF hT hpw).trans hxe), (by omega), ?_⟩
  refine hP _ _ _ _ _ ?_
  refine hP _ _ _ _ _ ?_
  refine hP _ _ _ _ _ ⟨zx, Nat.le_of_ble_eq_true rfl, Nat.le_of_ble_eq_true rfl, ?_⟩
  refine ⟨x, rfl, ⟨hn, hF⟩, zx, fun M fM hcl => ?_⟩
  obtain ⟨z1, z3, z5, z6, z7, z11, z12, z13, z14⟩ := hcl
  have fM1 : zfr (cRw x (fun _ => True)) mem M := fM.mono fun a b z => Or.inr ⟨z, trivial⟩
  have cM := st fM1
  refine hP _ _ _ _ _ ?_
  refine hP _ _ _ _ _ ?_
  refine hP _ _ _ _ _ ?_
  refine hP _ _ _ _ _ ⟨(zi hn rfl rfl rfl), _, cM.2.2.1, (by omega), ?_⟩
  refine hP _ _ _ _ _ ⟨(ztT hn hT), ?_⟩
  refine hP _ _ _ _ _ ?_
  refine hP _ _ _ _ _ ⟨zx, ?_⟩
  have fN : zfr (cRw x (fun _ => True)) mem (zI M x 8 (1 <<< (M.1 t 2 &&& 31))) := fM1.I (Or.inr ⟨rfl, trivial⟩)
  have cN := st fN
  have hF := cN.1.1.2
  have e8 : (1 : Int32) <<< (M.1 t 2 &&& 31) = 1 <<< (nI pw &&& 31) := by rw [cM.2.2.2.2.2.1]
  have hAN : qA (zI M x 8 (1 <<< (M.1 t 2 &&& 31))) T K k := at_w hx ⟨hA.1, (fM.1 103 2 (by omega)).trans hA.2.1, (fM.2.2 103 3 (by omega)).trans hA.2.2.1, fun z => (fM.1 103 4 (by omega)).trans (hA.2.2.2 z)⟩
  have q0 : (zI M x 8 (1 <<< (M.1 t 2 &&& 31))).1 103 5 = mem.1 103 5 := by rw [zI_ne (by omega)]; exact fM.1 103 5 (by omega)
  have ht := at_lt cN.1 hA.1
  refine hP _ _ _ _ _ ?_
  refine hP _ _ _ _ _ ⟨(zi hn rfl rfl rfl), _, hAN.2.2.1, (by omega), ?_⟩
  refine hP _ _ _ _ _ ?_
  refine hP _ _ _ _ _ ⟨ztk ht, ztc rfl rfl, fun h58 => ?_, fun h58 => ?_⟩
  ·
    have h7 : (T k).1 = 7 := by have h58 : (T k).1 + 2 = 9 := h58; omega
    refine hP _ _ _ _ _ ?_
    refine hP _ _ _ _ _ ?_
    refine hP _ _ _ _ _ ⟨(zi hn rfl rfl rfl), Nat.le_of_ble_eq_true rfl, Nat.le_of_ble_eq_true rfl, ?_⟩
    refine ⟨k, K, t, np, pw, T, R, by rw [hxe]; rfl, hpw, cN, hAN, h7, fun p hp => ?_, ?_⟩
    · have e : ∀ j, (zI M x 8 (1 <<< (M.1 t 2 &&& 31))).1 (t + 2 + p) j = mem.1 (t + 2 + p) j := fun j => by rw [zI_ne (by omega)]; exact fM.1 _ j (by omega)
      rw [e, e, e]; exact hR p hp
    rw [hxe]
    refine cr_i (fun e ho M' f' g5 g6 => hP _ _ _ _ _ (f74 M' _ (cr_f hQ (ob_l ho) M' (toP (up fN f')) g5 g6))) (fun g ho M1 f1 q1 hg => ?_)
    obtain ⟨hA1, a0, a7, a8⟩ := hg
    obtain ⟨v, hv, ev⟩ := gv7 h7 ho
    have o1 : ∀ j, ¬ (j = 0 ∨ j = 7 ∨ j = 8) → M1.1 x j = M.1 x j := fun j hj => (ot f1 hj).trans (zI_o (by omega))
    refine hP _ _ _ _ _ (after g M1 ho (up fN f1) (q1.trans q0) hA1 a0 a7 ?_ ((o1 1 (by omega)).trans z1) ((o1 3 (by omega)).trans z3) ((o1 5 (by omega)).trans z5) ((o1 6 (by omega)).trans z6) ((o1 11 (by omega)).trans z11) ((o1 12 (by omega)).trans z12) ((o1 13 (by omega)).trans z13) ((o1 14 (by omega)).trans z14) _)
    rw [a8, zI_s]
    show (1 : Int32) <<< (M.1 t 2 &&& 31) ||| R (ix g.2.2) 8 = _
    rw [e8, ev, if_neg (nI_m1 (by omega))]
    done
  ·
    have h6 : (T k).1 = 6 := by have h58 : ¬ (T k).1 + 2 = 9 := h58; omega
    refine hP _ _ _ _ _ ?_
    refine hP _ _ _ _ _ ?_
    refine hP _ _ _ _ _ ⟨(zi hn rfl rfl rfl), Nat.le_of_ble_eq_true rfl, Nat.le_of_ble_eq_true rfl, ?_⟩
    refine ⟨k, K, t, np, pw, T, R, by rw [hxe]; rfl, hpw, cN, hAN, h6, ?_⟩
    rw [hxe]
    refine cr_i (fun e ho M' f' g5 g6 => f74 M' _ (cr_f hQ (ob_l ho) M' (toP (up fN f')) g5 g6)) (fun g ho M1 f1 q1 hg => ?_)
    obtain ⟨hA1, a0⟩ := hg
    have ev := gv6 h6 ho
    have o1 : ∀ j, j ≠ 0 → M1.1 x j = (zI M x 8 (1 <<< (M.1 t 2 &&& 31))).1 x j := fun j hj => ot f1 hj
    have o2 : ∀ j, j ≠ 0 → j ≠ 8 → M1.1 x j = M.1 x j := fun j hj h8 => (o1 j hj).trans (zI_o h8)
    refine after g M1 ho (up fN f1) (q1.trans q0) hA1 a0 ?_ ?_ ((o2 1 (by omega) (by omega)).trans z1) ((o2 3 (by omega) (by omega)).trans z3) ((o2 5 (by omega) (by omega)).trans z5) ((o2 6 (by omega) (by omega)).trans z6) ((o2 11 (by omega) (by omega)).trans z11) ((o2 12 (by omega) (by omega)).trans z12) ((o2 13 (by omega) (by omega)).trans z13) ((o2 14 (by omega) (by omega)).trans z14) _
    · rw [o2 7 (by omega) (by omega), z7, ev]
    · rw [o1 8 (by omega), zI_s, if_pos ev, or_0]; exact e8
    done
