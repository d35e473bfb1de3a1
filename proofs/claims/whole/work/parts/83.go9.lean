/-! ===== does ===== -/
theorem opF_g {g g' : Nat → Nat → Int32} {pw c : Nat} {am th d dd : Int32} (h : ∀ p, p < pw → g p = g' p) : ∀ i, i ≤ pw → opF g c am th d dd i = opF g' c am th d dd i := by
  intro i
  induction i with
  | zero => intro _; rfl
  | succ i ih =>
    intro hi
    rw [opF, opF, ih (by omega)]
    unfold opS
    rw [h i (by omega)]
theorem ubC_g {g g' : Nat → Nat → Int32} {fi op lv ps : Int32} {np : Nat} {W : Nat → Int32} {p : Nat} (h : g p = g' p) : ubC g fi np op lv ps W p = ubC g' fi np op lv ps W p := by
  unfold ubC
  rw [h]
theorem nxF_g {g g' : Nat → Nat → Int32} {fi op lv ps : Int32} {np pw : Nat} {W : Nat → Int32} {x : Nat} (h : ∀ p, p < pw → g p = g' p) : ∀ i, i ≤ pw → nxF g fi np op lv ps W x i = nxF g' fi np op lv ps W x i := by
  intro i
  induction i with
  | zero => intro _; rfl
  | succ i ih =>
    intro hi
    rw [nxF, nxF, ih (by omega), ubC_g (h i (by omega)), h i (by omega)]
theorem WL_g {g g' : Nat → Nat → Int32} {fi op lv ps : Int32} {np pw : Nat} (h : ∀ p, p < pw → g p = g' p) : ∀ j, WL g fi np pw op lv ps j = WL g' fi np pw op lv ps j := by
  intro j
  induction j with
  | zero => rfl
  | succ j ih =>
    funext x
    show nxF g fi np op lv ps (WL g fi np pw op lv ps j) x pw = nxF g' fi np op lv ps (WL g' fi np pw op lv ps j) x pw
    rw [ih]
    exact nxF_g h pw (Nat.le_refl _)
theorem fsC_g {g g' : Nat → Nat → Int32} {pt : Int32} {ub ub' : Nat → Int32} {pw : Nat} (h : ∀ p, p < pw → g p = g' p) (hu : ∀ p, p < pw → ub p = ub' p) : ∀ i, i ≤ pw → fsC g pt ub i = fsC g' pt ub' i ∧ usC g pt ub i = usC g' pt ub' i := by
  intro i
  induction i with
  | zero => intro _; exact ⟨rfl, rfl⟩
  | succ i ih =>
    intro hi
    obtain ⟨a, b⟩ := ih (by omega)
    rw [fsC, fsC, usC, usC, a, b, h i (by omega), hu i (by omega)]
    exact ⟨rfl, rfl⟩
/-- the judge reads the class's rows alone -/
theorem jd_g {A N : zM} {t np pw c : Nat} {am th ps pt : Int32} (hr : ∀ p, p < pw → N.1 (t + 2 + p) = A.1 (t + 2 + p)) (h3 : N.1 t 3 = A.1 t 3) (h5 : N.1 108 5 = A.1 108 5) (h6 : N.1 108 6 = A.1 108 6) (h113 : N.1 113 = A.1 113) : opN N t pw c am th = opN A t pw c am th ∧ ∀ op, fsN N t np pw op ps pt = fsN A t np pw op ps pt ∧ usN N t np pw op ps pt = usN A t np pw op ps pt := by
  have hg : ∀ p, p < pw → gC N t p = gC A t p := hr
  refine ⟨?_, fun op => ?_⟩
  · unfold opN
    rw [h5, h6, h113]
    exact opF_g hg pw (Nat.le_refl _)
  · unfold fsN usN
    rw [h5, h113]
    refine fsC_g hg (fun p hp => ?_) pw (Nat.le_refl _)
    unfold ubX
    rw [h3, WL_g hg 3]
    exact ubC_g (hg p hp)
theorem go_does {n : Nat} {mem : zM} {Q : zPo} {ps pt th kd am : Int32} (hJ : J n mem) (hQ : ∀ r M, zTw k_X11_does [.ref 180, .int ps, .int pt, .int th, .int kd, .int am] n r M → Q (some (.int r)) n M) : k_X10_does [.ref 100, .int ps, .int pt, .int th, .int kd, .int am] n mem Q := by
  obtain ⟨t, np, pw, m, na, hj⟩ := hJ
  have hj0 := J_t hj
  obtain ⟨-, hC, hP, hE, hN'⟩ := id hj.1
  have hT := hC.2.1
  have h20 := hC.2.2.2.1.2.2
  have h8 := hC.2.2.1.2.2
  have h16 := hC.2.2.2.2.2.2.2.2.2
  have e13 : mem.1 180 13 = nI np := hC.2.2.1.2.1
  have e15 : mem.1 180 15 = nI pw := hC.2.2.2.1.2.1
  have e27 : mem.1 180 27 = nI m := hC.2.2.2.2.2.1.2.1
  have e29 : mem.1 180 29 = nI na := hC.2.2.2.2.2.2.2.2.1
  refine ⟨ps, pt, th, kd, am, t, np, pw, m, na, rfl, jB_Cs hj.1, ?_⟩
  have cond : ∀ M : zM, M.1 180 13 = mem.1 180 13 → M.1 180 14 = mem.1 180 14 → M.1 180 27 = nI m → M.1 180 29 = nI na → ((askedM (M.1 180) ps pt kd am = false ∨ isin th 0 (M.1 180 13 - 1) = false ∨ th = pt ∨ bt ps (ix th) = true ∨ mfull M = true ∨ M.1 180 29 = 16) ↔ ((mayC mem t ps pt && (kdC kd && amC am)) = false ∨ inC th (nI np) = false ∨ th = pt ∨ bt ps (ix th) = true ∨ cfull mem = true ∨ ¬ nI na < 16)) := fun M a b c d => by
    rw [← asked_eq hj a b, a, e13, ← inC_in (by omega), full_eq hC.2.2.2.2.2.1.1 c hC.2.2.2.2.2.1.2.2, d]
    have e : nI na = 16 ↔ ¬ nI na < 16 := ⟨fun z => by rw [z]; decide, fun z => by
      have : ¬ na < 16 := fun w => z (nI_lt (b := 16) w (by omega))
      rw [show na = 16 by omega]; rfl⟩
    rw [e]
  unfold C_does
  rw [hC.2.2.1.1, hC.2.2.2.2.2.2.2.1, hC.2.2.2.2.2.1.1]
  by_cases h1 : (mayC mem t ps pt && (kdC kd && amC am)) = false ∨ inC th (nI np) = false ∨ th = pt ∨ bt ps (ix th) = true ∨ cfull mem = true ∨ ¬ nI na < 16
  · rw [if_pos h1]
    refine hQ _ _ fun Q2 hq => ⟨ps, pt, th, kd, am, np, pw, m, na, rfl, hj.1.1, jB_Mc hj0.1, ?_⟩
    unfold T_does
    rw [if_pos ((cond (zI mem 180 0 0) rfl rfl e27 e29).mpr h1)]
    exact hq _ ⟨t, np, pw, m, na, hj0⟩
  rw [if_neg h1]
  have edead : ∀ M : zM, M.1 187 = mem.1 187 → M.1 180 27 = nI m → (¬ deadM (M.1 187) (M.1 180 27) np &&& (ps ||| 1 <<< (pt &&& 31) ||| 1 <<< (th &&& 31)) = 0 ↔ ¬ (ps ||| 1 <<< (pt &&& 31) ||| 1 <<< (th &&& 31)) &&& deadM (mem.1 113) (nI m) 8 = 0) := fun M a b => by
    rw [a, b, dead_eq h8 hE, Int32.and_comm]
  by_cases h2 : ¬ (ps ||| 1 <<< (pt &&& 31) ||| 1 <<< (th &&& 31)) &&& deadM (mem.1 113) (nI m) 8 = 0
  · rw [if_pos h2]
    refine hQ _ _ fun Q2 hq => ⟨ps, pt, th, kd, am, np, pw, m, na, rfl, hj.1.1, jB_Mc hj0.1, ?_⟩
    unfold T_does
    rw [if_neg (fun z => h1 ((cond (zI mem 180 0 0) rfl rfl e27 e29).mp z)), if_pos ((edead (zI mem 180 0 0) (zI_ne (by omega)) e27).mpr h2)]
    exact hq _ ⟨t, np, pw, m, na, hj0⟩
  rw [if_neg h2]
  intro A M hA fM m11 m9 m10
  have h1' := h1
  simp only [not_or, Bool.not_eq_false, Bool.not_eq_true, Decidable.not_not] at h1
  have hm : m < 300 := cfull_m hC.2.2.2.2.2.1.1 hC.2.2.2.2.2.1.2.2 h1.2.2.2.2.1
  have hna : na < 16 := (nI_ltI (by omega) (by omega)).mp h1.2.2.2.2.2
  have hat : askedM (mem.1 180) ps pt kd am = true := by rw [← asked_eq hj rfl rfl]; exact h1.1
  obtain ⟨⟨q, hqn, rfl⟩, ⟨c, hc6, rfl⟩, ⟨a9, ha9, rfl⟩⟩ := asked_p e13 h8 hat
  obtain ⟨g, hg, rfl⟩ := inC_nI (by omega) h1.2.1
  have icx : ix (nI c) = c := ix_nI (by omega)
  rw [icx] at m11 m9 m10
  have hd : ∀ x, x < 8 → bt (mem.1 180 14) x = true → bt ps x = false := asked_pf hat
  -- the class's part
  have eA : ∀ a b, A.1 a b = if a = 120 + na ∧ b < 9 then (if b = 0 then ps else if b = 1 then nI q else if b = 2 then nI g else if b = 3 then nI c else if b = 4 then nI a9 else if b = 5 then nI (m + 1) else if b = 6 then mem.1 108 6 else -1) else if a = 108 ∧ b = 5 then nI (m + 1) else if a = 109 ∧ b = m + 1 then mem.1 108 6 else if a = 110 ∧ b = m + 1 then -1 else mem.1 a b := by
    intro a b
    rw [hA]
    unfold actP
    rw [zI_at, zI_at, zI_at, zI_at, cput_at, zI_ne (a := 108) (show 108 ≠ 120 + na by omega), zI_ne (a := 108) (show 108 ≠ 120 + na by omega), zI_ne (a := 108) (show 108 ≠ 120 + na by omega), zI_ne (a := 108) (show 108 ≠ 120 + na by omega), zI_ne (a := 108) (show 108 ≠ 120 + na by omega), zI_at, zI_at, zI_at, zI_at, zI_at]
    by_cases ha : a = 120 + na
    · subst ha
      rw [if_neg (show ¬ (120 + na = 108 ∧ b = 5) by omega), if_neg (show ¬ (120 + na = 109 ∧ b = m + 1) by omega), if_neg (show ¬ (120 + na = 110 ∧ b = m + 1) by omega), if_neg (show ¬ (120 + na = 108 ∧ b = 5) by omega), if_neg (show ¬ (120 + na = 109 ∧ b = m + 1) by omega), if_neg (show ¬ (120 + na = 110 ∧ b = m + 1) by omega)]
      simp only [if_true, true_and]
      by_cases hb : b < 9
      · rw [if_pos hb]
        rcases (show b = 0 ∨ b = 1 ∨ b = 2 ∨ b = 3 ∨ b = 4 ∨ b = 5 ∨ b = 6 ∨ b = 7 ∨ b = 8 by omega) with rfl | rfl | rfl | rfl | rfl | rfl | rfl | rfl | rfl <;> rfl
      · rw [if_neg hb, if_neg (by omega), if_neg (by omega), if_neg (by omega), if_neg (by omega), if_neg (by omega), if_neg (by omega), if_neg (by omega), if_neg (by omega), if_neg (by omega)]
    · simp only [if_neg ha, if_neg (fun z : a = 120 + na ∧ b < 9 => ha z.1)]
  have a2 : A.2 = mem.2 := by rw [hA]; rfl
  have eM : ∀ a b, ¬ sX (120 + na) a b → M.1 a b = A.1 a b := fM.1
  have ehi : ∀ a b, 180 ≤ a → (zI M 100 6 (nI (na + 1))).1 a b = mem.1 a b := fun a b ha => by
    rw [zI_ne (by omega), eM a b (by unfold sX sJ; omega), eA a b, if_neg (by omega), if_neg (by omega), if_neg (by omega), if_neg (by omega)]
  have hFM : zFx M := zFx_X fM (by omega) (by unfold zFx; rw [a2]; exact hj.1.1.2)
  have hst1 : zst n (zI M 100 6 (nI (na + 1))) := ⟨hj.1.1.1, hFM⟩
  refine hQ _ _ fun Q2 hq => ⟨ps, nI q, nI g, nI c, nI a9, np, pw, m, na, rfl, hst1, Mc_hi ehi (jB_Mc hj.1), ?_⟩
  generalize hC0 : zI M 100 6 (nI (na + 1)) = C at ehi hst1
  have eR : ∀ a, 181 ≤ a → (zI C 180 0 0).1 a = mem.1 a := fun a ha => by funext b; rw [zI_ne (by omega)]; exact ehi a b (by omega)
  have eR0 : ∀ b, b ≠ 0 → (zI C 180 0 0).1 180 b = mem.1 180 b := fun b hb => by rw [zI_o hb]; exact ehi 180 b (by omega)
  unfold T_does
  rw [if_neg (fun z => h1' ((cond (zI C 180 0 0) (eR0 13 (by omega)) (eR0 14 (by omega)) ((eR0 27 (by omega)).trans e27) ((eR0 29 (by omega)).trans e29)).mp z)), if_neg (fun z => h2 ((edead (zI C 180 0 0) (eR 187 (by omega)) ((eR0 27 (by omega)).trans e27)).mp z))]
  generalize hN : zI (zI (zI (zI (zI (zI (zI (zI (zI (zI (zput (zI C 180 0 0) m) 191 (9 * na) ps) 191 (9 * na + 1) (nI q)) 191 (9 * na + 2) (nI g)) 191 (9 * na + 3) (nI c)) 191 (9 * na + 4) (nI a9)) 191 (9 * na + 5) (nI (m + 1))) 191 (9 * na + 6) ((zI C 180 0 0).1 180 28)) 191 (9 * na + 7) (-1)) 191 (9 * na + 8) (-1)) 180 29 (nI (na + 1)) = N
  have day : (zI C 180 0 0).1 180 28 = mem.1 108 6 := (eR0 28 (by omega)).trans hC.2.2.2.2.2.2.1.symm
  rw [day] at hN
  have n191 : ∀ b, N.1 191 b = if 9 * na ≤ b ∧ b < 9 * na + 9 then (if b = 9 * na then ps else if b = 9 * na + 1 then nI q else if b = 9 * na + 2 then nI g else if b = 9 * na + 3 then nI c else if b = 9 * na + 4 then nI a9 else if b = 9 * na + 5 then nI (m + 1) else if b = 9 * na + 6 then mem.1 108 6 else -1) else mem.1 191 b := by
    intro b
    rw [← hN, zI_ne (by omega), zI_at, if_pos rfl, zI_at, if_pos rfl, zI_at, if_pos rfl, zI_at, if_pos rfl, zI_at, if_pos rfl, zI_at, if_pos rfl, zI_at, if_pos rfl, zI_at, if_pos rfl, zI_at, if_pos rfl]
    by_cases hb : 9 * na ≤ b ∧ b < 9 * na + 9
    · rw [if_pos hb]
      obtain ⟨k, rfl⟩ : ∃ k, b = 9 * na + k := ⟨b - 9 * na, by omega⟩
      rcases (show k = 0 ∨ k = 1 ∨ k = 2 ∨ k = 3 ∨ k = 4 ∨ k = 5 ∨ k = 6 ∨ k = 7 ∨ k = 8 by omega) with rfl | rfl | rfl | rfl | rfl | rfl | rfl | rfl | rfl <;> simp
    · rw [if_neg hb, if_neg (by omega), if_neg (by omega), if_neg (by omega), if_neg (by omega), if_neg (by omega), if_neg (by omega), if_neg (by omega), if_neg (by omega), if_neg (by omega)]
      unfold zput
      rw [zI_ne (by omega), zI_ne (by omega), eR 191 (by omega)]
  have nhi : ∀ a, a ≠ 191 → a ≠ 180 → N.1 a = (zput (zI C 180 0 0) m).1 a := fun a h1 h2 => by
    rw [← hN, zI_ne h2, zI_ne h1, zI_ne h1, zI_ne h1, zI_ne h1, zI_ne h1, zI_ne h1, zI_ne h1, zI_ne h1, zI_ne h1]
  have n180 : ∀ b, b ≠ 29 → N.1 180 b = (zput (zI C 180 0 0) m).1 180 b := fun b hb => by
    rw [← hN, zI_o hb, zI_ne (by omega), zI_ne (by omega), zI_ne (by omega), zI_ne (by omega), zI_ne (by omega), zI_ne (by omega), zI_ne (by omega), zI_ne (by omega), zI_ne (by omega)]
  have nR : ∀ a, 181 ≤ a → a ≠ 184 → a ≠ 191 → N.1 a = mem.1 a := fun a h1 h2 h3 => by
    rw [nhi a h3 (by omega)]; unfold zput; rw [zI_ne h2, zI_ne (by omega)]; exact eR a h1
  have nC : ∀ a, a < 180 → N.1 a = C.1 a := fun a ha => by
    rw [nhi a (by omega) (by omega)]; unfold zput; rw [zI_ne (by omega), zI_ne (by omega), zI_ne (by omega)]
  have nA : ∀ a b, a < 180 → ¬ (a = 100 ∧ b = 6) → ¬ sX (120 + na) a b → N.1 a b = A.1 a b := fun a b h1 h2 h3 => by
    rw [nC a h1, ← hC0]
    by_cases z : a = 100
    · subst z; rw [zI_o (fun w => h2 ⟨rfl, w⟩)]; exact eM _ _ h3
    · rw [zI_ne z]; exact eM _ _ h3
  have nx : ∀ b, 9 ≤ b → N.1 (120 + na) b = M.1 (120 + na) b := fun b hb => by rw [nC _ (by omega), ← hC0, zI_ne (by omega)]
  have f : zfr (sEv m) mem N := by
    have f1 : zfr (sEv m) mem A := by
      refine ⟨fun a b s => ?_, fun a b _ => by rw [a2], fun a b _ => by rw [a2]⟩
      rw [eA a b, if_neg (fun z => s (by unfold sEv; omega)), if_neg (fun z => s (by unfold sEv; omega)), if_neg (fun z => s (by unfold sEv; omega)), if_neg (fun z => s (by unfold sEv; omega))]
    have f2 : zfr (sEv m) mem M := f1.tr (fM.mono fun a b z => by
      unfold sX at z
      rcases z with z | z
      · exact sQ_E (sJ_Q z)
      · unfold sEv; omega)
    have f3 : zfr (sEv m) mem (zI C 180 0 0) := by rw [← hC0]; exact (f2.I (by unfold sEv; omega)).I (by unfold sEv sQ; omega)
    rw [← hN]
    unfold zput
    refine zfr.I (zfr.I (zfr.I (zfr.I (zfr.I (zfr.I (zfr.I (zfr.I (zfr.I (zfr.I (zfr.I (zfr.I f3 ?_) ?_) ?_) ?_) ?_) ?_) ?_) ?_) ?_) ?_) ?_) ?_ <;> (unfold sEv; omega)
  have hstN : zst n N := by rw [← hN]; exact hst1
  have rp : ∀ p, p < pw → N.1 (t + 2 + p) = A.1 (t + 2 + p) := fun p hp => by funext b; exact nA _ b (by omega) (by omega) (by unfold sX sJ; omega)
  have rpm : ∀ p, p < pw → A.1 (t + 2 + p) = mem.1 (t + 2 + p) := fun p hp => by funext b; rw [eA, if_neg (by omega), if_neg (by omega), if_neg (by omega), if_neg (by omega)]
  have r113 : N.1 113 = A.1 113 := by funext b; exact nA _ b (by omega) (by omega) (by unfold sX sJ; omega)
  have r113m : A.1 113 = mem.1 113 := by funext b; rw [eA, if_neg (by omega), if_neg (by omega), if_neg (by omega), if_neg (by omega)]
  have n5 : N.1 108 5 = nI (m + 1) := by rw [nA 108 5 (by omega) (by omega) (by unfold sX sJ; omega), eA, if_neg (by omega), if_pos ⟨rfl, rfl⟩]
  have n6 : N.1 108 6 = mem.1 108 6 := by rw [nA 108 6 (by omega) (by omega) (by unfold sX sJ; omega), eA, if_neg (by omega), if_neg (by omega), if_neg (by omega), if_neg (by omega)]
  have n28 : N.1 180 28 = mem.1 180 28 := by rw [n180 28 (by omega)]; unfold zput; rw [zI_ne (by omega), zI_o (by omega)]; exact eR0 28 (by omega)
  have n14 : N.1 180 14 = mem.1 180 14 := by rw [n180 14 (by omega)]; unfold zput; rw [zI_ne (by omega), zI_o (by omega)]; exact eR0 14 (by omega)
  have n188 : N.1 188 (m + 1) = -1 := by rw [nR 188 (by omega) (by omega) (by omega)]; exact hN'.2.2.2.1 (m + 1) (by omega) (by omega)
  have key := ev_B hj.1 hm f hstN (na' := na + 1) n5 (by rw [n180 27 (by omega)]; unfold zput; rw [zI_ne (by omega), zI_s]) (by rw [nA 109 (m + 1) (by omega) (by omega) (by unfold sX sJ; omega), eA, if_neg (by omega), if_neg (by omega), if_pos ⟨rfl, rfl⟩]) (by rw [nhi 184 (by omega) (by omega)]; unfold zput; rw [zI_s]; exact eR0 28 (by omega)) ⟨by rw [nC 100 (by omega), ← hC0, zI_s], by rw [← hN, zI_s], by omega⟩ ⟨fun i => by rw [nR 185 (by omega) (by omega) (by omega)]; exact chg_r, fun i => by rw [nR 186 (by omega) (by omega) (by omega)]; exact chg_r, fun i => by rw [nR 187 (by omega) (by omega) (by omega)]; exact chg_r⟩ (fun p hp x hx => by rw [rp p hp, rpm p hp, nR 185 (by omega) (by omega) (by omega)]; exact (hE.1 p hp x hx).1) (fun p hp x hx => by rw [rp p hp, rpm p hp, nR 186 (by omega) (by omega) (by omega)]; exact (hE.2.1 p hp x hx).1) (fun x hx => by rw [r113, r113m, nR 187 (by omega) (by omega) (by omega)]; exact (hE.2.2.1 x hx).1) (fun x h1 h2 => by rw [nR 187 (by omega) (by omega) (by omega)]; exact hE.2.2.2 x h1 h2) ⟨by rw [n188, nA 110 (m + 1) (by omega) (by omega) (by unfold sX sJ; omega), eA, if_neg (by omega), if_neg (by omega), if_neg (by omega), if_pos ⟨rfl, rfl⟩], Or.inl n188⟩ (fun p hp => by
    have ne : ¬ (-1 : Int32) = nI p := fun z => nI_m1 (v := p) (by omega) z.symm
    rw [n188, if_neg ne, if_neg ne, rp p hp, rpm p hp]; exact ⟨rfl, rfl⟩)
  have old : jA N np pw (m + 1) na := ev_A key.2 (by omega) hj.2.2 (fun a ha x hx => by
      rw [n191, if_neg (by omega), nA (120 + a) x (by omega) (by omega) (by unfold sX sJ; omega), eA, if_neg (by omega), if_neg (by omega), if_neg (by omega), if_neg (by omega)]; exact (hj.2.2 a ha).1 x hx) (fun a ha x hx => by rw [n191, if_neg (by omega)]) (fun a ha x hx hy => by
      rw [nA (120 + a) x (by omega) (by omega) (by unfold sX sJ; omega), eA, if_neg (by omega), if_neg (by omega), if_neg (by omega), if_neg (by omega)])
  -- the new act
  have v0 : N.1 191 (9 * na) = ps := by rw [n191, if_pos (by omega), if_pos rfl]
  have v1 : N.1 191 (9 * na + 1) = nI q := by rw [n191, if_pos (by omega), if_neg (by omega), if_pos rfl]
  have v2 : N.1 191 (9 * na + 2) = nI g := by rw [n191, if_pos (by omega), if_neg (by omega), if_neg (by omega), if_pos rfl]
  have v3 : N.1 191 (9 * na + 3) = nI c := by rw [n191, if_pos (by omega), if_neg (by omega), if_neg (by omega), if_neg (by omega), if_pos rfl]
  have v4 : N.1 191 (9 * na + 4) = nI a9 := by rw [n191, if_pos (by omega), if_neg (by omega), if_neg (by omega), if_neg (by omega), if_neg (by omega), if_pos rfl]
  have v5 : N.1 191 (9 * na + 5) = nI (m + 1) := by rw [n191, if_pos (by omega), if_neg (by omega), if_neg (by omega), if_neg (by omega), if_neg (by omega), if_neg (by omega), if_pos rfl]
  have v6 : N.1 191 (9 * na + 6) = N.1 180 28 := by rw [n28, ← hC.2.2.2.2.2.2.1, n191, if_pos (by omega), if_neg (by omega), if_neg (by omega), if_neg (by omega), if_neg (by omega), if_neg (by omega), if_neg (by omega), if_pos rfl]
  have i5 : ix (nI (m + 1)) = m + 1 := ix_nI (by omega)
  have iq : ix (nI q) = q := ix_nI (by omega)
  have ev : ∀ wo th, vAa N np wo th na = vP N np (m + 1) (N.1 180 28) wo th ps (nI c) (nI a9) := fun wo th => by unfold vAa vA; rw [v0, v3, v4, v5, v6, i5]
  have hdN : ∀ x, x < 8 → bt (N.1 180 14) x = true → bt ps x = false := fun x hx hb => hd x hx (by rw [← n14]; exact hb)
  have jg : ∀ th, opN A t pw c (nI a9) th = opN N t pw c (nI a9) th ∧ ∀ op, fsN A t np pw op ps (nI q) = fsN N t np pw op ps (nI q) ∧ usN A t np pw op ps (nI q) = usN N t np pw op ps (nI q) := by
    intro th
    have h := jd_g (A := A) (N := N) (t := t) (np := np) (pw := pw) (c := c) (am := nI a9) (th := th) (ps := ps) (pt := nI q) rp (nA t 3 (by omega) (by omega) (by unfold sX sJ; omega)) (nA 108 5 (by omega) (by omega) (by unfold sX sJ; omega)) (nA 108 6 (by omega) (by omega) (by unfold sX sJ; omega)) r113
    exact ⟨h.1.symm, fun op => ⟨(h.2 op).1.symm, (h.2 op).2.symm⟩⟩
  have cn : ∀ th, (th = -1 ∨ ∃ x, x < 8 ∧ th = nI x) → fsN A t np pw (opN A t pw c (nI a9) th) ps (nI q) = canA N np pw 0 th na ∧ usN A t np pw (opN A t pw c (nI a9) th) ps (nI q) = usM np pw (vAa N np 0 th na) 3 q := by
    intro th hth
    have h := now_can key.1 (c := c) (by omega) (am := nI a9) (ps := ps) hth hdN (q := q) (by omega)
    have e1 := (jg th).1
    have e2 := (jg th).2 (opN N t pw c (nI a9) th)
    rw [e1, e2.1, e2.2, h.1, h.2, canA_eq, v1, iq]
    have e3 := ev 0 th
    unfold vAa at e3
    rw [e3]
    unfold vAa
    rw [e3]
    exact ⟨rfl, rfl⟩
  have c1 := cn (-1) (Or.inl rfl)
  have c2 := cn (nI g) (Or.inr ⟨g, by omega, rfl⟩)
  have new : (∀ j, j < 9 → N.1 (120 + na) j = N.1 191 (9 * na + j)) ∧ zAr (N.1 191) na ∧ ix (N.1 191 (9 * na + 5)) ≤ m + 1 ∧ (∀ h, h < 8 → bt (N.1 180 14) h = true → bt (N.1 191 (9 * na)) h = false) ∧ N.1 (120 + na) 9 = bThen N np pw na ∧ N.1 (120 + na) 10 = usdA N np pw na ∧ ∀ p, p < pw → bt (N.1 (120 + na) 11) p = opM (vAa N np 0 (-1) na) p := by
    have eb : N.1 (120 + na) 9 = bThen N np pw na := by
      rw [nx 9 (by omega), m9]
      unfold hwC bThen
      rw [c1.1, c2.1, v2]
    refine ⟨fun j hj => ?_, ⟨⟨q, by omega, v1⟩, ⟨g, by omega, v2⟩, ⟨c, hc6, v3⟩, ⟨m + 1, by omega, v5⟩⟩, by rw [v5, i5]; exact Nat.le_refl _, fun x hx hb => by rw [v0]; exact hdN x hx hb, eb, ?_, fun p hp => ?_⟩
    · rw [nA _ j (by omega) (by omega) (by unfold sX sJ; omega), eA, if_pos ⟨rfl, hj⟩, n191, if_pos (show 9 * na ≤ 9 * na + j ∧ 9 * na + j < 9 * na + 9 by omega)]
      rcases (show j = 0 ∨ j = 1 ∨ j = 2 ∨ j = 3 ∨ j = 4 ∨ j = 5 ∨ j = 6 ∨ j = 7 ∨ j = 8 by omega) with rfl | rfl | rfl | rfl | rfl | rfl | rfl | rfl | rfl <;> simp
    · rw [nx 10 (by omega), m10]
      unfold udC usdA thA
      unfold bThen
      rw [v1, iq, v2, ← c1.1, ← c2.1]
      by_cases z1 : fsN A t np pw (opN A t pw c (nI a9) (-1)) ps (nI q) = -1
      · have z1' : canA N np pw 0 (-1) na = -1 := c1.1.symm.trans z1
        by_cases z2 : fsN A t np pw (opN A t pw c (nI a9) (nI g)) ps (nI q) = -1
        · rw [if_pos z1]
          simp only [if_pos z1, if_pos z2, if_true]
          unfold usN
          unfold fsN at z2
          exact usC_0 pw (by omega) z2
        · rw [if_pos z1]
          simp only [if_pos z1, if_neg z2]
          rw [if_neg (by decide), if_neg (by decide)]
          exact c2.2
      · rw [if_neg z1]
        simp only [if_neg z1]
        rw [if_neg (by decide), if_pos trivial]
        exact c1.2
    · rw [nx 11 (by omega), m11, (jg (-1)).1, ev]
      exact core2 key.1 (by omega) (Or.inl rfl) p hp
  refine hq N ⟨t, np, pw, m + 1, na + 1, key.1, ev_T f hj.2.1, fun a ha => ?_⟩
  by_cases z : a = na
  · rw [z]; exact new
  · exact old a (by omega)
