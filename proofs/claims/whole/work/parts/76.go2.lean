/-! ===== events ===== -/
theorem full_eq {mem M : zM} {m : Nat} (h5 : mem.1 108 5 = nI m) (h27 : M.1 180 27 = nI m) (hm : m ≤ 300) : mfull M = cfull mem := by
  unfold mfull cfull
  rw [h5, h27]
  apply decide_eq_decide.mpr
  exact ⟨fun z => by have := (nI_eq (a := m) (b := 300) (by omega) (by omega)).mp z; subst this; decide, fun z => by
    have : ¬ m < 300 := fun w => z (nI_lt (b := 300) w (by omega))
    have : m = 300 := by omega
    subst this; rfl⟩
/-- an event that narrows nothing -/
theorem ev_J {n : Nat} {mem N : zM} {t np pw m na : Nat} (hj : jJ n mem t np pw m na) (hm : m < 300) (f : zfr (sEv m) mem N) (hst : zst n N) (h5 : N.1 108 5 = nI (m + 1)) (h27 : N.1 180 27 = nI (m + 1)) (h109 : N.1 109 (m + 1) = mem.1 108 6) (h184 : N.1 184 (m + 1) = mem.1 180 28) (h110 : N.1 110 (m + 1) = -1) (h188 : N.1 188 (m + 1) = mem.1 188 (m + 1)) (hV : evV m mem N)
    (r1 : ∀ p, p < pw → ∀ e, e < 3 → N.1 (t + 2 + p) (11 + e) = N.1 185 (3 * p + e)) (r2 : ∀ p, p < pw → ∀ q, q < 8 → bt (N.1 (t + 2 + p) 14) q = (!decide (N.1 186 (20 * q + p) = -1))) (r3 : ∀ q, q < 8 → N.1 113 q = N.1 187 q) (r4 : ∀ q, np ≤ q → q < 8 → N.1 187 q = -1) (h9 : ∀ p, p < pw → N.1 (t + 2 + p) 9 = mem.1 (t + 2 + p) 9 ∧ N.1 (t + 2 + p) 10 = mem.1 (t + 2 + p) 10)
    (a0 : N.1 100 6 = mem.1 100 6 ∧ N.1 180 29 = mem.1 180 29) (a1 : ∀ a, a < na → ∀ j, j < 9 → N.1 (120 + a) j = N.1 191 (9 * a + j)) (a2 : ∀ a, a < na → ∀ j, j < 7 → N.1 191 (9 * a + j) = mem.1 191 (9 * a + j)) (a3 : ∀ a, a < na → ∀ j, 9 ≤ j → j < 12 → N.1 (120 + a) j = mem.1 (120 + a) j) : J n N := by
  have hC := hj.1.2.1
  have hN := hj.1.2.2.2.2
  have e188 : N.1 188 (m + 1) = -1 := h188.trans (hN.2.2.2.1 (m + 1) (by omega) (by omega))
  have key := ev_B hj.1 hm f hst h5 h27 h109 h184 (na' := na) ⟨a0.1.trans hC.2.2.2.2.2.2.2.1, a0.2.trans hC.2.2.2.2.2.2.2.2.1, hC.2.2.2.2.2.2.2.2.2⟩ hV r1 r2 r3 r4 ⟨by rw [h110, e188], Or.inl e188⟩ (fun p hp => by
    have := hC.2.2.2.1.2.2
    have ne : ¬ (-1 : Int32) = nI p := fun z => nI_m1 (v := p) (by omega) z.symm
    rw [e188, if_neg ne, if_neg ne]; exact h9 p hp)
  exact ⟨t, np, pw, m + 1, na, key.1, ev_T f hj.2.1, ev_A key.2 (by omega) hj.2.2 a1 a2 a3⟩
theorem chg_r {m : Nat} {x : Int32} : chg m x x := Or.inl rfl
/-- the class's part of an event: w at (x, fx), the next moment -/
def clsE (mem C : zM) (m x fx : Nat) (w : Int32) : Prop := ∀ a b, C.1 a b = if a = x ∧ b = fx then w else if a = 108 ∧ b = 5 then nI (m + 1) else if a = 109 ∧ b = m + 1 then mem.1 108 6 else if a = 110 ∧ b = m + 1 then -1 else mem.1 a b
theorem cput_at {mem : zM} {m a b : Nat} : (cput mem m).1 a b = if a = 108 ∧ b = 5 then nI (m + 1) else if a = 109 ∧ b = m + 1 then mem.1 108 6 else if a = 110 ∧ b = m + 1 then -1 else mem.1 a b := by
  unfold cput
  rw [zI_at, zI_at, zI_at]
  by_cases h8 : a = 108
  · subst h8; simp
  · by_cases h9 : a = 109
    · subst h9; simp
    · by_cases h0 : a = 110
      · subst h0; simp
      · simp [h8, h9, h0]
theorem clsE1 {mem : zM} {m x fx : Nat} {w : Int32} : clsE mem (zI (cput mem m) x fx w) m x fx w := by
  intro a b
  rw [zI_at]
  by_cases h : a = x ∧ b = fx
  · rw [if_pos h.1, if_pos h.2, if_pos h]
  · rw [if_neg h, ← cput_at]
    by_cases ha : a = x
    · rw [if_pos ha, if_neg (fun z => h ⟨ha, z⟩)]
    · rw [if_neg ha]
theorem clsE2 {mem : zM} {m x fx : Nat} {w : Int32} (hx : 110 < x) : clsE mem (cput (zI mem x fx w) m) m x fx w := by
  intro a b
  rw [cput_at, zI_ne (a := 108) (by omega), zI_at]
  by_cases h : a = x ∧ b = fx
  · rw [if_pos h, if_neg (by omega), if_neg (by omega), if_neg (by omega), if_pos h.1, if_pos h.2]
  · rw [if_neg h]
    have e : (if a = x then (if b = fx then w else mem.1 a b) else mem.1 a b) = mem.1 a b := by
      by_cases ha : a = x
      · rw [if_pos ha, if_neg (fun z => h ⟨ha, z⟩)]
      · rw [if_neg ha]
    rw [e]
/-- an event of one cell on each side -/
theorem ev_mem {mem C S N : zM} {m x fx y gy : Nat} {w v : Int32} (hx : 110 < x ∧ x < 180) (hy : 184 < y ∧ y < 192) (hC : clsE mem C m x fx w) (hS : zfr sV C S) (hN : zI (zput S m) y gy v = N) : (∀ b, N.1 x b = if b = fx then w else mem.1 x b) ∧ (∀ b, N.1 y b = if b = gy then v else mem.1 y b) ∧ (∀ a, a ≠ x → a ≠ y → a ≠ 108 → a ≠ 109 → a ≠ 110 → a ≠ 180 → a ≠ 184 → ¬ (192 ≤ a ∧ a ≤ 195) → N.1 a = mem.1 a) ∧ N.1 108 5 = nI (m + 1) ∧ N.1 180 27 = nI (m + 1) ∧ N.1 109 (m + 1) = mem.1 108 6 ∧ N.1 184 (m + 1) = mem.1 180 28 ∧ N.1 110 (m + 1) = -1 ∧ N.1 180 29 = mem.1 180 29 := by
  have eS : ∀ a b, ¬ sV a b → S.1 a b = C.1 a b := hS.1
  have eC : ∀ a b, 180 ≤ a → C.1 a b = mem.1 a b := fun a b ha => by rw [hC a b, if_neg (by omega), if_neg (by omega), if_neg (by omega), if_neg (by omega)]
  have eN : ∀ a, a ≠ y → a ≠ 184 → a ≠ 180 → N.1 a = S.1 a := fun a h1 h2 h3 => by rw [← hN, zI_ne h1]; unfold zput; rw [zI_ne h2, zI_ne h3]
  refine ⟨fun b => ?_, fun b => ?_, fun a h1 h2 h3 h4 h5 h6 h7 h8 => ?_, ?_, ?_, ?_, ?_, ?_, ?_⟩
  · rw [eN x (by omega) (by omega) (by omega), eS x b (by unfold sV; omega), hC x b]
    by_cases z : b = fx
    · rw [if_pos ⟨rfl, z⟩, if_pos z]
    · rw [if_neg (fun q => z q.2), if_neg z, if_neg (by omega), if_neg (by omega), if_neg (by omega)]
  · rw [← hN, zI_at, if_pos rfl]
    by_cases z : b = gy
    · rw [if_pos z, if_pos z]
    · rw [if_neg z, if_neg z]; unfold zput; rw [zI_ne (by omega), zI_ne (by omega), eS y b (by unfold sV; omega)]; exact eC y b (by omega)
  · funext b
    rw [eN a h2 h7 h6, eS a b (by unfold sV; omega), hC a b, if_neg (by omega), if_neg (by omega), if_neg (by omega), if_neg (by omega)]
  · rw [eN 108 (by omega) (by omega) (by omega), eS 108 5 (by unfold sV; omega), hC, if_neg (by omega), if_pos ⟨rfl, rfl⟩]
  · rw [← hN, zI_ne (by omega)]; unfold zput; rw [zI_ne (by omega), zI_s]
  · rw [eN 109 (by omega) (by omega) (by omega), eS 109 _ (by unfold sV; omega), hC, if_neg (by omega), if_neg (by omega), if_pos ⟨rfl, rfl⟩]
  · rw [← hN, zI_ne (by omega)]; unfold zput; rw [zI_s, eS 180 28 (by unfold sV; omega)]; exact eC 180 28 (by omega)
  · rw [eN 110 (by omega) (by omega) (by omega), eS 110 _ (by unfold sV; omega), hC, if_neg (by omega), if_neg (by omega), if_neg (by omega), if_pos ⟨rfl, rfl⟩]
  · rw [← hN, zI_ne (by omega)]; unfold zput; rw [zI_ne (by omega), zI_o (by omega), eS 180 29 (by unfold sV; omega)]; exact eC 180 29 (by omega)
theorem ev_fr {mem C S N : zM} {m x fx y gy : Nat} {w v : Int32} (hx : sEv m x fx) (hy : sEv m y gy) (hC : clsE mem C m x fx w) (h2 : C.2 = mem.2) (hS : zfr sV C S) (hN : zI (zput S m) y gy v = N) : zfr (sEv m) mem N := by
  have f1 : zfr (sEv m) mem C := by
    refine ⟨fun a b s => ?_, fun a b _ => by rw [h2], fun a b _ => by rw [h2]⟩
    rw [hC a b, if_neg (fun z => s (by rw [z.1, z.2]; exact hx)), if_neg (fun z => s (by rw [z.1, z.2]; exact Or.inl ⟨rfl, rfl⟩)), if_neg (fun z => s (by rw [z.1, z.2]; unfold sEv; omega)), if_neg (fun z => s (by rw [z.1, z.2]; unfold sEv; omega))]
  have f2 : zfr (sEv m) mem S := f1.tr (hS.mono fun a b z => sQ_E (sV_Q z))
  rw [← hN]; unfold zput
  exact ((f2.I (by unfold sEv; omega)).I (by unfold sEv; omega)).I hy
/-- the class's part of an event leaves the reference's rows -/
theorem cls_hi {mem C : zM} {m x fx : Nat} {w : Int32} (hx : x < 180) (hC : clsE mem C m x fx w) : ∀ a b, 180 ≤ a → C.1 a b = mem.1 a b := fun a b ha => by rw [hC a b, if_neg (by omega), if_neg (by omega), if_neg (by omega), if_neg (by omega)]
theorem Mc_hi {mem C : zM} {np pw m na : Nat} (h : ∀ a b, 180 ≤ a → C.1 a b = mem.1 a b) (hM : zMc mem np pw m na) : zMc (zI C 180 0 0) np pw m na := by
  obtain ⟨a1, a2, a3, a4, a5, a6, a7, a8⟩ := hM
  exact ⟨(h 180 13 (by omega)).trans a1, a2, (h 180 15 (by omega)).trans a3, a4, (h 180 27 (by omega)).trans a5, a6, (h 180 29 (by omega)).trans a7, a8⟩
/-- an entry of a power -/
theorem ev_ent {n : Nat} {mem C N : zM} {t np pw m na j e : Nat} (hj : jJ n mem t np pw m na) (hm : m < 300) (hjp : j < pw) (he3 : e < 3) (h2 : mem.1 185 (3 * j + e) = -1) (hcl : clsE mem C m (t + 2 + j) (11 + e) (nI (m + 1))) (h2m : C.2 = mem.2) (hN1 : zI (zput (zI C 180 0 0) m) 185 (3 * j + e) (nI (m + 1)) = N) : J n N := by
  obtain ⟨-, hC, hP, hE, -⟩ := id hj.1
  have hT := hC.2.1
  have h20 := hC.2.2.2.1.2.2
  have h16 := hC.2.2.2.2.2.2.2.2.2
  have hst1 : zst n C := ⟨hj.1.1.1, by unfold zFx; rw [h2m]; exact hj.1.1.2⟩
  have hS : zfr sV C (zI C 180 0 0) := zfr.rf.I (Or.inl ⟨rfl, Or.inl rfl⟩)
  obtain ⟨rx, ry, ro, v1, v2, v3, v4, v5, v6⟩ := ev_mem (by omega) (by omega) hcl hS hN1
  have f := ev_fr (by unfold sEv; omega) (by unfold sEv; omega) hcl h2m hS hN1
  have rpw : ∀ q, q < pw → q ≠ j → N.1 (t + 2 + q) = mem.1 (t + 2 + q) := fun q hq hz => ro _ (by omega) (by omega) (by omega) (by omega) (by omega) (by omega) (by omega) (by omega)
  have rr : ∀ a, (a = 100 ∨ a = 113 ∨ (120 ≤ a ∧ a < 136) ∨ a = 186 ∨ a = 187 ∨ a = 188 ∨ a = 191) → N.1 a = mem.1 a := fun a ha => ro a (by omega) (by omega) (by omega) (by omega) (by omega) (by omega) (by omega) (by omega)
  refine ev_J hj hm f (by rw [← hN1]; exact hst1) v1 v2 v3 v4 v5 (by rw [rr 188 (by omega)]) ⟨fun i => ?_, fun i => by rw [rr 186 (by omega)]; exact chg_r, fun i => by rw [rr 187 (by omega)]; exact chg_r⟩ (fun q hq x hx => ?_) (fun q hq x hx => ?_) (fun q hq => by rw [rr 113 (by omega), rr 187 (by omega)]; exact (hE.2.2.1 q hq).1) (fun q h1 h2 => by rw [rr 187 (by omega)]; exact hE.2.2.2 q h1 h2) (fun q hq => ?_) ⟨by rw [rr 100 (by omega)], v6⟩ (fun a ha x hx => by rw [rr (120 + a) (by omega), rr 191 (by omega)]; exact (hj.2.2 a ha).1 x hx) (fun a ha x hx => by rw [rr 191 (by omega)]) (fun a ha x hx hy => by rw [rr (120 + a) (by omega)])
  · rw [ry]
    by_cases z : i = 3 * j + e
    · rw [if_pos z, z, h2]; exact Or.inr ⟨rfl, rfl⟩
    · rw [if_neg z]; exact chg_r
  · rw [ry]
    by_cases z : q = j
    · subst z
      rw [rx]
      by_cases z2 : x = e
      · rw [if_pos (by omega), if_pos (by omega)]
      · rw [if_neg (by omega), if_neg (by omega)]; exact (hE.1 q hq x hx).1
    · rw [rpw q hq z, if_neg (by omega)]; exact (hE.1 q hq x hx).1
  · rw [rr 186 (by omega)]
    by_cases z : q = j
    · subst z; rw [rx, if_neg (by omega)]; exact (hE.2.1 q hq x hx).1
    · rw [rpw q hq z]; exact (hE.2.1 q hq x hx).1
  · by_cases z : q = j
    · subst z; rw [rx, rx, if_neg (by omega), if_neg (by omega)]; exact ⟨rfl, rfl⟩
    · rw [rpw q hq z]; exact ⟨rfl, rfl⟩
/-- a notice -/
theorem ev_not {n : Nat} {mem C N : zM} {t np pw m na j g : Nat} {w : Int32} (hj : jJ n mem t np pw m na) (hm : m < 300) (hjp : j < pw) (hg : g < 8) (h2 : mem.1 186 (20 * g + j) = -1) (hw : w = mem.1 (t + 2 + j) 14 ||| 1 <<< (nI g &&& 31)) (hcl : clsE mem C m (t + 2 + j) 14 w) (h2m : C.2 = mem.2) (hN1 : zI (zput (zI C 180 0 0) m) 186 (20 * g + j) (nI (m + 1)) = N) : J n N := by
  obtain ⟨-, hC, hP, hE, -⟩ := id hj.1
  have hT := hC.2.1
  have h20 := hC.2.2.2.1.2.2
  have h16 := hC.2.2.2.2.2.2.2.2.2
  have hst1 : zst n C := ⟨hj.1.1.1, by unfold zFx; rw [h2m]; exact hj.1.1.2⟩
  have hS : zfr sV C (zI C 180 0 0) := zfr.rf.I (Or.inl ⟨rfl, Or.inl rfl⟩)
  obtain ⟨rx, ry, ro, v1, v2, v3, v4, v5, v6⟩ := ev_mem (by omega) (by omega) hcl hS hN1
  have f := ev_fr (by unfold sEv; omega) (by unfold sEv; omega) hcl h2m hS hN1
  have rpw : ∀ q, q < pw → q ≠ j → N.1 (t + 2 + q) = mem.1 (t + 2 + q) := fun q hq hz => ro _ (by omega) (by omega) (by omega) (by omega) (by omega) (by omega) (by omega) (by omega)
  have rr : ∀ a, (a = 100 ∨ a = 113 ∨ (120 ≤ a ∧ a < 136) ∨ a = 185 ∨ a = 187 ∨ a = 188 ∨ a = 191) → N.1 a = mem.1 a := fun a ha => ro a (by omega) (by omega) (by omega) (by omega) (by omega) (by omega) (by omega) (by omega)
  refine ev_J hj hm f (by rw [← hN1]; exact hst1) v1 v2 v3 v4 v5 (by rw [rr 188 (by omega)]) ⟨fun i => by rw [rr 185 (by omega)]; exact chg_r, fun i => ?_, fun i => by rw [rr 187 (by omega)]; exact chg_r⟩ (fun q hq x hx => ?_) (fun q hq x hx => ?_) (fun q hq => by rw [rr 113 (by omega), rr 187 (by omega)]; exact (hE.2.2.1 q hq).1) (fun q h1 h2 => by rw [rr 187 (by omega)]; exact hE.2.2.2 q h1 h2) (fun q hq => ?_) ⟨by rw [rr 100 (by omega)], v6⟩ (fun a ha x hx => by rw [rr (120 + a) (by omega), rr 191 (by omega)]; exact (hj.2.2 a ha).1 x hx) (fun a ha x hx => by rw [rr 191 (by omega)]) (fun a ha x hx hy => by rw [rr (120 + a) (by omega)])
  · rw [ry]
    by_cases z : i = 20 * g + j
    · rw [if_pos z, z, h2]; exact Or.inr ⟨rfl, rfl⟩
    · rw [if_neg z]; exact chg_r
  · rw [rr 185 (by omega)]
    by_cases z : q = j
    · subst z; rw [rx, if_neg (by omega)]; exact (hE.1 q hq x hx).1
    · rw [rpw q hq z]; exact (hE.1 q hq x hx).1
  · rw [ry]
    by_cases z : q = j
    · subst z
      rw [rx, if_pos rfl, hw, b_or, b_1shl (by omega) (by omega), (hE.2.1 q hq x hx).1]
      by_cases zx : x = g
      · subst zx; rw [if_pos rfl, decide_eq_true rfl, Bool.or_true, decide_eq_false (nI_m1 (by omega))]; rfl
      · rw [if_neg (by omega), decide_eq_false zx, Bool.or_false]
    · rw [rpw q hq z, if_neg (by omega)]; exact (hE.2.1 q hq x hx).1
  · by_cases z : q = j
    · subst z; rw [rx, rx, if_neg (by omega), if_neg (by omega)]; exact ⟨rfl, rfl⟩
    · rw [rpw q hq z]; exact ⟨rfl, rfl⟩
/-- a death -/
theorem ev_die {n : Nat} {mem C N : zM} {t np pw m na g : Nat} (hj : jJ n mem t np pw m na) (hm : m < 300) (hg : g < np) (h2 : mem.1 187 g = -1) (hcl : clsE mem C m 113 g (nI (m + 1))) (h2m : C.2 = mem.2) (hN1 : zI (zput (zI C 180 0 0) m) 187 g (nI (m + 1)) = N) : J n N := by
  obtain ⟨-, hC, hP, hE, -⟩ := id hj.1
  have hT := hC.2.1
  have h20 := hC.2.2.2.1.2.2
  have h8 := hC.2.2.1.2.2
  have h16 := hC.2.2.2.2.2.2.2.2.2
  have hst1 : zst n C := ⟨hj.1.1.1, by unfold zFx; rw [h2m]; exact hj.1.1.2⟩
  have hS : zfr sV C (zI C 180 0 0) := zfr.rf.I (Or.inl ⟨rfl, Or.inl rfl⟩)
  obtain ⟨rx, ry, ro, v1, v2, v3, v4, v5, v6⟩ := ev_mem (by omega) (by omega) hcl hS hN1
  have f := ev_fr (by unfold sEv; omega) (by unfold sEv; omega) hcl h2m hS hN1
  have rpw : ∀ q, q < pw → N.1 (t + 2 + q) = mem.1 (t + 2 + q) := fun q hq => ro _ (by omega) (by omega) (by omega) (by omega) (by omega) (by omega) (by omega) (by omega)
  have rr : ∀ a, (a = 100 ∨ (120 ≤ a ∧ a < 136) ∨ a = 185 ∨ a = 186 ∨ a = 188 ∨ a = 191) → N.1 a = mem.1 a := fun a ha => ro a (by omega) (by omega) (by omega) (by omega) (by omega) (by omega) (by omega) (by omega)
  refine ev_J hj hm f (by rw [← hN1]; exact hst1) v1 v2 v3 v4 v5 (by rw [rr 188 (by omega)]) ⟨fun i => by rw [rr 185 (by omega)]; exact chg_r, fun i => by rw [rr 186 (by omega)]; exact chg_r, fun i => ?_⟩ (fun q hq x hx => by rw [rpw q hq, rr 185 (by omega)]; exact (hE.1 q hq x hx).1) (fun q hq x hx => by rw [rpw q hq, rr 186 (by omega)]; exact (hE.2.1 q hq x hx).1) (fun q hq => ?_) (fun q h1 h2 => by rw [ry, if_neg (by omega)]; exact hE.2.2.2 q h1 h2) (fun q hq => by rw [rpw q hq]; exact ⟨rfl, rfl⟩) ⟨by rw [rr 100 (by omega)], v6⟩ (fun a ha x hx => by rw [rr (120 + a) (by omega), rr 191 (by omega)]; exact (hj.2.2 a ha).1 x hx) (fun a ha x hx => by rw [rr 191 (by omega)]) (fun a ha x hx hy => by rw [rr (120 + a) (by omega)])
  · rw [ry]
    by_cases z : i = g
    · rw [if_pos z, z, h2]; exact Or.inr ⟨rfl, rfl⟩
    · rw [if_neg z]; exact chg_r
  · rw [ry, rx]
    by_cases z : q = g
    · rw [if_pos z, if_pos z]
    · rw [if_neg z, if_neg z]; exact (hE.2.2.1 q hq).1
/-- an act approved, given up -/
theorem ev_act {n : Nat} {mem C S N : zM} {t np pw m na a e : Nat} {v : Int32} (hj : jJ n mem t np pw m na) (hm : m < 300) (ha : a < na) (he : e = 7 ∨ e = 8) (hcl : clsE mem C m (120 + a) e v) (h2m : C.2 = mem.2) (hS : zfr sV C S) (hN1 : zI (zput S m) 191 (9 * a + e) v = N) : J n N := by
  obtain ⟨-, hC, hP, hE, -⟩ := id hj.1
  have hT := hC.2.1
  have h20 := hC.2.2.2.1.2.2
  have h16 := hC.2.2.2.2.2.2.2.2.2
  have hst1 : zst n C := ⟨hj.1.1.1, by unfold zFx; rw [h2m]; exact hj.1.1.2⟩
  have hst2 : zst n N := ⟨hj.1.1.1, by rw [← hN1]; exact (show zFx S from zFx_fr hS hst1.2)⟩
  obtain ⟨rx, ry, ro, v1, v2, v3, v4, v5, v6⟩ := ev_mem (by omega) (by omega) hcl hS hN1
  have f := ev_fr (by unfold sEv; omega) (by unfold sEv; omega) hcl h2m hS hN1
  have rpw : ∀ q, q < pw → N.1 (t + 2 + q) = mem.1 (t + 2 + q) := fun q hq => ro _ (by omega) (by omega) (by omega) (by omega) (by omega) (by omega) (by omega) (by omega)
  have rr : ∀ a, (a = 100 ∨ a = 113 ∨ a = 185 ∨ a = 186 ∨ a = 187 ∨ a = 188) → N.1 a = mem.1 a := fun a ha => ro a (by omega) (by omega) (by omega) (by omega) (by omega) (by omega) (by omega) (by omega)
  have ra : ∀ b, b < na → b ≠ a → N.1 (120 + b) = mem.1 (120 + b) := fun b hb hz => ro _ (by omega) (by omega) (by omega) (by omega) (by omega) (by omega) (by omega) (by omega)
  refine ev_J hj hm f hst2 v1 v2 v3 v4 v5 (by rw [rr 188 (by omega)]) ⟨fun i => by rw [rr 185 (by omega)]; exact chg_r, fun i => by rw [rr 186 (by omega)]; exact chg_r, fun i => by rw [rr 187 (by omega)]; exact chg_r⟩ (fun q hq x hx => by rw [rpw q hq, rr 185 (by omega)]; exact (hE.1 q hq x hx).1) (fun q hq x hx => by rw [rpw q hq, rr 186 (by omega)]; exact (hE.2.1 q hq x hx).1) (fun q hq => by rw [rr 113 (by omega), rr 187 (by omega)]; exact (hE.2.2.1 q hq).1) (fun q h1 h2 => by rw [rr 187 (by omega)]; exact hE.2.2.2 q h1 h2) (fun q hq => by rw [rpw q hq]; exact ⟨rfl, rfl⟩) ⟨by rw [rr 100 (by omega)], v6⟩ (fun b hb x hx => ?_) (fun b hb x hx => by rw [ry, if_neg (by omega)]) (fun b hb x hx hy => ?_)
  · rw [ry]
    by_cases z : b = a
    · subst z
      rw [rx]
      by_cases zx : x = e
      · rw [if_pos zx, if_pos (by omega)]
      · rw [if_neg zx, if_neg (by omega)]; exact (hj.2.2 b hb).1 x hx
    · rw [ra b hb z, if_neg (by omega)]; exact (hj.2.2 b hb).1 x hx
  · by_cases z : b = a
    · subst z; rw [rx, if_neg (by omega)]
    · rw [ra b hb z]
theorem go_finish {n : Nat} {mem : zM} {Q : zPo} {p : Int32} (hJ : J n mem) (hQ : ∀ r M, zTw k_X11_finish [.ref 180, .int p] n r M → Q (some (.int r)) n M) : k_X10_finish [.ref 100, .int p] n mem Q := by
  obtain ⟨t, np, pw, m, na, hj⟩ := hJ
  have hj0 := J_t hj
  obtain ⟨-, hC, hP, hE, hN⟩ := id hj.1
  have hT := hC.2.1
  have h20 := hC.2.2.2.1.2.2
  have h8 := hC.2.2.1.2.2
  have h16 := hC.2.2.2.2.2.2.2.2.2
  have e13 : mem.1 180 13 = nI np := hC.2.2.1.2.1
  have e15 : mem.1 180 15 = nI pw := hC.2.2.2.1.2.1
  have e27 : mem.1 180 27 = nI m := hC.2.2.2.2.2.1.2.1
  have e29 : mem.1 180 29 = nI na := hC.2.2.2.2.2.2.2.2.1
  have hGv : zGv mem pw := fun j hj => by obtain ⟨q, hq, e⟩ := (hP j hj).2.1.1; exact ⟨q, by omega, e⟩
  refine ⟨p, t, np, pw, m, na, rfl, jB_Cs hj.1, ?_⟩
  unfold C_finish
  rw [hC.2.2.2.1.1]
  have cond : ∀ M : zM, M.1 180 15 = nI pw → M.1 180 27 = nI m → ((isin p 0 (M.1 180 15 - 1) = false ∨ mfull M = true) ↔ (inC p (nI pw) = false ∨ cfull mem = true)) := fun M a b => by
    rw [a, ← inC_in (by omega), full_eq hC.2.2.2.2.2.1.1 b hC.2.2.2.2.2.1.2.2]
  by_cases h1 : inC p (nI pw) = false ∨ cfull mem = true
  · rw [if_pos h1]
    refine hQ _ _ fun Q2 hq => ⟨p, np, pw, m, na, rfl, hj.1.1, jB_Mc hj0.1, hGv, ?_⟩
    unfold T_finish
    rw [if_pos ((cond (zI mem 180 0 0) e15 e27).mpr h1)]
    exact hq _ ⟨t, np, pw, m, na, hj0⟩
  rw [if_neg h1]
  have h1' := h1
  rw [not_or, Bool.not_eq_false, Bool.not_eq_true] at h1
  have hm : m < 300 := cfull_m hC.2.2.2.2.2.1.1 hC.2.2.2.2.2.1.2.2 h1.2
  obtain ⟨j, hjp, rfl⟩ := inC_nI (by omega) h1.1
  have ij : ix (nI j) = j := ix_nI (by omega)
  have e11 : mem.1 (t + 2 + j) 11 = mem.1 185 (3 * j) := (hE.1 j hjp 0 (by omega)).1
  have e0 : mem.1 (t + 2 + j) 0 = mem.1 182 (8 * j) := (hP j hjp).1 0 (by omega)
  obtain ⟨g, hg, eg⟩ := (hP j hjp).2.1.1
  have ig : ix (nI g) = g := ix_nI (by omega)
  have ed := hE.2.2.1 g (by omega)
  rw [ij, e11, e0, eg, ig, ed.1]
  have T : ∀ (M : zM) (Q2 : zPo), (∀ a b, 180 ≤ a → M.1 a b = mem.1 a b) → (¬ mem.1 185 (3 * j) = -1 → Q2 (some (.int (-2))) n (zI M 180 0 0)) → (mem.1 185 (3 * j) = -1 → ¬ mem.1 187 g = -1 → Q2 (some (.int (-3))) n (zI M 180 0 0)) → (mem.1 185 (3 * j) = -1 → mem.1 187 g = -1 → Q2 (some (.int (nI (m + 1)))) n (zI (zput (zI M 180 0 0) m) 185 (3 * j) (nI (m + 1)))) → T_finish (zI M 180 0 0) (nI j) m (fun r mem => Q2 (some (.int r)) n mem) := by
    intro M Q2 hM q2 q3 q4
    have eM : ∀ a b, 181 ≤ a → (zI M 180 0 0).1 a b = mem.1 a b := fun a b ha => by rw [zI_ne (by omega)]; exact hM a b (by omega)
    have eN : ∀ b, b ≠ 0 → (zI M 180 0 0).1 180 b = mem.1 180 b := fun b hb => by rw [zI_o hb]; exact hM 180 b (by omega)
    unfold T_finish
    rw [if_neg (fun z => h1' ((cond _ ((eN 15 (by omega)).trans e15) ((eN 27 (by omega)).trans e27)).mp z)), ij, eM 185 _ (by omega), eM 182 _ (by omega), eg, ig, eM 187 _ (by omega), eN 27 (by omega), e27, isby_now hC.2.2.2.2.2.1.2.2 ed.2]
    by_cases h2 : mem.1 185 (3 * j) = -1
    · rw [if_neg (fun z => z h2)]
      by_cases h3 : mem.1 187 g = -1
      · rw [decide_eq_true h3, if_neg (by decide)]; exact q4 h2 h3
      · rw [decide_eq_false h3, if_pos (by decide)]; exact q3 h2 h3
    · rw [if_pos h2]; exact q2 h2
  by_cases h2 : mem.1 185 (3 * j) = -1
  · rw [if_neg (fun z => z h2)]
    by_cases h3 : mem.1 187 g = -1
    · rw [if_neg (fun z => z h3)]
      have hcl : clsE mem (zI (cput mem m) (t + 2 + j) 11 (nI (m + 1))) m (t + 2 + j) 11 (nI (m + 1)) := clsE1
      have h2m : (zI (cput mem m) (t + 2 + j) 11 (nI (m + 1))).2 = mem.2 := rfl
      generalize zI (cput mem m) (t + 2 + j) 11 (nI (m + 1)) = C at hcl h2m
      have hhi := cls_hi (by omega) hcl
      have hst1 : zst n C := ⟨hj.1.1.1, by unfold zFx; rw [h2m]; exact hj.1.1.2⟩
      refine hQ _ _ fun Q2 hq => ⟨nI j, np, pw, m, na, rfl, hst1, Mc_hi hhi (jB_Mc hj.1), fun i hi => ?_, T C Q2 hhi (fun z => absurd h2 z) (fun _ z => absurd h3 z) (fun _ _ => ?_)⟩
      · obtain ⟨q, hq, e⟩ := hGv i hi
        exact ⟨q, hq, (hhi 182 _ (by omega)).trans e⟩
      exact hq _ (ev_ent hj hm hjp (e := 0) (by omega) h2 hcl h2m rfl)
    · rw [if_pos h3]
      exact hQ _ _ fun Q2 hq => ⟨nI j, np, pw, m, na, rfl, hj.1.1, jB_Mc hj0.1, hGv, T mem Q2 (fun _ _ _ => rfl) (fun z => absurd h2 z) (fun _ _ => hq _ ⟨t, np, pw, m, na, hj0⟩) (fun _ z => absurd z h3)⟩
  · rw [if_pos h2]
    exact hQ _ _ fun Q2 hq => ⟨nI j, np, pw, m, na, rfl, hj.1.1, jB_Mc hj0.1, hGv, T mem Q2 (fun _ _ _ => rfl) (fun _ => hq _ ⟨t, np, pw, m, na, hj0⟩) (fun z => absurd z h2) (fun z => absurd z h2)⟩
