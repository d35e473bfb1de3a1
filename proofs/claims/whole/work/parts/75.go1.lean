/-! ===== call by call: both answer alike, and the relation holds behind ===== -/
theorem jB_gen {n : Nat} {mem N : zM} {t np pw m na : Nat} (h : jB n mem t np pw m na) (hst : zst n N) (hC : jC N t np pw m na) (e2 : N.1 182 = mem.1 182) (rp : ∀ p, p < pw → N.1 (t + 2 + p) = mem.1 (t + 2 + p)) (e : ∀ a, (a = 109 ∨ a = 110 ∨ a = 111 ∨ a = 112 ∨ a = 113 ∨ (184 ≤ a ∧ a ≤ 190)) → N.1 a = mem.1 a) : jB n N t np pw m na := by
  obtain ⟨-, -, hP, hE, hN⟩ := h
  have h20 := hC.2.2.2.1.2.2
  refine ⟨hst, hC, fun p hp => ?_, ?_, ?_⟩
  · obtain ⟨a, b, c⟩ := hP p hp
    rw [e2, rp p hp]
    refine ⟨a, b, fun i hi => ?_⟩
    rw [c i hi]
    rcases b.2.2.2.2.2.2.2 with z | ⟨u, hu, z⟩
    · rw [z, decide_eq_true rfl]; rfl
    · rw [z, ix_nI (by omega), rp u (by omega)]
  · rw [jE, e 185 (by omega), e 186 (by omega), e 187 (by omega), e 113 (by omega)]
    exact ⟨fun p hp => by rw [rp p hp]; exact hE.1 p hp, fun p hp => by rw [rp p hp]; exact hE.2.1 p hp, hE.2.2⟩
  · rw [jN, e 109 (by omega), e 110 (by omega), e 111 (by omega), e 112 (by omega), e 184 (by omega), e 188 (by omega), e 189 (by omega), e 190 (by omega), e2]
    exact ⟨hN.1, hN.2.1, hN.2.2.1, hN.2.2.2.1, fun p hp => by rw [rp p hp]; exact hN.2.2.2.2 p hp⟩
/-- what powers and acts don't read -/
def sU (t a b : Nat) : Prop := sQ a b ∨ (a = 101 ∧ b = 1) ∨ (102 ≤ a ∧ a ≤ 107) ∨ (a = 100 ∧ b = 7) ∨ (a = 294 - t ∧ 1 ≤ b) ∨ (294 - t + 2 ≤ a ∧ a < 294 - t + 22) ∨ (a = 180 ∧ ((2 ≤ b ∧ b ≤ 10) ∨ (16 ≤ b ∧ b ≤ 18))) ∨ a = 181 ∨ a = 183
theorem jB_u {n : Nat} {mem N : zM} {t np pw m na : Nat} (hB : jB n mem t np pw m na) (hA : jA mem np pw m na) (f : zfr (sU t) mem N) (hst : zst n N) : jB n N t np pw m na ∧ jA N np pw m na := by
  obtain ⟨-, hC, hP, hE, hN⟩ := id hB
  have hTd := hC.2.1
  have h20 := hC.2.2.2.1.2.2
  have h16 := hC.2.2.2.2.2.2.2.2.2
  have e : ∀ a b, ¬ sU t a b → N.1 a b = mem.1 a b := f.1
  have row : ∀ a, (a = t ∨ (t + 2 ≤ a ∧ a < t + 22) ∨ (108 ≤ a ∧ a ≤ 113) ∨ (119 ≤ a ∧ a ≤ 135) ∨ a = 182 ∨ (184 ≤ a ∧ a ≤ 191)) → N.1 a = mem.1 a := fun a ha => by funext b; exact e a b (by unfold sU sQ; omega)
  have e180 : ∀ b, ((13 ≤ b ∧ b ≤ 15) ∨ (27 ≤ b ∧ b ≤ 29)) → N.1 180 b = mem.1 180 b := fun b hb => e 180 b (by unfold sU sQ; omega)
  have hs : stab m mem N := by
    rw [stab, row 182 (by omega), row 185 (by omega), row 186 (by omega), row 187 (by omega), row 188 (by omega), row 189 (by omega), row 190 (by omega)]
    exact ⟨rfl, e180 14 (by omega), fun _ _ _ => rfl, fun _ _ _ => rfl, fun _ _ _ => rfl, fun _ _ => ⟨rfl, rfl, rfl⟩⟩
  refine ⟨jB_gen hB hst ?_ (row 182 (by omega)) (fun p hp => row _ (by omega)) (fun a ha => row a (by omega)), ev_A hs (Nat.le_refl _) hA (fun a ha j hj => ?_) (fun a ha j hj => by rw [row 191 (by omega)]) (fun a ha j h1 h2 => by rw [row (120 + a) (by omega)])⟩
  · refine ⟨(f.2.2 100 8 (by unfold sU sQ; omega)).trans hC.1, hTd, ?_, ?_, ?_, ?_, ?_, ?_⟩
    · rw [row t (by omega), e180 13 (by omega)]; exact hC.2.2.1
    · rw [row t (by omega), e180 15 (by omega)]; exact hC.2.2.2.1
    · rw [row t (by omega), e180 14 (by omega)]; exact hC.2.2.2.2.1
    · rw [row 108 (by omega), e180 27 (by omega)]; exact hC.2.2.2.2.2.1
    · rw [row 108 (by omega), e180 28 (by omega)]; exact hC.2.2.2.2.2.2.1
    · rw [e 100 6 (by unfold sU sQ; omega), e180 29 (by omega)]; exact hC.2.2.2.2.2.2.2
  · rw [row (120 + a) (by omega), row 191 (by omega)]; exact (hA a ha).1 j hj
/-- the second call of the two answers r as well, and the relation holds -/
abbrev zTw (K : zCt) (as : List Value) (n : Nat) (r : Int32) (M : zM) : Prop := ∀ Q2 : zPo, (∀ M2, J n M2 → Q2 (some (.int r)) n M2) → K as n M Q2
theorem go_fault {n : Nat} {mem : zM} {Q : zPo} (hJ : J n mem) (hQ : ∀ r M, zTw k_X11_fault [.ref 180] n r M → Q (some (.int r)) n M) : k_X10_fault [.ref 100] n mem Q := by
  obtain ⟨t, np, pw, m, na, hj⟩ := hJ
  obtain ⟨sz, -, -, -, -, e⟩ := hj.2.1
  refine ⟨rfl, hj.1.1, hQ _ _ fun Q2 h2 => ⟨rfl, hj.1.1, ?_⟩⟩
  rw [← e]
  exact h2 _ ⟨t, np, pw, m, na, J_t hj⟩
theorem go_end {n : Nat} {mem : zM} {Q : zPo} {c : Int32} (hJ : J n mem) (hQ : ∀ r M, zTw k_X11_end [.ref 180, .int c] n r M → Q (some (.int r)) n M) : k_X10_end [.ref 100, .int c] n mem Q := by
  obtain ⟨t, np, pw, m, na, hj⟩ := hJ
  obtain ⟨sz, h1, h2, h3, h4, h5⟩ := hj.2.1
  have e2 : (zI mem 180 0 0).1 180 2 = mem.1 101 1 := by rw [zI_o (by omega), h1, h2]
  refine ⟨c, rfl, hj.1.1, ?_⟩
  by_cases hc : c < 0 ∨ ¬ c ≤ mem.1 101 1
  · rw [if_pos hc]
    refine hQ 0 mem fun Q2 hq => ⟨c, rfl, hj.1.1, ?_⟩
    rw [e2, if_pos hc]
    exact hq _ ⟨t, np, pw, m, na, J_t hj⟩
  · rw [if_neg hc]
    refine hQ 1 _ fun Q2 hq => ⟨c, rfl, hj.1.1, ?_⟩
    have e3 : (zI (zI mem 101 1 c) 180 0 0).1 180 2 = mem.1 101 1 := e2
    rw [e3, if_neg hc]
    have f : zfr (sU t) mem (zI (zI (zI mem 101 1 c) 180 0 0) 180 2 c) := ((zfr.rf.I (Or.inr (Or.inl ⟨rfl, rfl⟩))).I (Or.inl (Or.inl ⟨rfl, Or.inl rfl⟩))).I (by unfold sU sQ; omega)
    obtain ⟨hB', hA'⟩ := jB_u hj.1 hj.2.2 f hj.1.1
    obtain ⟨j, hj1, rfl⟩ : ∃ j, j ≤ sz ∧ c = nI j := by
      rw [not_or, Decidable.not_not] at hc
      obtain ⟨j, hj, rfl⟩ := nI_of hc.1
      exact ⟨j, (nI_leI hj (by omega)).mp (h1 ▸ hc.2), rfl⟩
    exact hq _ ⟨t, np, pw, m, na, hB', ⟨j, rfl, rfl, by omega, h4, h5⟩, hA'⟩
theorem go_now {n : Nat} {mem : zM} {Q : zPo} {w : Int32} (hJ : J n mem) (hQ : ∀ r M, zTw k_X11_now [.ref 180, .int w] n r M → Q (some (.int r)) n M) : k_X10_now [.ref 100, .int w] n mem Q := by
  obtain ⟨t, np, pw, m, na, hj⟩ := hJ
  have hj0 := J_t hj
  obtain ⟨-, hC, -, hE, -⟩ := id hj.1
  obtain ⟨sz, h1, h2, -⟩ := hj.2.1
  refine ⟨w, t, rfl, hj.1.1, ⟨hC.1, hC.2.1⟩, hQ _ _ fun Q2 hq => ⟨w, np, pw, m, na, rfl, hj.1.1, jB_Mc hj0.1, ?_⟩⟩
  have e : nowM (zI mem 180 0 0) np w = nowC mem t w := by
    unfold nowM nowC
    rw [hC.2.2.1.1, hC.2.2.2.1.1, hC.2.2.2.2.2.1.1, hC.2.2.2.2.2.2.1, hC.2.2.2.2.2.2.2.1, hC.2.2.2.2.1, h1]
    rw [show (zI mem 180 0 0).1 180 13 = nI np from hC.2.2.1.2.1, show (zI mem 180 0 0).1 180 15 = nI pw from hC.2.2.2.1.2.1, show (zI mem 180 0 0).1 180 27 = nI m from hC.2.2.2.2.2.1.2.1, show (zI mem 180 0 0).1 180 29 = nI na from hC.2.2.2.2.2.2.2.2.1, show (zI mem 180 0 0).1 180 2 = nI sz from h2]
    rw [show (zI mem 180 0 0).1 187 = mem.1 187 from rfl, dead_eq hC.2.2.1.2.2 hE]
    rfl
  show Q2 (some (.int (nowM (zI mem 180 0 0) np w))) n _
  rw [e]
  exact hq _ ⟨t, np, pw, m, na, hj0⟩
theorem go_entry {n : Nat} {mem : zM} {Q : zPo} {p w : Int32} (hJ : J n mem) (hQ : ∀ r M, zTw k_X11_entry [.ref 180, .int p, .int w] n r M → Q (some (.int r)) n M) : k_X10_entry [.ref 100, .int p, .int w] n mem Q := by
  obtain ⟨t, np, pw, m, na, hj⟩ := hJ
  have hj0 := J_t hj
  obtain ⟨-, hC, -, hE, -⟩ := id hj.1
  refine ⟨p, w, t, np, pw, m, na, rfl, jB_Cs hj.1, hQ _ _ fun Q2 hq => ⟨p, w, np, pw, m, na, rfl, hj.1.1, jB_Mc hj0.1, ?_⟩⟩
  have e15 : (zI mem 180 0 0).1 180 15 = nI pw := hC.2.2.2.1.2.1
  rw [e15, ← inC_in (by have := hC.2.2.2.1.2.2; omega)]
  rw [hC.2.2.2.1.1] at hq
  by_cases h : inC p (nI pw) = false ∨ isin w 0 2 = false
  · rw [if_pos h] at hq ⊢; exact hq _ ⟨t, np, pw, m, na, hj0⟩
  · rw [if_neg h] at hq ⊢
    rw [not_or, Bool.not_eq_false, Bool.not_eq_false] at h
    obtain ⟨j, hj1, rfl⟩ := inC_nI (by have := hC.2.2.2.1.2.2; omega) h.1
    obtain ⟨k, hk, rfl⟩ := isin_N (c := 2) (by omega) h.2
    have hp20 := hC.2.2.2.1.2.2
    rw [ix_nI (by omega), ix_nI (by omega)] at hq ⊢
    rw [(hE.1 j hj1 k (by omega)).1] at hq
    exact hq _ ⟨t, np, pw, m, na, hj0⟩
theorem go_days {n : Nat} {mem : zM} {Q : zPo} {v : Int32} (hJ : J n mem) (hQ : ∀ r M, zTw k_X11_days [.ref 180, .int v] n r M → Q (some (.int r)) n M) : k_X10_days [.ref 100, .int v] n mem Q := by
  obtain ⟨t, np, pw, m, na, hj⟩ := hJ
  have hj0 := J_t hj
  obtain ⟨-, hC, -, hE, -⟩ := id hj.1
  have hT := hC.2.1
  have h20 := hC.2.2.2.1.2.2
  have ed := hC.2.2.2.2.2.2.1
  refine ⟨v, rfl, hj.1.1, ?_⟩
  have e0 : (zI mem 180 0 0).1 180 28 = mem.1 108 6 := ed.symm
  by_cases h : isin v 1 99 = false ∨ ¬ mem.1 108 6 + v ≤ 999
  · rw [if_pos h]
    refine hQ _ _ fun Q2 hq => ⟨v, rfl, hj.1.1, ?_⟩
    show if isin v 1 99 = false ∨ ¬ (zI mem 180 0 0).1 180 28 + v ≤ 999 then _ else _
    rw [e0, if_pos h]
    exact hq _ ⟨t, np, pw, m, na, hj0⟩
  · rw [if_neg h]
    refine hQ _ _ fun Q2 hq => ⟨v, rfl, hj.1.1, ?_⟩
    show if isin v 1 99 = false ∨ ¬ (zI (zI mem 108 6 (mem.1 108 6 + v)) 180 0 0).1 180 28 + v ≤ 999 then _ else Q2 (some (.int ((zI (zI mem 108 6 (mem.1 108 6 + v)) 180 0 0).1 180 28 + v))) n (zI (zI (zI mem 108 6 (mem.1 108 6 + v)) 180 0 0) 180 28 ((zI (zI mem 108 6 (mem.1 108 6 + v)) 180 0 0).1 180 28 + v))
    rw [show (zI (zI mem 108 6 (mem.1 108 6 + v)) 180 0 0).1 180 28 = mem.1 108 6 from e0, if_neg h]
    generalize hN : zI (zI (zI mem 108 6 (mem.1 108 6 + v)) 180 0 0) 180 28 (mem.1 108 6 + v) = N
    have f : zfr (fun a b => (a = 108 ∧ b = 6) ∨ (a = 180 ∧ (b = 0 ∨ b = 28))) mem N := by
      rw [← hN]
      exact ((zfr.rf.I (Or.inl ⟨rfl, rfl⟩)).I (Or.inr ⟨rfl, Or.inl rfl⟩)).I (Or.inr ⟨rfl, Or.inr rfl⟩)
    have e : ∀ a b, ¬ ((a = 108 ∧ b = 6) ∨ (a = 180 ∧ (b = 0 ∨ b = 28))) → N.1 a b = mem.1 a b := f.1
    have row : ∀ a, a ≠ 108 → a ≠ 180 → N.1 a = mem.1 a := fun a h1 h2 => by funext b; exact e a b (by omega)
    have hst : zst n N := by rw [← hN]; exact hj.1.1
    have hs : stab m mem N := by
      rw [stab, row 182 (by omega) (by omega), row 185 (by omega) (by omega), row 186 (by omega) (by omega), row 187 (by omega) (by omega), row 188 (by omega) (by omega), row 189 (by omega) (by omega), row 190 (by omega) (by omega)]
      exact ⟨rfl, e 180 14 (by omega), fun _ _ _ => rfl, fun _ _ _ => rfl, fun _ _ _ => rfl, fun _ _ => ⟨rfl, rfl, rfl⟩⟩
    refine hq N ⟨t, np, pw, m, na, jB_gen hj.1 hst ?_ (row 182 (by omega) (by omega)) (fun p hp => row _ (by omega) (by omega)) (fun a ha => row a (by omega) (by omega)), ?_, ev_A hs (Nat.le_refl _) hj.2.2 (fun a ha j hj' => ?_) (fun a ha j hj => by rw [row 191 (by omega) (by omega)]) (fun a ha j h1 h2 => by have := hC.2.2.2.2.2.2.2.2.2; rw [row (120 + a) (by omega) (by omega)])⟩
    · refine ⟨(f.2.2 100 8 (by omega)).trans hC.1, hT, ?_, ?_, ?_, ?_, ?_, ?_⟩
      · rw [row t (by omega) (by omega), e 180 13 (by omega)]; exact hC.2.2.1
      · rw [row t (by omega) (by omega), e 180 15 (by omega)]; exact hC.2.2.2.1
      · rw [row t (by omega) (by omega), e 180 14 (by omega)]; exact hC.2.2.2.2.1
      · rw [e 108 5 (by omega), e 180 27 (by omega)]; exact hC.2.2.2.2.2.1
      · rw [← hN]; rfl
      · rw [row 100 (by omega) (by omega), e 180 29 (by omega)]; exact hC.2.2.2.2.2.2.2
    · obtain ⟨sz, h1, h2, h3, h4, h5⟩ := hj.2.1
      refine ⟨sz, by rw [row 101 (by omega) (by omega)]; exact h1, (e 180 2 (by omega)).trans h2, h3, fun j => ?_, ?_⟩
      · rw [row 181 (by omega) (by omega), row 102 (by omega) (by omega)]; exact h4 j
      · rw [row 100 (by omega) (by omega), e 180 8 (by omega)]; exact h5
    · have := hC.2.2.2.2.2.2.2.2.2
      rw [row (120 + a) (by omega) (by omega), row 191 (by omega) (by omega)]; exact (hj.2.2 a ha).1 j hj'
