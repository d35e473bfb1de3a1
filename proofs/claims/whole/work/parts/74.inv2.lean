/-! ===== the whole relation ===== -/
def jT (mem : zM) : Prop := ∃ sz, mem.1 101 1 = nI sz ∧ mem.1 180 2 = nI sz ∧ sz ≤ 840 ∧ (∀ j, mem.1 181 j = mem.1 102 j &&& 255 ∧ zlet (mem.1 102 j)) ∧ mem.1 100 7 = mem.1 180 8
def vAa (mem : zM) (np : Nat) (wo th : Int32) (a : Nat) : zVt := vA mem np wo th a (mem.1 191 (9 * a)) (mem.1 191 (9 * a + 3)) (mem.1 191 (9 * a + 4))
def usdA (mem : zM) (np pw a : Nat) : Int32 := if bThen mem np pw a = 0 then 0 else usM np pw (vAa mem np 0 (thA mem np pw a) a) 3 (ix (mem.1 191 (9 * a + 1)))
def jA (mem : zM) (np pw m na : Nat) : Prop := ∀ a, a < na → (∀ j, j < 9 → mem.1 (120 + a) j = mem.1 191 (9 * a + j)) ∧ zAr (mem.1 191) a ∧ ix (mem.1 191 (9 * a + 5)) ≤ m ∧ (∀ h, h < 8 → bt (mem.1 180 14) h = true → bt (mem.1 191 (9 * a)) h = false) ∧ mem.1 (120 + a) 9 = bThen mem np pw a ∧ mem.1 (120 + a) 10 = usdA mem np pw a ∧ ∀ p, p < pw → bt (mem.1 (120 + a) 11) p = opM (vAa mem np 0 (-1) a) p
def jJ (n : Nat) (mem : zM) (t np pw m na : Nat) : Prop := jB n mem t np pw m na ∧ jT mem ∧ jA mem np pw m na
def J (n : Nat) (mem : zM) : Prop := ∃ t np pw m na, jJ n mem t np pw m na
/-- what one event may write -/
def sEv (m a b : Nat) : Prop := (a = 108 ∧ b = 5) ∨ ((a = 109 ∨ a = 110 ∨ a = 111 ∨ a = 112 ∨ a = 184 ∨ a = 188 ∨ a = 189 ∨ a = 190) ∧ b = m + 1) ∨ (a = 180 ∧ (b = 27 ∨ b = 29)) ∨ sQ a b ∨ (138 ≤ a ∧ a ≤ 179 ∧ a ≠ 158 ∧ a ≠ 159 ∧ 9 ≤ b) ∨ a = 113 ∨ a = 185 ∨ a = 186 ∨ a = 187 ∨ a = 191 ∨ (120 ≤ a ∧ a ≤ 135) ∨ (a = 100 ∧ b = 6)
theorem sQ_E {m a b : Nat} (h : sQ a b) : sEv m a b := Or.inr (Or.inr (Or.inr (Or.inl h)))
theorem ev_T {m : Nat} {mem N : zM} (f : zfr (sEv m) mem N) (h : jT mem) : jT N := by
  obtain ⟨sz, h1, h2, h3, h4, h5⟩ := h
  have e : ∀ a b, ¬ sEv m a b → N.1 a b = mem.1 a b := f.1
  refine ⟨sz, (e 101 1 (by unfold sEv sQ; omega)).trans h1, (e 180 2 (by unfold sEv sQ; omega)).trans h2, h3, fun j => ?_, ?_⟩
  · rw [e 181 j (by unfold sEv sQ; omega), e 102 j (by unfold sEv sQ; omega)]; exact h4 j
  · rw [e 100 7 (by unfold sEv sQ; omega), e 180 8 (by unfold sEv sQ; omega)]; exact h5
theorem ev_P {m t np pw : Nat} {mem N : zM} (hT : t = 136 ∨ t = 158) (h20 : pw ≤ 20) (f : zfr (sEv m) mem N) (h : jP mem t np pw) : jP N t np pw := by
  have e : ∀ a b, ¬ sEv m a b → N.1 a b = mem.1 a b := f.1
  have e2 : N.1 182 = mem.1 182 := by funext j; exact e 182 j (by unfold sEv sQ; omega)
  have er : ∀ p j, p < pw → j < 9 → N.1 (t + 2 + p) j = mem.1 (t + 2 + p) j := fun p j hp hj => e _ j (by unfold sEv sQ; omega)
  intro p hp
  obtain ⟨a, b, c⟩ := h p hp
  rw [e2]
  refine ⟨fun j hj => by rw [er p j hp (by omega)]; exact a j hj, b, fun i hi => ?_⟩
  rw [er p 8 hp (by omega), c i hi]
  rcases b.2.2.2.2.2.2.2 with z | ⟨u, hu, z⟩
  · rw [z, decide_eq_true rfl]; rfl
  · rw [z, ix_nI (by omega), er u 8 (by omega) (by omega)]
def chg (m : Nat) (x y : Int32) : Prop := y = x ∨ (x = -1 ∧ y = nI (m + 1))
theorem chg_by {m k : Nat} {x y : Int32} (hm : m < 300) (h : chg m x y) (hk : k ≤ m) : isby y (nI k) = isby x (nI k) := by
  rcases h with rfl | ⟨rfl, rfl⟩
  · rfl
  · rw [isby_m1, isby_nI (by omega) (by omega), decide_eq_false (by omega)]
theorem chg_m {m : Nat} {x y : Int32} (h : chg m x y) (hx : bym m x) : bym (m + 1) y := by
  rcases h with rfl | ⟨rfl, rfl⟩
  · rcases hx with z | ⟨k, hk, z⟩
    · exact Or.inl z
    · exact Or.inr ⟨k, by omega, z⟩
  · exact Or.inr ⟨m + 1, Nat.le_refl _, rfl⟩
theorem bym_s {m : Nat} {x : Int32} (hx : bym m x) : bym (m + 1) x := chg_m (Or.inl rfl) hx
def evV (m : Nat) (mem N : zM) : Prop := (∀ i, chg m (mem.1 185 i) (N.1 185 i)) ∧ (∀ i, chg m (mem.1 186 i) (N.1 186 i)) ∧ (∀ i, chg m (mem.1 187 i) (N.1 187 i))
theorem nkF_e {g a a' b b' : Nat → Int32} {p : Nat} : ∀ k, (∀ j, j ≤ k → a' j = a j ∧ b' j = b j) → nkF g a' b' p k = nkF g a b p k := by
  intro k
  induction k with
  | zero => intro _; rfl
  | succ k ih => intro h; rw [nkF, nkF, ih (fun j hj => h j (by omega)), (h _ (Nat.le_refl _)).1, (h _ (Nat.le_refl _)).2]
theorem nmF_e {g a a' b b' : Nat → Int32} {p : Nat} : ∀ k, (∀ j, j ≤ k → a' j = a j ∧ b' j = b j) → nmF g a' b' p k = nmF g a b p k := by
  intro k
  induction k with
  | zero => intro _; rfl
  | succ k ih => intro h; rw [nmF, nmF, ih (fun j hj => h j (by omega)), (h _ (Nat.le_refl _)).1, (h _ (Nat.le_refl _)).2]
/-- an event: the relation at the next moment -/
theorem ev_B {n : Nat} {mem N : zM} {t np pw m na na' : Nat} (hB : jB n mem t np pw m na) (hm : m < 300) (f : zfr (sEv m) mem N) (hst : zst n N) (h5 : N.1 108 5 = nI (m + 1)) (h27 : N.1 180 27 = nI (m + 1)) (h109 : N.1 109 (m + 1) = mem.1 108 6) (h184 : N.1 184 (m + 1) = mem.1 180 28) (hna : N.1 100 6 = nI na' ∧ N.1 180 29 = nI na' ∧ na' ≤ 16) (hV : evV m mem N)
    (r1 : ∀ p, p < pw → ∀ e, e < 3 → N.1 (t + 2 + p) (11 + e) = N.1 185 (3 * p + e)) (r2 : ∀ p, p < pw → ∀ q, q < 8 → bt (N.1 (t + 2 + p) 14) q = (!decide (N.1 186 (20 * q + p) = -1))) (r3 : ∀ q, q < 8 → N.1 113 q = N.1 187 q) (r4 : ∀ q, np ≤ q → q < 8 → N.1 187 q = -1)
    (hN1 : N.1 110 (m + 1) = N.1 188 (m + 1) ∧ (N.1 188 (m + 1) = -1 ∨ ((∃ p, p < pw ∧ N.1 188 (m + 1) = nI p) ∧ N.1 111 (m + 1) = N.1 189 (m + 1) ∧ N.1 112 (m + 1) = N.1 190 (m + 1))))
    (h9 : ∀ p, p < pw → N.1 (t + 2 + p) 9 = (if N.1 188 (m + 1) = nI p then mem.1 (t + 2 + p) 9 &&& N.1 189 (m + 1) else mem.1 (t + 2 + p) 9) ∧ N.1 (t + 2 + p) 10 = (if N.1 188 (m + 1) = nI p then (if mem.1 (t + 2 + p) 10 ≤ N.1 190 (m + 1) then mem.1 (t + 2 + p) 10 else N.1 190 (m + 1)) else mem.1 (t + 2 + p) 10)) :
    jB n N t np pw (m + 1) na' ∧ stab m mem N := by
  obtain ⟨-, hC, hP, hE, hN⟩ := id hB
  have hT := hC.2.1
  have h20 := hC.2.2.2.1.2.2
  have e : ∀ a b, ¬ sEv m a b → N.1 a b = mem.1 a b := f.1
  have e2 : N.1 182 = mem.1 182 := by funext j; exact e 182 j (by unfold sEv sQ; omega)
  have e8 : ∀ j, j ≠ m + 1 → N.1 188 j = mem.1 188 j ∧ N.1 189 j = mem.1 189 j ∧ N.1 190 j = mem.1 190 j := fun j hj => ⟨e 188 j (by unfold sEv sQ; omega), e 189 j (by unfold sEv sQ; omega), e 190 j (by unfold sEv sQ; omega)⟩
  refine ⟨⟨hst, ⟨(f.2.2 100 8 (by unfold sEv sQ; omega)).trans hC.1, hT, ⟨(e t 1 (by unfold sEv sQ; omega)).trans hC.2.2.1.1, (e 180 13 (by unfold sEv sQ; omega)).trans hC.2.2.1.2.1, hC.2.2.1.2.2⟩, ⟨(e t 2 (by unfold sEv sQ; omega)).trans hC.2.2.2.1.1, (e 180 15 (by unfold sEv sQ; omega)).trans hC.2.2.2.1.2.1, h20⟩, by rw [e t 3 (by unfold sEv sQ; omega), e 180 14 (by unfold sEv sQ; omega)]; exact hC.2.2.2.2.1, ⟨h5, h27, by omega⟩, by rw [e 108 6 (by unfold sEv sQ; omega), e 180 28 (by unfold sEv sQ; omega)]; exact hC.2.2.2.2.2.2.1, hna⟩, ev_P hT h20 f hP, ⟨fun p hp x hx => ⟨r1 p hp x hx, chg_m (hV.1 _) (hE.1 p hp x hx).2⟩, fun p hp q hq => ⟨r2 p hp q hq, chg_m (hV.2.1 _) (hE.2.1 p hp q hq).2⟩, fun q hq => ⟨r3 q hq, chg_m (hV.2.2 _) (hE.2.2.1 q hq).2⟩, r4⟩, ⟨(e 109 0 (by unfold sEv sQ; omega)).trans hN.1, fun k hk => ?_, fun k h1 h2 => ?_, fun k h1 h2 => ?_, fun p hp => ?_⟩⟩, e2, e 180 14 (by unfold sEv sQ; omega), fun i k hk => chg_by hm (hV.1 i) hk, fun i k hk => chg_by hm (hV.2.1 i) hk, fun i k hk => chg_by hm (hV.2.2 i) hk, fun j hj => e8 j (by omega)⟩
  · by_cases z : k = m + 1
    · subst z; rw [h109, h184]; exact hC.2.2.2.2.2.2.1
    · rw [e 109 k (by unfold sEv sQ; omega), e 184 k (by unfold sEv sQ; omega)]; exact hN.2.1 k (by omega)
  · by_cases z : k = m + 1
    · subst z; exact hN1
    · rw [e 110 k (by unfold sEv sQ; omega), e 111 k (by unfold sEv sQ; omega), e 112 k (by unfold sEv sQ; omega), (e8 k z).1, (e8 k z).2.1, (e8 k z).2.2]; exact hN.2.2.1 k h1 (by omega)
  · rw [(e8 k (by omega)).1]; exact hN.2.2.2.1 k (by omega) h2
  · obtain ⟨a, b⟩ := h9 p hp
    obtain ⟨c, d⟩ := hN.2.2.2.2 p hp
    rw [a, b, e2, nkF, nmF, nkF_e m (fun j hj => ⟨(e8 j (by omega)).1, (e8 j (by omega)).2.1⟩), nmF_e m (fun j hj => ⟨(e8 j (by omega)).1, (e8 j (by omega)).2.2⟩), c, d]
    exact ⟨rfl, rfl⟩
/-- the acts that were, at the next moment -/
theorem canA_stab {m : Nat} {mem N : zM} (hs : stab m mem N) {np pw a : Nat} (h7 : ∀ j, j < 7 → N.1 191 (9 * a + j) = mem.1 191 (9 * a + j)) (hk : ix (mem.1 191 (9 * a + 5)) ≤ m) (wo th : Int32) : zVe2 pw (vAa N np wo th a) (vAa mem np wo th a) := by
  unfold vAa vA
  have h0 : N.1 191 (9 * a) = mem.1 191 (9 * a) := h7 0 (by omega)
  rw [h0, h7 3 (by omega), h7 4 (by omega), h7 5 (by omega), h7 6 (by omega)]
  exact vP_stab hs hk pw _ wo th _ _ _
theorem bThen_stab {m : Nat} {mem N : zM} (hs : stab m mem N) {np pw a : Nat} (h7 : ∀ j, j < 7 → N.1 191 (9 * a + j) = mem.1 191 (9 * a + j)) (hk : ix (mem.1 191 (9 * a + 5)) ≤ m) : (∀ wo th, canA N np pw wo th a = canA mem np pw wo th a) ∧ bThen N np pw a = bThen mem np pw a ∧ thA N np pw a = thA mem np pw a ∧ usdA N np pw a = usdA mem np pw a := by
  have hc : ∀ wo th, canA N np pw wo th a = canA mem np pw wo th a := by
    intro wo th
    rw [canA_eq, canA_eq, h7 1 (by omega)]
    exact congrFun (canM_e2 (canA_stab hs h7 hk wo th) 3) _
  have hb : bThen N np pw a = bThen mem np pw a := by unfold bThen; rw [hc, hc, h7 2 (by omega)]
  have ht : thA N np pw a = thA mem np pw a := by unfold thA; rw [hb, h7 2 (by omega)]
  refine ⟨hc, hb, ht, ?_⟩
  unfold usdA
  rw [hb, ht, h7 1 (by omega), congrFun (usM_e2 (canA_stab (pw := pw) hs h7 hk 0 (thA mem np pw a)) 3) _]
theorem ev_A {m m' : Nat} {mem N : zM} {np pw na : Nat} (hs : stab m mem N) (hmm : m ≤ m') (h : jA mem np pw m na) (hr : ∀ a, a < na → ∀ j, j < 9 → N.1 (120 + a) j = N.1 191 (9 * a + j)) (h7 : ∀ a, a < na → ∀ j, j < 7 → N.1 191 (9 * a + j) = mem.1 191 (9 * a + j)) (h9 : ∀ a, a < na → ∀ j, 9 ≤ j → j < 12 → N.1 (120 + a) j = mem.1 (120 + a) j) : jA N np pw m' na := by
  intro a ha
  obtain ⟨b, c, d, e, f, g, i⟩ := h a ha
  have h7a := h7 a ha
  have st := bThen_stab hs (np := np) (pw := pw) h7a d
  refine ⟨hr a ha, ?_, ?_, ?_, ?_, ?_, ?_⟩
  · obtain ⟨c1, c2, c3, c4⟩ := c
    exact ⟨by rw [h7a 1 (by omega)]; exact c1, by rw [h7a 2 (by omega)]; exact c2, by rw [h7a 3 (by omega)]; exact c3, by rw [h7a 5 (by omega)]; exact c4⟩
  · rw [h7a 5 (by omega)]; omega
  · intro x hx hb
    have h0 : N.1 191 (9 * a) = mem.1 191 (9 * a) := h7a 0 (by omega)
    rw [hs.2.1] at hb
    rw [h0]; exact e x hx hb
  · rw [h9 a ha 9 (by omega) (by omega), st.2.1]; exact f
  · rw [h9 a ha 10 (by omega) (by omega), st.2.2.2]; exact g
  · intro p hp
    rw [h9 a ha 11 (by omega) (by omega), opM_e2 (canA_stab hs h7a d 0 (-1)) hp]; exact i p hp
/-- questions leave the relation as it is -/
theorem J_q {n : Nat} {mem N : zM} {t np pw m na : Nat} (h : jJ n mem t np pw m na) (f : zfr sQ mem N) : jJ n N t np pw m na := by
  obtain ⟨hB, hT, hA⟩ := h
  obtain ⟨hst, hC, hP, hE, hN⟩ := id hB
  have hTd := hC.2.1
  have h20 := hC.2.2.2.1.2.2
  have h16 := hC.2.2.2.2.2.2.2.2.2
  have e : ∀ a b, ¬ sQ a b → N.1 a b = mem.1 a b := f.1
  have fE : zfr (sEv 400) mem N := f.mono fun _ _ => sQ_E
  have row : ∀ a, ¬ (a = 180 ∨ (192 ≤ a ∧ a ≤ 196) ∨ (114 ≤ a ∧ a ≤ 118)) → N.1 a = mem.1 a := fun a ha => by funext b; exact e a b (by unfold sQ; omega)
  have rp : ∀ p, p < pw → N.1 (t + 2 + p) = mem.1 (t + 2 + p) := fun p hp => row _ (by omega)
  have hs : stab m mem N := by
    rw [stab, row 182 (by omega), row 185 (by omega), row 186 (by omega), row 187 (by omega), row 188 (by omega), row 189 (by omega), row 190 (by omega)]
    exact ⟨rfl, e 180 14 (by unfold sQ; omega), fun _ _ _ => rfl, fun _ _ _ => rfl, fun _ _ _ => rfl, fun _ _ => ⟨rfl, rfl, rfl⟩⟩
  refine ⟨⟨⟨hst.1, zFx_q f hst.2⟩, ?_, ev_P hTd h20 fE hP, ?_, ?_⟩, ev_T fE hT, ev_A hs (Nat.le_refl _) hA (fun a ha j hj => ?_) (fun a ha j hj => by rw [row 191 (by omega)]) (fun a ha j h1 h2 => by rw [row (120 + a) (by omega)])⟩
  · refine ⟨(f.2.2 100 8 (by unfold sQ; omega)).trans hC.1, hTd, ?_, ?_, ?_, ?_, ?_, ?_⟩
    · rw [row t (by omega), e 180 13 (by unfold sQ; omega)]; exact hC.2.2.1
    · rw [row t (by omega), e 180 15 (by unfold sQ; omega)]; exact hC.2.2.2.1
    · rw [row t (by omega), e 180 14 (by unfold sQ; omega)]; exact hC.2.2.2.2.1
    · rw [row 108 (by omega), e 180 27 (by unfold sQ; omega)]; exact hC.2.2.2.2.2.1
    · rw [row 108 (by omega), e 180 28 (by unfold sQ; omega)]; exact hC.2.2.2.2.2.2.1
    · rw [row 100 (by omega), e 180 29 (by unfold sQ; omega)]; exact hC.2.2.2.2.2.2.2
  · rw [jE, row 185 (by omega), row 186 (by omega), row 187 (by omega), row 113 (by omega)]
    exact ⟨fun p hp => by rw [rp p hp]; exact hE.1 p hp, fun p hp => by rw [rp p hp]; exact hE.2.1 p hp, hE.2.2⟩
  · rw [jN, row 109 (by omega), row 110 (by omega), row 111 (by omega), row 112 (by omega), row 184 (by omega), row 188 (by omega), row 189 (by omega), row 190 (by omega), row 182 (by omega)]
    exact ⟨hN.1, hN.2.1, hN.2.2.1, hN.2.2.2.1, fun p hp => by rw [rp p hp]; exact hN.2.2.2.2 p hp⟩
  · rw [row (120 + a) (by omega), row 191 (by omega)]; exact (hA a ha).1 j hj
theorem J_t {n : Nat} {mem : zM} {t np pw m na : Nat} (h : jJ n mem t np pw m na) : jJ n (zI mem 180 0 0) t np pw m na := J_q h (zfr.rf.I (Or.inl ⟨rfl, Or.inl rfl⟩))
theorem J_1 {n : Nat} {mem : zM} {t np pw m na : Nat} {v : Int32} (h : jJ n mem t np pw m na) : jJ n (zI mem 180 0 v) t np pw m na := J_q h (zfr.rf.I (Or.inl ⟨rfl, Or.inl rfl⟩))
