/-! ===== the relation between the class and the reference ===== -/
def bym (m : Nat) (x : Int32) : Prop := x = -1 ∨ ∃ k, k ≤ m ∧ x = nI k
theorem isby_m1 {m : Int32} : isby (-1) m = false := decide_eq_false (fun z => z.1 rfl)
theorem isby_nI {k j : Nat} (hk : k < 2 ^ 31) (hj : j < 2 ^ 31) : isby (nI k) (nI j) = decide (k ≤ j) := by
  unfold isby
  congr 1
  apply propext
  exact ⟨fun z => Nat.not_lt.mp fun w => z.2 (nI_lt w hk), fun z => ⟨nI_m1 hk, nI_nlt z hj⟩⟩
theorem isby_now {m : Nat} {x : Int32} (hm : m ≤ 300) (h : bym m x) : isby x (nI m) = !decide (x = -1) := by
  rcases h with rfl | ⟨k, hk, rfl⟩
  · rw [isby_m1, decide_eq_true rfl]; rfl
  · rw [isby_nI (by omega) (by omega), decide_eq_true hk, decide_eq_false (nI_m1 (by omega))]; rfl
theorem bt_dead {f : Nat → Int32} {m : Int32} : ∀ i, i ≤ 32 → ∀ q, q < 32 → bt (deadM f m i) q = (decide (q < i) && isby (f q) m) := by
  intro i
  induction i with
  | zero => intro _ q _; exact b_0 q
  | succ i ih =>
    intro hi q hq
    rw [deadM]
    by_cases e : q = i
    · subst e
      by_cases h : zb (isby (f q) m) = 0
      · rw [if_pos h, ih (by omega) q hq, decide_eq_false (Nat.lt_irrefl q), zb_0.mp h, Bool.and_false, Bool.and_false]
      · rw [if_neg h, b_or, b_1shl (by omega) hq, decide_eq_true rfl, Bool.or_true, decide_eq_true (Nat.lt_succ_self q), zb_n.mp h]; rfl
    · have e2 : decide (q < i + 1) = decide (q < i) := decide_eq_decide.mpr (by omega)
      by_cases h : zb (isby (f i) m) = 0
      · rw [if_pos h, ih (by omega) q hq, e2]
      · rw [if_neg h, b_or, ih (by omega) q hq, b_1shl (by omega) hq, decide_eq_false e, Bool.or_false, e2]
/-- a power's row as told -/
def zVl (g : Nat → Int32) (np p : Nat) : Prop := (∃ q, q < np ∧ g (8 * p) = nI q) ∧ (∀ i, np ≤ i → i < 32 → bt (g (8 * p + 1)) i = false) ∧ (∃ a, 1 ≤ a ∧ a ≤ 8 ∧ g (8 * p + 2) = nI a) ∧ (∀ i, 6 ≤ i → i < 32 → bt (g (8 * p + 3)) i = false) ∧ (∃ a, a ≤ 999 ∧ g (8 * p + 4) = nI a) ∧ (g (8 * p + 5) = -1 ∨ ∃ a, a ≤ 999 ∧ g (8 * p + 5) = nI a) ∧ (g (8 * p + 6) = 0 ∨ g (8 * p + 6) = 1) ∧ (g (8 * p + 7) = -1 ∨ ∃ u, u < p ∧ g (8 * p + 7) = nI u)
def jC (mem : zM) (t np pw m na : Nat) : Prop := mem.2.2 100 8 = t ∧ (t = 136 ∨ t = 158) ∧ (mem.1 t 1 = nI np ∧ mem.1 180 13 = nI np ∧ np ≤ 8) ∧ (mem.1 t 2 = nI pw ∧ mem.1 180 15 = nI pw ∧ pw ≤ 20) ∧ mem.1 t 3 = mem.1 180 14 ∧ (mem.1 108 5 = nI m ∧ mem.1 180 27 = nI m ∧ m ≤ 300) ∧ mem.1 108 6 = mem.1 180 28 ∧ (mem.1 100 6 = nI na ∧ mem.1 180 29 = nI na ∧ na ≤ 16)
def jP (mem : zM) (t np pw : Nat) : Prop := ∀ p, p < pw → (∀ j, j < 8 → mem.1 (t + 2 + p) j = mem.1 182 (8 * p + j)) ∧ zVl (mem.1 182) np p ∧ (∀ i, i < 32 → bt (mem.1 (t + 2 + p) 8) i = (decide (i = p) || (!decide (mem.1 182 (8 * p + 7) = -1) && bt (mem.1 (t + 2 + ix (mem.1 182 (8 * p + 7))) 8) i)))
def jE (mem : zM) (t np pw m : Nat) : Prop := (∀ p, p < pw → ∀ e, e < 3 → mem.1 (t + 2 + p) (11 + e) = mem.1 185 (3 * p + e) ∧ bym m (mem.1 185 (3 * p + e))) ∧ (∀ p, p < pw → ∀ q, q < 8 → bt (mem.1 (t + 2 + p) 14) q = (!decide (mem.1 186 (20 * q + p) = -1)) ∧ bym m (mem.1 186 (20 * q + p))) ∧ (∀ q, q < 8 → mem.1 113 q = mem.1 187 q ∧ bym m (mem.1 187 q)) ∧ (∀ q, np ≤ q → q < 8 → mem.1 187 q = -1)
def jN (mem : zM) (t pw m : Nat) : Prop := mem.1 109 0 = 0 ∧ (∀ k, k ≤ m → mem.1 109 k = mem.1 184 k) ∧ (∀ k, 1 ≤ k → k ≤ m → mem.1 110 k = mem.1 188 k ∧ (mem.1 188 k = -1 ∨ ((∃ p, p < pw ∧ mem.1 188 k = nI p) ∧ mem.1 111 k = mem.1 189 k ∧ mem.1 112 k = mem.1 190 k))) ∧ (∀ k, m < k → k ≤ 300 → mem.1 188 k = -1) ∧ (∀ p, p < pw → mem.1 (t + 2 + p) 9 = nkF (mem.1 182) (mem.1 188) (mem.1 189) p m ∧ mem.1 (t + 2 + p) 10 = nmF (mem.1 182) (mem.1 188) (mem.1 190) p m)
/-- all but tape and acts -/
def jB (n : Nat) (mem : zM) (t np pw m na : Nat) : Prop := zst n mem ∧ jC mem t np pw m na ∧ jP mem t np pw ∧ jE mem t np pw m ∧ jN mem t pw m
theorem jB_un {n : Nat} {mem : zM} {t np pw m na : Nat} (h : jB n mem t np pw m na) : zUn (mem.1 182) pw := fun p hp => (h.2.2.1 p hp).2.1.2.2.2.2.2.2.2
theorem jB_zRo {n : Nat} {mem : zM} {t np pw m na : Nat} (h : jB n mem t np pw m na) : zRo (mem.1 180) (mem.1 182) (mem.1 188) np pw := by
  obtain ⟨-, hC, hP, -, hN⟩ := h
  refine ⟨hC.2.2.1.2.1, hC.2.2.1.2.2, hC.2.2.2.1.2.1, hC.2.2.2.1.2.2, fun p hp => ?_, fun k h1 h2 => ?_⟩
  · have v := (hP p hp).2.1
    exact ⟨v.1, v.2.1, v.2.2.2.2.2.2.2⟩
  · rcases Nat.lt_or_ge m k with z | z
    · exact Or.inl (hN.2.2.2.1 k z h2)
    · rcases (hN.2.2.1 k h1 z).2 with w | w
      · exact Or.inl w
      · exact Or.inr w.1
theorem jB_Cs {n : Nat} {mem : zM} {t np pw m na : Nat} (h : jB n mem t np pw m na) : zCs n mem t np pw m na := by
  obtain ⟨hst, hC, hP, -, hN⟩ := h
  refine ⟨hst, hC.1, ⟨hC.2.1, hC.2.2.1.1, hC.2.2.1.2.2, hC.2.2.2.1.1, hC.2.2.2.1.2.2, fun p hp => ?_⟩, fun p hp => ?_, ⟨hC.2.2.2.2.2.1.1, hC.2.2.2.2.2.1.2.2, fun k h1 h2 => ?_⟩, hC.2.2.2.2.2.2.2.1, hC.2.2.2.2.2.2.2.2.2⟩
  · obtain ⟨hr, v, -⟩ := hP p hp
    obtain ⟨⟨q, hq, eq⟩, hb, -⟩ := v
    have := hC.2.2.1.2.2
    refine ⟨⟨q, by omega, (hr 0 (by omega)).trans eq⟩, fun i h1 h2 => ?_⟩
    rw [hr 1 (by omega)]; exact hb i (by omega) h2
  · obtain ⟨hr, v, -⟩ := hP p hp
    have := hC.2.2.2.1.2.2
    rw [hr 7 (by omega)]
    rcases v.2.2.2.2.2.2.2 with z | ⟨u, hu, z⟩
    · exact Or.inl z
    · exact Or.inr ⟨u, by omega, z⟩
  · have := hC.2.2.2.1.2.2
    obtain ⟨e, z⟩ := hN.2.2.1 k h1 h2
    rw [e]
    rcases z with z | ⟨⟨p, hp, z⟩, -⟩
    · exact Or.inl z
    · exact Or.inr ⟨p, by omega, z⟩
theorem jB_Mc {n : Nat} {mem : zM} {t np pw m na : Nat} (h : jB n mem t np pw m na) : zMc mem np pw m na := by
  obtain ⟨-, hC, -⟩ := h
  exact ⟨hC.2.2.1.2.1, hC.2.2.1.2.2, hC.2.2.2.1.2.1, hC.2.2.2.1.2.2, hC.2.2.2.2.2.1.2.1, hC.2.2.2.2.2.1.2.2, hC.2.2.2.2.2.2.2.2.1, hC.2.2.2.2.2.2.2.2.2⟩
theorem jB_Mi {n : Nat} {mem : zM} {t np pw m na : Nat} (h : jB n mem t np pw m na) : zMi n mem np pw m na := ⟨h.1, jB_Mc h, jB_zRo h⟩
/-- who has died, of both -/
theorem dead_eq {mem : zM} {t np pw m : Nat} (h8 : np ≤ 8) (hE : jE mem t np pw m) (k : Int32) : deadM (mem.1 187) k np = deadM (mem.1 113) k 8 := by
  apply b_ext
  intro i hi
  rw [bt_dead np (by omega) i hi, bt_dead 8 (by omega) i hi]
  by_cases h1 : i < 8
  · rw [decide_eq_true h1, Bool.true_and, (hE.2.2.1 i h1).1]
    by_cases h2 : i < np
    · rw [decide_eq_true h2, Bool.true_and]
    · rw [decide_eq_false h2, Bool.false_and, hE.2.2.2 i (by omega) h1, isby_m1]
  · rw [decide_eq_false h1, decide_eq_false (by omega), Bool.false_and, Bool.false_and]
theorem dead_bt {mem : zM} {t np pw m q : Nat} (hE : jE mem t np pw m) (hq : q < 8) (k : Int32) : bt (deadM (mem.1 113) k 8) q = isby (mem.1 187 q) k := by
  rw [bt_dead 8 (by omega) q (by omega), decide_eq_true hq, Bool.true_and, (hE.2.2.1 q hq).1]
/-- why a power isn't live: of itself, or of the one under which it is -/
theorem why_rs {np : Nat} {f g e t d w : Nat → Int32} {p : Nat} {r : Nat → Int32} {b : Bool} {dd : Int32} (h0 : r 0 = g (8 * p)) (h1 : r 1 = g (8 * p + 1)) (h2 : r 2 = g (8 * p + 2)) (h5 : r 5 = g (8 * p + 5)) (hb : endedM f e t p = b) (hg : isby (d (ix (g (8 * p)))) (f 30) = bt dd (ix (g (8 * p)))) (hd : deadM d (f 30) np = dd) :
    whyM np f g e t d w p = if rsC r b (f 31) dd = 0 then (if (decide (g (8 * p + 7) = -1) || (!bt (f 32) (ix (g (8 * p + 7))) && decide (w (ix (g (8 * p + 7))) = 0))) = true then 0 else 5) else rsC r b (f 31) dd := by
  unfold whyM rsC
  rw [hb, hg, hd, h0, h1, h2, h5]
  generalize (decide (g (8 * p + 5) = -1) || decide (f 31 ≤ g (8 * p + 5))) = c1
  generalize bt dd (ix (g (8 * p))) = c2
  generalize (decide (g (8 * p + 7) = -1) || (!bt (f 32) (ix (g (8 * p + 7))) && decide (w (ix (g (8 * p + 7))) = 0))) = c3
  by_cases hc : g (8 * p + 2) ≤ nI (pcI (g (8 * p + 1) &&& (dd ^^^ (-1))))
  · simp only [if_pos hc]
    cases b <;> cases c1 <;> cases c2 <;> cases c3 <;> decide
  · simp only [if_neg hc]
    cases b <;> cases c1 <;> cases c2 <;> cases c3 <;> decide
/-- the same at all powers: b who seems ended -/
theorem why_all {n : Nat} {mem : zM} {t np pw m na : Nat} (hB : jB n mem t np pw m na) {f : Nat → Int32} {b : Nat → Bool} (hb : ∀ p, p < pw → endedM f (mem.1 185) (mem.1 186) p = b p) {p : Nat} (hp : p < pw) :
    whyP np f (mem.1 182) (mem.1 185) (mem.1 186) (mem.1 187) p = if rsC (mem.1 (t + 2 + p)) (b p) (f 31) (deadM (mem.1 113) (f 30) 8) = 0 then (if (decide (mem.1 182 (8 * p + 7) = -1) || (!bt (f 32) (ix (mem.1 182 (8 * p + 7))) && decide (whyP np f (mem.1 182) (mem.1 185) (mem.1 186) (mem.1 187) (ix (mem.1 182 (8 * p + 7))) = 0))) = true then 0 else 5) else rsC (mem.1 (t + 2 + p)) (b p) (f 31) (deadM (mem.1 113) (f 30) 8) := by
  obtain ⟨-, hC, hP, hE, -⟩ := id hB
  have h8 := hC.2.2.1.2.2
  obtain ⟨hr, v, -⟩ := hP p hp
  obtain ⟨q, hq, eq⟩ := v.1
  rw [whyP_eq (jB_un hB) hC.2.2.2.1.2.2 hp]
  exact why_rs (hr 0 (by omega)) (hr 1 (by omega)) (hr 2 (by omega)) (hr 5 (by omega)) (hb p hp) (by rw [eq, ix_nI (by omega), dead_bt hE (by omega)]) (dead_eq h8 hE _)
theorem if05 {c : Bool} {x : Int32} : (if x = 0 then (if c = true then (0 : Int32) else 5) else x) = 0 ↔ x = 0 ∧ c = true := by
  by_cases h : x = 0
  · rw [if_pos h]
    cases c
    · rw [if_neg (by decide)]; exact ⟨fun z => absurd z (by decide), fun z => absurd z.2 (by decide)⟩
    · rw [if_pos rfl]; exact ⟨fun _ => ⟨h, rfl⟩, fun _ => rfl⟩
  · rw [if_neg h]; exact ⟨fun z => absurd z h, fun z => absurd z.1 h⟩
/-- ended now, as the class has it -/
theorem ended_now {n : Nat} {mem : zM} {t np pw m na : Nat} (hB : jB n mem t np pw m na) {f : Nat → Int32} {th : Int32} (h30 : f 30 = nI m) (h33 : f 33 = th) (hth : th = -1 ∨ ∃ q, q < 8 ∧ th = nI q) {p : Nat} (hp : p < pw) : endedM f (mem.1 185) (mem.1 186) p = enC (mem.1 (t + 2 + p)) th := by
  obtain ⟨-, hC, hP, hE, -⟩ := id hB
  have hm := hC.2.2.2.2.2.1.2.2
  have e0 := hE.1 p hp 0 (by omega)
  have e1 := hE.1 p hp 1 (by omega)
  have e2 := hE.1 p hp 2 (by omega)
  have e0' : mem.1 (t + 2 + p) 11 = mem.1 185 (3 * p) := e0.1
  have e1' : mem.1 (t + 2 + p) 12 = mem.1 185 (3 * p + 1) := e1.1
  have e2' : mem.1 (t + 2 + p) 13 = mem.1 185 (3 * p + 2) := e2.1
  have b0 : bym m (mem.1 185 (3 * p)) := e0.2
  unfold endedM enC smC
  rw [h30, h33, isby_now hm b0, isby_now hm e1.2, isby_now hm e2.2, e0', e1', e2']
  rcases hth with rfl | ⟨q, hq, rfl⟩
  · rw [decide_eq_true rfl, Bool.true_or, Bool.true_or]
  · have en := hE.2.1 p hp q hq
    rw [ix_nI (by omega), isby_now hm en.2, en.1]
    cases decide (mem.1 185 (3 * p + 1) = -1) <;> cases decide (mem.1 185 (3 * p + 2) = -1) <;> cases decide (mem.1 186 (20 * q + p) = -1) <;> rfl
theorem opF_lo {g : Nat → Nat → Int32} {c : Nat} {am th d dd : Int32} : ∀ i, i ≤ 32 → ∀ q, i ≤ q → q < 32 → bt (opF g c am th d dd i) q = false := by
  intro i
  induction i with
  | zero => intro _ q _ _; exact b_0 q
  | succ i ih =>
    intro hi q h1 h2
    rw [opF]
    split
    · rw [b_or, ih (by omega) q (by omega) h2, b_1shl (by omega) h2, decide_eq_false (by omega)]; rfl
    · exact ih (by omega) q (by omega) h2
theorem opF_at {g : Nat → Nat → Int32} {c : Nat} {am th d dd : Int32} : ∀ i, i ≤ 32 → ∀ q, q < i → bt (opF g c am th d dd i) q = opS g c am th d dd (opF g c am th d dd q) q := by
  intro i
  induction i with
  | zero => intro _ q h; omega
  | succ i ih =>
    intro hi q hq
    rw [opF]
    by_cases e : q = i
    · subst e
      cases ho : opS g c am th d dd (opF g c am th d dd q) q with
      | true => rw [if_pos rfl, b_or, b_1shl (by omega) (by omega), decide_eq_true rfl, Bool.or_true]
      | false => rw [if_neg (by decide), opF_lo q (by omega) q (Nat.le_refl _) (by omega)]
    · split
      · rw [b_or, ih (by omega) q (by omega), b_1shl (by omega) (by omega), decide_eq_false e, Bool.or_false]
      · exact ih (by omega) q (by omega)
theorem min_lt {x y a : Int32} : (!decide ((if x ≤ y then x else y) < a)) = (!decide (x < a) && !decide (y < a)) := by
  by_cases h : x ≤ y
  · rw [if_pos h]
    by_cases h1 : x < a
    · rw [decide_eq_true h1]; rfl
    · rw [decide_eq_false h1, decide_eq_false (fun z => h1 (Int32.lt_of_le_of_lt h z))]; rfl
  · rw [if_neg h]
    have h' : y ≤ x := Int32.le_of_lt (Int32.not_le.mp h)
    by_cases h1 : y < a
    · rw [decide_eq_true h1]; exact (Bool.and_false _).symm
    · rw [decide_eq_false h1, decide_eq_false (fun z => h1 (Int32.lt_of_le_of_lt h' z))]; rfl
/-- the open powers now are the reference's -/
theorem core2 {n : Nat} {mem : zM} {t np pw m na : Nat} (hB : jB n mem t np pw m na) {c : Nat} (hc : c < 32) {am th ps : Int32} (hth : th = -1 ∨ ∃ q, q < 8 ∧ th = nI q) : ∀ p, p < pw → bt (opN mem t pw c am th) p = opM (vP mem np m (mem.1 180 28) 0 th ps (nI c) am) p := by
  obtain ⟨-, hC, hP, hE, hN⟩ := id hB
  have h20 := hC.2.2.2.1.2.2
  have hun := jB_un hB
  have key : ∀ s p, p < s → p < pw → bt (opN mem t pw c am th) p = opM (vP mem np m (mem.1 180 28) 0 th ps (nI c) am) p := by
    intro s
    induction s with
    | zero => intro p h; omega
    | succ s ih =>
      intro p hps hp
      have hw := why_all hB (f := fF (mem.1 180 14) (nI m) (mem.1 180 28) 0 th ps (nI c) am) (b := fun p => enC (mem.1 (t + 2 + p)) th) (fun p hp => ended_now hB rfl rfl hth hp) hp
      have hw : whyP np (fF (mem.1 180 14) (nI m) (mem.1 180 28) 0 th ps (nI c) am) (mem.1 182) (mem.1 185) (mem.1 186) (mem.1 187) p = if rsC (mem.1 (t + 2 + p)) (enC (mem.1 (t + 2 + p)) th) (mem.1 180 28) (deadM (mem.1 113) (nI m) 8) = 0 then (if (decide (mem.1 182 (8 * p + 7) = -1) || (!bt 0 (ix (mem.1 182 (8 * p + 7))) && decide (whyP np (fF (mem.1 180 14) (nI m) (mem.1 180 28) 0 th ps (nI c) am) (mem.1 182) (mem.1 185) (mem.1 186) (mem.1 187) (ix (mem.1 182 (8 * p + 7))) = 0))) = true then 0 else 5) else rsC (mem.1 (t + 2 + p)) (enC (mem.1 (t + 2 + p)) th) (mem.1 180 28) (deadM (mem.1 113) (nI m) 8) := hw
      obtain ⟨hr, v, -⟩ := hP p hp
      obtain ⟨k9, k10⟩ := hN.2.2.2.2 p hp
      have e1 : bt (opN mem t pw c am th) p = opS (gC mem t) c am th (mem.1 108 6) (deadM (mem.1 113) (mem.1 108 5) 8) (opF (gC mem t) c am th (mem.1 108 6) (deadM (mem.1 113) (mem.1 108 5) 8) p) p := opF_at pw (by omega) p hp
      rw [e1]
      unfold opS opM lvM
      show (_ && (pmC (mem.1 (t + 2 + p)) c am && decide (rsC (mem.1 (t + 2 + p)) (enC (mem.1 (t + 2 + p)) th) (mem.1 108 6) (deadM (mem.1 113) (mem.1 108 5) 8) = 0))) = (bt (kP (mem.1 182) (fun p => nkF (mem.1 182) (mem.1 188) (mem.1 189) p m) p) (ix (nI c)) && (!decide (mP (mem.1 182) (fun p => nmF (mem.1 182) (mem.1 188) (mem.1 190) p m) p < am) && (!bt 0 p && decide (whyP np (fF (mem.1 180 14) (nI m) (mem.1 180 28) 0 th ps (nI c) am) (mem.1 182) (mem.1 185) (mem.1 186) (mem.1 187) p = 0))))
      rw [hw, kP_eq hun h20 hp, mP_eq hun h20 hp, ix_nI (by omega), b_0, Bool.not_false, Bool.true_and, hC.2.2.2.2.2.2.1, hC.2.2.2.2.2.1.1]
      have e7 : gC mem t p 7 = mem.1 182 (8 * p + 7) := hr 7 (by omega)
      rw [e7]
      unfold pmC
      rw [k9, k10]
      have hcond : ∀ x : Int32, ∀ b : Bool, decide ((if x = 0 then (if b = true then (0 : Int32) else 5) else x) = 0) = (decide (x = 0) && b) := fun x b => by
        cases b
        · rw [Bool.and_false]; exact decide_eq_false (fun z => absurd (if05.mp z).2 (by decide))
        · rw [Bool.and_true]; exact decide_eq_decide.mpr ⟨fun z => (if05.mp z).1, fun z => if05.mpr ⟨z, rfl⟩⟩
      rw [hcond]
      rcases v.2.2.2.2.2.2.2 with z | ⟨u, hu, z⟩
      · rw [z, decide_eq_true rfl, Bool.true_or, Bool.true_or, if_pos rfl, if_pos rfl, Bool.true_and, Bool.and_true, Bool.and_assoc]
      · have nu : ¬ nI u = -1 := nI_m1 (by omega)
        have iu := ih u (by omega) (by omega)
        have e2 : bt (opF (gC mem t) c am th (mem.1 180 28) (deadM (mem.1 113) (nI m) 8) p) u = bt (opN mem t pw c am th) u := by
          unfold opN
          rw [opF_at pw (by omega) u (by omega), opF_at p (by omega) u hu, hC.2.2.2.2.2.2.1, hC.2.2.2.2.2.1.1]
        unfold opM lvM at iu
        have iu' : bt (opN mem t pw c am th) u = (bt (kP (mem.1 182) (fun p => nkF (mem.1 182) (mem.1 188) (mem.1 189) p m) u) c && (!decide (mP (mem.1 182) (fun p => nmF (mem.1 182) (mem.1 188) (mem.1 190) p m) u < am) && decide (whyP np (fF (mem.1 180 14) (nI m) (mem.1 180 28) 0 th ps (nI c) am) (mem.1 182) (mem.1 185) (mem.1 186) (mem.1 187) u = 0))) := by
          rw [iu]
          show (bt _ (ix (nI c)) && (!decide _ && (!bt 0 u && _))) = _
          rw [ix_nI (by omega), b_0, Bool.not_false, Bool.true_and]; rfl
        rw [z, decide_eq_false nu, Bool.false_or, Bool.false_or, if_neg nu, if_neg nu, ix_nI (by omega), e2, iu', b_and, min_lt]
        rw [b_0, Bool.not_false, Bool.true_and]
        cases bt (nkF (mem.1 182) (mem.1 188) (mem.1 189) p m) c <;> cases bt (kP (mem.1 182) (fun p => nkF (mem.1 182) (mem.1 188) (mem.1 189) p m) u) c <;> cases decide (nmF (mem.1 182) (mem.1 188) (mem.1 190) p m < am) <;> cases decide (mP (mem.1 182) (fun p => nmF (mem.1 182) (mem.1 188) (mem.1 190) p m) u < am) <;> cases decide (rsC (mem.1 (t + 2 + p)) (enC (mem.1 (t + 2 + p)) th) (mem.1 180 28) (deadM (mem.1 113) (nI m) 8) = 0) <;> cases decide (whyP np (fF (mem.1 180 14) (nI m) (mem.1 180 28) 0 th ps (nI c) am) (mem.1 182) (mem.1 185) (mem.1 186) (mem.1 187) u = 0) <;> rfl
  exact fun p hp => key (p + 1) p (by omega) hp
