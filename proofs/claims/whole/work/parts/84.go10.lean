/-! ===== the tape's bytes: the class's with a sign, the reference's without ===== -/
theorem b7 {c : Int32} (hz : zlet c) {i : Nat} (h1 : 8 ≤ i) (h2 : i < 32) : bt c i = bt c 7 := by
  have e : bt c i = bt (c.toInt8.toInt32) i := by rw [show c.toInt8.toInt32 = c from hz]
  rw [e, b_i8 h2, if_neg (by omega)]
theorem by_cases8 {c : Int32} (hz : zlet c) : (c &&& 255 = c ∧ bt c 7 = false) ∨ (bt c 7 = true ∧ bt (c &&& 255) 7 = true ∧ ∃ y, y < 256 ∧ c &&& 255 = nI y) := by
  cases h7 : bt c 7 with
  | false =>
    refine Or.inl ⟨b_ext fun i hi => ?_, rfl⟩
    rw [b_and, b_255]
    by_cases h : i < 8
    · rw [decide_eq_true h, Bool.and_true]
    · rw [decide_eq_false h, Bool.and_false, b7 hz (by omega) hi, h7]
  | true =>
    refine Or.inr ⟨rfl, by rw [b_and, h7, b_255]; rfl, ?_⟩
    exact zs8_nI fun i h1 h2 => by rw [b_and, b_255, decide_eq_false (by omega), Bool.and_false]
theorem n7 {d : Nat} (h : d < 128) : bt (nI d) 7 = false := (by decide +kernel : ∀ d, d < 128 → bt (nI d) 7 = false) d h
theorem ne7 {c : Int32} {d : Nat} (h : bt c 7 = true) (hd : d < 128) : ¬ c = nI d := fun z => by rw [z, n7 hd] at h; cases h
theorem by_is {c : Int32} (hz : zlet c) {d : Nat} (hd : d < 128) : c &&& 255 = nI d ↔ c = nI d := by
  rcases by_cases8 hz with h | ⟨h1, h2, -⟩
  · rw [h.1]
  · exact ⟨fun z => absurd z (ne7 h2 hd), fun z => absurd z (ne7 h1 hd)⟩
theorem by_ltr {c : Int32} (hz : zlet c) : ltr (c &&& 255) = ltr c := by
  rcases by_cases8 hz with h | ⟨h1, h2, -⟩
  · rw [h.1]
  · have key : ∀ x, bt x 7 = true → ltr x = false := fun x hx => by
      cases hl : ltr x with
      | false => rfl
      | true => obtain ⟨d, -, h3, e⟩ := ltr_nI hl; exact absurd e (ne7 hx (by omega))
    rw [key _ h1, key _ h2]
theorem by_dgt {c : Int32} (hz : zlet c) : dgt (c &&& 255) = dgt c := by
  rcases by_cases8 hz with h | ⟨h1, h2, -⟩
  · rw [h.1]
  · have key : ∀ x, bt x 7 = true → dgt x = false := fun x hx => by
      cases hl : dgt x with
      | false => rfl
      | true => obtain ⟨d, -, h3, e⟩ := dgt_nI hl; exact absurd e (ne7 hx (by omega))
    rw [key _ h1, key _ h2]
theorem by_blk {c : Int32} (hz : zlet c) : blk (c &&& 255) = blk c := by
  unfold blk
  apply decide_eq_decide.mpr
  exact or_congr (by_is hz (d := 32) (by omega)) (by_is hz (d := 10) (by omega))
theorem by_al {c : Int32} (hz : zlet c) (h : alnum c = true) : c &&& 255 = c := by
  rcases by_cases8 hz with h0 | ⟨h1, -⟩
  · exact h0.1
  · exfalso
    unfold alnum at h
    rw [Bool.or_eq_true] at h
    rcases h with h | h
    · obtain ⟨d, -, h3, e⟩ := ltr_nI h; exact ne7 h1 (by omega) e
    · obtain ⟨d, -, h3, e⟩ := dgt_nI h; exact ne7 h1 (by omega) e
section Tape
variable {C B : Nat → Int32}
theorem tp_alnum (h : tpR C B) (x : Nat) : alnum (B x) = alnum (C x) := by
  unfold alnum
  rw [(h x).1, by_ltr (h x).2, by_dgt (h x).2]
theorem tp_sk (h : tpR C B) (lim p : Nat) : sk B lim p = sk C lim p := by
  have key : ∀ f p, skF B lim f p = skF C lim f p := by
    intro f
    induction f with
    | zero => intro p; rfl
    | succ f ih => intro p; rw [skF, skF, (h p).1, by_blk (h p).2, ih]
  exact key _ _
theorem tp_en (h : tpR C B) (sz p : Nat) : en B sz p = en C sz p := by
  have key : ∀ f p, enF B sz f p = enF C sz f p := by
    intro f
    induction f with
    | zero => intro p; rfl
    | succ f ih => intro p; rw [enF, enF, tp_alnum h, ih]
  exact key _ _
theorem tp_allD (h : tpR C B) (s : Nat) : ∀ n, allD B s n = allD C s n := by
  intro n
  induction n with
  | zero => rfl
  | succ n ih => rw [allD, allD, ih, (h _).1, by_dgt (h _).2]
theorem tp_allL (h : tpR C B) (s : Nat) : ∀ n, allL B s n = allL C s n := by
  intro n
  induction n with
  | zero => rfl
  | succ n ih => rw [allL, allL, ih, (h _).1, by_ltr (h _).2]
theorem tp_wm (h : tpR C B) (s n : Nat) {w : Nat} (hw : w < 10) : wm B s n w ↔ wm C s n w := by
  refine and_congr_right fun hn => forall_congr' fun i => forall_congr' fun hi => ?_
  obtain ⟨-, r2, r3⟩ := wd_r w hw i (by omega)
  have hlt : ix ((wdM w).getD i 0) - 96 + 96 < 128 := by omega
  rw [r3, (h _).1, by_is (h _).2 hlt]
theorem tp_wT (h : tpR C B) (s n : Nat) : wT B s n = wT C s n := by
  have key : ∀ k, k ≤ 10 → wF B s n k = wF C s n k := by
    intro k
    induction k with
    | zero => intro _; rfl
    | succ k ih =>
      intro hk
      rw [wF, wF, ih (by omega)]
      by_cases hc : wm C s n k
      · rw [if_pos hc, if_pos ((tp_wm h s n (by omega)).mpr hc)]
      · rw [if_neg hc, if_neg (fun z => hc ((tp_wm h s n (by omega)).mp z))]
  exact key 10 (Nat.le_refl _)
theorem tp_num (s : Nat) : ∀ n, (∀ i, i < n → B (s + i) = C (s + i)) → numI B s n = numI C s n := by
  intro n
  induction n with
  | zero => intro _; rfl
  | succ n ih => intro h; rw [numI, numI, ih (fun i hi => h i (by omega)), h n (by omega)]
theorem tp_tkC (h : tpR C B) (sz s : Nat) : tkC B sz s = tkC C sz s := by
  unfold tkC
  rw [tp_en h, tp_allD h, tp_allL h, tp_wT h]
  have e : (B s = 59) = (C s = 59) := by rw [(h s).1]; exact propext (by_is (h s).2 (d := 59) (by omega))
  simp only [e]
theorem tp_st (h : tpR C B) (sz p : Nat) : stP B sz p = stP C sz p := by unfold stP; rw [tp_sk h]
theorem tp_ps (h : tpR C B) (sz : Nat) : ∀ k, psS B sz k = psS C sz k := by
  intro k
  induction k with
  | zero => rfl
  | succ k ih =>
    rw [psS, psS, ih]
    unfold nxP
    rw [tp_st h, tp_en h]
    have e : ∀ x, (B x = 59) = (C x = 59) := fun x => by rw [(h x).1]; exact propext (by_is (h x).2 (d := 59) (by omega))
    simp only [e]
theorem tp_ts (h : tpR C B) (sz : Nat) : tsS B sz = tsS C sz := by
  funext k
  unfold tsS
  rw [tp_ps h]
  have e1 : tkP B sz (psS C sz k) = tkP C sz (psS C sz k) := by unfold tkP; rw [tp_sk h, tp_tkC h]
  have e2 : nmP B sz (psS C sz k) = nmP C sz (psS C sz k) := by
    unfold nmP
    rw [tp_st h, tp_en h]
    refine tp_num _ _ fun i hi => ?_
    rw [(h _).1]
    exact by_al (h _).2 (en_all (B := C) (sz := sz) (stP C sz (psS C sz k)) _ (Nat.le_add_right _ _) (by omega)).2
  rw [e1, e2, tp_st h]
end Tape
/-! ===== what a text that is read is like ===== -/
def wrS (np : Nat) (R : Nat → Nat → Int32) (p : Nat) : Prop := (∃ q, q < np ∧ R p 0 = nI q) ∧ (∀ i, np ≤ i → i < 32 → bt (R p 1) i = false) ∧ (∃ a, 1 ≤ a ∧ a ≤ 8 ∧ R p 2 = nI a) ∧ (∀ i, 6 ≤ i → i < 32 → bt (R p 3) i = false) ∧ (∃ a, a ≤ 999 ∧ R p 4 = nI a) ∧ (R p 5 = -1 ∨ ∃ a, a ≤ 999 ∧ R p 5 = nI a) ∧ (R p 6 = 0 ∨ R p 6 = 1) ∧ (R p 7 = -1 ∨ ∃ u, u < p ∧ R p 7 = nI u)
def wfS (s : zPS) : Prop := s.1 ≤ 8 ∧ s.2.2.1 ≤ 20 ∧ ∀ p, p < s.2.2.1 → wrS s.1 s.2.2.2 p ∧ s.2.2.2 p 8 = 1 <<< (nI p &&& 31) ||| (if s.2.2.2 p 7 = -1 then 0 else s.2.2.2 (ix (s.2.2.2 p 7)) 8)
theorem kd_s6 {T : zTS} : ∀ f k a x, (∀ i, 6 ≤ i → i < 32 → bt a i = false) → kdT T f k a = .inr x → ∀ i, 6 ≤ i → i < 32 → bt x.2 i = false := by
  intro f
  induction f with
  | zero => intro k a x ha h; cases h; exact ha
  | succ f ih =>
    intro k a x ha h
    rw [kdT] at h
    by_cases c1 : (T k).1 = 2
    · rw [if_neg (fun z => z c1)] at h
      by_cases c2 : 6 ≤ (T k).2.2
      · rw [if_pos c2] at h; cases h
      · rw [if_neg c2] at h
        by_cases c3 : bt a (T k).2.2 = true
        · rw [if_pos c3] at h; cases h
        · rw [if_neg c3] at h
          refine ih _ _ _ (fun i h1 h2 => ?_) h
          rw [b_or, ha i h1 h2, b_1shl (by omega) h2, decide_eq_false (by omega)]; rfl
    · rw [if_pos c1] at h; cases h; exact ha
theorem nb_wf {T : zTS} {lo hi k : Nat} {x : Nat × Nat} (h : nbT T lo hi k = .inr x) : lo ≤ x.2 ∧ x.2 ≤ hi := by
  unfold nbT at h
  by_cases c1 : (T k).1 = 2
  · rw [if_neg (fun z => z c1)] at h
    by_cases c2 : (T k).2.2 < lo ∨ hi < (T k).2.2
    · rw [if_pos c2] at h; cases h
    · rw [if_neg c2] at h; cases h; show lo ≤ (T k).2.2 ∧ (T k).2.2 ≤ hi; omega
  · rw [if_pos c1] at h; cases h
theorem ob_i {α β : Type} {x : zOut α} {f : α → zOut β} {b : β} (h : ob x f = .inr b) : ∃ a, x = .inr a ∧ f a = .inr b := by
  cases x with
  | inl e => cases h
  | inr a => exact ⟨a, rfl, h⟩
theorem gv_wf {T : zTS} {np pw k : Nat} {R : Nat → Nat → Int32} {g : Nat × Int32 × Int32} (hR : ∀ p, p < pw → ∃ q, q < np ∧ R p 0 = nI q) (h : gvT T np pw R k = .inr g) : (∃ q, q < np ∧ g.2.1 = nI q) ∧ (g.2.2 = -1 ∨ ∃ u, u < pw ∧ g.2.2 = nI u) := by
  unfold gvT at h
  by_cases c1 : (T (k + 1)).1 = 2
  · rw [if_neg (fun z => z c1)] at h
    by_cases c2 : (T k).1 = 7
    · rw [if_pos c2] at h
      by_cases c3 : pw ≤ (T (k + 1)).2.2 ∨ R (T (k + 1)).2.2 6 = 0
      · rw [if_pos c3] at h; cases h
      · rw [if_neg c3] at h
        cases h
        exact ⟨hR _ (Nat.not_le.mp fun z => c3 (Or.inl z)), Or.inr ⟨_, Nat.not_le.mp fun z => c3 (Or.inl z), rfl⟩⟩
    · rw [if_neg c2] at h
      by_cases c3 : np ≤ (T (k + 1)).2.2
      · rw [if_pos c3] at h; cases h
      · rw [if_neg c3] at h; cases h; exact ⟨⟨_, by omega, rfl⟩, Or.inl rfl⟩
  · rw [if_pos c1] at h; cases h
theorem rd_wf {T : zTS} {np pw k : Nat} {R : Nat → Nat → Int32} {x : Nat × zRow} (h8 : np ≤ 8) (hR : ∀ p, p < pw → ∃ q, q < np ∧ R p 0 = nI q) (h : rdT T np pw R k = .inr x) : (∃ q, q < np ∧ rowAt x.2 0 = nI q) ∧ (∀ i, np ≤ i → i < 32 → bt (rowAt x.2 1) i = false) ∧ (∃ a, 1 ≤ a ∧ a ≤ 8 ∧ rowAt x.2 2 = nI a) ∧ (∀ i, 6 ≤ i → i < 32 → bt (rowAt x.2 3) i = false) ∧ (∃ a, a ≤ 999 ∧ rowAt x.2 4 = nI a) ∧ (rowAt x.2 5 = -1 ∨ ∃ a, a ≤ 999 ∧ rowAt x.2 5 = nI a) ∧ (rowAt x.2 6 = 0 ∨ rowAt x.2 6 = 1) ∧ (rowAt x.2 7 = -1 ∨ ∃ u, u < pw ∧ rowAt x.2 7 = nI u) := by
  rw [rdT_c] at h
  obtain ⟨g, hg, h⟩ := ob_i h
  obtain ⟨hh, hhh, h⟩ := ob_i h
  obtain ⟨tg, ht, h⟩ := ob_i h
  obtain ⟨d, hd, h⟩ := ob_i h
  obtain ⟨r, hr, h⟩ := ob_i h
  obtain ⟨k1, -, hhh⟩ := ob_i hhh
  obtain ⟨k2, -, ht⟩ := ob_i ht
  obtain ⟨k3, -, hd⟩ := ob_i hd
  cases h
  have gw := gv_wf hR hg
  have tw := nb_wf ht
  have p8 : pcI hh.2 ≤ 8 := pcn_le _ 8
  have rw' : (r.2.1 ≤ 999) ∧ (r.2.2.1 = -1 ∨ ∃ a, a ≤ 999 ∧ r.2.2.1 = nI a) ∧ (r.2.2.2 = 0 ∨ r.2.2.2 = 1) := by
    unfold rsT at hr
    obtain ⟨k4, -, hr⟩ := ob_i hr
    obtain ⟨mm, hmm, hr⟩ := ob_i hr
    obtain ⟨l, hl, hr⟩ := ob_i hr
    have m9 := (nb_wf hmm).2
    have lw : l.2 = -1 ∨ ∃ a, a ≤ 999 ∧ l.2 = nI a := by
      unfold tlT at hl
      by_cases c : (T mm.1).1 = 12
      · rw [if_pos c] at hl
        obtain ⟨y, hy, hl⟩ := ob_i hl
        cases hl
        exact Or.inr ⟨y.2, (nb_wf hy).2, rfl⟩
      · rw [if_neg c] at hl; cases hl; exact Or.inl rfl
    by_cases c : (T l.1).1 = 13
    · rw [if_pos c] at hr; cases hr; exact ⟨m9, lw, Or.inr rfl⟩
    · rw [if_neg c] at hr; cases hr; exact ⟨m9, lw, Or.inl rfl⟩
  refine ⟨gw.1, hs_bits h8 hhh, ⟨tg.2, tw.1, by omega, rfl⟩, ?_, ⟨r.2.1, rw'.1, rfl⟩, rw'.2.1, rw'.2.2, gw.2⟩
  unfold ksT at hd
  by_cases c : (T k3).1 = 2
  · rw [if_neg (fun z => z c)] at hd
    exact kd_s6 9 k3 0 d (fun i _ _ => b_0 i) hd
  · rw [if_pos c] at hd; cases hd
theorem ln_wf {T : zTS} {s : zPS} {k : Nat} {x : Nat × zPS} (hw : wfS s) (h : lnT T s k = .inr x) : wfS x.2 := by
  unfold lnT at h
  obtain ⟨y, hy, h⟩ := ob_i h
  obtain ⟨k', -, h⟩ := ob_i h
  cases h
  show wfS y.2
  unfold rlT at hy
  by_cases c1 : (T k).1 = 4 ∨ (T k).1 = 5
  · rw [if_pos c1] at hy
    obtain ⟨k1, hk1, hy⟩ := ob_i hy
    cases hy
    unfold paT at hk1
    by_cases c : s.1 = 8
    · rw [if_pos c] at hk1; cases hk1
    · obtain ⟨w1, w2, w3⟩ := hw
      refine ⟨by show s.1 + 1 ≤ 8; omega, w2, fun p hp => ?_⟩
      obtain ⟨⟨⟨q, hq, e0⟩, e1, e⟩, e8⟩ := w3 p hp
      exact ⟨⟨⟨q, by show q < s.1 + 1; omega, e0⟩, fun i h1 h2 => e1 i (by have h1 : s.1 + 1 ≤ i := h1; omega) h2, e⟩, e8⟩
  · rw [if_neg c1] at hy
    by_cases c2 : (T k).1 = 6 ∨ (T k).1 = 7
    · rw [if_pos c2] at hy
      obtain ⟨z, hz, hy⟩ := ob_i hy
      cases hy
      unfold rpT at hz
      by_cases c : s.2.2.1 = 20
      · rw [if_pos c] at hz; cases hz
      · rw [if_neg c] at hz
        obtain ⟨w1, w2, w3⟩ := hw
        have r := rd_wf w1 (fun p hp => (w3 p hp).1.1) hz
        refine ⟨w1, by show s.2.2.1 + 1 ≤ 20; omega, fun p hp => ?_⟩
        have hp : p < s.2.2.1 + 1 := hp
        show wrS s.1 (setR s.2.2.2 s.2.2.1 z.2) p ∧ setR s.2.2.2 s.2.2.1 z.2 p 8 = 1 <<< (nI p &&& 31) ||| (if setR s.2.2.2 s.2.2.1 z.2 p 7 = -1 then 0 else setR s.2.2.2 s.2.2.1 z.2 (ix (setR s.2.2.2 s.2.2.1 z.2 p 7)) 8)
        have er : ∀ q j, q ≠ s.2.2.1 → setR s.2.2.2 s.2.2.1 z.2 q j = s.2.2.2 q j := fun q j hq => by unfold setR; rw [if_neg hq]
        have en : ∀ j, j < 8 → setR s.2.2.2 s.2.2.1 z.2 s.2.2.1 j = rowAt z.2 j := fun j hj => by unfold setR; rw [if_pos rfl, if_pos hj]
        by_cases e : p = s.2.2.1
        · rw [e]
          have e8 : setR s.2.2.2 s.2.2.1 z.2 s.2.2.1 8 = 1 <<< (nI s.2.2.1 &&& 31) ||| (if rowAt z.2 7 = -1 then 0 else s.2.2.2 (ix (rowAt z.2 7)) 8) := by unfold setR; rw [if_pos rfl, if_neg (by omega)]
          refine ⟨?_, ?_⟩
          · unfold wrS
            rw [en 0 (by omega), en 1 (by omega), en 2 (by omega), en 3 (by omega), en 4 (by omega), en 5 (by omega), en 6 (by omega), en 7 (by omega)]
            exact r
          · rw [e8, en 7 (by omega)]
            rcases r.2.2.2.2.2.2.2 with q | ⟨u, hu, q⟩
            · rw [if_pos q, if_pos q]
            · rw [q, if_neg (nI_m1 (by omega)), if_neg (nI_m1 (by omega)), ix_nI (by omega), er u 8 (by omega)]
        · obtain ⟨a, b⟩ := w3 p (by omega)
          refine ⟨?_, ?_⟩
          · unfold wrS at a ⊢
            rw [er p 0 e, er p 1 e, er p 2 e, er p 3 e, er p 4 e, er p 5 e, er p 6 e, er p 7 e]
            exact a
          · rw [er p 8 e, er p 7 e, b]
            rcases a.2.2.2.2.2.2.2 with q | ⟨u, hu, q⟩
            · rw [if_pos q, if_pos q]
            · rw [q, if_neg (nI_m1 (by omega)), if_neg (nI_m1 (by omega)), ix_nI (by omega), er u 8 (by omega)]
    · rw [if_neg c2] at hy; cases hy
theorem tx_wf {T : zTS} : ∀ f k s s', wfS s → txT T f k s = .inr s' → wfS s' := by
  intro f
  induction f with
  | zero => intro k s s' hw h; cases h; exact hw
  | succ f ih =>
    intro k s s' hw h
    rw [txT] at h
    by_cases c : (T k).1 = 0
    · rw [if_pos c] at h; cases h; exact hw
    · rw [if_neg c] at h
      obtain ⟨x, hx, h⟩ := ob_i h
      exact ih _ _ _ (ln_wf hw hx) h
