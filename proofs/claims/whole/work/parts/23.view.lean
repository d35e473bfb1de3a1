/-! ===== how many bits ===== -/
def zs8 (x : Int32) : Prop := ∀ i, 8 ≤ i → i < 32 → bt x i = false
def pcn (x : Int32) : Nat → Nat
  | 0 => 0
  | i + 1 => pcn x i + (bt x i).toNat
def pcI (x : Int32) : Nat := pcn x 8
theorem zs8_nI {x : Int32} (h : zs8 x) : ∃ y, y < 256 ∧ x = nI y := by
  refine ⟨x.toBitVec.toNat, ?_, ?_⟩
  · apply Nat.lt_pow_two_of_testBit (n := 8)
    intro i hi
    rcases Nat.lt_or_ge i 32 with q | q
    · exact h i hi q
    · exact BitVec.getLsbD_of_ge _ _ q
  · apply Int32.toBitVec_inj.mp
    show x.toBitVec = BitVec.ofNat 32 x.toBitVec.toNat
    simp
theorem bits_step : ∀ y, y < 256 → y ≠ 0 → (nI y &&& (nI y - 1)) = nI (y &&& (y - 1)) ∧ y &&& (y - 1) < y ∧ pcI (nI y) = pcI (nI (y &&& (y - 1))) + 1 := by decide +kernel
theorem pcI_le : ∀ y, y < 256 → pcI (nI y) ≤ 8 := by decide +kernel
def k_X11_bits : zCt := fun as n mem Q => ∃ (x : Int32), as = [.int x] ∧ zs8 x ∧ Q (some (.int (nI (pcI x)))) n mem
theorem ok_X11_bits {l : Launch} {G : zG} : zOK l G yX11_bits cX11_bits 3 (some .int) 0 0 0 k_X11_bits := by
  intro as n mem Q hK
  obtain ⟨x, rfl, h8, hQ⟩ := hK
  refine mtX11_bits (List.forall_mem_cons.mpr ⟨rfl, fun _ h => absurd h List.not_mem_nil⟩) (by simp) rfl (fun P hP => ?_)
  show P 0 [.int x, .null, .null] [] n mem
  obtain ⟨y0, hy0, rfl⟩ := zs8_nI h8
  have loop : ∀ y, y < 256 → ∀ c, c + pcI (nI y) = pcI (nI y0) → P 4 [.int (nI y0), .int (nI c), .int (nI y)] [] n mem := by
    intro y
    induction y using Nat.strongRecOn with
    | _ y ih =>
      intro hy c hc
      by_cases h0 : y = 0
      · subst h0
        have e : pcI (nI 0) = 0 := by decide
        have ec : c = pcI (nI y0) := by omega
        refine hP _ _ _ _ _ ?_
        refine hP _ _ _ _ _ ⟨fun _ => ?_, fun hz => absurd ( nI_0) hz⟩
        refine hP _ _ _ _ _ ?_
        refine hP _ _ _ _ _ ?_
        exact ⟨rfl, by rw [ec]; exact hQ⟩
      · obtain ⟨s1, s2, s3⟩ := bits_step y hy h0
        have key := ih (y &&& (y - 1)) s2 (by omega) (c + 1) (by omega)
        rw [← s1, nI_succ] at key
        refine hP _ _ _ _ _ ?_
        refine hP _ _ _ _ _ ⟨fun hz => absurd hz ( nI_ne0 (by omega) (by omega)), fun _ => ?_⟩
        refine hP _ _ _ _ _ ?_
        refine hP _ _ _ _ _ ?_
        refine hP _ _ _ _ _ ?_
        refine hP _ _ _ _ _ ?_
        refine hP _ _ _ _ _ ?_
        refine hP _ _ _ _ _ ?_
        refine hP _ _ _ _ _ ?_
        refine hP _ _ _ _ _ ?_
        exact key
  refine hP _ _ _ _ _ ?_
  refine hP _ _ _ _ _ ?_
  refine hP _ _ _ _ _ ?_
  refine hP _ _ _ _ _ ?_
  exact loop y0 hy0 0 (by omega)
theorem bitCount_ok : ∀ y, y < 256 → (let x0 := nI y
    let x1 := x0 - ((x0.toUInt32 >>> ((1 : Int32).toUInt32 &&& Int32.toUInt32 31)).toInt32 &&& 1431655765)
    let x2 := (x1 &&& 858993459) + ((x1.toUInt32 >>> ((2 : Int32).toUInt32 &&& Int32.toUInt32 31)).toInt32 &&& 858993459)
    let x3 := (x2 + (x2.toUInt32 >>> ((4 : Int32).toUInt32 &&& Int32.toUInt32 31)).toInt32) &&& 252645135
    let x4 := x3 + (x3.toUInt32 >>> ((8 : Int32).toUInt32 &&& Int32.toUInt32 31)).toInt32
    let x5 := x4 + (x4.toUInt32 >>> ((16 : Int32).toUInt32 &&& Int32.toUInt32 31)).toInt32
    x5 &&& 63) = nI (pcI (nI y)) := by decide +kernel
def k_J6_bitCount_0f7a4 : zCt := k_X11_bits
theorem ok_J6_bitCount_0f7a4 {l : Launch} {G : zG} : zOK l G yJ6_bitCount_0f7a4 cJ6_bitCount_0f7a4 1 (some .int) 0 0 0 k_J6_bitCount_0f7a4 := by
  intro as n mem Q hK
  obtain ⟨x, rfl, h8, hQ⟩ := hK
  refine mtJ6_bitCount_0f7a4 (List.forall_mem_cons.mpr ⟨rfl, fun _ h => absurd h List.not_mem_nil⟩) (by simp) rfl (fun P hP => ?_)
  show P 0 [.int x] [] n mem
  obtain ⟨y, hy, rfl⟩ := zs8_nI h8
  have e := bitCount_ok y hy
  refine hP _ _ _ _ _ ?_
  refine hP _ _ _ _ _ ?_
  refine hP _ _ _ _ _ ?_
  refine hP _ _ _ _ _ ?_
  refine hP _ _ _ _ _ ?_
  refine hP _ _ _ _ _ ?_
  refine hP _ _ _ _ _ ?_
  refine hP _ _ _ _ _ ?_
  refine hP _ _ _ _ _ ?_
  refine hP _ _ _ _ _ ?_
  refine hP _ _ _ _ _ ?_
  refine hP _ _ _ _ _ ?_
  refine hP _ _ _ _ _ ?_
  refine hP _ _ _ _ _ ?_
  refine hP _ _ _ _ _ ?_
  refine hP _ _ _ _ _ ?_
  refine hP _ _ _ _ _ ?_
  refine hP _ _ _ _ _ ?_
  refine hP _ _ _ _ _ ?_
  refine hP _ _ _ _ _ ?_
  refine hP _ _ _ _ _ ?_
  refine hP _ _ _ _ _ ?_
  refine hP _ _ _ _ _ ?_
  refine hP _ _ _ _ _ ?_
  refine hP _ _ _ _ _ ?_
  refine hP _ _ _ _ _ ?_
  refine hP _ _ _ _ _ ?_
  refine hP _ _ _ _ _ ?_
  refine hP _ _ _ _ _ ?_
  refine hP _ _ _ _ _ ?_
  refine hP _ _ _ _ _ ?_
  refine hP _ _ _ _ _ ?_
  refine hP _ _ _ _ _ ?_
  refine hP _ _ _ _ _ ?_
  refine hP _ _ _ _ _ ?_
  refine hP _ _ _ _ _ ?_
  refine hP _ _ _ _ _ ?_
  refine hP _ _ _ _ _ ?_
  refine hP _ _ _ _ _ ?_
  refine hP _ _ _ _ _ ?_
  refine hP _ _ _ _ _ ?_
  refine hP _ _ _ _ _ ?_
  exact ⟨rfl, by rw [← e] at hQ; exact hQ⟩
/-! ===== the reference's view ===== -/
/-- the rows of the powers, of the counts, of what is narrowed -/
def zRo (f g h : Nat → Int32) (np pw : Nat) : Prop := f 13 = nI np ∧ np ≤ 8 ∧ f 15 = nI pw ∧ pw ≤ 20 ∧ (∀ p, p < pw → (∃ q, q < np ∧ g (8 * p) = nI q) ∧ (∀ i, np ≤ i → i < 32 → bt (g (8 * p + 1)) i = false) ∧ (g (8 * p + 7) = -1 ∨ ∃ u, u < p ∧ g (8 * p + 7) = nI u)) ∧ (∀ k, 1 ≤ k → k ≤ 300 → (h k = -1 ∨ ∃ p, p < pw ∧ h k = nI p))
/-- the third party that is asked for -/
def zTh (f : Nat → Int32) : Prop := f 33 = -1 ∨ ∃ t, t < 8 ∧ f 33 = nI t
/-- f: counts (180), e: entries (185), t: notices (186) -/
def endedM (f e t : Nat → Int32) (p : Nat) : Bool :=
  isby (e (3 * p)) (f 30) && (decide (f 33 = -1) || (!isby (e (3 * p + 1)) (f 30) || isby (e (3 * p + 2)) (f 30) || isby (t (20 * ix (f 33) + p)) (f 30)))
def k_X11_isEnded : zCt := fun as n mem Q => ∃ (p : Nat), as = [.ref 180, .int (nI p)] ∧ p < 20 ∧ zst n mem ∧ zTh (mem.1 180) ∧ Q (some (.int (zb (endedM (mem.1 180) (mem.1 185) (mem.1 186) p)))) n mem
theorem ok_X11_isEnded {l : Launch} {G : zG} : zOK l G yX11_isEnded cX11_isEnded 2 (some .boolean) 1 0 0 k_X11_isEnded := by
  intro as n mem Q hK
  obtain ⟨p, rfl, hp, ⟨hn, hF⟩, hT, hQ⟩ := hK
  refine mtX11_isEnded ok_X11_isBy (by decide) (List.forall_mem_cons.mpr ⟨rfl, List.forall_mem_cons.mpr ⟨rfl, fun _ h => absurd h List.not_mem_nil⟩⟩) (by simp) rfl (fun P hP => ?_)
  show P 0 [.ref 180, .int (nI p)] [] n mem
  refine hP _ _ _ _ _ ?_
  refine hP _ _ _ _ _ ⟨(zi hn rfl rfl rfl), _, fx_Model_entries hF, (by decide), ?_⟩
  refine hP _ _ _ _ _ ?_
  refine hP _ _ _ _ _ ?_
  refine hP _ _ _ _ _ ?_
  refine hP _ _ _ _ _ ⟨_, 3 * p, (zi hn rfl rfl rfl), nmul 3 p, by omega, ?_⟩
  refine hP _ _ _ _ _ ?_
  refine hP _ _ _ _ _ ⟨(zi hn rfl rfl rfl), ?_⟩
  refine hP _ _ _ _ _ ⟨Nat.le_of_ble_eq_true rfl, Nat.le_of_ble_eq_true rfl, ?_⟩
  refine ⟨_, _, rfl, ?_⟩
  refine hP _ _ _ _ _ ⟨fun h15 => ?_, fun h15 => ?_⟩
  ·
    have h15 := zb_0.mp h15
    refine hP _ _ _ _ _ ?_
    refine hP _ _ _ _ _ ?_
    exact ⟨by decide, rfl, by simpa [zb, endedM, h15] using hQ⟩
  ·
    have h15 := zb_n.mp h15
    refine hP _ _ _ _ _ ?_
    refine hP _ _ _ _ _ ⟨(zi hn rfl rfl rfl), ?_⟩
    refine hP _ _ _ _ _ ?_
    refine hP _ _ _ _ _ ⟨fun h25 => ?_, fun h25 => ?_⟩
    ·
      refine hP _ _ _ _ _ ?_
      refine hP _ _ _ _ _ ?_
      exact ⟨by decide, rfl, by simpa [zb, endedM, h15, h25] using hQ⟩
    ·
      obtain ⟨t, ht8, ht⟩ : ∃ t, t < 8 ∧ mem.1 180 33 = nI t := hT.resolve_left h25
      have hxt := ix_nI (j := t) (by omega)
      have ht1 : ¬ nI t = -1 := ht ▸ h25
      refine hP _ _ _ _ _ ?_
      refine hP _ _ _ _ _ ⟨(zi hn rfl rfl rfl), _, fx_Model_entries hF, (by decide), ?_⟩
      refine hP _ _ _ _ _ ?_
      refine hP _ _ _ _ _ ?_
      refine hP _ _ _ _ _ ?_
      refine hP _ _ _ _ _ ?_
      refine hP _ _ _ _ _ ?_
      refine hP _ _ _ _ _ ⟨_, 3 * p + 1, (zi hn rfl rfl rfl), nlin 3 p 1, by omega, ?_⟩
      refine hP _ _ _ _ _ ?_
      refine hP _ _ _ _ _ ⟨(zi hn rfl rfl rfl), ?_⟩
      refine hP _ _ _ _ _ ⟨Nat.le_of_ble_eq_true rfl, Nat.le_of_ble_eq_true rfl, ?_⟩
      refine ⟨_, _, rfl, ?_⟩
      refine hP _ _ _ _ _ ⟨fun h47 => ?_, fun h47 => ?_⟩
      ·
        have h47 := zb_0.mp h47
        refine hP _ _ _ _ _ ?_
        refine hP _ _ _ _ _ ?_
        refine hP _ _ _ _ _ ?_
        exact ⟨by decide, rfl, by simpa [zb, endedM, h15, h25, ht, hxt, ht1, h47] using hQ⟩
      ·
        have h47 := zb_n.mp h47
        refine hP _ _ _ _ _ ?_
        refine hP _ _ _ _ _ ⟨(zi hn rfl rfl rfl), _, fx_Model_entries hF, (by decide), ?_⟩
        refine hP _ _ _ _ _ ?_
        refine hP _ _ _ _ _ ?_
        refine hP _ _ _ _ _ ?_
        refine hP _ _ _ _ _ ?_
        refine hP _ _ _ _ _ ?_
        refine hP _ _ _ _ _ ⟨_, 3 * p + 2, (zi hn rfl rfl rfl), nlin 3 p 2, by omega, ?_⟩
        refine hP _ _ _ _ _ ?_
        refine hP _ _ _ _ _ ⟨(zi hn rfl rfl rfl), ?_⟩
        refine hP _ _ _ _ _ ⟨Nat.le_of_ble_eq_true rfl, Nat.le_of_ble_eq_true rfl, ?_⟩
        refine ⟨_, _, rfl, ?_⟩
        refine hP _ _ _ _ _ ⟨fun h67 => ?_, fun h67 => ?_⟩
        ·
          have h67 := zb_0.mp h67
          refine hP _ _ _ _ _ ?_
          refine hP _ _ _ _ _ ⟨(zi hn rfl rfl rfl), _, fx_Model_notices hF, (by decide), ?_⟩
          refine hP _ _ _ _ _ ?_
          refine hP _ _ _ _ _ ?_
          refine hP _ _ _ _ _ ⟨(zi hn rfl rfl rfl), ?_⟩
          refine hP _ _ _ _ _ ?_
          refine hP _ _ _ _ _ ?_
          refine hP _ _ _ _ _ ?_
          refine hP _ _ _ _ _ ⟨_, 20 * t + p, (zi hn rfl rfl rfl), (by rw [ht]; exact nlin 20 t p), by omega, ?_⟩
          refine hP _ _ _ _ _ ?_
          refine hP _ _ _ _ _ ⟨(zi hn rfl rfl rfl), ?_⟩
          refine hP _ _ _ _ _ ⟨Nat.le_of_ble_eq_true rfl, Nat.le_of_ble_eq_true rfl, ?_⟩
          refine ⟨_, _, rfl, ?_⟩
          refine hP _ _ _ _ _ ⟨fun h91 => ?_, fun h91 => ?_⟩
          ·
            have h91 := zb_0.mp h91
            refine hP _ _ _ _ _ ?_
            refine hP _ _ _ _ _ ?_
            exact ⟨by decide, rfl, by simpa [zb, endedM, h15, h25, ht, hxt, ht1, h47, h67, h91] using hQ⟩
          ·
            have h91 := zb_n.mp h91
            refine hP _ _ _ _ _ ?_
            refine hP _ _ _ _ _ ?_
            refine hP _ _ _ _ _ ?_
            exact ⟨by decide, rfl, by simpa [zb, endedM, h15, h25, ht, hxt, ht1, h47, h67, h91] using hQ⟩
        ·
          have h67 := zb_n.mp h67
          refine hP _ _ _ _ _ ?_
          refine hP _ _ _ _ _ ?_
          refine hP _ _ _ _ _ ?_
          exact ⟨by decide, rfl, by simpa [zb, endedM, h15, h25, ht, hxt, ht1, h47, h67] using hQ⟩
/-- why a power isn't live: g: powers (182), d: died (187), w: what is known of those ahead (192) -/
def whyM (np : Nat) (f g e t d w : Nat → Int32) (p : Nat) : Int32 :=
  if endedM f e t p = true then 1
  else if (decide (g (8 * p + 5) = -1) || decide (f 31 ≤ g (8 * p + 5))) = false then 2
  else if isby (d (ix (g (8 * p)))) (f 30) = true then 3
  else if g (8 * p + 2) ≤ nI (pcI (g (8 * p + 1) &&& (deadM d (f 30) np ^^^ (-1)))) then
    (if (decide (g (8 * p + 7) = -1) || (!bt (f 32) (ix (g (8 * p + 7))) && decide (w (ix (g (8 * p + 7))) = 0))) = true then 0 else 5)
  else 4
theorem zs8_and {x y : Int32} {np : Nat} (h8 : np ≤ 8) (h : ∀ i, np ≤ i → i < 32 → bt x i = false) : zs8 (x &&& y) := by
  intro i h1 h2
  rw [b_and, h i (by omega) h2, Bool.false_and]
def k_X11_whyOver : zCt := fun as n mem Q => ∃ (p np pw : Nat), as = [.ref 180, .int (nI p)] ∧ p < pw ∧ zst n mem ∧ zRo (mem.1 180) (mem.1 182) (mem.1 188) np pw ∧ zTh (mem.1 180) ∧ Q (some (.int (whyM np (mem.1 180) (mem.1 182) (mem.1 185) (mem.1 186) (mem.1 187) (mem.1 192) p))) n mem
theorem ok_X11_whyOver {l : Launch} {G : zG} : zOK l G yX11_whyOver cX11_whyOver 3 (some .int) 3 0 0 k_X11_whyOver := by
  intro as n mem Q hK
  obtain ⟨p, np, pw, rfl, hp, ⟨hn, hF⟩, hR, hT, hQ⟩ := hK
  refine mtX11_whyOver ok_X11_isEnded (by decide) ok_X11_hasDied (by decide) ok_X11_dead (by decide) ok_X11_bits (by decide) ok_X11_isLive (by decide) (List.forall_mem_cons.mpr ⟨rfl, List.forall_mem_cons.mpr ⟨rfl, fun _ h => absurd h List.not_mem_nil⟩⟩) (by simp) rfl (fun P hP => ?_)
  show P 0 [.ref 180, .int (nI p), .null] [] n mem
  obtain ⟨r1, r2, r3, r4, r5, r6⟩ := hR
  obtain ⟨⟨q, hq, hgq⟩, hbits, hun⟩ := r5 p hp
  have hxq := ix_nI (j := q) (by omega)
  refine hP _ _ _ _ _ ?_
  refine hP _ _ _ _ _ ?_
  refine hP _ _ _ _ _ ⟨(zi hn rfl rfl rfl), Nat.le_of_ble_eq_true rfl, Nat.le_of_ble_eq_true rfl, ?_⟩
  refine ⟨p, rfl, by omega, ⟨hn, hF⟩, hT, ?_⟩
  refine hP _ _ _ _ _ ⟨fun h5 => ?_, fun h5 => ?_⟩
  ·
    have h5 := zb_0.mp h5
    refine hP _ _ _ _ _ ?_
    refine hP _ _ _ _ _ ⟨(zi hn rfl rfl rfl), _, fx_Model_powers hF, (by decide), ?_⟩
    refine hP _ _ _ _ _ ?_
    refine hP _ _ _ _ _ ?_
    refine hP _ _ _ _ _ ?_
    refine hP _ _ _ _ _ ?_
    refine hP _ _ _ _ _ ?_
    refine hP _ _ _ _ _ ⟨_, 8 * p + 5, (zi hn rfl rfl rfl), nlin 8 p 5, by omega, ?_⟩
    refine hP _ _ _ _ _ ?_
    refine hP _ _ _ _ _ ⟨fun h22 => ?_, fun h22 => ?_⟩
    ·
      refine hP _ _ _ _ _ ?_
      refine hP _ _ _ _ _ ?_
      refine hP _ _ _ _ _ ⟨(zi hn rfl rfl rfl), _, fx_Model_powers hF, (by decide), ?_⟩
      refine hP _ _ _ _ _ ?_
      refine hP _ _ _ _ _ ?_
      refine hP _ _ _ _ _ ?_
      refine hP _ _ _ _ _ ?_
      refine hP _ _ _ _ _ ?_
      refine hP _ _ _ _ _ ⟨_, 8 * p, (zi hn rfl rfl rfl), nlin 8 p 0, by omega, ?_⟩
      refine hP _ _ _ _ _ ?_
      refine hP _ _ _ _ _ ⟨(zi hn rfl rfl rfl), ?_⟩
      refine hP _ _ _ _ _ ⟨(zi hn rfl rfl rfl), Nat.le_of_ble_eq_true rfl, Nat.le_of_ble_eq_true rfl, ?_⟩
      refine ⟨q, _, by rw [← hgq]; rfl, by omega, ⟨hn, hF⟩, ?_⟩
      refine hP _ _ _ _ _ ⟨fun h64 => ?_, fun h64 => ?_⟩
      ·
        have h64 := zb_0.mp h64
        refine hP _ _ _ _ _ ?_
        refine hP _ _ _ _ _ ⟨(zi hn rfl rfl rfl), _, fx_Model_powers hF, (by decide), ?_⟩
        refine hP _ _ _ _ _ ?_
        refine hP _ _ _ _ _ ?_
        refine hP _ _ _ _ _ ?_
        refine hP _ _ _ _ _ ?_
        refine hP _ _ _ _ _ ?_
        refine hP _ _ _ _ _ ⟨_, 8 * p + 1, (zi hn rfl rfl rfl), nlin 8 p 1, by omega, ?_⟩
        refine hP _ _ _ _ _ ?_
        refine hP _ _ _ _ _ ?_
        refine hP _ _ _ _ _ ⟨(zi hn rfl rfl rfl), ?_⟩
        refine hP _ _ _ _ _ ⟨(zi hn rfl rfl rfl), Nat.le_of_ble_eq_true rfl, Nat.le_of_ble_eq_true rfl, ?_⟩
        refine ⟨_, np, rfl, ⟨hn, hF⟩, r1, r2, ?_⟩
        refine hP _ _ _ _ _ ?_
        refine hP _ _ _ _ _ ?_
        refine hP _ _ _ _ _ ?_
        refine hP _ _ _ _ _ ⟨Nat.le_of_ble_eq_true rfl, Nat.le_of_ble_eq_true rfl, ?_⟩
        refine ⟨_, rfl, zs8_and r2 hbits, ?_⟩
        refine hP _ _ _ _ _ ?_
        refine hP _ _ _ _ _ ⟨(zi hn rfl rfl rfl), _, fx_Model_powers hF, (by decide), ?_⟩
        refine hP _ _ _ _ _ ?_
        refine hP _ _ _ _ _ ?_
        refine hP _ _ _ _ _ ?_
        refine hP _ _ _ _ _ ?_
        refine hP _ _ _ _ _ ?_
        refine hP _ _ _ _ _ ⟨_, 8 * p + 2, (zi hn rfl rfl rfl), nlin 8 p 2, by omega, ?_⟩
        refine hP _ _ _ _ _ ⟨fun h105 => ?_, fun h105 => ?_⟩
        ·
          refine hP _ _ _ _ _ ?_
          refine hP _ _ _ _ _ ⟨(zi hn rfl rfl rfl), _, fx_Model_powers hF, (by decide), ?_⟩
          refine hP _ _ _ _ _ ?_
          refine hP _ _ _ _ _ ?_
          refine hP _ _ _ _ _ ?_
          refine hP _ _ _ _ _ ?_
          refine hP _ _ _ _ _ ?_
          refine hP _ _ _ _ _ ⟨_, 8 * p + 7, (zi hn rfl rfl rfl), nlin 8 p 7, by omega, ?_⟩
          refine hP _ _ _ _ _ ?_
          refine hP _ _ _ _ _ ?_
          refine hP _ _ _ _ _ ?_
          refine hP _ _ _ _ _ ⟨fun h125 => ?_, fun h125 => ?_⟩
          ·
            refine hP _ _ _ _ _ ?_
            refine hP _ _ _ _ _ ?_
            simp only [if_true, if_false, Bool.false_eq_true, Bool.true_eq_false, decide_true, decide_false, Bool.true_or, Bool.or_true, Bool.false_or, Bool.or_false, Bool.and_true, Bool.true_and, Bool.false_and, Bool.and_false, Bool.not_true, Bool.not_false, not_true_eq_false, not_false_eq_true, true_and, and_true, false_and, and_false, or_true, true_or, false_or, or_false, cond_true, cond_false, whyM, hgq, hxq, h5, h22, h64, h105, h125] at hQ
            exact ⟨rfl, hQ⟩
          ·
            obtain ⟨u, hup, hu⟩ := hun.resolve_left h125
            have hxu := ix_nI (j := u) (by omega)
            have hu1 : ¬ nI u = -1 := hu ▸ h125
            refine hP _ _ _ _ _ ?_
            refine hP _ _ _ _ _ ?_
            refine hP _ _ _ _ _ ⟨(zi hn rfl rfl rfl), Nat.le_of_ble_eq_true rfl, Nat.le_of_ble_eq_true rfl, ?_⟩
            refine ⟨u, by rw [← hu]; rfl, by omega, ⟨hn, hF⟩, ?_⟩
            refine hP _ _ _ _ _ ⟨fun h133 => ?_, fun h133 => ?_⟩
            ·
              have h133 := zb_0.mp h133
              refine hP _ _ _ _ _ ?_
              refine hP _ _ _ _ _ ?_
              refine hP _ _ _ _ _ ?_
              simp only [if_true, if_false, Bool.false_eq_true, Bool.true_eq_false, decide_true, decide_false, Bool.true_or, Bool.or_true, Bool.false_or, Bool.or_false, Bool.and_true, Bool.true_and, Bool.false_and, Bool.and_false, Bool.not_true, Bool.not_false, not_true_eq_false, not_false_eq_true, true_and, and_true, false_and, and_false, or_true, true_or, false_or, or_false, cond_true, cond_false, whyM, hgq, hxq, h5, h22, h64, h105, h125, hu, hxu, hu1, h133] at hQ
              exact ⟨rfl, hQ⟩
            ·
              have h133 := zb_n.mp h133
              refine hP _ _ _ _ _ ?_
              refine hP _ _ _ _ _ ?_
              simp only [if_true, if_false, Bool.false_eq_true, Bool.true_eq_false, decide_true, decide_false, Bool.true_or, Bool.or_true, Bool.false_or, Bool.or_false, Bool.and_true, Bool.true_and, Bool.false_and, Bool.and_false, Bool.not_true, Bool.not_false, not_true_eq_false, not_false_eq_true, true_and, and_true, false_and, and_false, or_true, true_or, false_or, or_false, cond_true, cond_false, whyM, hgq, hxq, h5, h22, h64, h105, h125, hu, hxu, hu1, h133] at hQ
              exact ⟨rfl, hQ⟩
        ·
          refine hP _ _ _ _ _ ?_
          refine hP _ _ _ _ _ ?_
          simp only [if_true, if_false, Bool.false_eq_true, Bool.true_eq_false, decide_true, decide_false, Bool.true_or, Bool.or_true, Bool.false_or, Bool.or_false, Bool.and_true, Bool.true_and, Bool.false_and, Bool.and_false, Bool.not_true, Bool.not_false, not_true_eq_false, not_false_eq_true, true_and, and_true, false_and, and_false, or_true, true_or, false_or, or_false, cond_true, cond_false, whyM, hgq, hxq, h5, h22, h64, h105] at hQ
          exact ⟨rfl, hQ⟩
      ·
        have h64 := zb_n.mp h64
        refine hP _ _ _ _ _ ?_
        refine hP _ _ _ _ _ ?_
        simp only [if_true, if_false, Bool.false_eq_true, Bool.true_eq_false, decide_true, decide_false, Bool.true_or, Bool.or_true, Bool.false_or, Bool.or_false, Bool.and_true, Bool.true_and, Bool.false_and, Bool.and_false, Bool.not_true, Bool.not_false, not_true_eq_false, not_false_eq_true, true_and, and_true, false_and, and_false, or_true, true_or, false_or, or_false, cond_true, cond_false, whyM, hgq, hxq, h5, h22, h64] at hQ
        exact ⟨rfl, hQ⟩
    ·
      refine hP _ _ _ _ _ ?_
      refine hP _ _ _ _ _ ⟨(zi hn rfl rfl rfl), ?_⟩
      refine hP _ _ _ _ _ ?_
      refine hP _ _ _ _ _ ⟨(zi hn rfl rfl rfl), _, fx_Model_powers hF, (by decide), ?_⟩
      refine hP _ _ _ _ _ ?_
      refine hP _ _ _ _ _ ?_
      refine hP _ _ _ _ _ ?_
      refine hP _ _ _ _ _ ?_
      refine hP _ _ _ _ _ ?_
      refine hP _ _ _ _ _ ⟨_, 8 * p + 5, (zi hn rfl rfl rfl), nlin 8 p 5, by omega, ?_⟩
      refine hP _ _ _ _ _ ⟨fun h40 => ?_, fun h40 => ?_⟩
      ·
        refine hP _ _ _ _ _ ?_
        refine hP _ _ _ _ _ ?_
        refine hP _ _ _ _ _ ⟨(zi hn rfl rfl rfl), _, fx_Model_powers hF, (by decide), ?_⟩
        refine hP _ _ _ _ _ ?_
        refine hP _ _ _ _ _ ?_
        refine hP _ _ _ _ _ ?_
        refine hP _ _ _ _ _ ?_
        refine hP _ _ _ _ _ ?_
        refine hP _ _ _ _ _ ⟨_, 8 * p, (zi hn rfl rfl rfl), nlin 8 p 0, by omega, ?_⟩
        refine hP _ _ _ _ _ ?_
        refine hP _ _ _ _ _ ⟨(zi hn rfl rfl rfl), ?_⟩
        refine hP _ _ _ _ _ ⟨(zi hn rfl rfl rfl), Nat.le_of_ble_eq_true rfl, Nat.le_of_ble_eq_true rfl, ?_⟩
        refine ⟨q, _, by rw [← hgq]; rfl, by omega, ⟨hn, hF⟩, ?_⟩
        refine hP _ _ _ _ _ ⟨fun h64 => ?_, fun h64 => ?_⟩
        ·
          have h64 := zb_0.mp h64
          refine hP _ _ _ _ _ ?_
          refine hP _ _ _ _ _ ⟨(zi hn rfl rfl rfl), _, fx_Model_powers hF, (by decide), ?_⟩
          refine hP _ _ _ _ _ ?_
          refine hP _ _ _ _ _ ?_
          refine hP _ _ _ _ _ ?_
          refine hP _ _ _ _ _ ?_
          refine hP _ _ _ _ _ ?_
          refine hP _ _ _ _ _ ⟨_, 8 * p + 1, (zi hn rfl rfl rfl), nlin 8 p 1, by omega, ?_⟩
          refine hP _ _ _ _ _ ?_
          refine hP _ _ _ _ _ ?_
          refine hP _ _ _ _ _ ⟨(zi hn rfl rfl rfl), ?_⟩
          refine hP _ _ _ _ _ ⟨(zi hn rfl rfl rfl), Nat.le_of_ble_eq_true rfl, Nat.le_of_ble_eq_true rfl, ?_⟩
          refine ⟨_, np, rfl, ⟨hn, hF⟩, r1, r2, ?_⟩
          refine hP _ _ _ _ _ ?_
          refine hP _ _ _ _ _ ?_
          refine hP _ _ _ _ _ ?_
          refine hP _ _ _ _ _ ⟨Nat.le_of_ble_eq_true rfl, Nat.le_of_ble_eq_true rfl, ?_⟩
          refine ⟨_, rfl, zs8_and r2 hbits, ?_⟩
          refine hP _ _ _ _ _ ?_
          refine hP _ _ _ _ _ ⟨(zi hn rfl rfl rfl), _, fx_Model_powers hF, (by decide), ?_⟩
          refine hP _ _ _ _ _ ?_
          refine hP _ _ _ _ _ ?_
          refine hP _ _ _ _ _ ?_
          refine hP _ _ _ _ _ ?_
          refine hP _ _ _ _ _ ?_
          refine hP _ _ _ _ _ ⟨_, 8 * p + 2, (zi hn rfl rfl rfl), nlin 8 p 2, by omega, ?_⟩
          refine hP _ _ _ _ _ ⟨fun h105 => ?_, fun h105 => ?_⟩
          ·
            refine hP _ _ _ _ _ ?_
            refine hP _ _ _ _ _ ⟨(zi hn rfl rfl rfl), _, fx_Model_powers hF, (by decide), ?_⟩
            refine hP _ _ _ _ _ ?_
            refine hP _ _ _ _ _ ?_
            refine hP _ _ _ _ _ ?_
            refine hP _ _ _ _ _ ?_
            refine hP _ _ _ _ _ ?_
            refine hP _ _ _ _ _ ⟨_, 8 * p + 7, (zi hn rfl rfl rfl), nlin 8 p 7, by omega, ?_⟩
            refine hP _ _ _ _ _ ?_
            refine hP _ _ _ _ _ ?_
            refine hP _ _ _ _ _ ?_
            refine hP _ _ _ _ _ ⟨fun h125 => ?_, fun h125 => ?_⟩
            ·
              refine hP _ _ _ _ _ ?_
              refine hP _ _ _ _ _ ?_
              simp only [if_true, if_false, Bool.false_eq_true, Bool.true_eq_false, decide_true, decide_false, Bool.true_or, Bool.or_true, Bool.false_or, Bool.or_false, Bool.and_true, Bool.true_and, Bool.false_and, Bool.and_false, Bool.not_true, Bool.not_false, not_true_eq_false, not_false_eq_true, true_and, and_true, false_and, and_false, or_true, true_or, false_or, or_false, cond_true, cond_false, whyM, hgq, hxq, h5, h22, h40, h64, h105, h125] at hQ
              exact ⟨rfl, hQ⟩
            ·
              obtain ⟨u, hup, hu⟩ := hun.resolve_left h125
              have hxu := ix_nI (j := u) (by omega)
              have hu1 : ¬ nI u = -1 := hu ▸ h125
              refine hP _ _ _ _ _ ?_
              refine hP _ _ _ _ _ ?_
              refine hP _ _ _ _ _ ⟨(zi hn rfl rfl rfl), Nat.le_of_ble_eq_true rfl, Nat.le_of_ble_eq_true rfl, ?_⟩
              refine ⟨u, by rw [← hu]; rfl, by omega, ⟨hn, hF⟩, ?_⟩
              refine hP _ _ _ _ _ ⟨fun h133 => ?_, fun h133 => ?_⟩
              ·
                have h133 := zb_0.mp h133
                refine hP _ _ _ _ _ ?_
                refine hP _ _ _ _ _ ?_
                refine hP _ _ _ _ _ ?_
                simp only [if_true, if_false, Bool.false_eq_true, Bool.true_eq_false, decide_true, decide_false, Bool.true_or, Bool.or_true, Bool.false_or, Bool.or_false, Bool.and_true, Bool.true_and, Bool.false_and, Bool.and_false, Bool.not_true, Bool.not_false, not_true_eq_false, not_false_eq_true, true_and, and_true, false_and, and_false, or_true, true_or, false_or, or_false, cond_true, cond_false, whyM, hgq, hxq, h5, h22, h40, h64, h105, h125, hu, hxu, hu1, h133] at hQ
                exact ⟨rfl, hQ⟩
              ·
                have h133 := zb_n.mp h133
                refine hP _ _ _ _ _ ?_
                refine hP _ _ _ _ _ ?_
                simp only [if_true, if_false, Bool.false_eq_true, Bool.true_eq_false, decide_true, decide_false, Bool.true_or, Bool.or_true, Bool.false_or, Bool.or_false, Bool.and_true, Bool.true_and, Bool.false_and, Bool.and_false, Bool.not_true, Bool.not_false, not_true_eq_false, not_false_eq_true, true_and, and_true, false_and, and_false, or_true, true_or, false_or, or_false, cond_true, cond_false, whyM, hgq, hxq, h5, h22, h40, h64, h105, h125, hu, hxu, hu1, h133] at hQ
                exact ⟨rfl, hQ⟩
          ·
            refine hP _ _ _ _ _ ?_
            refine hP _ _ _ _ _ ?_
            simp only [if_true, if_false, Bool.false_eq_true, Bool.true_eq_false, decide_true, decide_false, Bool.true_or, Bool.or_true, Bool.false_or, Bool.or_false, Bool.and_true, Bool.true_and, Bool.false_and, Bool.and_false, Bool.not_true, Bool.not_false, not_true_eq_false, not_false_eq_true, true_and, and_true, false_and, and_false, or_true, true_or, false_or, or_false, cond_true, cond_false, whyM, hgq, hxq, h5, h22, h40, h64, h105] at hQ
            exact ⟨rfl, hQ⟩
        ·
          have h64 := zb_n.mp h64
          refine hP _ _ _ _ _ ?_
          refine hP _ _ _ _ _ ?_
          simp only [if_true, if_false, Bool.false_eq_true, Bool.true_eq_false, decide_true, decide_false, Bool.true_or, Bool.or_true, Bool.false_or, Bool.or_false, Bool.and_true, Bool.true_and, Bool.false_and, Bool.and_false, Bool.not_true, Bool.not_false, not_true_eq_false, not_false_eq_true, true_and, and_true, false_and, and_false, or_true, true_or, false_or, or_false, cond_true, cond_false, whyM, hgq, hxq, h5, h22, h40, h64] at hQ
          exact ⟨rfl, hQ⟩
      ·
        refine hP _ _ _ _ _ ?_
        refine hP _ _ _ _ _ ?_
        simp only [if_true, if_false, Bool.false_eq_true, Bool.true_eq_false, decide_true, decide_false, Bool.true_or, Bool.or_true, Bool.false_or, Bool.or_false, Bool.and_true, Bool.true_and, Bool.false_and, Bool.and_false, Bool.not_true, Bool.not_false, not_true_eq_false, not_false_eq_true, true_and, and_true, false_and, and_false, or_true, true_or, false_or, or_false, cond_true, cond_false, whyM, hgq, hxq, h5, h22, h40] at hQ
        exact ⟨rfl, hQ⟩
  ·
    have h5 := zb_n.mp h5
    refine hP _ _ _ _ _ ?_
    refine hP _ _ _ _ _ ?_
    simp only [if_true, if_false, Bool.false_eq_true, Bool.true_eq_false, decide_true, decide_false, Bool.true_or, Bool.or_true, Bool.false_or, Bool.or_false, Bool.and_true, Bool.true_and, Bool.false_and, Bool.and_false, Bool.not_true, Bool.not_false, not_true_eq_false, not_false_eq_true, true_and, and_true, false_and, and_false, or_true, true_or, false_or, or_false, cond_true, cond_false, whyM, hgq, hxq, h5] at hQ
    exact ⟨rfl, hQ⟩
