/-- one row put in another's place -/
def zrw (mem : zM) (a : Nat) (r : Nat → Int32) : zM := (fun i => if i = a then r else mem.1 i, mem.2.1, mem.2.2)
theorem zrw_at {mem : zM} {a b : Nat} {r : Nat → Int32} : (zrw mem a r).1 b = if b = a then r else mem.1 b := rfl
theorem zrw_self {mem : zM} {a : Nat} : zrw mem a (mem.1 a) = mem := by
  have : (fun i => if i = a then mem.1 a else mem.1 i) = mem.1 := by funext i; by_cases h : i = a <;> simp [h]
  unfold zrw; rw [this]
theorem zrw_I {mem : zM} {a j : Nat} {r : Nat → Int32} {v : Int32} : zI (zrw mem a r) a j v = zrw mem a (upd r j v) := by
  have : (zI (zrw mem a r) a j v).1 = (zrw mem a (upd r j v)).1 := by
    funext x y
    by_cases h : x = a
    · subst h; simp [zI_at, zrw_at, upd]
    · simp [zI_at, zrw_at, h]
  exact Prod.ext this rfl
theorem zrw_zrw {mem : zM} {a : Nat} {r r' : Nat → Int32} : zrw (zrw mem a r) a r' = zrw mem a r' := by
  have : (zrw (zrw mem a r) a r').1 = (zrw mem a r').1 := by
    funext x; by_cases h : x = a <;> simp [zrw_at, h]
  exact Prod.ext this rfl
abbrev zVt : Type := (Nat → Int32) × (Nat → Int32) × (Nat → Int32) × (Nat → Int32) × (Nat → Int32) × (Nat → Int32)
/-- counts, powers, deaths, why, kinds, most -/
def zVr (mem : zM) : zVt := (mem.1 180, mem.1 182, mem.1 187, mem.1 192, mem.1 193, mem.1 194)
theorem vr1 {mem : zM} : (zVr mem).1 = mem.1 180 := rfl
theorem vr2 {mem : zM} : (zVr mem).2.1 = mem.1 182 := rfl
theorem vr3 {mem : zM} : (zVr mem).2.2.1 = mem.1 187 := rfl
theorem vr4 {mem : zM} : (zVr mem).2.2.2.1 = mem.1 192 := rfl
theorem vr5 {mem : zM} : (zVr mem).2.2.2.2.1 = mem.1 193 := rfl
theorem vr6 {mem : zM} : (zVr mem).2.2.2.2.2 = mem.1 194 := rfl
def lvM (v : zVt) (p : Nat) : Bool := !bt (v.1 32) p && decide (v.2.2.2.1 p = 0)
def opM (v : zVt) (p : Nat) : Bool := bt (v.2.2.2.2.1 p) (ix (v.1 38)) && (!decide (v.2.2.2.2.2 p < v.1 39) && lvM v p)
def tpM (v : zVt) (cn : Nat → Int32) (deep : Bool) (h : Nat) : Bool := !isby (v.2.2.1 h) (v.1 30) && (bt (v.1 37) h || (bt (v.1 14) h && (deep && !decide (cn h = -1))))
def cntM (hold : Int32) (tp : Nat → Bool) : Nat → Nat
  | 0 => 0
  | h + 1 => cntM hold tp h + (bt hold h && tp h).toNat
/-- by which of the first powers: the least number -/
def fsM (v : zVt) (tp : Nat → Bool) (np q : Nat) : Nat → Int32
  | 0 => -1
  | i + 1 => if fsM v tp np q i = -1 then (if (decide (v.2.1 (8 * i) = nI q) && (opM v i && !decide (nI (cntM (v.2.1 (8 * i + 1)) tp np) < v.2.1 (8 * i + 2)))) = true then nI i else -1) else fsM v tp np q i
def canM (np pw : Nat) (v : zVt) : Nat → Nat → Int32
  | 0, q => fsM v (tpM v (fun _ => -1) false) np q pw
  | k + 1, q => fsM v (tpM v (canM np pw v k) true) np q pw
def tpK (np pw : Nat) (v : zVt) : Nat → Nat → Bool
  | 0 => tpM v (fun _ => -1) false
  | k + 1 => tpM v (canM np pw v k) true
theorem canM_eq {np pw : Nat} {v : zVt} {k q : Nat} : canM np pw v k q = fsM v (tpK np pw v k) np q pw := by cases k <;> rfl
theorem fsM_stay {v : zVt} {tp : Nat → Bool} {np q i : Nat} (h : ¬ fsM v tp np q i = -1) : ∀ j, i ≤ j → fsM v tp np q j = fsM v tp np q i := by
  intro j
  induction j with
  | zero => intro hij; rw [Nat.le_zero.mp hij]
  | succ j ih =>
    intro hij
    rcases Nat.lt_or_ge j i with q | q
    · rw [show i = j + 1 by omega]
    · have := ih q
      rw [fsM, this, if_neg h]
theorem fsM_val {v : zVt} {tp : Nat → Bool} {np q : Nat} : ∀ i, fsM v tp np q i = -1 ∨ ∃ p, p < i ∧ fsM v tp np q i = nI p := by
  intro i
  induction i with
  | zero => exact Or.inl rfl
  | succ i ih =>
    rw [fsM]
    split
    · split
      · exact Or.inr ⟨i, by omega, rfl⟩
      · exact Or.inl rfl
    · rcases ih with h | ⟨p, hp, h⟩
      · exact Or.inl h
      · exact Or.inr ⟨p, by omega, h⟩
def memoM (np pw : Nat) (v : zVt) (a : Nat → Int32) : Prop := ∀ k, k ≤ 3 → ∀ q, q < 8 → a (8 * (3 - k) + q) = -2 ∨ a (8 * (3 - k) + q) = canM np pw v k q
theorem memoM_upd {np pw : Nat} {v : zVt} {a : Nat → Int32} {k q : Nat} (hk : k ≤ 3) (hq : q < 8) (h : memoM np pw v a) : memoM np pw v (upd a (8 * (3 - k) + q) (canM np pw v k q)) := by
  intro k' hk' q' hq'
  by_cases e : 8 * (3 - k') + q' = 8 * (3 - k) + q
  · have e1 : k' = k := by omega
    have e2 : q' = q := by omega
    subst e1; subst e2
    exact Or.inr (by simp [upd])
  · rcases h k' hk' q' hq' with z | z
    · exact Or.inl (by simp [upd, e, z])
    · exact Or.inr (by simp [upd, e, z])
/-- what is asked, with its answers so far -/
def zAsk (n : Nat) (mem : zM) (np pw : Nat) : Prop := zst n mem ∧ zRo (mem.1 180) (mem.1 182) (mem.1 188) np pw ∧ (∃ c, c < 6 ∧ mem.1 180 38 = nI c) ∧ memoM np pw (zVr mem) (mem.1 195)
def kCb (k : Nat) : zCt := fun as n mem Q => ∃ (q np pw : Nat), as = [.ref 180, .int (nI q), .int (nI (3 - k))] ∧ k ≤ 3 ∧ q < 8 ∧ zAsk n mem np pw ∧ (∀ r, memoM np pw (zVr mem) r → Q (some (.int (canM np pw (zVr mem) k q))) n (zrw mem 195 r))
def kTp (k : Nat) : zCt := fun as n mem Q => ∃ (h np pw : Nat), as = [.ref 180, .int (nI h), .int (nI (3 - k))] ∧ k ≤ 3 ∧ h < 8 ∧ zAsk n mem np pw ∧ (∀ r, memoM np pw (zVr mem) r → Q (some (.int (zb (tpK np pw (zVr mem) k h)))) n (zrw mem 195 r))
theorem zAsk_r {n : Nat} {mem : zM} {np pw : Nat} {r : Nat → Int32} (h : zAsk n mem np pw) (hr : memoM np pw (zVr mem) r) : zAsk n (zrw mem 195 r) np pw := ⟨h.1, h.2.1, h.2.2.1, hr⟩
def kNo : zCt := fun _ _ _ _ => False
theorem ok_No {l : Launch} {G : zG} {y : MethodName} {cc : ByteArray} {mL h : Nat} {ret : Option FieldType} : zOK l G y cc mL ret h 0 0 kNo := fun _ _ _ _ h => h.elim
theorem tp_step {l : Launch} {G : zG} {k h hc : Nat} {K : zCt} (hK : zOK l G yX11_canBy cX11_canBy 8 (some .int) hc 0 0 K) (hh : hc < h) (h2 : 1 < h) (hKk : ∀ j, k = j + 1 → K = kCb j) : zOK l G yX11_takesPart cX11_takesPart 3 (some .boolean) h 0 0 (kTp k) := by
  intro as n mem Q hK0
  obtain ⟨h, np, pw, rfl, hk, hh8, hA, hQ⟩ := hK0
  obtain ⟨⟨hn, hF⟩, hR, ⟨c, hc6, hc⟩, hM⟩ := id hA
  refine mtX11_takesPart ok_X11_hasDied (by omega) ok_X11_has (by omega) hK hh (List.forall_mem_cons.mpr ⟨rfl, List.forall_mem_cons.mpr ⟨rfl, List.forall_mem_cons.mpr ⟨rfl, fun _ h => absurd h List.not_mem_nil⟩⟩⟩) (by simp) rfl (fun P hP => ?_)
  show P 0 [.ref 180, .int (nI h), .int (nI (3 - k))] [] n mem
  have hQ0 := hQ (mem.1 195) hM
  rw [zrw_self] at hQ0
  cases k with
  | zero =>
    simp only [tpK, tpM, vr1, vr3, Bool.false_and, Bool.and_false, Bool.or_false] at hQ0
    refine hP _ _ _ _ _ ?_
    refine hP _ _ _ _ _ ?_
    refine hP _ _ _ _ _ ?_
    refine hP _ _ _ _ _ ⟨(zi hn rfl rfl rfl), ?_⟩
    refine hP _ _ _ _ _ ⟨(zi hn rfl rfl rfl), Nat.le_of_ble_eq_true rfl, Nat.le_of_ble_eq_true rfl, ?_⟩
    refine ⟨h, _, rfl, hh8, ⟨hn, hF⟩, ?_⟩
    refine hP _ _ _ _ _ ⟨fun h9 => ?_, fun h9 => ?_⟩
    ·
      have h9 := zb_0.mp h9
      refine hP _ _ _ _ _ ?_
      refine hP _ _ _ _ _ ⟨(zi hn rfl rfl rfl), ?_⟩
      refine hP _ _ _ _ _ ?_
      refine hP _ _ _ _ _ ⟨Nat.le_of_ble_eq_true rfl, Nat.le_of_ble_eq_true rfl, ?_⟩
      refine ⟨_, h, rfl, by omega, ?_⟩
      refine hP _ _ _ _ _ ⟨fun h22 => ?_, fun h22 => ?_⟩
      ·
        have h22 := zb_0.mp h22
        refine hP _ _ _ _ _ ?_
        refine hP _ _ _ _ _ ⟨(zi hn rfl rfl rfl), ?_⟩
        refine hP _ _ _ _ _ ?_
        refine hP _ _ _ _ _ ⟨Nat.le_of_ble_eq_true rfl, Nat.le_of_ble_eq_true rfl, ?_⟩
        refine ⟨_, h, rfl, by omega, ?_⟩
        refine hP _ _ _ _ _ ⟨fun h35 => ?_, fun h35 => ?_⟩
        ·
          have h35 := zb_0.mp h35
          refine hP _ _ _ _ _ ?_
          refine hP _ _ _ _ _ ?_
          exact ⟨by decide, rfl, by simpa [zb, h9, h22, h35] using hQ0⟩
        ·
          have h35 := zb_n.mp h35
          refine hP _ _ _ _ _ ?_
          refine hP _ _ _ _ _ ?_
          refine hP _ _ _ _ _ ⟨fun _ => ?_, fun hz => absurd ( by decide) hz⟩
          refine hP _ _ _ _ _ ?_
          refine hP _ _ _ _ _ ?_
          exact ⟨by decide, rfl, by simpa [zb, h9, h22, h35] using hQ0⟩
      ·
        have h22 := zb_n.mp h22
        refine hP _ _ _ _ _ ?_
        refine hP _ _ _ _ _ ?_
        exact ⟨by decide, rfl, by simpa [zb, h9, h22] using hQ0⟩
    ·
      have h9 := zb_n.mp h9
      refine hP _ _ _ _ _ ?_
      refine hP _ _ _ _ _ ?_
      exact ⟨by decide, rfl, by simpa [zb, h9] using hQ0⟩
  | succ k =>
    have hKk := hKk k rfl
    subst hKk
    simp only [tpK, tpM, vr1, vr3, Bool.true_and] at hQ0 hQ
    have e3 : nI (3 - (k + 1)) + 1 = nI (3 - k) := by rw [nI_1]; congr 1; omega
    refine hP _ _ _ _ _ ?_
    refine hP _ _ _ _ _ ?_
    refine hP _ _ _ _ _ ?_
    refine hP _ _ _ _ _ ⟨(zi hn rfl rfl rfl), ?_⟩
    refine hP _ _ _ _ _ ⟨(zi hn rfl rfl rfl), Nat.le_of_ble_eq_true rfl, Nat.le_of_ble_eq_true rfl, ?_⟩
    refine ⟨h, _, rfl, hh8, ⟨hn, hF⟩, ?_⟩
    refine hP _ _ _ _ _ ⟨fun h9 => ?_, fun h9 => ?_⟩
    ·
      have h9 := zb_0.mp h9
      refine hP _ _ _ _ _ ?_
      refine hP _ _ _ _ _ ⟨(zi hn rfl rfl rfl), ?_⟩
      refine hP _ _ _ _ _ ?_
      refine hP _ _ _ _ _ ⟨Nat.le_of_ble_eq_true rfl, Nat.le_of_ble_eq_true rfl, ?_⟩
      refine ⟨_, h, rfl, by omega, ?_⟩
      refine hP _ _ _ _ _ ⟨fun h22 => ?_, fun h22 => ?_⟩
      ·
        have h22 := zb_0.mp h22
        refine hP _ _ _ _ _ ?_
        refine hP _ _ _ _ _ ⟨(zi hn rfl rfl rfl), ?_⟩
        refine hP _ _ _ _ _ ?_
        refine hP _ _ _ _ _ ⟨Nat.le_of_ble_eq_true rfl, Nat.le_of_ble_eq_true rfl, ?_⟩
        refine ⟨_, h, rfl, by omega, ?_⟩
        refine hP _ _ _ _ _ ⟨fun h35 => ?_, fun h35 => ?_⟩
        ·
          have h35 := zb_0.mp h35
          refine hP _ _ _ _ _ ?_
          refine hP _ _ _ _ _ ?_
          first | exact ⟨by decide, rfl, by simpa [zb, h9, h22, h35] using hQ1⟩ | exact ⟨by decide, rfl, by simpa [zb, h9, h22, h35] using hQ0⟩
        ·
          have h35 := zb_n.mp h35
          refine hP _ _ _ _ _ ?_
          refine hP _ _ _ _ _ ?_
          refine hP _ _ _ _ _ ⟨fun hz => absurd hz ( nI_ge (b := 3) (by omega) (by omega)), fun _ => ?_⟩
          refine hP _ _ _ _ _ ?_
          refine hP _ _ _ _ _ ?_
          refine hP _ _ _ _ _ ?_
          refine hP _ _ _ _ _ ?_
          refine hP _ _ _ _ _ ?_
          refine hP _ _ _ _ _ ⟨(zi hn rfl rfl rfl), Nat.le_of_ble_eq_true rfl, Nat.le_of_ble_eq_true rfl, ?_⟩
          refine ⟨h, np, pw, by rw [← e3]; rfl, by omega, hh8, hA, fun r hr => ?_⟩
          have hQ1 := hQ r hr
          refine hP _ _ _ _ _ ?_
          refine hP _ _ _ _ _ ⟨fun h52 => ?_, fun h52 => ?_⟩
          ·
            refine hP _ _ _ _ _ ?_
            refine hP _ _ _ _ _ ?_
            first | exact ⟨by decide, rfl, by simpa [zb, h9, h22, h35, h52] using hQ1⟩ | exact ⟨by decide, rfl, by simpa [zb, h9, h22, h35, h52] using hQ0⟩
          ·
            refine hP _ _ _ _ _ ?_
            refine hP _ _ _ _ _ ?_
            refine hP _ _ _ _ _ ?_
            first | exact ⟨by decide, rfl, by simpa [zb, h9, h22, h35, h52] using hQ1⟩ | exact ⟨by decide, rfl, by simpa [zb, h9, h22, h35, h52] using hQ0⟩
      ·
        have h22 := zb_n.mp h22
        refine hP _ _ _ _ _ ?_
        refine hP _ _ _ _ _ ?_
        exact ⟨by decide, rfl, by simpa [zb, h9, h22] using hQ0⟩
    ·
      have h9 := zb_n.mp h9
      refine hP _ _ _ _ _ ?_
      refine hP _ _ _ _ _ ?_
      exact ⟨by decide, rfl, by simpa [zb, h9] using hQ0⟩

theorem toNat_b (b : Bool) : nI b.toNat = zb b := by cases b <;> rfl
theorem cb_step {l : Launch} {G : zG} {k h ht : Nat} (hK : zOK l G yX11_takesPart cX11_takesPart 3 (some .boolean) ht 0 0 (kTp k)) (hh : ht < h) (h2 : 1 < h) : zOK l G yX11_canBy cX11_canBy 8 (some .int) h 0 0 (kCb k) := by
  intro as n mem Q hK0
  obtain ⟨q, np, pw, rfl, hk, hq8, hA, hQ⟩ := hK0
  obtain ⟨⟨hn, hF⟩, hR, ⟨c, hc6, hc⟩, hM⟩ := id hA
  obtain ⟨r1, r2, r3, r4, r5, r6⟩ := hR
  refine mtX11_canBy ok_X11_has (by omega) ok_X11_isLive (by omega) hK hh (List.forall_mem_cons.mpr ⟨rfl, List.forall_mem_cons.mpr ⟨rfl, List.forall_mem_cons.mpr ⟨rfl, fun _ h => absurd h List.not_mem_nil⟩⟩⟩) (by simp) rfl (fun P hP => ?_)
  show P 0 [.ref 180, .int (nI q), .int (nI (3 - k)), .null, .null, .null, .null, .null] [] n mem
  have hxc := ix_nI (j := c) (by omega)
  have fin : ∀ r, memoM np pw (zVr mem) r → ∀ v5 v6 v7, P 186 [.ref 180, .int (nI q), .int (nI (3 - k)), .int (nI 8 * nI (3 - k) + nI q), .int (canM np pw (zVr mem) k q), v5, v6, v7] [] n (zrw mem 195 r) := by
    intro r hr v5 v6 v7
    have hF : zFx (zrw mem 195 r) := hF
    have hQ1 := hQ _ (memoM_upd hk hq8 hr)
    rw [← zrw_I] at hQ1
    refine hP _ _ _ _ _ ?_
    refine hP _ _ _ _ _ ⟨(zi hn rfl rfl rfl), _, fx_Model_answers hF, (by decide), ?_⟩
    refine hP _ _ _ _ _ ?_
    refine hP _ _ _ _ _ ?_
    refine hP _ _ _ _ _ ⟨_, 8 * (3 - k) + q, (zi hn rfl rfl rfl), nlin 8 (3 - k) q, by omega, ?_⟩
    refine hP _ _ _ _ _ ?_
    refine hP _ _ _ _ _ ?_
    exact ⟨rfl, hQ1⟩
  have loop : ∀ i, i ≤ pw → ∀ r, memoM np pw (zVr mem) r → ∀ v6 v7, P 31 [.ref 180, .int (nI q), .int (nI (3 - k)), .int (nI 8 * nI (3 - k) + nI q), .int (fsM (zVr mem) (tpK np pw (zVr mem) k) np q i), .int (nI i), v6, v7] [] n (zrw mem 195 r) := by
    refine zloop ?_ ?_
    · intro r hr v6 v7
      have hF : zFx (zrw mem 195 r) := hF
      have r3' : (zrw mem 195 r).1 180 15 = nI pw := r3
      rw [← canM_eq]
      refine hP _ _ _ _ _ ?_
      refine hP _ _ _ _ _ ?_
      refine hP _ _ _ _ _ ⟨(zi hn rfl rfl rfl), ?_⟩
      refine hP _ _ _ _ _ ⟨fun _ => ?_, fun hz => absurd ( by rw [r3']; exact nI_le (Nat.le_refl _) (by omega)) hz⟩
      exact fin r hr _ _ _
    · intro i hi ih r hr v6 v7
      have hF : zFx (zrw mem 195 r) := hF
      have r3' : (zrw mem 195 r).1 180 15 = nI pw := r3
      by_cases hby : ¬ fsM (zVr mem) (tpK np pw (zVr mem) k) np q i = -1
      · have e := fsM_stay hby pw (by omega)
        rw [← canM_eq] at e
        rw [← e] at hby ⊢
        refine hP _ _ _ _ _ ?_
        refine hP _ _ _ _ _ ?_
        refine hP _ _ _ _ _ ⟨(zi hn rfl rfl rfl), ?_⟩
        refine hP _ _ _ _ _ ⟨fun hz => absurd hz ( by rw [r3']; exact nI_ge hi (by omega)), fun _ => ?_⟩
        refine hP _ _ _ _ _ ?_
        refine hP _ _ _ _ _ ?_
        refine hP _ _ _ _ _ ⟨fun hz => absurd hz ( hby), fun _ => ?_⟩
        exact fin r hr _ _ _
      · have hby := Decidable.not_not.mp hby
        have es : fsM (zVr mem) (tpK np pw (zVr mem) k) np q (i + 1) = if (decide (mem.1 182 (8 * i) = nI q) && (opM (zVr mem) i && !decide (nI (cntM (mem.1 182 (8 * i + 1)) (tpK np pw (zVr mem) k) np) < mem.1 182 (8 * i + 2)))) = true then nI i else -1 := by rw [fsM, if_pos hby]; rfl
        have eo : opM (zVr mem) i = (bt (mem.1 193 i) c && (!decide (mem.1 194 i < mem.1 180 39) && (!bt (mem.1 180 32) i && decide (mem.1 192 i = 0)))) := by
          show (bt (mem.1 193 i) (ix (mem.1 180 38)) && _) = _
          rw [hc, hxc]; rfl
        rw [es, eo, nI_succ i] at ih
        rw [hby]
        have inner : ∀ j, j ≤ np → ∀ r, memoM np pw (zVr mem) r → (decide (mem.1 182 (8 * i) = nI q) && (bt (mem.1 193 i) c && (!decide (mem.1 194 i < mem.1 180 39) && (!bt (mem.1 180 32) i && decide (mem.1 192 i = 0))))) = true → P 111 [.ref 180, .int (nI q), .int (nI (3 - k)), .int (nI 8 * nI (3 - k) + nI q), .int (-1), .int (nI i), .int (nI (cntM (mem.1 182 (8 * i + 1)) (tpK np pw (zVr mem) k) j)), .int (nI j)] [] n (zrw mem 195 r) := by
          refine zloop ?_ ?_
          · intro r hr hall
            have hF : zFx (zrw mem 195 r) := hF
            have r1' : (zrw mem 195 r).1 180 13 = nI np := r1
            have ih := ih r hr
            simp only [Bool.and_eq_true] at hall
            obtain ⟨a1, a2, a3, a4, a5⟩ := hall
            simp only [a1, a2, a3, a4, a5, Bool.true_and] at ih
            refine hP _ _ _ _ _ ?_
            refine hP _ _ _ _ _ ?_
            refine hP _ _ _ _ _ ⟨(zi hn rfl rfl rfl), ?_⟩
            refine hP _ _ _ _ _ ⟨fun _ => ?_, fun hz => absurd ( by rw [r1']; exact nI_le (Nat.le_refl _) (by omega)) hz⟩
            refine hP _ _ _ _ _ ?_
            refine hP _ _ _ _ _ ?_
            refine hP _ _ _ _ _ ⟨(zi hn rfl rfl rfl), _, fx_Model_powers hF, (by decide), ?_⟩
            refine hP _ _ _ _ _ ?_
            refine hP _ _ _ _ _ ?_
            refine hP _ _ _ _ _ ?_
            refine hP _ _ _ _ _ ?_
            refine hP _ _ _ _ _ ?_
            refine hP _ _ _ _ _ ⟨_, 8 * i + 2, (zi hn rfl rfl rfl), nlin 8 i 2, by omega, ?_⟩
            refine hP _ _ _ _ _ ⟨fun h173 => ?_, fun h173 => ?_⟩
            ·
              try (have h173 : nI (cntM (mem.1 182 (8 * i + 1)) (tpK np pw (zVr mem) k) np) < mem.1 182 (8 * i + 2) := h173)
              refine hP _ _ _ _ _ ?_
              refine hP _ _ _ _ _ ?_
              simp only [h173, decide_true, decide_false, Bool.not_true, Bool.not_false, Bool.false_eq_true, if_true, if_false] at ih
              exact ih _ _
            ·
              have h173 : ¬ nI (cntM (mem.1 182 (8 * i + 1)) (tpK np pw (zVr mem) k) np) < mem.1 182 (8 * i + 2) := h173
              refine hP _ _ _ _ _ ?_
              refine hP _ _ _ _ _ ?_
              try (have h173 : nI (cntM (mem.1 182 (8 * i + 1)) (tpK np pw (zVr mem) k) np) < mem.1 182 (8 * i + 2) := h173)
              refine hP _ _ _ _ _ ?_
              refine hP _ _ _ _ _ ?_
              simp only [h173, decide_true, decide_false, Bool.not_true, Bool.not_false, Bool.false_eq_true, if_true, if_false] at ih
              exact ih _ _
          · intro j hj ih2 r hr hall
            have hF : zFx (zrw mem 195 r) := hF
            have r1' : (zrw mem 195 r).1 180 13 = nI np := r1
            have hA' := zAsk_r hA hr
            have ec : nI (cntM (mem.1 182 (8 * i + 1)) (tpK np pw (zVr mem) k) (j + 1)) = nI (cntM (mem.1 182 (8 * i + 1)) (tpK np pw (zVr mem) k) j) + zb (bt (mem.1 182 (8 * i + 1)) j && tpK np pw (zVr mem) k j) := by rw [cntM, ← nI_add, toNat_b]
            rw [ec, nI_succ j] at ih2
            refine hP _ _ _ _ _ ?_
            refine hP _ _ _ _ _ ?_
            refine hP _ _ _ _ _ ⟨(zi hn rfl rfl rfl), ?_⟩
            refine hP _ _ _ _ _ ⟨fun hz => absurd hz ( by rw [r1']; exact nI_ge hj (by omega)), fun _ => ?_⟩
            refine hP _ _ _ _ _ ?_
            refine hP _ _ _ _ _ ⟨(zi hn rfl rfl rfl), _, fx_Model_powers hF, (by decide), ?_⟩
            refine hP _ _ _ _ _ ?_
            refine hP _ _ _ _ _ ?_
            refine hP _ _ _ _ _ ?_
            refine hP _ _ _ _ _ ?_
            refine hP _ _ _ _ _ ?_
            refine hP _ _ _ _ _ ⟨_, 8 * i + 1, (zi hn rfl rfl rfl), nlin 8 i 1, by omega, ?_⟩
            refine hP _ _ _ _ _ ?_
            refine hP _ _ _ _ _ ⟨Nat.le_of_ble_eq_true rfl, Nat.le_of_ble_eq_true rfl, ?_⟩
            refine ⟨_, j, rfl, by omega, ?_⟩
            refine hP _ _ _ _ _ ⟨fun h137 => ?_, fun h137 => ?_⟩
            ·
              have h137 := zb_0.mp h137
              refine hP _ _ _ _ _ ?_
              refine hP _ _ _ _ _ ?_
              first | (have h147 : tpK np pw (zVr mem) k j = true := h147; simp only [h137, h147, Bool.true_and, zb, cond_true] at ih2; exact ih2) | (have h147 : tpK np pw (zVr mem) k j = false := h147; simp only [h147, Bool.and_false, zb, cond_false, Int32.add_zero] at ih2; exact ih2) | (have h137 : bt (mem.1 182 (8 * i + 1)) j = false := h137; have ih2 := ih2 r hr hall; simp only [h137, Bool.false_and, zb, cond_false, Int32.add_zero] at ih2; exact ih2)
            ·
              have h137 := zb_n.mp h137
              have h137 : bt (mem.1 182 (8 * i + 1)) j = true := h137
              refine hP _ _ _ _ _ ?_
              refine hP _ _ _ _ _ ?_
              refine hP _ _ _ _ _ ?_
              refine hP _ _ _ _ _ ⟨(zi hn rfl rfl rfl), Nat.le_of_ble_eq_true rfl, Nat.le_of_ble_eq_true rfl, ?_⟩
              refine ⟨j, np, pw, rfl, hk, by omega, hA', fun r' hr' => ?_⟩
              rw [zrw_zrw]
              have hr' : memoM np pw (zVr mem) r' := hr'
              have ih2 := ih2 r' hr' hall
              refine hP _ _ _ _ _ ⟨fun h147 => ?_, fun h147 => ?_⟩
              ·
                have h147 := zb_0.mp h147
                refine hP _ _ _ _ _ ?_
                refine hP _ _ _ _ _ ?_
                first | (have h147 : tpK np pw (zVr mem) k j = true := h147; simp only [h137, h147, Bool.true_and, zb, cond_true] at ih2; exact ih2) | (have h147 : tpK np pw (zVr mem) k j = false := h147; simp only [h147, Bool.and_false, zb, cond_false, Int32.add_zero] at ih2; exact ih2) | (have h137 : bt (mem.1 182 (8 * i + 1)) j = false := h137; have ih2 := ih2 r hr hall; simp only [h137, Bool.false_and, zb, cond_false, Int32.add_zero] at ih2; exact ih2)
              ·
                have h147 := zb_n.mp h147
                have h147 : tpK np pw (zVr mem) k j = true := h147
                refine hP _ _ _ _ _ ?_
                refine hP _ _ _ _ _ ?_
                refine hP _ _ _ _ _ ?_
                first | (have h147 : tpK np pw (zVr mem) k j = true := h147; simp only [h137, h147, Bool.true_and, zb, cond_true] at ih2; exact ih2) | (have h147 : tpK np pw (zVr mem) k j = false := h147; simp only [h147, Bool.and_false, zb, cond_false, Int32.add_zero] at ih2; exact ih2) | (have h137 : bt (mem.1 182 (8 * i + 1)) j = false := h137; have ih2 := ih2 r hr hall; simp only [h137, Bool.false_and, zb, cond_false, Int32.add_zero] at ih2; exact ih2)
        have ih0 := ih r hr
        refine hP _ _ _ _ _ ?_
        refine hP _ _ _ _ _ ?_
        refine hP _ _ _ _ _ ⟨(zi hn rfl rfl rfl), ?_⟩
        refine hP _ _ _ _ _ ⟨fun hz => absurd hz ( by rw [r3']; exact nI_ge hi (by omega)), fun _ => ?_⟩
        refine hP _ _ _ _ _ ?_
        refine hP _ _ _ _ _ ?_
        refine hP _ _ _ _ _ ⟨fun _ => ?_, fun hz => absurd ( rfl) hz⟩
        refine hP _ _ _ _ _ ?_
        refine hP _ _ _ _ _ ⟨(zi hn rfl rfl rfl), _, fx_Model_powers hF, (by decide), ?_⟩
        refine hP _ _ _ _ _ ?_
        refine hP _ _ _ _ _ ?_
        refine hP _ _ _ _ _ ?_
        refine hP _ _ _ _ _ ?_
        refine hP _ _ _ _ _ ?_
        refine hP _ _ _ _ _ ⟨_, 8 * i, (zi hn rfl rfl rfl), nlin 8 i 0, by omega, ?_⟩
        refine hP _ _ _ _ _ ?_
        refine hP _ _ _ _ _ ⟨fun h59 => ?_, fun h59 => ?_⟩
        ·
          refine hP _ _ _ _ _ ?_
          refine hP _ _ _ _ _ ⟨(zi hn rfl rfl rfl), _, fx_Model_kindsNow hF, (by decide), ?_⟩
          refine hP _ _ _ _ _ ?_
          refine hP _ _ _ _ _ ⟨_, i, (zi hn rfl rfl rfl), rfl, by omega, ?_⟩
          refine hP _ _ _ _ _ ?_
          refine hP _ _ _ _ _ ⟨(zi hn rfl rfl rfl), ?_⟩
          refine hP _ _ _ _ _ ⟨Nat.le_of_ble_eq_true rfl, Nat.le_of_ble_eq_true rfl, ?_⟩
          refine ⟨_, c, by rw [← hc]; rfl, by omega, ?_⟩
          refine hP _ _ _ _ _ ⟨fun h76 => ?_, fun h76 => ?_⟩
          ·
            have h76 := zb_0.mp h76
            refine hP _ _ _ _ _ ?_
            refine hP _ _ _ _ _ ?_
            first | (have g4 : (!bt (mem.1 180 32) i && decide (mem.1 192 i = 0)) = false := h99; simp only [g4, Bool.and_false, Bool.false_and, Bool.false_eq_true, if_false] at ih0; exact ih0 _ _) | (have g3 : mem.1 194 i < mem.1 180 39 := h90; simp only [g3, decide_true, Bool.not_true, Bool.and_false, Bool.false_and, Bool.false_eq_true, if_false] at ih0; exact ih0 _ _) | (have g2 : bt (mem.1 193 i) c = false := h76; simp only [g2, Bool.and_false, Bool.false_and, Bool.false_eq_true, if_false] at ih0; exact ih0 _ _) | (have g1 : ¬ mem.1 182 (8 * i) = nI q := h59; simp only [g1, decide_false, Bool.and_false, Bool.false_and, Bool.false_eq_true, if_false] at ih0; exact ih0 _ _)
          ·
            have h76 := zb_n.mp h76
            refine hP _ _ _ _ _ ?_
            refine hP _ _ _ _ _ ⟨(zi hn rfl rfl rfl), _, fx_Model_mostNow hF, (by decide), ?_⟩
            refine hP _ _ _ _ _ ?_
            refine hP _ _ _ _ _ ⟨_, i, (zi hn rfl rfl rfl), rfl, by omega, ?_⟩
            refine hP _ _ _ _ _ ?_
            refine hP _ _ _ _ _ ⟨(zi hn rfl rfl rfl), ?_⟩
            refine hP _ _ _ _ _ ⟨fun h90 => ?_, fun h90 => ?_⟩
            ·
              refine hP _ _ _ _ _ ?_
              refine hP _ _ _ _ _ ?_
              first | (have g4 : (!bt (mem.1 180 32) i && decide (mem.1 192 i = 0)) = false := h99; simp only [g4, Bool.and_false, Bool.false_and, Bool.false_eq_true, if_false] at ih0; exact ih0 _ _) | (have g3 : mem.1 194 i < mem.1 180 39 := h90; simp only [g3, decide_true, Bool.not_true, Bool.and_false, Bool.false_and, Bool.false_eq_true, if_false] at ih0; exact ih0 _ _) | (have g2 : bt (mem.1 193 i) c = false := h76; simp only [g2, Bool.and_false, Bool.false_and, Bool.false_eq_true, if_false] at ih0; exact ih0 _ _) | (have g1 : ¬ mem.1 182 (8 * i) = nI q := h59; simp only [g1, decide_false, Bool.and_false, Bool.false_and, Bool.false_eq_true, if_false] at ih0; exact ih0 _ _)
            ·
              refine hP _ _ _ _ _ ?_
              refine hP _ _ _ _ _ ?_
              refine hP _ _ _ _ _ ⟨(zi hn rfl rfl rfl), Nat.le_of_ble_eq_true rfl, Nat.le_of_ble_eq_true rfl, ?_⟩
              refine ⟨i, rfl, by omega, ⟨hn, hF⟩, ?_⟩
              refine hP _ _ _ _ _ ⟨fun h99 => ?_, fun h99 => ?_⟩
              ·
                have h99 := zb_0.mp h99
                refine hP _ _ _ _ _ ?_
                refine hP _ _ _ _ _ ?_
                refine hP _ _ _ _ _ ?_
                first | (have g4 : (!bt (mem.1 180 32) i && decide (mem.1 192 i = 0)) = false := h99; simp only [g4, Bool.and_false, Bool.false_and, Bool.false_eq_true, if_false] at ih0; exact ih0 _ _) | (have g3 : mem.1 194 i < mem.1 180 39 := h90; simp only [g3, decide_true, Bool.not_true, Bool.and_false, Bool.false_and, Bool.false_eq_true, if_false] at ih0; exact ih0 _ _) | (have g2 : bt (mem.1 193 i) c = false := h76; simp only [g2, Bool.and_false, Bool.false_and, Bool.false_eq_true, if_false] at ih0; exact ih0 _ _) | (have g1 : ¬ mem.1 182 (8 * i) = nI q := h59; simp only [g1, decide_false, Bool.and_false, Bool.false_and, Bool.false_eq_true, if_false] at ih0; exact ih0 _ _)
              ·
                have h99 := zb_n.mp h99
                refine hP _ _ _ _ _ ?_
                refine hP _ _ _ _ _ ?_
                refine hP _ _ _ _ _ ?_
                refine hP _ _ _ _ _ ?_
                refine inner 0 (by omega) r hr ?_
                have g1 : mem.1 182 (8 * i) = nI q := h59
                have g2 : bt (mem.1 193 i) c = true := h76
                have g3 : ¬ mem.1 194 i < mem.1 180 39 := h90
                have g4 : (!bt (mem.1 180 32) i && decide (mem.1 192 i = 0)) = true := h99
                simp only [g1, g2, g3, g4, decide_true, decide_false, Bool.not_false, Bool.and_self]
        ·
          refine hP _ _ _ _ _ ?_
          refine hP _ _ _ _ _ ?_
          first | (have g4 : (!bt (mem.1 180 32) i && decide (mem.1 192 i = 0)) = false := h99; simp only [g4, Bool.and_false, Bool.false_and, Bool.false_eq_true, if_false] at ih0; exact ih0 _ _) | (have g3 : mem.1 194 i < mem.1 180 39 := h90; simp only [g3, decide_true, Bool.not_true, Bool.and_false, Bool.false_and, Bool.false_eq_true, if_false] at ih0; exact ih0 _ _) | (have g2 : bt (mem.1 193 i) c = false := h76; simp only [g2, Bool.and_false, Bool.false_and, Bool.false_eq_true, if_false] at ih0; exact ih0 _ _) | (have g1 : ¬ mem.1 182 (8 * i) = nI q := h59; simp only [g1, decide_false, Bool.and_false, Bool.false_and, Bool.false_eq_true, if_false] at ih0; exact ih0 _ _)
  have hQ0 := hQ (mem.1 195) hM
  rw [zrw_self] at hQ0
  have l0 := loop 0 (by omega) (mem.1 195) hM
  rw [zrw_self] at l0
  refine hP _ _ _ _ _ ?_
  refine hP _ _ _ _ _ ?_
  refine hP _ _ _ _ _ ?_
  refine hP _ _ _ _ _ ?_
  refine hP _ _ _ _ _ ?_
  refine hP _ _ _ _ _ ?_
  refine hP _ _ _ _ _ ?_
  refine hP _ _ _ _ _ ⟨(zi hn rfl rfl rfl), _, fx_Model_answers hF, (by decide), ?_⟩
  refine hP _ _ _ _ _ ?_
  refine hP _ _ _ _ _ ⟨_, 8 * (3 - k) + q, (zi hn rfl rfl rfl), nlin 8 (3 - k) q, by omega, ?_⟩
  refine hP _ _ _ _ _ ?_
  refine hP _ _ _ _ _ ⟨fun h15 => ?_, fun h15 => ?_⟩
  ·
    refine hP _ _ _ _ _ ?_
    refine hP _ _ _ _ _ ?_
    refine hP _ _ _ _ _ ?_
    refine hP _ _ _ _ _ ?_
    exact l0 _ _
  ·
    refine hP _ _ _ _ _ ?_
    refine hP _ _ _ _ _ ⟨(zi hn rfl rfl rfl), _, fx_Model_answers hF, (by decide), ?_⟩
    refine hP _ _ _ _ _ ?_
    refine hP _ _ _ _ _ ⟨_, 8 * (3 - k) + q, (zi hn rfl rfl rfl), nlin 8 (3 - k) q, by omega, ?_⟩
    refine hP _ _ _ _ _ ?_
    exact ⟨rfl, by rw [(hM k hk q hq8).resolve_left h15]; exact hQ0⟩
