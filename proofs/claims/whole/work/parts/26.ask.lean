theorem cb_all {l : Launch} {G : zG} : ∀ k, zOK l G yX11_takesPart cX11_takesPart 3 (some .boolean) (2 + 2 * k) 0 0 (kTp k) ∧ zOK l G yX11_canBy cX11_canBy 8 (some .int) (3 + 2 * k) 0 0 (kCb k) := by
  intro k
  induction k with
  | zero =>
    have h := tp_step (l := l) (G := G) (k := 0) (h := 2) (hc := 0) (K := kNo) ok_No (by omega) (by omega) (fun j e => by omega)
    exact ⟨h, cb_step h (by omega) (by omega)⟩
  | succ k ih =>
    have h := tp_step (l := l) (G := G) (k := k + 1) (h := 2 + 2 * (k + 1)) ih.2 (by omega) (by omega) (fun j e => by cases e; rfl)
    exact ⟨h, cb_step h (by omega) (by omega)⟩
/-- powers used -/
def usF (hf : Int32) (tp : Nat → Bool) (us : Nat → Int32) (s0 : Int32) : Nat → Int32
  | 0 => s0
  | h + 1 => if bt hf h = true ∧ tp h = true then usF hf tp us s0 h ||| us h else usF hf tp us s0 h
def usM (np pw : Nat) (v : zVt) : Nat → Nat → Int32
  | 0, q => if canM np pw v 0 q = -1 then 0 else 1 <<< (canM np pw v 0 q &&& 31)
  | k + 1, q => if canM np pw v (k + 1) q = -1 then 0 else usF (v.2.1 (8 * ix (canM np pw v (k + 1) q) + 1) &&& v.1 14) (tpK np pw v (k + 1)) (usM np pw v k) (1 <<< (canM np pw v (k + 1) q &&& 31)) np
/-- persons are no firms -/
def zPf (f : Nat → Int32) : Prop := ∀ h, h < 8 → bt (f 14) h = true → bt (f 37) h = false
def kUb (k : Nat) : zCt := fun as n mem Q => ∃ (q np pw : Nat), as = [.ref 180, .int (nI q), .int (nI (3 - k))] ∧ k ≤ 3 ∧ q < 8 ∧ zAsk n mem np pw ∧ zPf (mem.1 180) ∧ (∀ r, memoM np pw (zVr mem) r → Q (some (.int (usM np pw (zVr mem) k q))) n (zrw mem 195 r))
theorem canM_val {np pw : Nat} {v : zVt} {k q : Nat} : canM np pw v k q = -1 ∨ ∃ p, p < pw ∧ canM np pw v k q = nI p := by rw [canM_eq]; exact fsM_val pw
theorem ub_step {l : Launch} {G : zG} {k h hu : Nat} {K : zCt} (hK : zOK l G yX11_usedBy cX11_usedBy 6 (some .int) hu 0 0 K) (hh : hu < h) (h2 : 3 + 2 * k < h) (hKk : ∀ j, k = j + 1 → K = kUb j) : zOK l G yX11_usedBy cX11_usedBy 6 (some .int) h 0 0 (kUb k) := by
  intro as n mem Q hK0
  obtain ⟨q, np, pw, rfl, hk, hq8, hA, hPf, hQ⟩ := hK0
  obtain ⟨⟨hn, hF⟩, hR, ⟨c, hc6, hc⟩, hM⟩ := id hA
  obtain ⟨r1, r2, r3, r4, r5, r6⟩ := hR
  refine mtX11_usedBy (cb_all k).2 (by omega) ok_X11_has (by omega) (cb_all k).1 (by omega) hK hh (List.forall_mem_cons.mpr ⟨rfl, List.forall_mem_cons.mpr ⟨rfl, List.forall_mem_cons.mpr ⟨rfl, fun _ h => absurd h List.not_mem_nil⟩⟩⟩) (by simp) rfl (fun P hP => ?_)
  show P 0 [.ref 180, .int (nI q), .int (nI (3 - k)), .null, .null, .null] [] n mem
  rcases canM_val (np := np) (pw := pw) (v := zVr mem) (k := k) (q := q) with hn1 | ⟨p, hp, hcp⟩
  ·
    refine hP _ _ _ _ _ ?_
    refine hP _ _ _ _ _ ?_
    refine hP _ _ _ _ _ ?_
    refine hP _ _ _ _ _ ⟨(zi hn rfl rfl rfl), Nat.le_of_ble_eq_true rfl, Nat.le_of_ble_eq_true rfl, ?_⟩
    refine ⟨q, np, pw, rfl, hk, hq8, hA, fun r hr => ?_⟩
    refine hP _ _ _ _ _ ?_
    refine hP _ _ _ _ _ ?_
    refine hP _ _ _ _ _ ?_
    refine hP _ _ _ _ _ ⟨fun _ => ?_, fun hz => absurd ( hn1) hz⟩
    refine hP _ _ _ _ _ ?_
    refine hP _ _ _ _ _ ?_
    exact ⟨rfl, by have := hQ r hr; cases k <;> (simp only [usM, hn1, if_true] at this; exact this)⟩
  · have hne : ¬ canM np pw (zVr mem) k q = -1 := by rw [hcp]; exact fun z => absurd (z ▸ nI_pos' (n := p) (by omega)) (by decide)
    have hxp := ix_nI (j := p) (by omega)
    cases k with
    | zero =>
      have loop : ∀ i, i ≤ np → ∀ r, memoM np pw (zVr mem) r → P 22 [.ref 180, .int (nI q), .int (nI 3), .int (nI p), .int (1 <<< (nI p &&& 31)), .int (nI i)] [] n (zrw mem 195 r) := by
        refine zloop ?_ ?_
        · intro r hr
          have hF : zFx (zrw mem 195 r) := hF
          have r1' : (zrw mem 195 r).1 180 13 = nI np := r1
          have hQ1 := hQ r hr
          simp only [usM] at hQ1
          rw [if_neg hne, hcp] at hQ1
          refine hP _ _ _ _ _ ?_
          refine hP _ _ _ _ _ ?_
          refine hP _ _ _ _ _ ⟨(zi hn rfl rfl rfl), ?_⟩
          refine hP _ _ _ _ _ ⟨fun _ => ?_, fun hz => absurd ( by rw [r1']; exact nI_le (Nat.le_refl _) (by omega)) hz⟩
          refine hP _ _ _ _ _ ?_
          refine hP _ _ _ _ _ ?_
          exact ⟨rfl, hQ1⟩
        · intro i hi ih r hr
          have hF : zFx (zrw mem 195 r) := hF
          have r1' : (zrw mem 195 r).1 180 13 = nI np := r1
          have hA' := zAsk_r hA hr
          rw [nI_succ i] at ih
          refine hP _ _ _ _ _ ?_
          refine hP _ _ _ _ _ ?_
          refine hP _ _ _ _ _ ⟨(zi hn rfl rfl rfl), ?_⟩
          refine hP _ _ _ _ _ ⟨fun hz => absurd hz ( by rw [r1']; exact nI_ge hi (by omega)), fun _ => ?_⟩
          refine hP _ _ _ _ _ ?_
          refine hP _ _ _ _ _ ⟨(zi hn rfl rfl rfl), _, fx_Model_powers hF, (by decide), ?_⟩
          refine hP _ _ _ _ _ ?_
          refine hP _ _ _ _ _ ?_
          refine hP _ _ _ _ _ ?_
          refine hP _ _ _ _ _ ?_
          refine hP _ _ _ _ _ ?_
          refine hP _ _ _ _ _ ⟨_, 8 * p + 1, (zi hn rfl rfl rfl), nlin 8 p 1, by omega, ?_⟩
          refine hP _ _ _ _ _ ?_
          refine hP _ _ _ _ _ ⟨(zi hn rfl rfl rfl), ?_⟩
          refine hP _ _ _ _ _ ?_
          refine hP _ _ _ _ _ ?_
          refine hP _ _ _ _ _ ⟨Nat.le_of_ble_eq_true rfl, Nat.le_of_ble_eq_true rfl, ?_⟩
          refine ⟨_, i, rfl, by omega, ?_⟩
          refine hP _ _ _ _ _ ⟨fun h52 => ?_, fun h52 => ?_⟩
          ·
            have h52 := zb_0.mp h52
            refine hP _ _ _ _ _ ?_
            refine hP _ _ _ _ _ ?_
            first | exact ih _ hr' | exact ih _ hr
          ·
            have h52 := zb_n.mp h52
            refine hP _ _ _ _ _ ?_
            refine hP _ _ _ _ _ ?_
            refine hP _ _ _ _ _ ?_
            refine hP _ _ _ _ _ ⟨(zi hn rfl rfl rfl), Nat.le_of_ble_eq_true rfl, Nat.le_of_ble_eq_true rfl, ?_⟩
            refine ⟨i, np, pw, rfl, hk, by omega, hA', fun r' hr' => ?_⟩
            rw [zrw_zrw]
            refine hP _ _ _ _ _ ⟨fun h62 => ?_, fun h62 => ?_⟩
            ·
              have h62 := zb_0.mp h62
              refine hP _ _ _ _ _ ?_
              refine hP _ _ _ _ _ ?_
              first | exact ih _ hr' | exact ih _ hr
            ·
              have h62 := zb_n.mp h62
              exfalso
              have g1 : bt (mem.1 182 (8 * p + 1) &&& mem.1 180 14) i = true := h52
              have g2 : tpK np pw (zVr mem) 0 i = true := h62
              rw [b_and, Bool.and_eq_true] at g1
              simp only [tpK, tpM, vr1, vr3, hPf i (by omega) g1.2, Bool.false_and, Bool.and_false, Bool.or_self] at g2
              exact absurd g2 (by decide)
      refine hP _ _ _ _ _ ?_
      refine hP _ _ _ _ _ ?_
      refine hP _ _ _ _ _ ?_
      refine hP _ _ _ _ _ ⟨(zi hn rfl rfl rfl), Nat.le_of_ble_eq_true rfl, Nat.le_of_ble_eq_true rfl, ?_⟩
      refine ⟨q, np, pw, rfl, hk, hq8, hA, fun r hr => ?_⟩
      rw [hcp]
      refine hP _ _ _ _ _ ?_
      refine hP _ _ _ _ _ ?_
      refine hP _ _ _ _ _ ?_
      refine hP _ _ _ _ _ ⟨fun hz => absurd hz ( hcp ▸ hne), fun _ => ?_⟩
      refine hP _ _ _ _ _ ?_
      refine hP _ _ _ _ _ ?_
      refine hP _ _ _ _ _ ?_
      refine hP _ _ _ _ _ ?_
      refine hP _ _ _ _ _ ?_
      refine hP _ _ _ _ _ ?_
      exact loop 0 (by omega) r hr
    | succ k =>
      have hKk := hKk k rfl
      subst hKk
      have e3 : nI (3 - (k + 1)) + 1 = nI (3 - k) := by rw [nI_1]; congr 1; omega
      have loop : ∀ i, i ≤ np → ∀ r, memoM np pw (zVr mem) r → P 22 [.ref 180, .int (nI q), .int (nI (3 - (k + 1))), .int (nI p), .int (usF (mem.1 182 (8 * p + 1) &&& mem.1 180 14) (tpK np pw (zVr mem) (k + 1)) (usM np pw (zVr mem) k) (1 <<< (nI p &&& 31)) i), .int (nI i)] [] n (zrw mem 195 r) := by
        refine zloop ?_ ?_
        · intro r hr
          have hF : zFx (zrw mem 195 r) := hF
          have r1' : (zrw mem 195 r).1 180 13 = nI np := r1
          have hQ1 := hQ r hr
          simp only [usM] at hQ1
          rw [if_neg hne, hcp, hxp] at hQ1
          refine hP _ _ _ _ _ ?_
          refine hP _ _ _ _ _ ?_
          refine hP _ _ _ _ _ ⟨(zi hn rfl rfl rfl), ?_⟩
          refine hP _ _ _ _ _ ⟨fun _ => ?_, fun hz => absurd ( by rw [r1']; exact nI_le (Nat.le_refl _) (by omega)) hz⟩
          refine hP _ _ _ _ _ ?_
          refine hP _ _ _ _ _ ?_
          exact ⟨rfl, hQ1⟩
        · intro i hi ih r hr
          have hF : zFx (zrw mem 195 r) := hF
          have r1' : (zrw mem 195 r).1 180 13 = nI np := r1
          have hA' := zAsk_r hA hr
          rw [nI_succ i] at ih
          refine hP _ _ _ _ _ ?_
          refine hP _ _ _ _ _ ?_
          refine hP _ _ _ _ _ ⟨(zi hn rfl rfl rfl), ?_⟩
          refine hP _ _ _ _ _ ⟨fun hz => absurd hz ( by rw [r1']; exact nI_ge hi (by omega)), fun _ => ?_⟩
          refine hP _ _ _ _ _ ?_
          refine hP _ _ _ _ _ ⟨(zi hn rfl rfl rfl), _, fx_Model_powers hF, (by decide), ?_⟩
          refine hP _ _ _ _ _ ?_
          refine hP _ _ _ _ _ ?_
          refine hP _ _ _ _ _ ?_
          refine hP _ _ _ _ _ ?_
          refine hP _ _ _ _ _ ?_
          refine hP _ _ _ _ _ ⟨_, 8 * p + 1, (zi hn rfl rfl rfl), nlin 8 p 1, by omega, ?_⟩
          refine hP _ _ _ _ _ ?_
          refine hP _ _ _ _ _ ⟨(zi hn rfl rfl rfl), ?_⟩
          refine hP _ _ _ _ _ ?_
          refine hP _ _ _ _ _ ?_
          refine hP _ _ _ _ _ ⟨Nat.le_of_ble_eq_true rfl, Nat.le_of_ble_eq_true rfl, ?_⟩
          refine ⟨_, i, rfl, by omega, ?_⟩
          refine hP _ _ _ _ _ ⟨fun h52 => ?_, fun h52 => ?_⟩
          ·
            have h52 := zb_0.mp h52
            refine hP _ _ _ _ _ ?_
            refine hP _ _ _ _ _ ?_
            first | exact ih1 | (have g2 : tpK np pw (zVr mem) (k + 1) i = false := h62; have ih1 := ih r' hr'; simp only [usF, g2, Bool.false_eq_true, and_false, if_false] at ih1; exact ih1) | (have g1 : bt (mem.1 182 (8 * p + 1) &&& mem.1 180 14) i = false := h52; have ih1 := ih r hr; simp only [usF, g1, Bool.false_eq_true, false_and, if_false] at ih1; exact ih1)
          ·
            have h52 := zb_n.mp h52
            have g1 : bt (mem.1 182 (8 * p + 1) &&& mem.1 180 14) i = true := h52
            refine hP _ _ _ _ _ ?_
            refine hP _ _ _ _ _ ?_
            refine hP _ _ _ _ _ ?_
            refine hP _ _ _ _ _ ⟨(zi hn rfl rfl rfl), Nat.le_of_ble_eq_true rfl, Nat.le_of_ble_eq_true rfl, ?_⟩
            refine ⟨i, np, pw, rfl, hk, by omega, hA', fun r' hr' => ?_⟩
            rw [zrw_zrw]
            have hr' : memoM np pw (zVr mem) r' := hr'
            refine hP _ _ _ _ _ ⟨fun h62 => ?_, fun h62 => ?_⟩
            ·
              have h62 := zb_0.mp h62
              refine hP _ _ _ _ _ ?_
              refine hP _ _ _ _ _ ?_
              first | exact ih1 | (have g2 : tpK np pw (zVr mem) (k + 1) i = false := h62; have ih1 := ih r' hr'; simp only [usF, g2, Bool.false_eq_true, and_false, if_false] at ih1; exact ih1) | (have g1 : bt (mem.1 182 (8 * p + 1) &&& mem.1 180 14) i = false := h52; have ih1 := ih r hr; simp only [usF, g1, Bool.false_eq_true, false_and, if_false] at ih1; exact ih1)
            ·
              have h62 := zb_n.mp h62
              have g2 : tpK np pw (zVr mem) (k + 1) i = true := h62
              refine hP _ _ _ _ _ ?_
              refine hP _ _ _ _ _ ?_
              refine hP _ _ _ _ _ ?_
              refine hP _ _ _ _ _ ?_
              refine hP _ _ _ _ _ ?_
              refine hP _ _ _ _ _ ?_
              refine hP _ _ _ _ _ ⟨(zi hn rfl rfl rfl), Nat.le_of_ble_eq_true rfl, Nat.le_of_ble_eq_true rfl, ?_⟩
              refine ⟨i, np, pw, by rw [← e3]; rfl, by omega, by omega, zAsk_r hA hr', hPf, fun r2 hr2 => ?_⟩
              rw [zrw_zrw]
              have ih1 := ih r2 hr2
              simp only [usF, g1, g2, and_self, if_true] at ih1
              refine hP _ _ _ _ _ ?_
              refine hP _ _ _ _ _ ?_
              refine hP _ _ _ _ _ ?_
              refine hP _ _ _ _ _ ?_
              first | exact ih1 | (have g2 : tpK np pw (zVr mem) (k + 1) i = false := h62; have ih1 := ih r' hr'; simp only [usF, g2, Bool.false_eq_true, and_false, if_false] at ih1; exact ih1) | (have g1 : bt (mem.1 182 (8 * p + 1) &&& mem.1 180 14) i = false := h52; have ih1 := ih r hr; simp only [usF, g1, Bool.false_eq_true, false_and, if_false] at ih1; exact ih1)
      refine hP _ _ _ _ _ ?_
      refine hP _ _ _ _ _ ?_
      refine hP _ _ _ _ _ ?_
      refine hP _ _ _ _ _ ⟨(zi hn rfl rfl rfl), Nat.le_of_ble_eq_true rfl, Nat.le_of_ble_eq_true rfl, ?_⟩
      refine ⟨q, np, pw, rfl, hk, hq8, hA, fun r hr => ?_⟩
      rw [hcp]
      refine hP _ _ _ _ _ ?_
      refine hP _ _ _ _ _ ?_
      refine hP _ _ _ _ _ ?_
      refine hP _ _ _ _ _ ⟨fun hz => absurd hz ( hcp ▸ hne), fun _ => ?_⟩
      refine hP _ _ _ _ _ ?_
      refine hP _ _ _ _ _ ?_
      refine hP _ _ _ _ _ ?_
      refine hP _ _ _ _ _ ?_
      refine hP _ _ _ _ _ ?_
      refine hP _ _ _ _ _ ?_
      exact loop 0 (by omega) r hr
theorem ub_all {l : Launch} {G : zG} : ∀ k, zOK l G yX11_usedBy cX11_usedBy 6 (some .int) (4 + 2 * k) 0 0 (kUb k) := by
  intro k
  induction k with
  | zero => exact ub_step (hu := 0) (K := kNo) ok_No (by omega) (by omega) (fun j e => by omega)
  | succ k ih => exact ub_step ih (by omega) (by omega) (fun j e => by cases e; rfl)

/-- what is asked -/
def zask (mem : zM) (ps kd am : Int32) : zM := zI (zI (zI mem 180 37 ps) 180 38 kd) 180 39 am
theorem filli {r : Nat → Int32} {i : Nat} (h : ∀ j, j < i → r j = -2) : ∀ j, j < i + 1 → upd r i (-2) j = -2 := by
  intro j hj
  by_cases e : j = i
  · simp [upd, e]
  · simp [upd, e, h j (by omega)]
def k_X11_asks : zCt := fun as n mem Q => ∃ (ps kd am : Int32), as = [.ref 180, .int ps, .int kd, .int am] ∧ zst n mem ∧ (∀ r, (∀ j, j < 32 → r j = -2) → Q none n (zrw (zask mem ps kd am) 195 r))
theorem ok_X11_asks {l : Launch} {G : zG} : zOK l G yX11_asks cX11_asks 5 none 0 0 0 k_X11_asks := by
  intro as n mem Q hK
  obtain ⟨ps, kd, am, rfl, ⟨hn, hF⟩, hQ⟩ := hK
  refine mtX11_asks (List.forall_mem_cons.mpr ⟨rfl, List.forall_mem_cons.mpr ⟨rfl, List.forall_mem_cons.mpr ⟨rfl, List.forall_mem_cons.mpr ⟨rfl, fun _ h => absurd h List.not_mem_nil⟩⟩⟩⟩) (by simp) rfl (fun P hP => ?_)
  show P 0 [.ref 180, .int ps, .int kd, .int am, .null] [] n mem
  have loop : ∀ i, i ≤ 32 → ∀ r, (∀ j, j < i → r j = -2) → P 18 [.ref 180, .int ps, .int kd, .int am, .int (nI i)] [] n (zrw (zask mem ps kd am) 195 r) := by
    refine zloop ?_ ?_
    · intro r hr
      refine hP _ _ _ _ _ ?_
      refine hP _ _ _ _ _ ?_
      refine hP _ _ _ _ _ ⟨fun _ => ?_, fun hz => absurd ( by decide) hz⟩
      refine hP _ _ _ _ _ ?_
      exact ⟨rfl, hQ r hr⟩
    · intro i hi ih r hr
      have hF : zFx (zrw (zask mem ps kd am) 195 r) := hF
      have ih1 := ih _ (filli hr)
      rw [nI_succ i, ← zrw_I] at ih1
      refine hP _ _ _ _ _ ?_
      refine hP _ _ _ _ _ ?_
      refine hP _ _ _ _ _ ⟨fun hz => absurd hz ( nI_ge (b := 32) hi (by omega)), fun _ => ?_⟩
      refine hP _ _ _ _ _ ?_
      refine hP _ _ _ _ _ ⟨(zi hn rfl rfl rfl), _, fx_Model_answers hF, (by decide), ?_⟩
      refine hP _ _ _ _ _ ?_
      refine hP _ _ _ _ _ ?_
      refine hP _ _ _ _ _ ⟨_, i, (zi hn rfl rfl rfl), rfl, by omega, ?_⟩
      refine hP _ _ _ _ _ ?_
      refine hP _ _ _ _ _ ?_
      exact ih1
  have l0 := loop 0 (by omega) ((zask mem ps kd am).1 195) (fun j hj => by omega)
  rw [zrw_self] at l0
  refine hP _ _ _ _ _ ?_
  refine hP _ _ _ _ _ ?_
  refine hP _ _ _ _ _ ⟨(zi hn rfl rfl rfl), ?_⟩
  refine hP _ _ _ _ _ ?_
  refine hP _ _ _ _ _ ?_
  refine hP _ _ _ _ _ ⟨(zi hn rfl rfl rfl), ?_⟩
  refine hP _ _ _ _ _ ?_
  refine hP _ _ _ _ _ ?_
  refine hP _ _ _ _ _ ⟨(zi hn rfl rfl rfl), ?_⟩
  refine hP _ _ _ _ _ ?_
  refine hP _ _ _ _ _ ?_
  exact l0
theorem memo_new {np pw : Nat} {v : zVt} {r : Nat → Int32} (h : ∀ j, j < 32 → r j = -2) : memoM np pw v r := fun k hk q hq => Or.inl (h _ (by omega))
def k_X11_can0 : zCt := fun as n mem Q => ∃ (ps : Int32) (q c np pw : Nat) (am : Int32), as = [.ref 180, .int ps, .int (nI q), .int (nI c), .int am] ∧ q < 8 ∧ c < 6 ∧ zst n mem ∧ zRo (mem.1 180) (mem.1 182) (mem.1 188) np pw ∧ (∀ r, memoM np pw (zVr (zask mem ps (nI c) am)) r → Q (some (.int (canM np pw (zVr (zask mem ps (nI c) am)) 3 q))) n (zrw (zask mem ps (nI c) am) 195 r))
theorem zRo_ask {mem : zM} {ps kd am : Int32} {np pw : Nat} (h : zRo (mem.1 180) (mem.1 182) (mem.1 188) np pw) : zRo ((zask mem ps kd am).1 180) ((zask mem ps kd am).1 182) ((zask mem ps kd am).1 188) np pw := by
  obtain ⟨r1, r2, r3, r4, r5, r6⟩ := h
  exact ⟨r1, r2, r3, r4, r5, r6⟩
theorem ok_X11_canBy {l : Launch} {G : zG} : zOK l G yX11_canBy cX11_canBy 8 (some .int) 9 0 0 (kCb 3) := (cb_all 3).2
theorem ok_X11_can0 {l : Launch} {G : zG} : zOK l G yX11_can0 cX11_can0 5 (some .int) 10 0 0 k_X11_can0 := by
  intro as n mem Q hK
  obtain ⟨ps, q, c, np, pw, am, rfl, hq8, hc6, ⟨hn, hF⟩, hR, hQ⟩ := hK
  refine mtX11_can0 ok_X11_asks (by decide) ok_X11_canBy (by decide) (List.forall_mem_cons.mpr ⟨rfl, List.forall_mem_cons.mpr ⟨rfl, List.forall_mem_cons.mpr ⟨rfl, List.forall_mem_cons.mpr ⟨rfl, List.forall_mem_cons.mpr ⟨rfl, fun _ h => absurd h List.not_mem_nil⟩⟩⟩⟩⟩) (by simp) rfl (fun P hP => ?_)
  show P 0 [.ref 180, .int ps, .int (nI q), .int (nI c), .int am] [] n mem
  refine hP _ _ _ _ _ ?_
  refine hP _ _ _ _ _ ?_
  refine hP _ _ _ _ _ ?_
  refine hP _ _ _ _ _ ?_
  refine hP _ _ _ _ _ ⟨(zi hn rfl rfl rfl), Nat.le_of_ble_eq_true rfl, Nat.le_of_ble_eq_true rfl, ?_⟩
  refine ⟨_, _, _, rfl, ⟨hn, hF⟩, fun r hr => ?_⟩
  refine hP _ _ _ _ _ ?_
  refine hP _ _ _ _ _ ?_
  refine hP _ _ _ _ _ ?_
  refine hP _ _ _ _ _ ⟨(zi hn rfl rfl rfl), Nat.le_of_ble_eq_true rfl, Nat.le_of_ble_eq_true rfl, ?_⟩
  refine ⟨q, np, pw, rfl, by omega, hq8, ⟨⟨hn, hF⟩, zRo_ask hR, ⟨c, hc6, rfl⟩, memo_new hr⟩, fun r' hr' => ?_⟩
  rw [zrw_zrw]
  refine hP _ _ _ _ _ ?_
  exact ⟨rfl, hQ r' hr'⟩
def askedM (f : Nat → Int32) (ps pt kd am : Int32) : Bool := isin pt 0 (f 13 - 1) && (isin kd 0 5 && (isin am 0 999 && (!decide (ps ≤ 0) && (!decide ((1 <<< (f 13 &&& 31)) ≤ ps) && decide (ps &&& (f 14 ||| (1 <<< (pt &&& 31))) = 0)))))
def k_X11_isAsked : zCt := fun as n mem Q => ∃ (ps pt kd am : Int32), as = [.ref 180, .int ps, .int pt, .int kd, .int am] ∧ zst n mem ∧ Q (some (.int (zb (askedM (mem.1 180) ps pt kd am)))) n mem
theorem ok_X11_isAsked {l : Launch} {G : zG} : zOK l G yX11_isAsked cX11_isAsked 5 (some .boolean) 2 0 0 k_X11_isAsked := by
  intro as n mem Q hK
  obtain ⟨ps, pt, kd, am, rfl, ⟨hn, hF⟩, hQ⟩ := hK
  refine mtX11_isAsked ok_X11_isParty (by decide) ok_X11_isIn (by decide) (List.forall_mem_cons.mpr ⟨rfl, List.forall_mem_cons.mpr ⟨rfl, List.forall_mem_cons.mpr ⟨rfl, List.forall_mem_cons.mpr ⟨rfl, List.forall_mem_cons.mpr ⟨rfl, fun _ h => absurd h List.not_mem_nil⟩⟩⟩⟩⟩) (by simp) rfl (fun P hP => ?_)
  show P 0 [.ref 180, .int ps, .int pt, .int kd, .int am] [] n mem
  refine hP _ _ _ _ _ ?_
  refine hP _ _ _ _ _ ?_
  refine hP _ _ _ _ _ ⟨(zi hn rfl rfl rfl), Nat.le_of_ble_eq_true rfl, Nat.le_of_ble_eq_true rfl, ?_⟩
  refine ⟨_, rfl, ⟨hn, hF⟩, ?_⟩
  refine hP _ _ _ _ _ ⟨fun h5 => ?_, fun h5 => ?_⟩
  ·
    have h5 := zb_0.mp h5
    refine hP _ _ _ _ _ ?_
    refine hP _ _ _ _ _ ?_
    exact ⟨by decide, rfl, by simpa [zb, askedM, h5] using hQ⟩
  ·
    have h5 := zb_n.mp h5
    refine hP _ _ _ _ _ ?_
    refine hP _ _ _ _ _ ?_
    refine hP _ _ _ _ _ ?_
    refine hP _ _ _ _ _ ⟨Nat.le_of_ble_eq_true rfl, Nat.le_of_ble_eq_true rfl, ?_⟩
    refine ⟨_, _, _, rfl, ?_⟩
    refine hP _ _ _ _ _ ⟨fun h14 => ?_, fun h14 => ?_⟩
    ·
      have h14 := zb_0.mp h14
      refine hP _ _ _ _ _ ?_
      refine hP _ _ _ _ _ ?_
      exact ⟨by decide, rfl, by simpa [zb, askedM, h5, h14] using hQ⟩
    ·
      have h14 := zb_n.mp h14
      refine hP _ _ _ _ _ ?_
      refine hP _ _ _ _ _ ?_
      refine hP _ _ _ _ _ ?_
      refine hP _ _ _ _ _ ⟨Nat.le_of_ble_eq_true rfl, Nat.le_of_ble_eq_true rfl, ?_⟩
      refine ⟨_, _, _, rfl, ?_⟩
      refine hP _ _ _ _ _ ⟨fun h26 => ?_, fun h26 => ?_⟩
      ·
        have h26 := zb_0.mp h26
        refine hP _ _ _ _ _ ?_
        refine hP _ _ _ _ _ ?_
        exact ⟨by decide, rfl, by simpa [zb, askedM, h5, h14, h26] using hQ⟩
      ·
        have h26 := zb_n.mp h26
        refine hP _ _ _ _ _ ?_
        refine hP _ _ _ _ _ ⟨fun h32 => ?_, fun h32 => ?_⟩
        ·
          refine hP _ _ _ _ _ ?_
          refine hP _ _ _ _ _ ?_
          exact ⟨by decide, rfl, by simpa [zb, askedM, h5, h14, h26, h32] using hQ⟩
        ·
          refine hP _ _ _ _ _ ?_
          refine hP _ _ _ _ _ ?_
          refine hP _ _ _ _ _ ?_
          refine hP _ _ _ _ _ ⟨(zi hn rfl rfl rfl), ?_⟩
          refine hP _ _ _ _ _ ?_
          refine hP _ _ _ _ _ ⟨fun h42 => ?_, fun h42 => ?_⟩
          ·
            refine hP _ _ _ _ _ ?_
            refine hP _ _ _ _ _ ?_
            exact ⟨by decide, rfl, by simpa [zb, askedM, h5, h14, h26, h32, h42] using hQ⟩
          ·
            refine hP _ _ _ _ _ ?_
            refine hP _ _ _ _ _ ?_
            refine hP _ _ _ _ _ ⟨(zi hn rfl rfl rfl), ?_⟩
            refine hP _ _ _ _ _ ?_
            refine hP _ _ _ _ _ ?_
            refine hP _ _ _ _ _ ?_
            refine hP _ _ _ _ _ ?_
            refine hP _ _ _ _ _ ?_
            refine hP _ _ _ _ _ ⟨fun h55 => ?_, fun h55 => ?_⟩
            ·
              refine hP _ _ _ _ _ ?_
              refine hP _ _ _ _ _ ?_
              refine hP _ _ _ _ _ ?_
              exact ⟨by decide, rfl, by simpa [zb, askedM, h5, h14, h26, h32, h42, h55] using hQ⟩
            ·
              refine hP _ _ _ _ _ ?_
              refine hP _ _ _ _ _ ?_
              exact ⟨by decide, rfl, by simpa [zb, askedM, h5, h14, h26, h32, h42, h55] using hQ⟩
def kaskedM (f : Nat → Int32) (pt kd am : Int32) : Bool := isin pt 0 (f 13 - 1) && (isin kd 0 5 && isin am 0 999)
def k_X11_isKindAsked : zCt := fun as n mem Q => ∃ (pt kd am : Int32), as = [.ref 180, .int pt, .int kd, .int am] ∧ zst n mem ∧ Q (some (.int (zb (kaskedM (mem.1 180) pt kd am)))) n mem
theorem ok_X11_isKindAsked {l : Launch} {G : zG} : zOK l G yX11_isKindAsked cX11_isKindAsked 4 (some .boolean) 2 0 0 k_X11_isKindAsked := by
  intro as n mem Q hK
  obtain ⟨pt, kd, am, rfl, ⟨hn, hF⟩, hQ⟩ := hK
  refine mtX11_isKindAsked ok_X11_isParty (by decide) ok_X11_isIn (by decide) (List.forall_mem_cons.mpr ⟨rfl, List.forall_mem_cons.mpr ⟨rfl, List.forall_mem_cons.mpr ⟨rfl, List.forall_mem_cons.mpr ⟨rfl, fun _ h => absurd h List.not_mem_nil⟩⟩⟩⟩) (by simp) rfl (fun P hP => ?_)
  show P 0 [.ref 180, .int pt, .int kd, .int am] [] n mem
  refine hP _ _ _ _ _ ?_
  refine hP _ _ _ _ _ ?_
  refine hP _ _ _ _ _ ⟨(zi hn rfl rfl rfl), Nat.le_of_ble_eq_true rfl, Nat.le_of_ble_eq_true rfl, ?_⟩
  refine ⟨_, rfl, ⟨hn, hF⟩, ?_⟩
  refine hP _ _ _ _ _ ⟨fun h5 => ?_, fun h5 => ?_⟩
  ·
    have h5 := zb_0.mp h5
    refine hP _ _ _ _ _ ?_
    refine hP _ _ _ _ _ ?_
    exact ⟨by decide, rfl, by simpa [zb, kaskedM, h5] using hQ⟩
  ·
    have h5 := zb_n.mp h5
    refine hP _ _ _ _ _ ?_
    refine hP _ _ _ _ _ ?_
    refine hP _ _ _ _ _ ?_
    refine hP _ _ _ _ _ ⟨Nat.le_of_ble_eq_true rfl, Nat.le_of_ble_eq_true rfl, ?_⟩
    refine ⟨_, _, _, rfl, ?_⟩
    refine hP _ _ _ _ _ ⟨fun h14 => ?_, fun h14 => ?_⟩
    ·
      have h14 := zb_0.mp h14
      refine hP _ _ _ _ _ ?_
      refine hP _ _ _ _ _ ?_
      exact ⟨by decide, rfl, by simpa [zb, kaskedM, h5, h14] using hQ⟩
    ·
      have h14 := zb_n.mp h14
      refine hP _ _ _ _ _ ?_
      refine hP _ _ _ _ _ ?_
      refine hP _ _ _ _ _ ?_
      refine hP _ _ _ _ _ ⟨Nat.le_of_ble_eq_true rfl, Nat.le_of_ble_eq_true rfl, ?_⟩
      refine ⟨_, _, _, rfl, ?_⟩
      refine hP _ _ _ _ _ ⟨fun h25 => ?_, fun h25 => ?_⟩
      ·
        have h25 := zb_0.mp h25
        refine hP _ _ _ _ _ ?_
        refine hP _ _ _ _ _ ?_
        exact ⟨by decide, rfl, by simpa [zb, kaskedM, h5, h14, h25] using hQ⟩
      ·
        have h25 := zb_n.mp h25
        refine hP _ _ _ _ _ ?_
        refine hP _ _ _ _ _ ?_
        refine hP _ _ _ _ _ ?_
        exact ⟨by decide, rfl, by simpa [zb, kaskedM, h5, h14, h25] using hQ⟩
/-- seen as of k, on a day -/
def zsee (mem : zM) (k d : Int32) : zM := zI (zI (zI (zI mem 180 30 k) 180 31 d) 180 32 0) 180 33 (-1)
def k_X11_sees : zCt := fun as n mem Q => ∃ (k np pw : Nat) (d : Int32), as = [.ref 180, .int (nI k), .int d] ∧ k ≤ 300 ∧ zst n mem ∧ zRo (mem.1 180) (mem.1 182) (mem.1 188) np pw ∧ Q none n (zVw np pw k (zsee mem (nI k) d))
theorem zRo_see {mem : zM} {k d : Int32} {np pw : Nat} (h : zRo (mem.1 180) (mem.1 182) (mem.1 188) np pw) : zRo ((zsee mem k d).1 180) ((zsee mem k d).1 182) ((zsee mem k d).1 188) np pw := by
  obtain ⟨r1, r2, r3, r4, r5, r6⟩ := h
  exact ⟨r1, r2, r3, r4, r5, r6⟩
theorem ok_X11_sees {l : Launch} {G : zG} : zOK l G yX11_sees cX11_sees 3 none 5 0 0 k_X11_sees := by
  intro as n mem Q hK
  obtain ⟨k, np, pw, d, rfl, hk, ⟨hn, hF⟩, hR, hQ⟩ := hK
  refine mtX11_sees ok_X11_laysView (by decide) (List.forall_mem_cons.mpr ⟨rfl, List.forall_mem_cons.mpr ⟨rfl, List.forall_mem_cons.mpr ⟨rfl, fun _ h => absurd h List.not_mem_nil⟩⟩⟩) (by simp) rfl (fun P hP => ?_)
  show P 0 [.ref 180, .int (nI k), .int d] [] n mem
  refine hP _ _ _ _ _ ?_
  refine hP _ _ _ _ _ ?_
  refine hP _ _ _ _ _ ⟨(zi hn rfl rfl rfl), ?_⟩
  refine hP _ _ _ _ _ ?_
  refine hP _ _ _ _ _ ?_
  refine hP _ _ _ _ _ ⟨(zi hn rfl rfl rfl), ?_⟩
  refine hP _ _ _ _ _ ?_
  refine hP _ _ _ _ _ ?_
  refine hP _ _ _ _ _ ⟨(zi hn rfl rfl rfl), ?_⟩
  refine hP _ _ _ _ _ ?_
  refine hP _ _ _ _ _ ?_
  refine hP _ _ _ _ _ ⟨(zi hn rfl rfl rfl), ?_⟩
  refine hP _ _ _ _ _ ?_
  refine hP _ _ _ _ _ ⟨(zi hn rfl rfl rfl), Nat.le_of_ble_eq_true rfl, Nat.le_of_ble_eq_true rfl, ?_⟩
  refine ⟨np, pw, k, rfl, ⟨hn, hF⟩, zRo_see hR, Or.inl rfl, rfl, hk, ?_⟩
  refine hP _ _ _ _ _ ?_
  exact ⟨rfl, hQ⟩
def k_X11_seesNow : zCt := fun as n mem Q => ∃ (k np pw : Nat), as = [.ref 180] ∧ mem.1 180 27 = nI k ∧ k ≤ 300 ∧ zst n mem ∧ zRo (mem.1 180) (mem.1 182) (mem.1 188) np pw ∧ Q none n (zVw np pw k (zsee mem (nI k) (mem.1 180 28)))
theorem ok_X11_seesNow {l : Launch} {G : zG} : zOK l G yX11_seesNow cX11_seesNow 1 none 6 0 0 k_X11_seesNow := by
  intro as n mem Q hK
  obtain ⟨k, np, pw, rfl, hkm, hk, ⟨hn, hF⟩, hR, hQ⟩ := hK
  refine mtX11_seesNow ok_X11_sees (by decide) (List.forall_mem_cons.mpr ⟨rfl, fun _ h => absurd h List.not_mem_nil⟩) (by simp) rfl (fun P hP => ?_)
  show P 0 [.ref 180] [] n mem
  refine hP _ _ _ _ _ ?_
  refine hP _ _ _ _ _ ?_
  refine hP _ _ _ _ _ ⟨(zi hn rfl rfl rfl), ?_⟩
  refine hP _ _ _ _ _ ?_
  refine hP _ _ _ _ _ ⟨(zi hn rfl rfl rfl), ?_⟩
  refine hP _ _ _ _ _ ⟨(zi hn rfl rfl rfl), Nat.le_of_ble_eq_true rfl, Nat.le_of_ble_eq_true rfl, ?_⟩
  refine ⟨k, np, pw, _, by rw [← hkm]; rfl, hk, ⟨hn, hF⟩, hR, ?_⟩
  refine hP _ _ _ _ _ ?_
  exact ⟨rfl, hQ⟩
