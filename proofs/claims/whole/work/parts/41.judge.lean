/-! ===== the judge ===== -/
/-- what questions may write, of both -/
def sQ (a b : Nat) : Prop := (a = 180 ∧ (b = 0 ∨ (30 ≤ b ∧ b ≤ 33) ∨ (37 ≤ b ∧ b ≤ 39) ∨ b = 42)) ∨ (192 ≤ a ∧ a ≤ 196) ∨ (a = 114 ∧ 2 ≤ b) ∨ a = 115 ∨ a = 116 ∨ (a = 117 ∧ 1 ≤ b) ∨ a = 118
def sJ (a b : Nat) : Prop := (a = 114 ∧ 2 ≤ b) ∨ a = 115 ∨ a = 116
theorem sJ_Q {a b : Nat} (h : sJ a b) : sQ a b := by unfold sJ at h; unfold sQ; omega
theorem sV_Q {a b : Nat} (h : sV a b) : sQ a b := by unfold sV at h; unfold sQ; omega
theorem zFx_q {M m : zM} (h : zfr sQ M m) (hF : zFx M) : zFx m := by
  have e : ∀ a b, ¬ sQ a b → m.2.2 a b = M.2.2 a b := h.2.2
  have hl : ∀ q ∈ zfxl, ¬ sQ q.1 q.2.1 := by unfold sQ; decide +kernel
  refine ⟨fun q hq => (e _ _ (hl q hq)).trans (hF.1 q hq), fun p hp => ?_, fun a ha => ?_, ?_⟩
  · rw [e 137 p (by unfold sQ; omega), e 159 p (by unfold sQ; omega)]; exact hF.2.1 p hp
  · rw [e 119 a (by unfold sQ; omega)]; exact hF.2.2.1 a ha
  · rw [e 100 8 (by unfold sQ; omega), e 100 9 (by unfold sQ; omega)]; exact hF.2.2.2
theorem fr_row {S : Nat → Nat → Prop} {M m : zM} {a : Nat} {r : Nat → Int32} (h : zfr S M m) (hs : ∀ b, S a b) : zfr S M (zrw m a r) := by
  refine h.tr ⟨fun x b s => ?_, fun x b s => rfl, fun x b s => rfl⟩
  have : x ≠ a := fun e => s (e ▸ hs b)
  rw [zrw_at, if_neg this]
def k_J7_fill_53178 : zCt := fun as n mem Q => ∃ (a len : Nat) (v : Int32), as = [.ref a, .int v] ∧ zis n a (.inr (0, len)) ∧ (∀ r, (∀ j, j < len → r j = v) → Q none n (zrw mem a r))
theorem ok_J7_fill_53178 {l : Launch} {G : zG} : zOK l G yJ7_fill_53178 cJ7_fill_53178 4 none 0 0 0 k_J7_fill_53178 := by
  intro as n mem Q hK
  obtain ⟨a, len, v, rfl, ha, hQ⟩ := hK
  refine mtJ7_fill_53178 (List.forall_mem_cons.mpr ⟨rfl, List.forall_mem_cons.mpr ⟨rfl, fun _ h => absurd h List.not_mem_nil⟩⟩) (by simp) rfl (fun P hP => ?_)
  show P 0 [.ref a, .int v, .null, .null] [] n mem
  have hl := zkd_len ha.1
  have loop : ∀ i, i ≤ len → ∀ r, (∀ j, j < i → r j = v) → P 5 [.ref a, .int v, .int (nI i), .int (nI len)] [] n (zrw mem a r) := by
    refine zloop ?_ ?_
    · intro r hr
      refine hP _ _ _ _ _ ?_
      refine hP _ _ _ _ _ ?_
      refine hP _ _ _ _ _ ⟨fun _ => ?_, fun hz => absurd ( nI_le (Nat.le_refl _) (by omega)) hz⟩
      refine hP _ _ _ _ _ ?_
      exact ⟨rfl, hQ r hr⟩
    · intro i hi ih r hr
      have ih1 := ih (upd r i v) (fun j hj => by
        by_cases e : j = i
        · simp [upd, e]
        · simp [upd, e, hr j (by omega)])
      rw [nI_succ i, ← zrw_I] at ih1
      refine hP _ _ _ _ _ ?_
      refine hP _ _ _ _ _ ?_
      refine hP _ _ _ _ _ ⟨fun hz => absurd hz ( nI_ge hi (by omega)), fun _ => ?_⟩
      refine hP _ _ _ _ _ ?_
      refine hP _ _ _ _ _ ?_
      refine hP _ _ _ _ _ ?_
      refine hP _ _ _ _ _ ⟨_, i, ha, rfl, hi, ?_⟩
      refine hP _ _ _ _ _ ?_
      refine hP _ _ _ _ _ ?_
      exact ih1
  have l0 := loop 0 (by omega) (mem.1 a) (fun j hj => absurd hj (Nat.not_lt_zero _))
  rw [zrw_self] at l0
  refine hP _ _ _ _ _ ?_
  refine hP _ _ _ _ _ ?_
  refine hP _ _ _ _ _ ?_
  refine hP _ _ _ _ _ ⟨_, _, ha, by decide, ?_⟩
  refine hP _ _ _ _ _ ?_
  exact l0
/-- what is told: parties, powers, their rows -/
def zTl (mem : zM) (t np pw : Nat) : Prop := (t = 136 ∨ t = 158) ∧ mem.1 t 1 = nI np ∧ np ≤ 8 ∧ mem.1 t 2 = nI pw ∧ zPs mem t pw
def cnC (hf : Int32) (W : Nat → Int32) : Nat → Nat
  | 0 => 0
  | i + 1 => cnC hf W i + (bt hf i && !decide (W i = 0)).toNat
def tuC (hf : Int32) (W : Nat → Int32) (s0 : Int32) : Nat → Int32
  | 0 => s0
  | i + 1 => if bt hf i = true ∧ ¬ W i = 0 then tuC hf W s0 i ||| W i else tuC hf W s0 i
/-- g: the powers' rows; firms, parties, open, living, persons; W: what is used within -/
def ubC (g : Nat → Nat → Int32) (fi : Int32) (np : Nat) (op lv ps : Int32) (W : Nat → Int32) (p : Nat) : Int32 :=
  if bt op p = true then (if nI (pcI (g p 1 &&& lv &&& ps) + cnC (g p 1 &&& lv &&& fi) W np) < g p 2 then 0 else tuC (g p 1 &&& lv &&& fi) W (1 <<< (nI p &&& 31)) np) else 0
def zJd (n : Nat) (mem : zM) (t np pw : Nat) : Prop := zst n mem ∧ mem.2.2 114 2 = t ∧ zTl mem t np pw
/-- the rows of the powers -/
def gC (mem : zM) (t p : Nat) : Nat → Int32 := mem.1 (t + 2 + p)
def ubJ (mem : zM) (t np p : Nat) : Int32 := ubC (gC mem t) (mem.1 t 3) np (mem.1 114 3) (mem.1 114 4) (mem.1 114 5) (mem.1 115) p
def k_X1_usedBy : zCt := fun as n mem Q => ∃ (p t np pw : Nat), as = [.ref 114, .int (nI p)] ∧ zJd n mem t np pw ∧ p < pw ∧ Q (some (.int (ubJ mem t np p))) n mem
theorem cnC_le {hf : Int32} {W : Nat → Int32} : ∀ i, cnC hf W i ≤ i := by
  intro i
  induction i with
  | zero => exact Nat.le_refl _
  | succ i ih => rw [cnC]; have := Bool.toNat_le (bt hf i && !decide (W i = 0)); omega
theorem ok_X1_usedBy {l : Launch} {G : zG} : zOK l G yX1_usedBy cX1_usedBy 6 (some .int) 1 0 0 k_X1_usedBy := by
  intro as n mem Q hK
  obtain ⟨p, t, np, pw, rfl, ⟨⟨hn, hF⟩, hj, hT, hnp, hnp8, hpw, hw, hPs⟩, hp, hQ⟩ := hK
  refine mtX1_usedBy ok_X10_has (by decide) ok_J6_bitCount_0f7a4 (by decide) (List.forall_mem_cons.mpr ⟨rfl, List.forall_mem_cons.mpr ⟨rfl, fun _ h => absurd h List.not_mem_nil⟩⟩) (by simp) rfl (fun P hP => ?_)
  show P 0 [.ref 114, .int (nI p), .null, .null, .null, .null] [] n mem
  obtain ⟨-, hs8⟩ := hPs p hp
  have e2 : ubJ mem t np p = if bt (mem.1 114 3) p = true then (if nI (pcI (mem.1 (t + 2 + p) 1 &&& mem.1 114 4 &&& mem.1 114 5) + cnC (mem.1 (t + 2 + p) 1 &&& mem.1 114 4 &&& mem.1 t 3) (mem.1 115) np) < mem.1 (t + 2 + p) 2 then 0 else tuC (mem.1 (t + 2 + p) 1 &&& mem.1 114 4 &&& mem.1 t 3) (mem.1 115) (1 <<< (nI p &&& 31)) np) else 0 := rfl
  rw [e2] at hQ
  have loop : bt (mem.1 114 3) p = true → ∀ i, i ≤ np → P 49 [.ref 114, .int (nI p), .ref (t + 2 + p), .int (nI (pcI (mem.1 (t + 2 + p) 1 &&& mem.1 114 4 &&& mem.1 114 5) + cnC (mem.1 (t + 2 + p) 1 &&& mem.1 114 4 &&& mem.1 t 3) (mem.1 115) i)), .int (tuC (mem.1 (t + 2 + p) 1 &&& mem.1 114 4 &&& mem.1 t 3) (mem.1 115) (1 <<< (nI p &&& 31)) i), .int (nI i)] [] n mem := by
    intro hop
    rw [if_pos hop] at hQ
    refine zloop ?_ ?_
    ·
      refine hP _ _ _ _ _ ?_
      refine hP _ _ _ _ _ ?_
      refine hP _ _ _ _ _ ⟨(zi hn rfl rfl rfl), _, hj, (by omega), ?_⟩
      refine hP _ _ _ _ _ ⟨(ztT hn hT), ?_⟩
      refine hP _ _ _ _ _ ⟨fun _ => ?_, fun hz => absurd ( by rw [hnp]; exact nI_le (Nat.le_refl _) (by omega)) hz⟩
      refine hP _ _ _ _ _ ?_
      refine hP _ _ _ _ _ ?_
      refine hP _ _ _ _ _ ⟨(ztP hn hT (by omega)), ?_⟩
      refine hP _ _ _ _ _ ⟨fun h122 => ?_, fun h122 => ?_⟩
      ·
        refine hP _ _ _ _ _ ?_
        refine hP _ _ _ _ _ ?_
        first | (rw [if_pos h122] at hQ; exact ⟨rfl, hQ⟩) | (rw [if_neg h122] at hQ; exact ⟨rfl, hQ⟩)
      ·
        refine hP _ _ _ _ _ ?_
        refine hP _ _ _ _ _ ?_
        refine hP _ _ _ _ _ ?_
        first | (rw [if_pos h122] at hQ; exact ⟨rfl, hQ⟩) | (rw [if_neg h122] at hQ; exact ⟨rfl, hQ⟩)
    · intro i hi ih
      rw [nI_succ i, cnC, tuC] at ih
      refine hP _ _ _ _ _ ?_
      refine hP _ _ _ _ _ ?_
      refine hP _ _ _ _ _ ⟨(zi hn rfl rfl rfl), _, hj, (by omega), ?_⟩
      refine hP _ _ _ _ _ ⟨(ztT hn hT), ?_⟩
      refine hP _ _ _ _ _ ⟨fun hz => absurd hz ( by rw [hnp]; exact nI_ge hi (by omega)), fun _ => ?_⟩
      refine hP _ _ _ _ _ ?_
      refine hP _ _ _ _ _ ⟨(ztP hn hT (by omega)), ?_⟩
      refine hP _ _ _ _ _ ?_
      refine hP _ _ _ _ _ ⟨(zi hn rfl rfl rfl), ?_⟩
      refine hP _ _ _ _ _ ?_
      refine hP _ _ _ _ _ ?_
      refine hP _ _ _ _ _ ⟨(zi hn rfl rfl rfl), _, hj, (by omega), ?_⟩
      refine hP _ _ _ _ _ ⟨(ztT hn hT), ?_⟩
      refine hP _ _ _ _ _ ?_
      refine hP _ _ _ _ _ ?_
      refine hP _ _ _ _ _ ⟨Nat.le_of_ble_eq_true rfl, Nat.le_of_ble_eq_true rfl, ?_⟩
      refine ⟨_, i, rfl, by omega, ?_⟩
      refine hP _ _ _ _ _ ⟨fun h83 => ?_, fun h83 => ?_⟩
      ·
        have h83 := zb_0.mp h83
        refine hP _ _ _ _ _ ?_
        refine hP _ _ _ _ _ ?_
        first | (have h83 : bt (mem.1 (t + 2 + p) 1 &&& mem.1 114 4 &&& mem.1 t 3) i = false := h83; rw [h83, if_neg (fun z => Bool.false_ne_true z.1)] at ih; exact ih) | (have h93 : mem.1 115 i = 0 := h93; rw [if_neg (fun z => z.2 h93), decide_eq_true h93, Bool.not_true, Bool.and_false] at ih; exact ih) | (have h83 : bt (mem.1 (t + 2 + p) 1 &&& mem.1 114 4 &&& mem.1 t 3) i = true := h83; have h93 : ¬ mem.1 115 i = 0 := h93; rw [h83, if_pos ⟨rfl, h93⟩, decide_eq_false h93] at ih; rw [show (pcI (mem.1 (t + 2 + p) 1 &&& mem.1 114 4 &&& mem.1 114 5) + (cnC (mem.1 (t + 2 + p) 1 &&& mem.1 114 4 &&& mem.1 t 3) (mem.1 115) i + (true && !false).toNat)) = (pcI (mem.1 (t + 2 + p) 1 &&& mem.1 114 4 &&& mem.1 114 5) + cnC (mem.1 (t + 2 + p) 1 &&& mem.1 114 4 &&& mem.1 t 3) (mem.1 115) i) + 1 from rfl, nI_succ (pcI (mem.1 (t + 2 + p) 1 &&& mem.1 114 4 &&& mem.1 114 5) + cnC (mem.1 (t + 2 + p) 1 &&& mem.1 114 4 &&& mem.1 t 3) (mem.1 115) i)] at ih; exact ih)
      ·
        have h83 := zb_n.mp h83
        refine hP _ _ _ _ _ ?_
        refine hP _ _ _ _ _ ⟨(zi hn rfl rfl rfl), _, fx_Judge_within hF, (by decide), ?_⟩
        refine hP _ _ _ _ _ ?_
        refine hP _ _ _ _ _ ⟨_, i, (zi hn rfl rfl rfl), rfl, by omega, ?_⟩
        refine hP _ _ _ _ _ ⟨fun h93 => ?_, fun h93 => ?_⟩
        ·
          refine hP _ _ _ _ _ ?_
          refine hP _ _ _ _ _ ?_
          first | (have h83 : bt (mem.1 (t + 2 + p) 1 &&& mem.1 114 4 &&& mem.1 t 3) i = false := h83; rw [h83, if_neg (fun z => Bool.false_ne_true z.1)] at ih; exact ih) | (have h93 : mem.1 115 i = 0 := h93; rw [if_neg (fun z => z.2 h93), decide_eq_true h93, Bool.not_true, Bool.and_false] at ih; exact ih) | (have h83 : bt (mem.1 (t + 2 + p) 1 &&& mem.1 114 4 &&& mem.1 t 3) i = true := h83; have h93 : ¬ mem.1 115 i = 0 := h93; rw [h83, if_pos ⟨rfl, h93⟩, decide_eq_false h93] at ih; rw [show (pcI (mem.1 (t + 2 + p) 1 &&& mem.1 114 4 &&& mem.1 114 5) + (cnC (mem.1 (t + 2 + p) 1 &&& mem.1 114 4 &&& mem.1 t 3) (mem.1 115) i + (true && !false).toNat)) = (pcI (mem.1 (t + 2 + p) 1 &&& mem.1 114 4 &&& mem.1 114 5) + cnC (mem.1 (t + 2 + p) 1 &&& mem.1 114 4 &&& mem.1 t 3) (mem.1 115) i) + 1 from rfl, nI_succ (pcI (mem.1 (t + 2 + p) 1 &&& mem.1 114 4 &&& mem.1 114 5) + cnC (mem.1 (t + 2 + p) 1 &&& mem.1 114 4 &&& mem.1 t 3) (mem.1 115) i)] at ih; exact ih)
        ·
          refine hP _ _ _ _ _ ?_
          refine hP _ _ _ _ _ ?_
          refine hP _ _ _ _ _ ?_
          refine hP _ _ _ _ _ ⟨(zi hn rfl rfl rfl), _, fx_Judge_within hF, (by decide), ?_⟩
          refine hP _ _ _ _ _ ?_
          refine hP _ _ _ _ _ ⟨_, i, (zi hn rfl rfl rfl), rfl, by omega, ?_⟩
          refine hP _ _ _ _ _ ?_
          refine hP _ _ _ _ _ ?_
          refine hP _ _ _ _ _ ?_
          refine hP _ _ _ _ _ ?_
          first | (have h83 : bt (mem.1 (t + 2 + p) 1 &&& mem.1 114 4 &&& mem.1 t 3) i = false := h83; rw [h83, if_neg (fun z => Bool.false_ne_true z.1)] at ih; exact ih) | (have h93 : mem.1 115 i = 0 := h93; rw [if_neg (fun z => z.2 h93), decide_eq_true h93, Bool.not_true, Bool.and_false] at ih; exact ih) | (have h83 : bt (mem.1 (t + 2 + p) 1 &&& mem.1 114 4 &&& mem.1 t 3) i = true := h83; have h93 : ¬ mem.1 115 i = 0 := h93; rw [h83, if_pos ⟨rfl, h93⟩, decide_eq_false h93] at ih; rw [show (pcI (mem.1 (t + 2 + p) 1 &&& mem.1 114 4 &&& mem.1 114 5) + (cnC (mem.1 (t + 2 + p) 1 &&& mem.1 114 4 &&& mem.1 t 3) (mem.1 115) i + (true && !false).toNat)) = (pcI (mem.1 (t + 2 + p) 1 &&& mem.1 114 4 &&& mem.1 114 5) + cnC (mem.1 (t + 2 + p) 1 &&& mem.1 114 4 &&& mem.1 t 3) (mem.1 115) i) + 1 from rfl, nI_succ (pcI (mem.1 (t + 2 + p) 1 &&& mem.1 114 4 &&& mem.1 114 5) + cnC (mem.1 (t + 2 + p) 1 &&& mem.1 114 4 &&& mem.1 t 3) (mem.1 115) i)] at ih; exact ih)
  refine hP _ _ _ _ _ ?_
  refine hP _ _ _ _ _ ⟨(zi hn rfl rfl rfl), ?_⟩
  refine hP _ _ _ _ _ ?_
  refine hP _ _ _ _ _ ⟨Nat.le_of_ble_eq_true rfl, Nat.le_of_ble_eq_true rfl, ?_⟩
  refine ⟨_, p, rfl, by omega, ?_⟩
  refine hP _ _ _ _ _ ⟨fun h8 => ?_, fun h8 => ?_⟩
  ·
    have h8 := zb_0.mp h8
    refine hP _ _ _ _ _ ?_
    refine hP _ _ _ _ _ ?_
    exact ⟨rfl, by rw [if_neg (by rw [h8]; decide)] at hQ; exact hQ⟩
  ·
    have h8 := zb_n.mp h8
    refine hP _ _ _ _ _ ?_
    refine hP _ _ _ _ _ ⟨(zi hn rfl rfl rfl), _, hj, (by omega), ?_⟩
    refine hP _ _ _ _ _ ⟨(ztT hn hT), _, (fx_tp hF hT), (by omega), ?_⟩
    refine hP _ _ _ _ _ ?_
    refine hP _ _ _ _ _ ⟨_, p, (ztA hn hT), rfl, by omega, _, (fx_pw hF hT (by omega)), (by omega), ?_⟩
    refine hP _ _ _ _ _ ?_
    refine hP _ _ _ _ _ ?_
    refine hP _ _ _ _ _ ⟨(ztP hn hT (by omega)), ?_⟩
    refine hP _ _ _ _ _ ?_
    refine hP _ _ _ _ _ ⟨(zi hn rfl rfl rfl), ?_⟩
    refine hP _ _ _ _ _ ?_
    refine hP _ _ _ _ _ ?_
    refine hP _ _ _ _ _ ⟨(zi hn rfl rfl rfl), ?_⟩
    refine hP _ _ _ _ _ ?_
    refine hP _ _ _ _ _ ⟨Nat.le_of_ble_eq_true rfl, Nat.le_of_ble_eq_true rfl, ?_⟩
    refine ⟨_, rfl, zs8_an (zs8_an hs8), ?_⟩
    refine hP _ _ _ _ _ ?_
    refine hP _ _ _ _ _ ?_
    refine hP _ _ _ _ _ ?_
    refine hP _ _ _ _ _ ?_
    refine hP _ _ _ _ _ ?_
    refine hP _ _ _ _ _ ?_
    refine hP _ _ _ _ _ ?_
    exact loop h8 0 (by omega)
def chC (W N : Nat → Int32) : Nat → Bool
  | 0 => false
  | i + 1 => chC W N i || !decide (W i = N i)
theorem chC_f {W N : Nat → Int32} : ∀ i, chC W N i = false → ∀ j, j < i → W j = N j := by
  intro i
  induction i with
  | zero => intro _ j hj; omega
  | succ i ih =>
    intro h j hj
    rw [chC, Bool.or_eq_false_iff] at h
    by_cases e : j = i
    · subst e; exact of_decide_eq_true (by simpa using h.2)
    · exact ih h.1 j (by omega)
theorem zb_ior (a : Bool) : zb a ||| 1 = 1 := by cases a <;> decide
def k_X1_takeNext : zCt := fun as n mem Q => as = [.ref 114] ∧ zst n mem ∧ (∀ r, (∀ j, j < 8 → r j = mem.1 116 j) → Q (some (.int (zb (chC (mem.1 115) (mem.1 116) 8)))) n (zrw mem 115 r))
theorem ok_X1_takeNext {l : Launch} {G : zG} : zOK l G yX1_takeNext cX1_takeNext 3 (some .boolean) 0 0 0 k_X1_takeNext := by
  intro as n mem Q hK
  obtain ⟨rfl, ⟨hn, hF⟩, hQ⟩ := hK
  refine mtX1_takeNext (List.forall_mem_cons.mpr ⟨rfl, fun _ h => absurd h List.not_mem_nil⟩) (by simp) rfl (fun P hP => ?_)
  show P 0 [.ref 114, .null, .null] [] n mem
  have loop : ∀ i, i ≤ 8 → ∀ r, (∀ j, j < i → r j = mem.1 116 j) → (∀ j, i ≤ j → r j = mem.1 115 j) → P 4 [.ref 114, .int (zb (chC (mem.1 115) (mem.1 116) i)), .int (nI i)] [] n (zrw mem 115 r) := by
    refine zloop ?_ ?_
    · intro r hr _
      refine hP _ _ _ _ _ ?_
      refine hP _ _ _ _ _ ?_
      refine hP _ _ _ _ _ ⟨fun _ => ?_, fun hz => absurd ( by decide) hz⟩
      refine hP _ _ _ _ _ ?_
      refine hP _ _ _ _ _ ?_
      exact ⟨zb_or _, rfl, hQ r hr⟩
    · intro i hi ih r hr hr2
      have hF : zFx (zrw mem 115 r) := hF
      have e6 : (zrw mem 115 r).1 116 = mem.1 116 := rfl
      have e5 : (zrw mem 115 r).1 115 i = mem.1 115 i := hr2 i (Nat.le_refl _)
      have ih1 := ih (upd r i (mem.1 116 i)) (fun j hj => by
        by_cases e : j = i
        · simp [upd, e]
        · simp [upd, e, hr j (by omega)]) (fun j hj => by
        have e : ¬ j = i := by omega
        simp [upd, e, hr2 j (by omega)])
      rw [nI_succ i, ← zrw_I, chC] at ih1
      refine hP _ _ _ _ _ ?_
      refine hP _ _ _ _ _ ?_
      refine hP _ _ _ _ _ ⟨fun hz => absurd hz ( nI_ge (b := 8) hi (by omega)), fun _ => ?_⟩
      refine hP _ _ _ _ _ ?_
      refine hP _ _ _ _ _ ?_
      refine hP _ _ _ _ _ ⟨(zi hn rfl rfl rfl), _, fx_Judge_within hF, (by decide), ?_⟩
      refine hP _ _ _ _ _ ?_
      refine hP _ _ _ _ _ ⟨_, i, (zi hn rfl rfl rfl), rfl, by omega, ?_⟩
      refine hP _ _ _ _ _ ?_
      refine hP _ _ _ _ _ ⟨(zi hn rfl rfl rfl), _, fx_Judge_next hF, (by decide), ?_⟩
      refine hP _ _ _ _ _ ?_
      refine hP _ _ _ _ _ ⟨_, i, (zi hn rfl rfl rfl), rfl, by omega, ?_⟩
      refine hP _ _ _ _ _ ⟨fun h23 => ?_, fun h23 => ?_⟩
      ·
        refine hP _ _ _ _ _ ?_
        refine hP _ _ _ _ _ ?_
        refine hP _ _ _ _ _ ?_
        refine hP _ _ _ _ _ ?_
        refine hP _ _ _ _ _ ⟨(zi hn rfl rfl rfl), _, fx_Judge_within hF, (by decide), ?_⟩
        refine hP _ _ _ _ _ ?_
        refine hP _ _ _ _ _ ?_
        refine hP _ _ _ _ _ ⟨(zi hn rfl rfl rfl), _, fx_Judge_next hF, (by decide), ?_⟩
        refine hP _ _ _ _ _ ?_
        refine hP _ _ _ _ _ ⟨_, i, (zi hn rfl rfl rfl), rfl, by omega, ?_⟩
        refine hP _ _ _ _ _ ⟨_, i, (zi hn rfl rfl rfl), rfl, by omega, ?_⟩
        refine hP _ _ _ _ _ ?_
        refine hP _ _ _ _ _ ?_
        first | (have h23 : mem.1 115 i = mem.1 116 i := e5.symm.trans h23; rw [decide_eq_true h23, Bool.not_true, Bool.or_false] at ih1; show P 4 [_, .int (_ ||| 0), _] [] n _; rw [or_0]; exact ih1) | (have h23 : ¬ mem.1 115 i = mem.1 116 i := fun z => h23 (e5.trans z); rw [decide_eq_false h23, Bool.not_false, Bool.or_true] at ih1; show P 4 [_, .int (_ ||| 1), _] [] n _; rw [zb_ior]; exact ih1)
      ·
        refine hP _ _ _ _ _ ?_
        refine hP _ _ _ _ _ ?_
        refine hP _ _ _ _ _ ?_
        refine hP _ _ _ _ _ ?_
        refine hP _ _ _ _ _ ?_
        refine hP _ _ _ _ _ ⟨(zi hn rfl rfl rfl), _, fx_Judge_within hF, (by decide), ?_⟩
        refine hP _ _ _ _ _ ?_
        refine hP _ _ _ _ _ ?_
        refine hP _ _ _ _ _ ⟨(zi hn rfl rfl rfl), _, fx_Judge_next hF, (by decide), ?_⟩
        refine hP _ _ _ _ _ ?_
        refine hP _ _ _ _ _ ⟨_, i, (zi hn rfl rfl rfl), rfl, by omega, ?_⟩
        refine hP _ _ _ _ _ ⟨_, i, (zi hn rfl rfl rfl), rfl, by omega, ?_⟩
        refine hP _ _ _ _ _ ?_
        refine hP _ _ _ _ _ ?_
        first | (have h23 : mem.1 115 i = mem.1 116 i := e5.symm.trans h23; rw [decide_eq_true h23, Bool.not_true, Bool.or_false] at ih1; show P 4 [_, .int (_ ||| 0), _] [] n _; rw [or_0]; exact ih1) | (have h23 : ¬ mem.1 115 i = mem.1 116 i := fun z => h23 (e5.trans z); rw [decide_eq_false h23, Bool.not_false, Bool.or_true] at ih1; show P 4 [_, .int (_ ||| 1), _] [] n _; rw [zb_ior]; exact ih1)
  have l0 := loop 0 (by omega) (mem.1 115) (fun j hj => absurd hj (Nat.not_lt_zero _)) (fun j _ => rfl)
  rw [zrw_self] at l0
  refine hP _ _ _ _ _ ?_
  refine hP _ _ _ _ _ ?_
  refine hP _ _ _ _ _ ?_
  refine hP _ _ _ _ _ ?_
  exact l0
/-- what is used for a firm, by the first powers -/
def nxF (g : Nat → Nat → Int32) (fi : Int32) (np : Nat) (op lv ps : Int32) (W : Nat → Int32) (h : Nat) : Nat → Int32
  | 0 => 0
  | i + 1 => if g i 0 = nI h ∧ bt (fi &&& lv) h = true ∧ nxF g fi np op lv ps W h i = 0 then ubC g fi np op lv ps W i else nxF g fi np op lv ps W h i
/-- what is used for the firms, depth by depth -/
def WL (g : Nat → Nat → Int32) (fi : Int32) (np pw : Nat) (op lv ps : Int32) : Nat → Nat → Int32
  | 0 => fun _ => 0
  | j + 1 => fun h => nxF g fi np op lv ps (WL g fi np pw op lv ps j) h pw
theorem cnC_w {hf : Int32} {W W' : Nat → Int32} : ∀ i, (∀ j, j < i → W j = W' j) → cnC hf W i = cnC hf W' i := by
  intro i
  induction i with
  | zero => intro _; rfl
  | succ i ih => intro h; rw [cnC, cnC, ih fun j hj => h j (by omega), h i (by omega)]
theorem tuC_w {hf s0 : Int32} {W W' : Nat → Int32} : ∀ i, (∀ j, j < i → W j = W' j) → tuC hf W s0 i = tuC hf W' s0 i := by
  intro i
  induction i with
  | zero => intro _; rfl
  | succ i ih => intro h; rw [tuC, tuC, ih fun j hj => h j (by omega), h i (by omega)]
theorem ubC_w {g : Nat → Nat → Int32} {fi op lv ps : Int32} {np : Nat} {W W' : Nat → Int32} (h8 : np ≤ 8) (h : ∀ j, j < 8 → W j = W' j) (p : Nat) : ubC g fi np op lv ps W p = ubC g fi np op lv ps W' p := by
  unfold ubC
  rw [cnC_w np fun j hj => h j (by omega), tuC_w np fun j hj => h j (by omega)]
theorem nxF_w {g : Nat → Nat → Int32} {fi op lv ps : Int32} {np : Nat} {W W' : Nat → Int32} (h8 : np ≤ 8) (h : ∀ j, j < 8 → W j = W' j) (x : Nat) : ∀ i, nxF g fi np op lv ps W x i = nxF g fi np op lv ps W' x i := by
  intro i
  induction i with
  | zero => rfl
  | succ i ih => rw [nxF, nxF, ih, ubC_w h8 h]
theorem WL_fix {g : Nat → Nat → Int32} {fi op lv ps : Int32} {np pw j : Nat} (h8 : np ≤ 8) (h : ∀ x, x < 8 → WL g fi np pw op lv ps (j + 1) x = WL g fi np pw op lv ps j x) : ∀ k, j ≤ k → ∀ x, x < 8 → WL g fi np pw op lv ps k x = WL g fi np pw op lv ps j x := by
  intro k
  induction k with
  | zero => intro hk x _; rw [Nat.le_zero.mp hk]
  | succ k ih =>
    intro hk x hx
    rcases Nat.lt_or_ge k j with q | q
    · rw [show j = k + 1 by omega]
    · rw [← h x hx]
      exact nxF_w h8 (ih q) x pw
def sW (a _ : Nat) : Prop := a = 115 ∨ a = 116
theorem sW_Q {a b : Nat} (h : sW a b) : sQ a b := by unfold sW at h; unfold sQ; omega
theorem sW_J {a b : Nat} (h : sW a b) : sJ a b := by unfold sW at h; unfold sJ; omega
def WLm (mem : zM) (t np pw : Nat) : Nat → Nat → Int32 := WL (gC mem t) (mem.1 t 3) np pw (mem.1 114 3) (mem.1 114 4) (mem.1 114 5)
def k_X1_weighFirms : zCt := fun as n mem Q => ∃ (t np pw : Nat), as = [.ref 114] ∧ zJd n mem t np pw ∧ (∀ M, zfr sW mem M → (∀ h, h < 8 → M.1 115 h = WLm mem t np pw 3 h) → Q none n M)
/-- what doesn't read within stays -/
theorem jd_fr {n : Nat} {mem M : zM} {t np pw : Nat} (h : zfr sW mem M) (hJ : zJd n mem t np pw) : zJd n M t np pw := by
  obtain ⟨⟨hn, hF⟩, hj, hT, hnp, hnp8, hpw, hw, hPs⟩ := hJ
  have row : ∀ a, a ≠ 115 → a ≠ 116 → M.1 a = mem.1 a := fun a h1 h2 => by funext b; exact h.1 a b (by unfold sW; omega)
  refine ⟨⟨hn, zFx_q (h.mono fun _ _ => sW_Q) hF⟩, ?_, hT, ?_, hnp8, ?_, hw, fun p hp => ?_⟩
  · rw [h.2.2 114 2 (by unfold sW; omega)]; exact hj
  · rw [row t (by omega) (by omega)]; exact hnp
  · rw [row t (by omega) (by omega)]; exact hpw
  · rw [row (t + 2 + p) (by omega) (by omega)]; exact hPs p hp
theorem ub_fr {mem M : zM} {t np p : Nat} (h : zfr sW mem M) (hT : t = 136 ∨ t = 158) (hp : p < 20) : ubJ M t np p = ubC (gC mem t) (mem.1 t 3) np (mem.1 114 3) (mem.1 114 4) (mem.1 114 5) (M.1 115) p := by
  have row : ∀ a, a ≠ 115 → a ≠ 116 → M.1 a = mem.1 a := fun a h1 h2 => by funext b; exact h.1 a b (by unfold sW; omega)
  unfold ubJ ubC gC
  rw [row t (by omega) (by omega), row 114 (by omega) (by omega), row (t + 2 + p) (by omega) (by omega)]
theorem ok_X1_weighFirms {l : Launch} {G : zG} : zOK l G yX1_weighFirms cX1_weighFirms 5 none 2 0 0 k_X1_weighFirms := by
  intro as n mem Q hK
  obtain ⟨t, np, pw, rfl, hJ, hQ⟩ := hK
  refine mtX1_weighFirms ok_J7_fill_53178 (by decide) ok_X10_has (by decide) ok_X1_usedBy (by decide) ok_X1_takeNext (by decide) (List.forall_mem_cons.mpr ⟨rfl, fun _ h => absurd h List.not_mem_nil⟩) (by simp) rfl (fun P hP => ?_)
  show P 0 [.ref 114, .null, .null, .null, .null] [] n mem
  obtain ⟨⟨hn, hF0⟩, hj0, hT, hnp0, hnp8, hpw0, hw, hPs0⟩ := id hJ
  have row : ∀ (M : zM), zfr sW mem M → ∀ a, a ≠ 115 → a ≠ 116 → M.1 a = mem.1 a := fun M h a h1 h2 => by funext b; exact h.1 a b (by unfold sW; omega)
  have loop : ∀ j, j ≤ 3 → ∀ M, zfr sW mem M → (∀ h, h < 8 → M.1 115 h = WLm mem t np pw j h) → ∀ c : Bool, (c = false → 0 < j ∧ ∀ h, h < 8 → WLm mem t np pw j h = WLm mem t np pw (j - 1) h) → ∀ v3 v4, P 12 [.ref 114, .int (zb c), .int (nI j), v3, v4] [] n M := by
    refine zloop ?_ ?_
    · intro M fM hW c hc v3 v4
      refine hP _ _ _ _ _ ?_
      refine hP _ _ _ _ _ ?_
      refine hP _ _ _ _ _ ⟨fun _ => ?_, fun hz => absurd ( by decide) hz⟩
      refine hP _ _ _ _ _ ?_
      exact ⟨rfl, hQ M fM hW⟩
    · intro j hj ih M fM hW c hc v3 v4
      have hF := zFx_q (fM.mono fun _ _ => sW_Q) hF0
      have inner : ∀ i, i ≤ pw → ∀ N, zfr sW mem N → (∀ h, h < 8 → N.1 115 h = WLm mem t np pw j h) → (∀ h, h < 8 → N.1 116 h = nxF (gC mem t) (mem.1 t 3) np (mem.1 114 3) (mem.1 114 4) (mem.1 114 5) (WLm mem t np pw j) h i) → ∀ v4, P 31 [.ref 114, .int (zb true), .int (nI j), .int (nI i), v4] [] n N := by
        refine zloop ?_ ?_
        · intro N fN hW hN v4
          have hJN := jd_fr fN hJ
          obtain ⟨⟨-, hF⟩, hjN, -, hnp, -, hpw, -, hPs⟩ := id hJN
          have key : ∀ r, (∀ k, k < 8 → r k = N.1 116 k) → ∀ v3 v4, P 12 [.ref 114, .int (zb (chC (N.1 115) (N.1 116) 8)), .int (nI j + 1), v3, v4] [] n (zrw N 115 r) := by
            intro r hr v3 v4
            have ih1 := ih (zrw N 115 r) (fr_row fN fun _ => Or.inl rfl) (fun h hh => (hr h hh).trans (hN h hh)) (chC (N.1 115) (N.1 116) 8) (fun hc => ⟨by omega, fun h hh => by
              have := chC_f 8 hc h hh
              rw [hW h hh, hN h hh] at this
              exact this.symm⟩) v3 v4
            rw [nI_succ j] at ih1
            exact ih1
          refine hP _ _ _ _ _ ?_
          refine hP _ _ _ _ _ ?_
          refine hP _ _ _ _ _ ⟨(zi hn rfl rfl rfl), _, hjN, (by omega), ?_⟩
          refine hP _ _ _ _ _ ⟨(ztT hn hT), ?_⟩
          refine hP _ _ _ _ _ ⟨fun _ => ?_, fun hz => absurd ( by rw [hpw]; exact nI_le (Nat.le_refl _) (by omega)) hz⟩
          refine hP _ _ _ _ _ ?_
          refine hP _ _ _ _ _ ⟨(zi hn rfl rfl rfl), Nat.le_of_ble_eq_true rfl, Nat.le_of_ble_eq_true rfl, ?_⟩
          refine ⟨rfl, ⟨hn, hF⟩, fun r hr => ?_⟩
          refine hP _ _ _ _ _ ?_
          refine hP _ _ _ _ _ ?_
          refine hP _ _ _ _ _ ?_
          exact key r hr _ _
        · intro i hi ih2 N fN hW hN v4
          have hJN := jd_fr fN hJ
          obtain ⟨⟨-, hF⟩, hjN, -, hnp, -, hpw, -, hPs⟩ := id hJN
          obtain ⟨⟨g, hg8, hg⟩, -⟩ := hPs i hi
          have hg0 : mem.1 (t + 2 + i) 0 = nI g := by rw [← hg, row N fN (t + 2 + i) (by omega) (by omega)]
          have hub := ub_fr (np := np) fN hT (p := i) (by omega)
          rw [ubC_w hnp8 hW] at hub
          have e3 : N.1 t 3 = mem.1 t 3 := by rw [row N fN t (by omega) (by omega)]
          have e4 : N.1 114 4 = mem.1 114 4 := by rw [row N fN 114 (by omega) (by omega)]
          have hNg := hN g hg8
          rw [nI_succ i] at ih2
          have same : (∀ h, h < 8 → ¬ (gC mem t i 0 = nI h ∧ bt (mem.1 t 3 &&& mem.1 114 4) h = true ∧ nxF (gC mem t) (mem.1 t 3) np (mem.1 114 3) (mem.1 114 4) (mem.1 114 5) (WLm mem t np pw j) h i = 0)) → ∀ h, h < 8 → N.1 116 h = nxF (gC mem t) (mem.1 t 3) np (mem.1 114 3) (mem.1 114 4) (mem.1 114 5) (WLm mem t np pw j) h (i + 1) := by
            intro hz h hh
            rw [nxF, if_neg (hz h hh)]; exact hN h hh
          have one : N.1 116 g = 0 → bt (mem.1 t 3 &&& mem.1 114 4) g = true → ∀ h, h < 8 → (zI N 116 g (ubC (gC mem t) (mem.1 t 3) np (mem.1 114 3) (mem.1 114 4) (mem.1 114 5) (WLm mem t np pw j) i)).1 116 h = nxF (gC mem t) (mem.1 t 3) np (mem.1 114 3) (mem.1 114 4) (mem.1 114 5) (WLm mem t np pw j) h (i + 1) := by
            intro z1 z2 h hh
            rw [nxF]
            by_cases e : h = g
            · subst e
              rw [zI_s, if_pos ⟨hg0, z2, hNg.symm.trans z1⟩]
            · rw [zI_o e, if_neg (fun z => e ((nI_eq (by omega) (by omega)).mp (z.1.symm.trans hg0)))]
              exact hN h hh
          refine hP _ _ _ _ _ ?_
          refine hP _ _ _ _ _ ?_
          refine hP _ _ _ _ _ ⟨(zi hn rfl rfl rfl), _, hjN, (by omega), ?_⟩
          refine hP _ _ _ _ _ ⟨(ztT hn hT), ?_⟩
          refine hP _ _ _ _ _ ⟨fun hz => absurd hz ( by rw [hpw]; exact nI_ge hi (by omega)), fun _ => ?_⟩
          refine hP _ _ _ _ _ ?_
          refine hP _ _ _ _ _ ⟨(zi hn rfl rfl rfl), _, hjN, (by omega), ?_⟩
          refine hP _ _ _ _ _ ⟨(ztT hn hT), _, (fx_tp hF hT), (by omega), ?_⟩
          refine hP _ _ _ _ _ ?_
          refine hP _ _ _ _ _ ⟨_, i, (ztA hn hT), rfl, by omega, _, (fx_pw hF hT (by omega)), (by omega), ?_⟩
          refine hP _ _ _ _ _ ⟨(ztP hn hT (by omega)), ?_⟩
          refine hP _ _ _ _ _ ?_
          refine hP _ _ _ _ _ ?_
          refine hP _ _ _ _ _ ⟨(zi hn rfl rfl rfl), _, hjN, (by omega), ?_⟩
          refine hP _ _ _ _ _ ⟨(ztT hn hT), ?_⟩
          refine hP _ _ _ _ _ ?_
          refine hP _ _ _ _ _ ⟨(zi hn rfl rfl rfl), ?_⟩
          refine hP _ _ _ _ _ ?_
          refine hP _ _ _ _ _ ?_
          refine hP _ _ _ _ _ ⟨Nat.le_of_ble_eq_true rfl, Nat.le_of_ble_eq_true rfl, ?_⟩
          refine ⟨_, g, by rw [← hg]; rfl, by omega, ?_⟩
          rw [e3, e4]
          refine hP _ _ _ _ _ ⟨fun h73 => ?_, fun h73 => ?_⟩
          ·
            have h73 := zb_0.mp h73
            refine hP _ _ _ _ _ ?_
            refine hP _ _ _ _ _ ?_
            first | exact ih2 _ (fN.I (Or.inr rfl)) (fun h hh => by rw [zI_ne (by decide)]; exact hW h hh) (one h83 h73) _ | (have h83 : ¬ N.1 116 g = 0 := h83; refine ih2 N fN hW (same fun h hh z => ?_) _; have e : h = g := (nI_eq (by omega) (by omega)).mp (z.1.symm.trans hg0); subst e; exact h83 (hNg.trans z.2.2)) | (refine ih2 N fN hW (same fun h hh z => ?_) _; have e : h = g := (nI_eq (by omega) (by omega)).mp (z.1.symm.trans hg0); subst e; rw [h73] at z; exact Bool.false_ne_true z.2.1)
          ·
            have h73 := zb_n.mp h73
            refine hP _ _ _ _ _ ?_
            refine hP _ _ _ _ _ ⟨(zi hn rfl rfl rfl), _, fx_Judge_next hF, (by decide), ?_⟩
            refine hP _ _ _ _ _ ?_
            refine hP _ _ _ _ _ ⟨_, g, (zi hn rfl rfl rfl), hg, by omega, ?_⟩
            refine hP _ _ _ _ _ ⟨fun h83 => ?_, fun h83 => ?_⟩
            ·
              refine hP _ _ _ _ _ ?_
              refine hP _ _ _ _ _ ⟨(zi hn rfl rfl rfl), _, fx_Judge_next hF, (by decide), ?_⟩
              refine hP _ _ _ _ _ ?_
              refine hP _ _ _ _ _ ?_
              refine hP _ _ _ _ _ ?_
              refine hP _ _ _ _ _ ⟨(zi hn rfl rfl rfl), Nat.le_of_ble_eq_true rfl, Nat.le_of_ble_eq_true rfl, ?_⟩
              refine ⟨i, t, np, pw, rfl, hJN, hi, ?_⟩
              rw [hub]
              refine hP _ _ _ _ _ ⟨_, g, (zi hn rfl rfl rfl), hg, by omega, ?_⟩
              refine hP _ _ _ _ _ ?_
              refine hP _ _ _ _ _ ?_
              first | exact ih2 _ (fN.I (Or.inr rfl)) (fun h hh => by rw [zI_ne (by decide)]; exact hW h hh) (one h83 h73) _ | (have h83 : ¬ N.1 116 g = 0 := h83; refine ih2 N fN hW (same fun h hh z => ?_) _; have e : h = g := (nI_eq (by omega) (by omega)).mp (z.1.symm.trans hg0); subst e; exact h83 (hNg.trans z.2.2)) | (refine ih2 N fN hW (same fun h hh z => ?_) _; have e : h = g := (nI_eq (by omega) (by omega)).mp (z.1.symm.trans hg0); subst e; rw [h73] at z; exact Bool.false_ne_true z.2.1)
            ·
              refine hP _ _ _ _ _ ?_
              refine hP _ _ _ _ _ ?_
              first | exact ih2 _ (fN.I (Or.inr rfl)) (fun h hh => by rw [zI_ne (by decide)]; exact hW h hh) (one h83 h73) _ | (have h83 : ¬ N.1 116 g = 0 := h83; refine ih2 N fN hW (same fun h hh z => ?_) _; have e : h = g := (nI_eq (by omega) (by omega)).mp (z.1.symm.trans hg0); subst e; exact h83 (hNg.trans z.2.2)) | (refine ih2 N fN hW (same fun h hh z => ?_) _; have e : h = g := (nI_eq (by omega) (by omega)).mp (z.1.symm.trans hg0); subst e; rw [h73] at z; exact Bool.false_ne_true z.2.1)
      by_cases hb : c = true
      · subst hb
        refine hP _ _ _ _ _ ?_
        refine hP _ _ _ _ _ ?_
        refine hP _ _ _ _ _ ⟨fun hz => absurd hz ( nI_ge (b := 3) hj (by omega)), fun _ => ?_⟩
        refine hP _ _ _ _ _ ?_
        refine hP _ _ _ _ _ ⟨fun hz => absurd hz ( by decide), fun _ => ?_⟩
        refine hP _ _ _ _ _ ?_
        refine hP _ _ _ _ _ ⟨(zi hn rfl rfl rfl), _, fx_Judge_next hF, (by decide), ?_⟩
        refine hP _ _ _ _ _ ?_
        refine hP _ _ _ _ _ ⟨Nat.le_of_ble_eq_true rfl, Nat.le_of_ble_eq_true rfl, ?_⟩
        refine ⟨116, 8, 0, rfl, zi hn rfl rfl rfl, fun r hr => ?_⟩
        refine hP _ _ _ _ _ ?_
        refine hP _ _ _ _ _ ?_
        exact inner 0 (by omega) _ (fr_row fM fun _ => Or.inr rfl) hW (fun h hh => hr h hh) _
      · have hb := Bool.eq_false_iff.mpr hb
        subst hb
        obtain ⟨hj0, hfix⟩ := hc rfl
        obtain ⟨j, rfl⟩ : ∃ i, j = i + 1 := ⟨j - 1, by omega⟩
        have hall := WL_fix (pw := pw) hnp8 (j := j) hfix
        refine hP _ _ _ _ _ ?_
        refine hP _ _ _ _ _ ?_
        refine hP _ _ _ _ _ ⟨fun hz => absurd hz ( nI_ge (b := 3) hj (by omega)), fun _ => ?_⟩
        refine hP _ _ _ _ _ ?_
        refine hP _ _ _ _ _ ⟨fun _ => ?_, fun hz => absurd ( rfl) hz⟩
        refine hP _ _ _ _ _ ?_
        exact ⟨rfl, hQ M fM fun h hh => ((hW h hh).trans (hfix h hh)).trans (hall 3 (by omega) h hh).symm⟩
  refine hP _ _ _ _ _ ?_
  refine hP _ _ _ _ _ ⟨(zi hn rfl rfl rfl), _, fx_Judge_within hF0, (by decide), ?_⟩
  refine hP _ _ _ _ _ ?_
  refine hP _ _ _ _ _ ⟨Nat.le_of_ble_eq_true rfl, Nat.le_of_ble_eq_true rfl, ?_⟩
  refine ⟨115, 8, 0, rfl, zi hn rfl rfl rfl, fun r hr => ?_⟩
  refine hP _ _ _ _ _ ?_
  refine hP _ _ _ _ _ ?_
  refine hP _ _ _ _ _ ?_
  refine hP _ _ _ _ _ ?_
  exact loop 0 (by omega) (zrw mem 115 r) (fr_row zfr.rf fun _ => Or.inl rfl) (fun h hh => hr h hh) true (fun z => absurd z (by decide)) _ _
/-- by which power: the least number, and what is used -/
def fsC (g : Nat → Nat → Int32) (pt : Int32) (ub : Nat → Int32) : Nat → Int32
  | 0 => -1
  | i + 1 => if fsC g pt ub i = -1 then (if g i 0 = pt ∧ ¬ ub i = 0 then nI i else -1) else fsC g pt ub i
def usC (g : Nat → Nat → Int32) (pt : Int32) (ub : Nat → Int32) : Nat → Int32
  | 0 => 0
  | i + 1 => if fsC g pt ub i = -1 then (if g i 0 = pt then ub i else 0) else usC g pt ub i
theorem fsC_stay {g : Nat → Nat → Int32} {pt : Int32} {ub : Nat → Int32} {i : Nat} (h : ¬ fsC g pt ub i = -1) : ∀ j, i ≤ j → fsC g pt ub j = fsC g pt ub i ∧ usC g pt ub j = usC g pt ub i := by
  intro j
  induction j with
  | zero => intro hij; rw [Nat.le_zero.mp hij]; exact ⟨rfl, rfl⟩
  | succ j ih =>
    intro hij
    rcases Nat.lt_or_ge j i with q | q
    · rw [show i = j + 1 by omega]; exact ⟨rfl, rfl⟩
    · obtain ⟨a, b⟩ := ih q
      rw [fsC, usC, a, if_neg h, if_neg h, b]; exact ⟨rfl, rfl⟩
theorem usC_0 {g : Nat → Nat → Int32} {pt : Int32} {ub : Nat → Int32} : ∀ i, i ≤ 100 → fsC g pt ub i = -1 → usC g pt ub i = 0 := by
  intro i
  induction i with
  | zero => intro _ _; rfl
  | succ i ih =>
    intro hi h
    rw [fsC] at h
    rw [usC]
    by_cases h1 : fsC g pt ub i = -1
    · rw [if_pos h1] at h ⊢
      by_cases h2 : g i 0 = pt
      · rw [if_pos h2]
        by_cases h3 : ub i = 0
        · exact h3
        · rw [if_pos ⟨h2, h3⟩] at h; exact absurd h (m1_ne (by omega))
      · rw [if_neg h2]
    · rw [if_neg h1] at h; exact absurd h h1
def ubX (mem : zM) (t np pw : Nat) (op lv ps : Int32) (p : Nat) : Int32 := ubC (gC mem t) (mem.1 t 3) np op lv ps (WL (gC mem t) (mem.1 t 3) np pw op lv ps 3) p
def k_X1_weigh : zCt := fun as n mem Q => ∃ (t np pw : Nat) (op dd ps pt : Int32), as = [.ref 114, .ref t, .int op, .int dd, .int ps, .int pt] ∧ zst n mem ∧ zTl mem t np pw ∧ (∀ M, zfr sJ mem M → M.1 114 6 = fsC (gC mem t) pt (ubX mem t np pw op (dd ^^^ (-1)) ps) pw → M.1 114 7 = usC (gC mem t) pt (ubX mem t np pw op (dd ^^^ (-1)) ps) pw → Q none n M)
theorem gC_row {mem M : zM} {t : Nat} (h : ∀ a, a ≠ 114 → a ≠ 115 → a ≠ 116 → M.1 a = mem.1 a) (hT : t = 136 ∨ t = 158) : gC M t = gC mem t := by
  funext p
  exact h _ (by omega) (by omega) (by omega)
def sK (a b : Nat) : Prop := a = 115 ∨ a = 116 ∨ (a = 114 ∧ 6 ≤ b)
theorem sW_K {a b : Nat} (h : sW a b) : sK a b := by unfold sW at h; unfold sK; omega
theorem sK_J {a b : Nat} (h : sK a b) : sJ a b := by unfold sK at h; unfold sJ; omega
theorem jd_frK {n : Nat} {mem M : zM} {t np pw : Nat} (h : zfr sK mem M) (hJ : zJd n mem t np pw) : zJd n M t np pw := by
  obtain ⟨⟨hn, hF⟩, hj, hT, hnp, hnp8, hpw, hw, hPs⟩ := hJ
  have row : ∀ a, a ≠ 114 → a ≠ 115 → a ≠ 116 → M.1 a = mem.1 a := fun a h0 h1 h2 => by funext b; exact h.1 a b (by unfold sK; omega)
  refine ⟨⟨hn, zFx_q (h.mono fun _ _ z => sJ_Q (sK_J z)) hF⟩, ?_, hT, ?_, hnp8, ?_, hw, fun p hp => ?_⟩
  · rw [h.2.2 114 2 (by unfold sK; omega)]; exact hj
  · rw [row t (by omega) (by omega) (by omega)]; exact hnp
  · rw [row t (by omega) (by omega) (by omega)]; exact hpw
  · rw [row (t + 2 + p) (by omega) (by omega) (by omega)]; exact hPs p hp
theorem ok_X1_weigh {l : Launch} {G : zG} : zOK l G yX1_weigh cX1_weigh 8 none 3 0 0 k_X1_weigh := by
  intro as n mem Q hK
  obtain ⟨t, np, pw, op, dd, ps, pt, rfl, ⟨hn, hF0⟩, hTl, hQ⟩ := hK
  refine mtX1_weigh ok_X1_weighFirms (by decide) ok_X1_usedBy (by decide) (List.forall_mem_cons.mpr ⟨rfl, List.forall_mem_cons.mpr ⟨rfl, List.forall_mem_cons.mpr ⟨rfl, List.forall_mem_cons.mpr ⟨rfl, List.forall_mem_cons.mpr ⟨rfl, List.forall_mem_cons.mpr ⟨rfl, fun _ h => absurd h List.not_mem_nil⟩⟩⟩⟩⟩⟩) (by simp) rfl (fun P hP => ?_)
  show P 0 [.ref 114, .ref t, .int op, .int dd, .int ps, .int pt, .null, .null] [] n mem
  obtain ⟨hT, hnp0, hnp8, hpw0, hw, hPs0⟩ := hTl
  obtain ⟨s, rfl⟩ : ∃ s, t = s + 1 := ⟨t - 1, by omega⟩
  generalize hBe : zI (zI (zI (zR mem 114 2 (s + 1)) 114 3 op) 114 4 (dd ^^^ (-1))) 114 5 ps = B
  have fB : zfr sJ mem B := by
    rw [← hBe]
    exact ((((zfr.rf.R (Or.inl ⟨rfl, by omega⟩)).I (Or.inl ⟨rfl, by omega⟩)).I (Or.inl ⟨rfl, by omega⟩)).I (Or.inl ⟨rfl, by omega⟩))
  have rowB : ∀ a, a ≠ 114 → a ≠ 115 → a ≠ 116 → B.1 a = mem.1 a := fun a h0 h1 h2 => by funext b; exact fB.1 a b (by unfold sJ; omega)
  have gB : gC B (s + 1) = gC mem (s + 1) := gC_row rowB hT
  have r3 : B.1 (s + 1) 3 = mem.1 (s + 1) 3 := by rw [rowB (s + 1) (by omega) (by omega) (by omega)]
  have b3 : B.1 114 3 = op := by rw [← hBe]; rfl
  have b4 : B.1 114 4 = dd ^^^ (-1) := by rw [← hBe]; rfl
  have b5 : B.1 114 5 = ps := by rw [← hBe]; rfl
  have hJB : zJd n B (s + 1) np pw := by
    refine ⟨⟨hn, zFx_q (fB.mono fun _ _ => sJ_Q) hF0⟩, by rw [← hBe]; rfl, hT, ?_, hnp8, ?_, hw, fun p hp => ?_⟩
    · rw [rowB (s + 1) (by omega) (by omega) (by omega)]; exact hnp0
    · rw [rowB (s + 1) (by omega) (by omega) (by omega)]; exact hpw0
    · rw [rowB (s + 1 + 2 + p) (by omega) (by omega) (by omega)]; exact hPs0 p hp
  have hub : ∀ N, zfr sK B N → (∀ h, h < 8 → N.1 115 h = WLm B (s + 1) np pw 3 h) → ∀ p, p < 20 → ubJ N (s + 1) np p = ubX mem (s + 1) np pw op (dd ^^^ (-1)) ps p := by
    intro N fN hW p hp
    have rowN : ∀ a, a ≠ 114 → a ≠ 115 → a ≠ 116 → N.1 a = B.1 a := fun a h0 h1 h2 => by funext b; exact fN.1 a b (by unfold sK; omega)
    have gN : gC N (s + 1) = gC mem (s + 1) := (gC_row rowN hT).trans gB
    have n3 : N.1 (s + 1) 3 = mem.1 (s + 1) 3 := by rw [rowN (s + 1) (by omega) (by omega) (by omega)]; exact r3
    have k3 : N.1 114 3 = op := (fN.1 114 3 (by unfold sK; omega)).trans b3
    have k4 : N.1 114 4 = dd ^^^ (-1) := (fN.1 114 4 (by unfold sK; omega)).trans b4
    have k5 : N.1 114 5 = ps := (fN.1 114 5 (by unfold sK; omega)).trans b5
    unfold ubJ ubX
    rw [gN, n3, k3, k4, k5]
    refine ubC_w hnp8 (fun h hh => ?_) p
    rw [hW h hh]
    unfold WLm
    rw [gB, r3, b3, b4, b5]
  have fin : ∀ N, zfr sK B N → N.1 114 6 = fsC (gC mem (s + 1)) pt (ubX mem (s + 1) np pw op (dd ^^^ (-1)) ps) pw → N.1 114 7 = usC (gC mem (s + 1)) pt (ubX mem (s + 1) np pw op (dd ^^^ (-1)) ps) pw → Q none n N := fun N fN h6 h7 => hQ N (fB.tr (fN.mono fun _ _ => sK_J)) h6 h7
  have loop : ∀ i, i ≤ pw → ∀ N, zfr sK B N → (∀ h, h < 8 → N.1 115 h = WLm B (s + 1) np pw 3 h) → N.1 114 6 = fsC (gC mem (s + 1)) pt (ubX mem (s + 1) np pw op (dd ^^^ (-1)) ps) i → N.1 114 7 = usC (gC mem (s + 1)) pt (ubX mem (s + 1) np pw op (dd ^^^ (-1)) ps) i → ∀ v7, P 40 [.ref 114, .ref (s + 1), .int op, .int dd, .int ps, .int pt, .int (nI i), v7] [] n N := by
    refine zloop ?_ ?_
    · intro N fN hW h6 h7 v7
      obtain ⟨⟨-, hF⟩, hjN, -, hnp, -, hpw, -, hPs⟩ := jd_frK fN hJB
      refine hP _ _ _ _ _ ?_
      refine hP _ _ _ _ _ ?_
      refine hP _ _ _ _ _ ⟨(zi hn rfl rfl rfl), _, hjN, (by omega), ?_⟩
      refine hP _ _ _ _ _ ⟨(ztT hn hT), ?_⟩
      refine hP _ _ _ _ _ ⟨fun _ => ?_, fun hz => absurd ( by rw [hpw]; exact nI_le (Nat.le_refl _) (by omega)) hz⟩
      refine hP _ _ _ _ _ ?_
      exact ⟨rfl, fin N fN h6 h7⟩
    · intro i hi ih N fN hW h6 h7 v7
      have hJN := jd_frK fN hJB
      obtain ⟨⟨-, hF⟩, hjN, -, hnp, -, hpw, -, hPs⟩ := id hJN
      have hu := hub N fN hW i (by omega)
      have e0 : N.1 (s + 1 + 2 + i) 0 = gC mem (s + 1) i 0 := by
        rw [fN.1 (s + 1 + 2 + i) 0 (by unfold sK; omega), rowB (s + 1 + 2 + i) (by omega) (by omega) (by omega)]; rfl
      rw [nI_succ i] at ih
      by_cases hf : fsC (gC mem (s + 1)) pt (ubX mem (s + 1) np pw op (dd ^^^ (-1)) ps) i = -1
      · have hu0 := usC_0 i (by omega) hf
        have ih1 : ∀ N, zfr sK B N → (∀ h, h < 8 → N.1 115 h = WLm B (s + 1) np pw 3 h) → N.1 114 6 = (if gC mem (s + 1) i 0 = pt ∧ ¬ ubX mem (s + 1) np pw op (dd ^^^ (-1)) ps i = 0 then nI i else -1) → N.1 114 7 = (if gC mem (s + 1) i 0 = pt then ubX mem (s + 1) np pw op (dd ^^^ (-1)) ps i else 0) → ∀ v7, P 40 [.ref 114, .ref (s + 1), .int op, .int dd, .int ps, .int pt, .int (nI i + 1), v7] [] n N := by
          intro N fN hW h6 h7 v7
          exact ih N fN hW (by rw [fsC, if_pos hf]; exact h6) (by rw [usC, if_pos hf]; exact h7) v7
        have st : gC mem (s + 1) i 0 = pt → ¬ ubX mem (s + 1) np pw op (dd ^^^ (-1)) ps i = 0 → ∀ v7, P 40 [.ref 114, .ref (s + 1), .int op, .int dd, .int ps, .int pt, .int (nI i + 1), v7] [] n (zI (zI N 114 6 (nI i)) 114 7 (ubX mem (s + 1) np pw op (dd ^^^ (-1)) ps i)) := fun z1 z2 => ih1 _ ((fN.I (Or.inr (Or.inr ⟨rfl, by omega⟩))).I (Or.inr (Or.inr ⟨rfl, by omega⟩))) (fun h hh => hW h hh) (by rw [if_pos ⟨z1, z2⟩]; rfl) (by rw [if_pos z1]; rfl)
        have sn1 : gC mem (s + 1) i 0 = pt → ubX mem (s + 1) np pw op (dd ^^^ (-1)) ps i = 0 → ∀ v7, P 40 [.ref 114, .ref (s + 1), .int op, .int dd, .int ps, .int pt, .int (nI i + 1), v7] [] n N := fun z1 z2 => ih1 N fN hW (by rw [if_neg (fun w => w.2 z2), h6]; exact hf) (by rw [if_pos z1, h7, z2]; exact hu0)
        have sn2 : ¬ gC mem (s + 1) i 0 = pt → ∀ v7, P 40 [.ref 114, .ref (s + 1), .int op, .int dd, .int ps, .int pt, .int (nI i + 1), v7] [] n N := fun z1 => ih1 N fN hW (by rw [if_neg (fun w => z1 w.1), h6]; exact hf) (by rw [if_neg z1, h7]; exact hu0)
        refine hP _ _ _ _ _ ?_
        refine hP _ _ _ _ _ ?_
        refine hP _ _ _ _ _ ⟨(zi hn rfl rfl rfl), _, hjN, (by omega), ?_⟩
        refine hP _ _ _ _ _ ⟨(ztT hn hT), ?_⟩
        refine hP _ _ _ _ _ ⟨fun hz => absurd hz ( by rw [hpw]; exact nI_ge hi (by omega)), fun _ => ?_⟩
        refine hP _ _ _ _ _ ?_
        refine hP _ _ _ _ _ ⟨(zi hn rfl rfl rfl), ?_⟩
        refine hP _ _ _ _ _ ?_
        refine hP _ _ _ _ _ ⟨fun _ => ?_, fun hz => absurd ( h6.trans hf) hz⟩
        refine hP _ _ _ _ _ ?_
        refine hP _ _ _ _ _ ⟨(zi hn rfl rfl rfl), _, hjN, (by omega), ?_⟩
        refine hP _ _ _ _ _ ⟨(ztT hn hT), _, (fx_tp hF hT), (by omega), ?_⟩
        refine hP _ _ _ _ _ ?_
        refine hP _ _ _ _ _ ⟨_, i, (ztA hn hT), rfl, by omega, _, (fx_pw hF hT (by omega)), (by omega), ?_⟩
        refine hP _ _ _ _ _ ⟨(ztP hn hT (by omega)), ?_⟩
        refine hP _ _ _ _ _ ?_
        refine hP _ _ _ _ _ ⟨fun h75 => ?_, fun h75 => ?_⟩
        ·
          refine hP _ _ _ _ _ ?_
          refine hP _ _ _ _ _ ?_
          refine hP _ _ _ _ _ ⟨(zi hn rfl rfl rfl), Nat.le_of_ble_eq_true rfl, Nat.le_of_ble_eq_true rfl, ?_⟩
          refine ⟨i, s + 1, np, pw, rfl, hJN, hi, ?_⟩
          rw [hu]
          refine hP _ _ _ _ _ ?_
          refine hP _ _ _ _ _ ?_
          refine hP _ _ _ _ _ ?_
          refine hP _ _ _ _ _ ⟨fun h92 => ?_, fun h92 => ?_⟩
          ·
            refine hP _ _ _ _ _ ?_
            refine hP _ _ _ _ _ ?_
            first | exact st (e0.symm.trans h75) h92 _ | exact sn1 (e0.symm.trans h75) h92 _ | exact sn2 (fun z => h75 (e0.trans z)) _ | exact absurd rfl h92
          ·
            refine hP _ _ _ _ _ ?_
            refine hP _ _ _ _ _ ?_
            refine hP _ _ _ _ _ ⟨(zi hn rfl rfl rfl), ?_⟩
            refine hP _ _ _ _ _ ?_
            refine hP _ _ _ _ _ ?_
            refine hP _ _ _ _ _ ⟨(zi hn rfl rfl rfl), ?_⟩
            refine hP _ _ _ _ _ ?_
            refine hP _ _ _ _ _ ?_
            first | exact st (e0.symm.trans h75) h92 _ | exact sn1 (e0.symm.trans h75) h92 _ | exact sn2 (fun z => h75 (e0.trans z)) _ | exact absurd rfl h92
        ·
          refine hP _ _ _ _ _ ?_
          refine hP _ _ _ _ _ ?_
          refine hP _ _ _ _ _ ?_
          refine hP _ _ _ _ _ ⟨fun h92 => ?_, fun h92 => ?_⟩
          ·
            refine hP _ _ _ _ _ ?_
            refine hP _ _ _ _ _ ?_
            first | exact st (e0.symm.trans h75) h92 _ | exact sn1 (e0.symm.trans h75) h92 _ | exact sn2 (fun z => h75 (e0.trans z)) _ | exact absurd rfl h92
          ·
            refine hP _ _ _ _ _ ?_
            refine hP _ _ _ _ _ ?_
            refine hP _ _ _ _ _ ⟨(zi hn rfl rfl rfl), ?_⟩
            refine hP _ _ _ _ _ ?_
            refine hP _ _ _ _ _ ?_
            refine hP _ _ _ _ _ ⟨(zi hn rfl rfl rfl), ?_⟩
            refine hP _ _ _ _ _ ?_
            refine hP _ _ _ _ _ ?_
            first | exact st (e0.symm.trans h75) h92 _ | exact sn1 (e0.symm.trans h75) h92 _ | exact sn2 (fun z => h75 (e0.trans z)) _ | exact absurd rfl h92
      · obtain ⟨q1, q2⟩ := fsC_stay hf pw (by omega)
        refine hP _ _ _ _ _ ?_
        refine hP _ _ _ _ _ ?_
        refine hP _ _ _ _ _ ⟨(zi hn rfl rfl rfl), _, hjN, (by omega), ?_⟩
        refine hP _ _ _ _ _ ⟨(ztT hn hT), ?_⟩
        refine hP _ _ _ _ _ ⟨fun hz => absurd hz ( by rw [hpw]; exact nI_ge hi (by omega)), fun _ => ?_⟩
        refine hP _ _ _ _ _ ?_
        refine hP _ _ _ _ _ ⟨(zi hn rfl rfl rfl), ?_⟩
        refine hP _ _ _ _ _ ?_
        refine hP _ _ _ _ _ ⟨fun hz => absurd hz ( fun z => hf (h6.symm.trans z)), fun _ => ?_⟩
        refine hP _ _ _ _ _ ?_
        exact ⟨rfl, fin N fN (h6.trans q1.symm) (h7.trans q2.symm)⟩
  refine hP _ _ _ _ _ ?_
  refine hP _ _ _ _ _ ?_
  refine hP _ _ _ _ _ ⟨(zi hn rfl rfl rfl), ?_⟩
  refine hP _ _ _ _ _ ?_
  refine hP _ _ _ _ _ ?_
  refine hP _ _ _ _ _ ⟨(zi hn rfl rfl rfl), ?_⟩
  refine hP _ _ _ _ _ ?_
  refine hP _ _ _ _ _ ?_
  refine hP _ _ _ _ _ ?_
  refine hP _ _ _ _ _ ?_
  refine hP _ _ _ _ _ ⟨(zi hn rfl rfl rfl), ?_⟩
  refine hP _ _ _ _ _ ?_
  refine hP _ _ _ _ _ ?_
  refine hP _ _ _ _ _ ⟨(zi hn rfl rfl rfl), ?_⟩
  show P 23 _ _ n (zI (zI (zI (zR mem 114 2 (s + 1)) 114 3 op) 114 4 (dd ^^^ (-1))) 114 5 ps)
  rw [hBe]
  refine hP _ _ _ _ _ ?_
  refine hP _ _ _ _ _ ⟨(zi hn rfl rfl rfl), Nat.le_of_ble_eq_true rfl, Nat.le_of_ble_eq_true rfl, ?_⟩
  refine ⟨s + 1, np, pw, rfl, hJB, fun M fM hW => ?_⟩
  refine hP _ _ _ _ _ ?_
  refine hP _ _ _ _ _ ?_
  refine hP _ _ _ _ _ ⟨(zi hn rfl rfl rfl), ?_⟩
  refine hP _ _ _ _ _ ?_
  refine hP _ _ _ _ _ ?_
  refine hP _ _ _ _ _ ⟨(zi hn rfl rfl rfl), ?_⟩
  refine hP _ _ _ _ _ ?_
  refine hP _ _ _ _ _ ?_
  exact loop 0 (by omega) _ (((fM.mono fun _ _ => sW_K).I (Or.inr (Or.inr ⟨rfl, by omega⟩))).I (Or.inr (Or.inr ⟨rfl, by omega⟩))) (fun h hh => hW h hh) rfl rfl _
