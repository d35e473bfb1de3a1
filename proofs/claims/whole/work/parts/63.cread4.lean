def fPa (t a b : Nat) : Prop := (a = 103 ∧ 2 ≤ b) ∨ (a = t ∧ (b = 1 ∨ b = 3))
def k_X7_readParty : zCt := fun as n mem Q => ∃ (k K t np pw : Nat) (T : zTS), as = [.ref 103] ∧ cP n mem T K t np pw ∧ qA mem T K k ∧ ((T k).1 = 4 ∨ (T k).1 = 5) ∧ cRes (fPa t) n mem Q (paT T np k) (fun k' M => qA M T K k' ∧ np < 8 ∧ M.1 t 1 = nI (np + 1) ∧ M.1 t 3 = mem.1 t 3 ||| (if (T k).1 = 5 then 1 <<< (nI np &&& 31) else 0))
theorem ok_X7_readParty {l : Launch} {G : zG} : zOK l G yX7_readParty cX7_readParty 1 (some .boolean) 3 0 0 k_X7_readParty := by
  intro as n mem Q hK
  obtain ⟨k, K, t, np, pw, T, rfl, hC, hA, hk, hQ⟩ := hK
  refine mtX7_readParty ok_X7_refuse (by decide) ok_X7_take (by decide) (List.forall_mem_cons.mpr ⟨rfl, fun _ h => absurd h List.not_mem_nil⟩) (by simp) rfl (fun P hP => ?_)
  show P 0 [.ref 103] [] n mem
  have hB := hC.1
  have hn := hB.1.1
  have hF := hB.1.2
  have hT := hC.2.1
  have r1 := hC.2.2.2.1
  have hnp := hC.2.2.2.2.1
  have ht := at_lt hB hA.1
  unfold paT at hQ
  by_cases h8 : np = 8
  ·
    refine hP _ _ _ _ _ ?_
    refine hP _ _ _ _ _ ⟨(zi hn rfl rfl rfl), _, hC.2.2.1, (by omega), ?_⟩
    refine hP _ _ _ _ _ ⟨(ztT hn hT), ?_⟩
    refine hP _ _ _ _ _ ?_
    refine hP _ _ _ _ _ ⟨fun hz => absurd hz ( by rw [r1, h8]; decide), fun _ => ?_⟩
    refine hP _ _ _ _ _ ?_
    refine hP _ _ _ _ _ ?_
    refine hP _ _ _ _ _ ⟨(zi hn rfl rfl rfl), Nat.le_of_ble_eq_true rfl, Nat.le_of_ble_eq_true rfl, ?_⟩
    refine use_rf (w := 4) hB hA fun M2 f2 h5' h6' => ?_
    refine hP _ _ _ _ _ ?_
    exact ⟨by decide, rfl, cr_f hQ (if_pos h8) M2 (f2.mono fun _ _ z => Or.inl z) h5' h6'⟩
  · have go : ∀ v, v = (if (T k).1 = 5 then (1 : Int32) <<< (nI np &&& 31) else 0) → P 49 [.ref 103] [.int v, .int (mem.1 t 3), .ref t] n mem := by
      intro v hv
      have fw : zfr (fPa t) mem (zI (zI mem t 3 (mem.1 t 3 ||| v)) t 1 ((zI mem t 3 (mem.1 t 3 ||| v)).1 t 1 + 1)) := (zfr.rf.I (Or.inr ⟨rfl, Or.inr rfl⟩)).I (Or.inr ⟨rfl, Or.inl rfl⟩)
      have fC : zfr sC mem (zI (zI mem t 3 (mem.1 t 3 ||| v)) t 1 ((zI mem t 3 (mem.1 t 3 ||| v)).1 t 1 + 1)) := fw.mono fun a b z => by unfold fPa at z; unfold sC; omega
      have hA2 : qA (zI (zI mem t 3 (mem.1 t 3 ||| v)) t 1 ((zI mem t 3 (mem.1 t 3 ||| v)).1 t 1 + 1)) T K k := at_w (by omega) (at_w (by omega) hA)
      refine hP _ _ _ _ _ ?_
      refine hP _ _ _ _ _ ⟨(ztT hn hT), ?_⟩
      refine hP _ _ _ _ _ ?_
      refine hP _ _ _ _ _ ⟨(zi hn rfl rfl rfl), _, hC.2.2.1, (by omega), ?_⟩
      refine hP _ _ _ _ _ ?_
      refine hP _ _ _ _ _ ⟨(ztT hn hT), ?_⟩
      refine hP _ _ _ _ _ ?_
      refine hP _ _ _ _ _ ?_
      refine hP _ _ _ _ _ ⟨(ztT hn hT), ?_⟩
      refine hP _ _ _ _ _ ?_
      refine hP _ _ _ _ _ ?_
      refine hP _ _ _ _ _ ⟨(zi hn rfl rfl rfl), _, hA2.2.2.1, (by omega), ?_⟩
      refine hP _ _ _ _ _ ⟨(zi hn rfl rfl rfl), Nat.le_of_ble_eq_true rfl, Nat.le_of_ble_eq_true rfl, ?_⟩
      refine tk_y (due := (T k).1) (by omega) ht (qB_fr fC hB) hA2 rfl fun M3 f3 q3 hA3 => ?_
      refine hP _ _ _ _ _ ?_
      refine ⟨by decide, rfl, cr_t hQ (if_neg h8) M3 (fw.tr (f3.mono fun _ _ z => Or.inl z)) (q3.trans (by rw [zI_ne (by omega), zI_ne (by omega)])) ⟨hA3, by omega, ?_, ?_⟩⟩
      · rw [f3.1 t 1 (by unfold S3; omega), zI_s, zI_o (by omega), r1]; exact nI_1 np
      · rw [f3.1 t 3 (by unfold S3; omega), zI_o (by omega), zI_s, hv]
    refine hP _ _ _ _ _ ?_
    refine hP _ _ _ _ _ ⟨(zi hn rfl rfl rfl), _, hC.2.2.1, (by omega), ?_⟩
    refine hP _ _ _ _ _ ⟨(ztT hn hT), ?_⟩
    refine hP _ _ _ _ _ ?_
    refine hP _ _ _ _ _ ⟨fun _ => ?_, fun hz => absurd ( by rw [r1]; exact nI_lt (b := 8) (by omega) (by omega)) hz⟩
    refine hP _ _ _ _ _ ?_
    refine hP _ _ _ _ _ ⟨(zi hn rfl rfl rfl), _, hC.2.2.1, (by omega), ?_⟩
    refine hP _ _ _ _ _ ?_
    refine hP _ _ _ _ _ ⟨(ztT hn hT), ?_⟩
    refine hP _ _ _ _ _ ?_
    refine hP _ _ _ _ _ ⟨(zi hn rfl rfl rfl), _, hA.2.2.1, (by omega), ?_⟩
    refine hP _ _ _ _ _ ?_
    refine hP _ _ _ _ _ ⟨ztk ht, ztc rfl rfl, fun h33 => ?_, fun h33 => ?_⟩
    ·
      refine hP _ _ _ _ _ ?_
      refine hP _ _ _ _ _ ?_
      refine hP _ _ _ _ _ ⟨(zi hn rfl rfl rfl), _, hC.2.2.1, (by omega), ?_⟩
      refine hP _ _ _ _ _ ⟨(ztT hn hT), ?_⟩
      refine hP _ _ _ _ _ ?_
      refine hP _ _ _ _ _ ?_
      first | exact go _ (by rw [if_pos (show (T k).1 = 5 by have h33 : (T k).1 + 2 = 7 := h33; omega), r1]) | exact go _ (by rw [if_neg (fun z => h33 (show (T k).1 + 2 = 7 by omega))])
    ·
      refine hP _ _ _ _ _ ?_
      first | exact go _ (by rw [if_pos (show (T k).1 = 5 by have h33 : (T k).1 + 2 = 7 := h33; omega), r1]) | exact go _ (by rw [if_neg (fun z => h33 (show (T k).1 + 2 = 7 by omega))])
/-- the class has read so far -/
def cL (n : Nat) (M : zM) (T : zTS) (K t : Nat) (s : zPS) : Prop := cP n M T K t s.1 s.2.2.1 ∧ M.1 t 3 = s.2.1 ∧ ∀ p, p < s.2.2.1 → cRow (M.1 (t + 2 + p)) (s.2.2.2 p)
def fC (t a b : Nat) : Prop := (a = 103 ∧ 2 ≤ b) ∨ (a = t ∧ 1 ≤ b) ∨ (t + 2 ≤ a ∧ a < t + 22)
theorem fC_C {t : Nat} (hT : t = 136 ∨ t = 158) {a b : Nat} (h : fC t a b) : sC a b := by unfold fC at h; unfold sC; omega
theorem cL_3 {n : Nat} {mem M : zM} {T : zTS} {K t : Nat} {s : zPS} (h : zfr S3 mem M) (hL : cL n mem T K t s) : cL n M T K t s := by
  have hT := hL.1.2.1
  refine ⟨cP_3 h hL.1, (h.1 t 3 (by unfold S3; omega)).trans hL.2.1, fun p hp => ?_⟩
  have e : M.1 (t + 2 + p) = mem.1 (t + 2 + p) := by funext j; exact h.1 _ j (by unfold S3; omega)
  rw [e]; exact hL.2.2 p hp
def k_X7_readLine : zCt := fun as n mem Q => ∃ (k K t : Nat) (T : zTS) (s : zPS), as = [.ref 103] ∧ cL n mem T K t s ∧ qA mem T K k ∧ cRes (fC t) n mem Q (lnT T s k) (fun x M => qA M T K x.1 ∧ cL n M T K t x.2)
theorem ok_X7_readLine {l : Launch} {G : zG} : zOK l G yX7_readLine cX7_readLine 1 (some .boolean) 5 0 0 k_X7_readLine := by
  intro as n mem Q hK
  obtain ⟨k, K, t, T, s, rfl, hL, hA, hQ⟩ := hK
  refine mtX7_readLine ok_X7_readParty (by decide) ok_X7_take (by decide) ok_X7_readPower (by decide) ok_X7_refuse (by decide) (List.forall_mem_cons.mpr ⟨rfl, fun _ h => absurd h List.not_mem_nil⟩) (by simp) rfl (fun P hP => ?_)
  show P 0 [.ref 103] [] n mem
  have hC := hL.1
  have hB := hC.1
  have hn := hB.1.1
  have hF := hB.1.2
  have hT := hC.2.1
  have ht := at_lt hB hA.1
  unfold lnT at hQ
  have party : ((T k).1 = 4 ∨ (T k).1 = 5) → P 20 [.ref 103] [] n mem := by
    intro h45
    unfold rlT at hQ
    rw [if_pos h45, ob_a] at hQ
    refine hP _ _ _ _ _ ?_
    refine hP _ _ _ _ _ ⟨(zi hn rfl rfl rfl), Nat.le_of_ble_eq_true rfl, Nat.le_of_ble_eq_true rfl, ?_⟩
    refine ⟨k, K, t, s.1, s.2.2.1, T, rfl, hC, hA, h45, cr_i (fun e ho M fM g5 g6 => ?_) (fun k1 ho M1 f1 q1 hg => ?_)⟩
    · refine hP _ _ _ _ _ ⟨fun _ => ?_, fun hz => absurd rfl hz⟩
      refine hP _ _ _ _ _ ?_
      refine hP _ _ _ _ _ ?_
      exact ⟨by decide, rfl, cr_f hQ (ob_l ho) M (fM.mono fun a b z => by unfold fPa at z; unfold fC; omega) g5 g6⟩
    rw [ob_r ho, ob_r rfl] at hQ
    obtain ⟨hA1, h8, n1, n3⟩ := hg
    have fc1 : zfr (fC t) mem M1 := f1.mono fun a b z => by unfold fPa at z; unfold fC; omega
    have hL1 : cL n M1 T K t (s.1 + 1, s.2.1 ||| (if (T k).1 = 5 then 1 <<< (nI s.1 &&& 31) else 0), s.2.2.1, s.2.2.2) := by
      refine ⟨⟨qB_fr (fc1.mono fun _ _ => fC_C hT) hB, hT, (f1.2.2 103 1 (by unfold fPa; omega)).trans hC.2.2.1, n1, h8, (f1.1 t 2 (by unfold fPa; omega)).trans hC.2.2.2.2.2.1, hC.2.2.2.2.2.2⟩, by rw [n3, hL.2.1], fun p hp => ?_⟩
      have e : M1.1 (t + 2 + p) = mem.1 (t + 2 + p) := by funext j; exact f1.1 _ j (by unfold fPa; omega)
      rw [e]; exact hL.2.2 p hp
    refine hP _ _ _ _ _ ⟨fun hz => absurd hz ( by decide), fun _ => ?_⟩
    refine hP _ _ _ _ _ ?_
    refine hP _ _ _ _ _ ?_
    refine hP _ _ _ _ _ ⟨(zi hn rfl rfl rfl), Nat.le_of_ble_eq_true rfl, Nat.le_of_ble_eq_true rfl, ?_⟩
    refine ⟨3, k1, K, T, rfl, by omega, by omega, hL1.1.1, hA1, cr_i (fun e ho2 M fM g5 g6 => ?_) (fun k2 ho2 M2 f2 q2 hA2 => ?_)⟩
    · refine hP _ _ _ _ _ ⟨fun _ => ?_, fun hz => absurd rfl hz⟩
      refine hP _ _ _ _ _ ?_
      refine hP _ _ _ _ _ ?_
      exact ⟨by decide, rfl, cr_f hQ (ob_l ho2) M (fc1.tr (fM.mono fun _ _ z => Or.inl z)) g5 g6⟩
    have hQ1 := cr_t hQ (ob_r ho2) M2 (fc1.tr (f2.mono fun _ _ z => Or.inl z)) (q2.trans q1) ⟨hA2, cL_3 f2 hL1⟩
    refine hP _ _ _ _ _ ⟨fun hz => absurd hz ( by decide), fun _ => ?_⟩
    refine hP _ _ _ _ _ ?_
    refine hP _ _ _ _ _ ?_
    refine hP _ _ _ _ _ ?_
    exact ⟨by decide, rfl, hQ1⟩
  have power : ¬ ((T k).1 = 4 ∨ (T k).1 = 5) → ((T k).1 = 6 ∨ (T k).1 = 7) → P 63 [.ref 103] [] n mem := by
    intro n45 h67
    unfold rlT at hQ
    rw [if_neg n45, if_pos h67, ob_a] at hQ
    refine hP _ _ _ _ _ ?_
    refine hP _ _ _ _ _ ⟨(zi hn rfl rfl rfl), Nat.le_of_ble_eq_true rfl, Nat.le_of_ble_eq_true rfl, ?_⟩
    refine ⟨k, K, t, s.1, s.2.2.1, T, s.2.2.2, rfl, hC, hA, h67, fun p hp => ⟨(hL.2.2 p hp).1 0 (by omega), (hL.2.2 p hp).1 6 (by omega), (hL.2.2 p hp).1 8 (by omega)⟩, cr_i (fun e ho M fM g5 g6 => ?_) (fun x ho M1 f1 q1 hg => ?_)⟩
    · refine hP _ _ _ _ _ ⟨fun _ => ?_, fun hz => absurd rfl hz⟩
      refine hP _ _ _ _ _ ?_
      refine hP _ _ _ _ _ ?_
      exact ⟨by decide, rfl, cr_f hQ (ob_l ho) M (fM.mono fun a b z => by unfold fPw at z; unfold fC; omega) g5 g6⟩
    rw [ob_r ho, ob_r rfl] at hQ
    obtain ⟨hA1, h20, n2, nr⟩ := hg
    have fc1 : zfr (fC t) mem M1 := f1.mono fun a b z => by unfold fPw at z; unfold fC; omega
    have hL1 : cL n M1 T K t (s.1, s.2.1, s.2.2.1 + 1, setR s.2.2.2 s.2.2.1 x.2) := by
      refine ⟨⟨qB_fr (fc1.mono fun _ _ => fC_C hT) hB, hT, (f1.2.2 103 1 (by unfold fPw; omega)).trans hC.2.2.1, (f1.1 t 1 (by unfold fPw; omega)).trans hC.2.2.2.1, hC.2.2.2.2.1, n2, h20⟩, (f1.1 t 3 (by unfold fPw; omega)).trans hL.2.1, fun p hp => ?_⟩
      have hp : p < s.2.2.1 + 1 := hp
      by_cases e : p = s.2.2.1
      · rw [e]; exact nr
      · have e1 : M1.1 (t + 2 + p) = mem.1 (t + 2 + p) := by funext j; exact f1.1 _ j (by unfold fPw; omega)
        have e2 : setR s.2.2.2 s.2.2.1 x.2 p = s.2.2.2 p := by funext j; unfold setR; rw [if_neg e]
        show cRow (M1.1 (t + 2 + p)) (setR s.2.2.2 s.2.2.1 x.2 p)
        rw [e1, e2]; exact hL.2.2 p (by omega)
    refine hP _ _ _ _ _ ⟨fun hz => absurd hz ( by decide), fun _ => ?_⟩
    refine hP _ _ _ _ _ ?_
    refine hP _ _ _ _ _ ?_
    refine hP _ _ _ _ _ ⟨(zi hn rfl rfl rfl), Nat.le_of_ble_eq_true rfl, Nat.le_of_ble_eq_true rfl, ?_⟩
    refine ⟨3, x.1, K, T, rfl, by omega, by omega, hL1.1.1, hA1, cr_i (fun e ho2 M fM g5 g6 => ?_) (fun k2 ho2 M2 f2 q2 hA2 => ?_)⟩
    · refine hP _ _ _ _ _ ⟨fun _ => ?_, fun hz => absurd rfl hz⟩
      refine hP _ _ _ _ _ ?_
      refine hP _ _ _ _ _ ?_
      exact ⟨by decide, rfl, cr_f hQ (ob_l ho2) M (fc1.tr (fM.mono fun _ _ z => Or.inl z)) g5 g6⟩
    have hQ1 := cr_t hQ (ob_r ho2) M2 (fc1.tr (f2.mono fun _ _ z => Or.inl z)) (q2.trans q1) ⟨hA2, cL_3 f2 hL1⟩
    refine hP _ _ _ _ _ ⟨fun hz => absurd hz ( by decide), fun _ => ?_⟩
    refine hP _ _ _ _ _ ?_
    refine hP _ _ _ _ _ ?_
    refine hP _ _ _ _ _ ?_
    exact ⟨by decide, rfl, hQ1⟩
  refine hP _ _ _ _ _ ?_
  refine hP _ _ _ _ _ ⟨(zi hn rfl rfl rfl), _, hA.2.2.1, (by omega), ?_⟩
  refine hP _ _ _ _ _ ?_
  refine hP _ _ _ _ _ ⟨ztk ht, ztc rfl rfl, fun h7 => ?_, fun h7 => ?_⟩
  ·
    first | exact party (Or.inl (by have h7 : (T k).1 + 2 = 6 := h7; omega)) | exact party (Or.inr (by have h17 : (T k).1 + 2 = 7 := h17; omega))
  ·
    refine hP _ _ _ _ _ ?_
    refine hP _ _ _ _ _ ⟨(zi hn rfl rfl rfl), _, hA.2.2.1, (by omega), ?_⟩
    refine hP _ _ _ _ _ ?_
    refine hP _ _ _ _ _ ⟨ztk ht, ztc rfl rfl, fun h17 => ?_, fun h17 => ?_⟩
    ·
      first | exact party (Or.inl (by have h7 : (T k).1 + 2 = 6 := h7; omega)) | exact party (Or.inr (by have h17 : (T k).1 + 2 = 7 := h17; omega))
    ·
      have n45 : ¬ ((T k).1 = 4 ∨ (T k).1 = 5) := fun z => z.elim (fun y => h7 (show (T k).1 + 2 = 6 by omega)) (fun y => h17 (show (T k).1 + 2 = 7 by omega))
      refine hP _ _ _ _ _ ?_
      refine hP _ _ _ _ _ ⟨(zi hn rfl rfl rfl), _, hA.2.2.1, (by omega), ?_⟩
      refine hP _ _ _ _ _ ?_
      refine hP _ _ _ _ _ ⟨ztk ht, ztc rfl rfl, fun h50 => ?_, fun h50 => ?_⟩
      ·
        first | exact power n45 (Or.inl (by have h50 : (T k).1 + 2 = 8 := h50; omega)) | exact power n45 (Or.inr (by have h60 : (T k).1 + 2 = 9 := h60; omega))
      ·
        refine hP _ _ _ _ _ ?_
        refine hP _ _ _ _ _ ⟨(zi hn rfl rfl rfl), _, hA.2.2.1, (by omega), ?_⟩
        refine hP _ _ _ _ _ ?_
        refine hP _ _ _ _ _ ⟨ztk ht, ztc rfl rfl, fun h60 => ?_, fun h60 => ?_⟩
        ·
          first | exact power n45 (Or.inl (by have h50 : (T k).1 + 2 = 8 := h50; omega)) | exact power n45 (Or.inr (by have h60 : (T k).1 + 2 = 9 := h60; omega))
        ·
          refine hP _ _ _ _ _ ?_
          refine hP _ _ _ _ _ ?_
          refine hP _ _ _ _ _ ⟨(zi hn rfl rfl rfl), Nat.le_of_ble_eq_true rfl, Nat.le_of_ble_eq_true rfl, ?_⟩
          refine use_rf (w := 1) hB hA fun M2 f2 h5' h6' => ?_
          refine hP _ _ _ _ _ ?_
          refine ⟨by decide, rfl, cr_f (e := (1, (T k).2.1)) hQ (ob_l ?_) M2 (f2.mono fun _ _ z => Or.inl z) h5' h6'⟩
          unfold rlT
          rw [if_neg n45, if_neg (fun z => z.elim (fun y => h50 (show (T k).1 + 2 = 8 by omega)) (fun y => h60 (show (T k).1 + 2 = 9 by omega)))]
def k_X9_clear : zCt := fun as n mem Q => ∃ (t : Nat), as = [.ref t] ∧ zst n mem ∧ (t = 136 ∨ t = 158) ∧ Q none n (zI (zI (zI mem t 1 0) t 2 0) t 3 0)
theorem ok_X9_clear {l : Launch} {G : zG} : zOK l G yX9_clear cX9_clear 1 none 0 0 0 k_X9_clear := by
  intro as n mem Q hK
  obtain ⟨t, rfl, ⟨hn, hF⟩, hT, hQ⟩ := hK
  refine mtX9_clear (List.forall_mem_cons.mpr ⟨rfl, fun _ h => absurd h List.not_mem_nil⟩) (by simp) rfl (fun P hP => ?_)
  show P 0 [.ref t] [] n mem
  refine hP _ _ _ _ _ ?_
  refine hP _ _ _ _ _ ?_
  refine hP _ _ _ _ _ ⟨(ztT hn hT), ?_⟩
  refine hP _ _ _ _ _ ?_
  refine hP _ _ _ _ _ ?_
  refine hP _ _ _ _ _ ⟨(ztT hn hT), ?_⟩
  refine hP _ _ _ _ _ ?_
  refine hP _ _ _ _ _ ?_
  refine hP _ _ _ _ _ ⟨(ztT hn hT), ?_⟩
  refine hP _ _ _ _ _ ?_
  exact ⟨rfl, hQ⟩
/-- what reading a text into t writes -/
def sRT (t a b : Nat) : Prop := (a = 103 ∧ 1 ≤ b) ∨ (a = t ∧ 1 ≤ b) ∨ (t + 2 ≤ a ∧ a < t + 22) ∨ sL a b
theorem fC_RT {t a b : Nat} (h : fC t a b) : sRT t a b := by unfold fC at h; unfold sRT; omega
def cTx (M : zM) (t : Nat) (s : zPS) : Prop := s.1 ≤ 8 ∧ s.2.2.1 ≤ 20 ∧ M.1 t 1 = nI s.1 ∧ M.1 t 3 = s.2.1 ∧ M.1 t 2 = nI s.2.2.1 ∧ ∀ p, p < s.2.2.1 → cRow (M.1 (t + 2 + p)) (s.2.2.2 p)
def rtK (n : Nat) (mem : zM) (Q : zPo) (t : Nat) (o : zOut zPS) : Prop := match o with
  | .inl e => ∀ M, zfr (sRT t) mem M → zFx M → M.1 103 5 = nI e.1 → M.1 103 6 = nI e.2 → Q (some (.int 0)) n M
  | .inr s => ∀ M, zfr (sRT t) mem M → zFx M → M.1 103 5 = 0 → cTx M t s → Q (some (.int 1)) n M
theorem rtK_f {n : Nat} {mem : zM} {Q : zPo} {t : Nat} {o : zOut zPS} {e : Nat × Nat} (h : rtK n mem Q t o) (ho : o = .inl e) : ∀ M, zfr (sRT t) mem M → zFx M → M.1 103 5 = nI e.1 → M.1 103 6 = nI e.2 → Q (some (.int 0)) n M := by subst ho; exact h
theorem rtK_t {n : Nat} {mem : zM} {Q : zPo} {t : Nat} {o : zOut zPS} {s : zPS} (h : rtK n mem Q t o) (ho : o = .inr s) : ∀ M, zfr (sRT t) mem M → zFx M → M.1 103 5 = 0 → cTx M t s → Q (some (.int 1)) n M := by subst ho; exact h
theorem ln_n {T : zTS} {s : zPS} {k : Nat} {x : Nat × zPS} (h : lnT T s k = .inr x) : x.2.1 + x.2.2.2.1 = s.1 + s.2.2.1 + 1 := by
  unfold lnT at h
  cases hr : rlT T s k with
  | inl e => rw [ob_l hr] at h; cases h
  | inr y =>
    rw [ob_r hr] at h
    cases ht : tkT T 3 y.1 with
    | inl e => rw [ob_l ht] at h; cases h
    | inr k' => rw [ob_r ht] at h; cases h; have := rl_n hr; exact this
def k_X7_readText : zCt := fun as n mem Q => ∃ (sz t : Nat), as = [.ref 103, .ref t] ∧ zst n mem ∧ (t = 136 ∨ t = 158) ∧ mem.1 101 1 = nI sz ∧ sz ≤ 840 ∧ rtK n mem Q t (txR (mem.1 102) sz)
theorem ok_X7_readText {l : Launch} {G : zG} : zOK l G yX7_readText cX7_readText 3 (some .boolean) 9 0 0 k_X7_readText := by
  intro as n mem Q hK
  obtain ⟨sz, t, rfl, ⟨hn, hF0⟩, hT, hsz, hsz8, hQ⟩ := hK
  refine mtX7_readText ok_X9_clear (by decide) ok_X2_scan (by decide) ok_X7_goTo (by decide) ok_X7_readLine (by decide) (List.forall_mem_cons.mpr ⟨rfl, List.forall_mem_cons.mpr ⟨rfl, fun _ h => absurd h List.not_mem_nil⟩⟩) (by simp) rfl (fun P hP => ?_)
  show P 0 [.ref 103, .ref t, .null] [] n mem
  unfold txR at hQ
  generalize hC : mem.1 102 = C at hQ
  have h999 : ∀ i, (tsS C sz i).1 = 2 → (tsS C sz i).2.2 ≤ 999 := fun i h => (num_ok h).1
  have loop : ∀ f k K (s : zPS) M, 29 = f + s.1 + s.2.2.1 → zfr (sRT t) mem M → cL n M (tsS C sz) K t s → qA M (tsS C sz) K k → M.1 103 5 = 0 → rtK n mem Q t (txT (tsS C sz) f k s) → P 31 [.ref 103, .ref t, .int (nI (s.1 + s.2.2.1))] [] n M := by
    intro f
    induction f with
    | zero => intro k K s M hf _ hL; have := hL.1.2.2.2.2.1; have := hL.1.2.2.2.2.2.2; omega
    | succ f ih =>
      intro k K s M hf fM hL hA m5 hQ
      have hB := hL.1.1
      have hF := hB.1.2
      have ht := at_lt hB hA.1
      rw [txT] at hQ
      by_cases hk0 : (tsS C sz k).1 = 0
      ·
        refine hP _ _ _ _ _ ?_
        refine hP _ _ _ _ _ ?_
        refine hP _ _ _ _ _ ⟨fun hz => absurd hz ( nI_nlt (a := 28) (by omega) (by omega)), fun _ => ?_⟩
        refine hP _ _ _ _ _ ?_
        refine hP _ _ _ _ _ ⟨(zi hn rfl rfl rfl), _, hA.2.2.1, (by omega), ?_⟩
        refine hP _ _ _ _ _ ?_
        refine hP _ _ _ _ _ ⟨ztk ht, ztc rfl rfl, fun _ => ?_, fun hz => absurd ( by show (tsS C sz k).1 + 2 = 2; omega) hz⟩
        refine hP _ _ _ _ _ ?_
        refine hP _ _ _ _ _ ?_
        exact ⟨by decide, rfl, rtK_t hQ (if_pos hk0) M fM hF m5 ⟨hL.1.2.2.2.2.1, hL.1.2.2.2.2.2.2, hL.1.2.2.2.1, hL.2.1, hL.1.2.2.2.2.2.1, hL.2.2⟩⟩
      · rw [if_neg hk0] at hQ
        refine hP _ _ _ _ _ ?_
        refine hP _ _ _ _ _ ?_
        refine hP _ _ _ _ _ ⟨fun hz => absurd hz ( nI_nlt (a := 28) (by omega) (by omega)), fun _ => ?_⟩
        refine hP _ _ _ _ _ ?_
        refine hP _ _ _ _ _ ⟨(zi hn rfl rfl rfl), _, hA.2.2.1, (by omega), ?_⟩
        refine hP _ _ _ _ _ ?_
        refine hP _ _ _ _ _ ⟨ztk ht, ztc rfl rfl, fun hz => absurd hz ( fun z => hk0 (by have z : (tsS C sz k).1 + 2 = 2 := z; omega)), fun _ => ?_⟩
        refine hP _ _ _ _ _ ?_
        refine hP _ _ _ _ _ ⟨(zi hn rfl rfl rfl), Nat.le_of_ble_eq_true rfl, Nat.le_of_ble_eq_true rfl, ?_⟩
        refine ⟨k, K, t, tsS C sz, s, rfl, hL, hA, cr_i (fun e ho M' f' g5 g6 => ?_) (fun x ho M1 f1 q1 hg => ?_)⟩
        · refine hP _ _ _ _ _ ⟨fun _ => ?_, fun hz => absurd rfl hz⟩
          refine hP _ _ _ _ _ ?_
          refine hP _ _ _ _ _ ?_
          exact ⟨by decide, rfl, rtK_f hQ (ob_l ho) M' (fM.tr (f'.mono fun _ _ => fC_RT)) (zFx_C (f'.mono fun _ _ => fC_C hT) hF) g5 g6⟩
        rw [ob_r ho] at hQ
        refine hP _ _ _ _ _ ⟨fun hz => absurd hz ( by decide), fun _ => ?_⟩
        refine hP _ _ _ _ _ ?_
        refine hP _ _ _ _ _ ?_
        have hn1 := ln_n ho
        have ih1 := ih x.1 K x.2 M1 (by omega) (fM.tr (f1.mono fun _ _ => fC_RT)) hg.2 hg.1 (q1.trans m5) hQ
        rw [hn1, nI_succ (s.1 + s.2.2.1)] at ih1
        exact ih1
  obtain ⟨u, rfl⟩ : ∃ u, t = u + 1 := ⟨t - 1, by omega⟩
  generalize hM0 : zI (zI (zI (zI (zR mem 103 1 (u + 1)) (u + 1) 1 0) (u + 1) 2 0) (u + 1) 3 0) 103 5 0 = M0
  have fM0 : zfr (sRT (u + 1)) mem M0 := by
    rw [← hM0]
    refine zfr.I (zfr.I (zfr.I (zfr.I (zfr.R zfr.rf ?_) ?_) ?_) ?_) ?_ <;> unfold sRT <;> omega
  have fC0 : zfr sC mem M0 := by
    rw [← hM0]
    refine zfr.I (zfr.I (zfr.I (zfr.I (zfr.R zfr.rf ?_) ?_) ?_) ?_) ?_ <;> unfold sC <;> omega
  have hF1 : zFx M0 := zFx_C fC0 hF0
  have e31 : M0.2.2 103 1 = u + 1 := by rw [← hM0]; show (zR mem 103 1 (u + 1)).2.2 103 1 = _; exact zR_s
  have e5 : M0.1 103 5 = 0 := by rw [← hM0]; exact zI_s
  have e1 : M0.1 (u + 1) 1 = nI 0 := by rw [← hM0, zI_ne (by omega), zI_o (by omega), zI_o (by omega), zI_s]; rfl
  have e2 : M0.1 (u + 1) 2 = nI 0 := by rw [← hM0, zI_ne (by omega), zI_o (by omega), zI_s]; rfl
  have e3 : M0.1 (u + 1) 3 = 0 := by rw [← hM0, zI_ne (by omega), zI_s]
  have eC : M0.1 102 = C := by rw [← hC]; funext j; exact fC0.1 102 j (by unfold sC; omega)
  have esz : M0.1 101 1 = nI sz := (fC0.1 101 1 (by unfold sC; omega)).trans hsz
  have hF := hF0
  refine hP _ _ _ _ _ ?_
  refine hP _ _ _ _ _ ?_
  refine hP _ _ _ _ _ ⟨(zi hn rfl rfl rfl), ?_⟩
  refine hP _ _ _ _ _ ?_
  refine hP _ _ _ _ _ ⟨(zi hn rfl rfl rfl), _, zR_s, (by omega), ?_⟩
  refine hP _ _ _ _ _ ⟨(ztT hn hT), Nat.le_of_ble_eq_true rfl, Nat.le_of_ble_eq_true rfl, ?_⟩
  refine ⟨u + 1, rfl, ⟨hn, zFx_C (zfr.rf.R (by unfold sC; omega)) hF⟩, hT, ?_⟩
  refine hP _ _ _ _ _ ?_
  refine hP _ _ _ _ _ ?_
  refine hP _ _ _ _ _ ⟨(zi hn rfl rfl rfl), ?_⟩
  show P 17 [.ref 103, .ref (u + 1), .null] [] n (zI (zI (zI (zI (zR mem 103 1 (u + 1)) (u + 1) 1 0) (u + 1) 2 0) (u + 1) 3 0) 103 5 0)
  rw [hM0]
  have hF := hF1
  refine hP _ _ _ _ _ ?_
  refine hP _ _ _ _ _ ⟨(zi hn rfl rfl rfl), _, fx_TextReader_lexer hF, (by decide), ?_⟩
  refine hP _ _ _ _ _ ⟨(zi hn rfl rfl rfl), Nat.le_of_ble_eq_true rfl, Nat.le_of_ble_eq_true rfl, ?_⟩
  refine ⟨sz, rfl, ⟨hn, hF1⟩, esz, hsz8, fun M K fM hLx => ?_⟩
  rw [eC] at hLx
  have hBM : qB n M (tsS C sz) K := ⟨⟨hn, zFx_L fM hF1⟩, hLx, h999⟩
  refine hP _ _ _ _ _ ?_
  refine hP _ _ _ _ _ ?_
  refine hP _ _ _ _ _ ⟨(zi hn rfl rfl rfl), Nat.le_of_ble_eq_true rfl, Nat.le_of_ble_eq_true rfl, ?_⟩
  refine ⟨0, K, tsS C sz, rfl, hBM, Nat.zero_le _, fun M1 f1 q1 hA1 => ?_⟩
  refine hP _ _ _ _ _ ?_
  refine hP _ _ _ _ _ ?_
  have eM : ∀ a b, ¬ sL a b → M.1 a b = M0.1 a b := fun a b h => fM.1 a b h
  have f1' : zfr (sRT (u + 1)) mem M1 := (fM0.tr (fM.mono fun a b z => Or.inr (Or.inr (Or.inr z)))).tr (f1.mono fun a b z => by unfold S3 at z; unfold sRT; omega)
  have hP0 : cP n M (tsS C sz) K (u + 1) 0 0 := ⟨hBM, hT, (fM.2.2 103 1 (by unfold sL; omega)).trans e31, (eM _ 1 (by unfold sL; omega)).trans e1, by omega, (eM _ 2 (by unfold sL; omega)).trans e2, by omega⟩
  exact loop 29 0 K (0, 0, 0, fun _ _ => 0) M1 rfl f1' ⟨cP_3 f1 hP0, (f1.1 (u + 1) 3 (by unfold S3; omega)).trans ((eM _ 3 (by unfold sL; omega)).trans e3), fun p hp => absurd hp (Nat.not_lt_zero _)⟩ hA1 (q1.trans ((eM 103 5 (by unfold sL; omega)).trans e5)) hQ
