theorem tkT_y {T : zTS} {due k : Nat} (h : (T k).1 = due) : tkT T due k = .inr (k + 1) := if_pos h
theorem tkT_n {T : zTS} {due k : Nat} (h : ¬ (T k).1 = due) : tkT T due k = .inl (1, (T k).2.1) := if_neg h
theorem tlT_n {T : zTS} {k : Nat} (h : ¬ (T k).1 = 12) : tlT T k = .inr (k, -1) := if_neg h
theorem rw_tr {x : Nat} {J : Nat → Prop} {m1 m2 m3 : zM} (h : zfr (cRw x J) m1 m2) (k : zfr S3 m2 m3) : zfr (cRw x J) m1 m3 := h.tr (k.mono fun _ _ => S3_w)
def k_X7_readHolders : zCt := fun as n mem Q => ∃ (k K t np pw : Nat) (T : zTS), as = [.ref 103, .ref (t + 2 + pw)] ∧ pw < 20 ∧ cP n mem T K t np pw ∧ qA mem T K k ∧ mem.1 (t + 2 + pw) 1 = 0 ∧ cRes (cRw (t + 2 + pw) (fun b => b = 1)) n mem Q (ob (tkT T 8 k) fun k1 => hsT T np (mem.1 (t + 2 + pw) 0) k1) (fun h M => qA M T K h.1 ∧ M.1 (t + 2 + pw) 1 = h.2)
theorem ok_X7_readHolders {l : Launch} {G : zG} : zOK l G yX7_readHolders cX7_readHolders 4 (some .boolean) 3 0 0 k_X7_readHolders := by
  intro as n mem Q hK
  obtain ⟨k, K, t, np, pw, T, rfl, hpw, hC, hA, h0, hQ⟩ := hK
  refine mtX7_readHolders ok_X7_take (by decide) ok_X10_has (by decide) ok_X7_refuse (by decide) (List.forall_mem_cons.mpr ⟨rfl, List.forall_mem_cons.mpr ⟨rfl, fun _ h => absurd h List.not_mem_nil⟩⟩) (by simp) rfl (fun P hP => ?_)
  show P 0 [.ref 103, .ref (t + 2 + pw), .null, .null] [] n mem
  have hB := hC.1
  have hn := hB.1.1
  have hT := hC.2.1
  have hnp := hC.2.2.2.2.1
  have ends : ∀ (g : Bool) v3 M, zfr (cRw (t + 2 + pw) (fun b => b = 1)) mem M → Q (some (.int (zb g))) n M → P 118 [.ref 103, .ref (t + 2 + pw), .int (zb g), v3] [] n M := by
    intro g v3 M fM h
    refine hP _ _ _ _ _ ?_
    refine hP _ _ _ _ _ ?_
    exact ⟨by cases g <;> decide, rfl, h⟩
  have loop : ∀ f i k a M, i + f = 9 → (i = 0 → (T k).1 = 2) → zfr (cRw (t + 2 + pw) (fun b => b = 1)) mem M → qA M T K k → M.1 103 5 = mem.1 103 5 → M.1 (t + 2 + pw) 1 = a → cRes (cRw (t + 2 + pw) (fun b => b = 1)) n mem Q (hlT T np (mem.1 (t + 2 + pw) 0) f k a) (fun h M => qA M T K h.1 ∧ M.1 (t + 2 + pw) 1 = h.2) → P 10 [.ref 103, .ref (t + 2 + pw), .int 1, .int (nI i)] [] n M := by
    intro f
    induction f with
    | zero =>
      intro i k a M hi _ fM hA m5 ma hQ
      refine hP _ _ _ _ _ ?_
      refine hP _ _ _ _ _ ?_
      refine hP _ _ _ _ _ ⟨fun _ => ?_, fun hz => absurd ( by rw [show i = 9 by omega]; decide) hz⟩
      exact ends true _ M fM (hQ M fM m5 ⟨hA, ma⟩)
    | succ f ih =>
      intro i k a M hi h02 fM hA m5 ma hQ
      have hC1 := cP_fr hpw fM hC
      have hB1 := hC1.1
      have hF := hB1.1.2
      have ht := at_lt hB1 hA.1
      have gv : M.1 (t + 2 + pw) 0 = mem.1 (t + 2 + pw) 0 := fM.1 _ 0 (by unfold cRw; omega)
      rw [hlT] at hQ
      by_cases h2 : (T k).1 = 2
      · have hv := hA.2.2.2 h2
        have hv9 := hB.2.2 _ h2
        rw [if_neg (fun z => z h2)] at hQ
        have body : P 34 [.ref 103, .ref (t + 2 + pw), .int 1, .int (nI i)] [] n M := by
          refine hP _ _ _ _ _ ?_
          refine hP _ _ _ _ _ ⟨(zi hn rfl rfl rfl), _, hA.2.2.1, (by omega), ?_⟩
          refine hP _ _ _ _ _ ?_
          refine hP _ _ _ _ _ ⟨ztk ht, ztc rfl rfl, fun _ => ?_, fun hz => absurd ( by show (T k).1 + 2 = 4; omega) hz⟩
          refine hP _ _ _ _ _ ?_
          refine hP _ _ _ _ _ ⟨(zi hn rfl rfl rfl), ?_⟩
          refine hP _ _ _ _ _ ?_
          refine hP _ _ _ _ _ ⟨(zi hn rfl rfl rfl), _, hC1.2.2.1, (by omega), ?_⟩
          refine hP _ _ _ _ _ ⟨(ztT hn hT), ?_⟩
          refine hP _ _ _ _ _ ⟨fun h55 => ?_, fun h55 => ?_⟩
          ·
            refine hP _ _ _ _ _ ?_
            refine hP _ _ _ _ _ ?_
            refine hP _ _ _ _ _ ⟨(zi hn rfl rfl rfl), Nat.le_of_ble_eq_true rfl, Nat.le_of_ble_eq_true rfl, ?_⟩
            refine use_rf (w := 3) hB1 hA fun M2 f2 h5' h6' => ?_
            refine hP _ _ _ _ _ ?_
            first | exact ⟨by decide, rfl, cr_f hQ (if_pos (Or.inr (Or.inl h80))) M2 (rw_tr fM f2) h5' h6'⟩ | exact ⟨by decide, rfl, cr_f hQ (if_pos (Or.inr (Or.inr (hv.symm.trans (h66.trans gv))))) M2 (rw_tr fM f2) h5' h6'⟩ | exact ⟨by decide, rfl, cr_f hQ (if_pos (Or.inl ((nI_leI (by omega) (by omega)).mp (by rw [← hv, ← hC1.2.2.2.1]; exact h55)))) M2 (rw_tr fM f2) h5' h6'⟩
          ·
            have hlt : (T k).2.2 < np := Nat.not_le.mp fun z => h55 (by rw [hv, hC1.2.2.2.1]; exact nI_le z (by omega))
            refine hP _ _ _ _ _ ?_
            refine hP _ _ _ _ _ ⟨(zi hn rfl rfl rfl), ?_⟩
            refine hP _ _ _ _ _ ?_
            refine hP _ _ _ _ _ ⟨(ztP hn hT hpw), ?_⟩
            refine hP _ _ _ _ _ ⟨fun h66 => ?_, fun h66 => ?_⟩
            ·
              refine hP _ _ _ _ _ ?_
              refine hP _ _ _ _ _ ?_
              refine hP _ _ _ _ _ ⟨(zi hn rfl rfl rfl), Nat.le_of_ble_eq_true rfl, Nat.le_of_ble_eq_true rfl, ?_⟩
              refine use_rf (w := 3) hB1 hA fun M2 f2 h5' h6' => ?_
              refine hP _ _ _ _ _ ?_
              first | exact ⟨by decide, rfl, cr_f hQ (if_pos (Or.inr (Or.inl h80))) M2 (rw_tr fM f2) h5' h6'⟩ | exact ⟨by decide, rfl, cr_f hQ (if_pos (Or.inr (Or.inr (hv.symm.trans (h66.trans gv))))) M2 (rw_tr fM f2) h5' h6'⟩ | exact ⟨by decide, rfl, cr_f hQ (if_pos (Or.inl ((nI_leI (by omega) (by omega)).mp (by rw [← hv, ← hC1.2.2.2.1]; exact h55)))) M2 (rw_tr fM f2) h5' h6'⟩
            ·
              refine hP _ _ _ _ _ ?_
              refine hP _ _ _ _ _ ⟨(ztP hn hT hpw), ?_⟩
              refine hP _ _ _ _ _ ?_
              refine hP _ _ _ _ _ ⟨(zi hn rfl rfl rfl), ?_⟩
              refine hP _ _ _ _ _ ⟨Nat.le_of_ble_eq_true rfl, Nat.le_of_ble_eq_true rfl, ?_⟩
              refine ⟨a, (T k).2.2, by rw [← ma, ← hv]; rfl, by omega, ?_⟩
              refine hP _ _ _ _ _ ⟨fun h80 => ?_, fun h80 => ?_⟩
              ·
                have h80 := zb_0.mp h80
                rw [if_neg (fun z => z.elim (fun y => by omega) (fun y => y.elim (fun y => by rw [h80] at y; cases y) (fun y => h66 (hv.trans (y.trans gv.symm)))))] at hQ
                refine hP _ _ _ _ _ ?_
                refine hP _ _ _ _ _ ?_
                refine hP _ _ _ _ _ ⟨(ztP hn hT hpw), ?_⟩
                refine hP _ _ _ _ _ ?_
                refine hP _ _ _ _ _ ?_
                refine hP _ _ _ _ _ ⟨(zi hn rfl rfl rfl), ?_⟩
                refine hP _ _ _ _ _ ?_
                refine hP _ _ _ _ _ ?_
                refine hP _ _ _ _ _ ⟨(ztP hn hT hpw), ?_⟩
                show P 104 [.ref 103, .ref (t + 2 + pw), .int 1, .int (nI i)] [] n (zI M (t + 2 + pw) 1 (M.1 (t + 2 + pw) 1 ||| 1 <<< (M.1 103 4 &&& 31)))
                refine hP _ _ _ _ _ ?_
                refine hP _ _ _ _ _ ?_
                refine hP _ _ _ _ _ ⟨(zi hn rfl rfl rfl), Nat.le_of_ble_eq_true rfl, Nat.le_of_ble_eq_true rfl, ?_⟩
                have fw : zfr (cRw (t + 2 + pw) (fun b => b = 1)) mem (zI M (t + 2 + pw) 1 (M.1 (t + 2 + pw) 1 ||| 1 <<< (M.1 103 4 &&& 31))) := fM.I (Or.inr ⟨rfl, rfl⟩)
                refine tk_y (due := 2) (by omega) (by omega) (cP_fr hpw fw hC).1 (at_w (by omega) hA) h2 fun M3 f3 q3 hA3 => ?_
                refine hP _ _ _ _ _ ?_
                refine hP _ _ _ _ _ ?_
                refine hP _ _ _ _ _ ?_
                have ih1 := ih (i + 1) (k + 1) (a ||| 1 <<< (nI (T k).2.2 &&& 31)) M3 (by omega) (fun z => by omega) (rw_tr fw f3) hA3 (q3.trans (by rw [zI_ne (by omega)]; exact m5)) (by rw [f3.1 (t + 2 + pw) 1 (by unfold S3; omega), zI_s, ma, hv]) hQ
                rw [nI_succ i] at ih1
                exact ih1
              ·
                have h80 := zb_n.mp h80
                refine hP _ _ _ _ _ ?_
                refine hP _ _ _ _ _ ?_
                refine hP _ _ _ _ _ ⟨(zi hn rfl rfl rfl), Nat.le_of_ble_eq_true rfl, Nat.le_of_ble_eq_true rfl, ?_⟩
                refine use_rf (w := 3) hB1 hA fun M2 f2 h5' h6' => ?_
                refine hP _ _ _ _ _ ?_
                first | exact ⟨by decide, rfl, cr_f hQ (if_pos (Or.inr (Or.inl h80))) M2 (rw_tr fM f2) h5' h6'⟩ | exact ⟨by decide, rfl, cr_f hQ (if_pos (Or.inr (Or.inr (hv.symm.trans (h66.trans gv))))) M2 (rw_tr fM f2) h5' h6'⟩ | exact ⟨by decide, rfl, cr_f hQ (if_pos (Or.inl ((nI_leI (by omega) (by omega)).mp (by rw [← hv, ← hC1.2.2.2.1]; exact h55)))) M2 (rw_tr fM f2) h5' h6'⟩
        refine hP _ _ _ _ _ ?_
        refine hP _ _ _ _ _ ?_
        refine hP _ _ _ _ _ ⟨fun hz => absurd hz ( nI_nlt (a := 8) (by omega) (by omega)), fun _ => ?_⟩
        refine hP _ _ _ _ _ ?_
        refine hP _ _ _ _ _ ⟨fun hz => absurd hz ( by decide), fun _ => ?_⟩
        refine hP _ _ _ _ _ ?_
        refine hP _ _ _ _ _ ⟨fun h21 => ?_, fun h21 => ?_⟩
        ·
          exact body
        ·
          refine hP _ _ _ _ _ ?_
          refine hP _ _ _ _ _ ⟨(zi hn rfl rfl rfl), _, hA.2.2.1, (by omega), ?_⟩
          refine hP _ _ _ _ _ ?_
          refine hP _ _ _ _ _ ⟨ztk ht, ztc rfl rfl, fun _ => ?_, fun hz => absurd ( by show (T k).1 + 2 = 4; omega) hz⟩
          exact body
      · have i0 : 0 < i := Nat.pos_of_ne_zero fun z => h2 (h02 z)
        refine hP _ _ _ _ _ ?_
        refine hP _ _ _ _ _ ?_
        refine hP _ _ _ _ _ ⟨fun hz => absurd hz ( nI_nlt (a := 8) (by omega) (by omega)), fun _ => ?_⟩
        refine hP _ _ _ _ _ ?_
        refine hP _ _ _ _ _ ⟨fun hz => absurd hz ( by decide), fun _ => ?_⟩
        refine hP _ _ _ _ _ ?_
        refine hP _ _ _ _ _ ⟨fun hz => absurd hz ( nI_ne0 i0 (by omega)), fun _ => ?_⟩
        refine hP _ _ _ _ _ ?_
        refine hP _ _ _ _ _ ⟨(zi hn rfl rfl rfl), _, hA.2.2.1, (by omega), ?_⟩
        refine hP _ _ _ _ _ ?_
        refine hP _ _ _ _ _ ⟨ztk ht, ztc rfl rfl, fun hz => absurd hz ( fun z => h2 (by have z : (T k).1 + 2 = 4 := z; omega)), fun _ => ?_⟩
        exact ends true _ M fM (cr_t hQ (if_pos h2) M fM m5 ⟨hA, ma⟩)
  have hF := hB.1.2
  by_cases h8 : (T k).1 = 8
  · rw [ob_r (tkT_y h8)] at hQ
    by_cases h2 : (T (k + 1)).1 = 2
    · unfold hsT at hQ
      rw [if_neg (fun z => z h2)] at hQ
      refine hP _ _ _ _ _ ?_
      refine hP _ _ _ _ _ ?_
      refine hP _ _ _ _ _ ⟨(zi hn rfl rfl rfl), Nat.le_of_ble_eq_true rfl, Nat.le_of_ble_eq_true rfl, ?_⟩
      refine tk_y (due := 8) (by omega) (by omega) hB hA h8 fun M f1 q1 hA1 => ?_
      refine hP _ _ _ _ _ ?_
      refine hP _ _ _ _ _ ?_
      refine hP _ _ _ _ _ ?_
      exact loop 9 0 (k + 1) 0 M (by omega) (fun _ => h2) (f1.mono fun _ _ => S3_w) hA1 q1 ((f1.1 (t + 2 + pw) 1 (by unfold S3; omega)).trans h0) hQ
    ·
      refine hP _ _ _ _ _ ?_
      refine hP _ _ _ _ _ ?_
      refine hP _ _ _ _ _ ⟨(zi hn rfl rfl rfl), Nat.le_of_ble_eq_true rfl, Nat.le_of_ble_eq_true rfl, ?_⟩
      refine tk_y (due := 8) (by omega) (by omega) hB hA h8 fun M f1 q1 hA1 => ?_
      have hC1 := cP_3 f1 hC
      have hB1 := hC1.1
      have hF := hB1.1.2
      have ht := at_lt hB1 hA1.1
      refine hP _ _ _ _ _ ?_
      refine hP _ _ _ _ _ ?_
      refine hP _ _ _ _ _ ?_
      refine hP _ _ _ _ _ ?_
      refine hP _ _ _ _ _ ?_
      refine hP _ _ _ _ _ ⟨fun hz => absurd hz ( by decide), fun _ => ?_⟩
      refine hP _ _ _ _ _ ?_
      refine hP _ _ _ _ _ ⟨fun hz => absurd hz ( by decide), fun _ => ?_⟩
      refine hP _ _ _ _ _ ?_
      refine hP _ _ _ _ _ ⟨fun _ => ?_, fun hz => absurd ( rfl) hz⟩
      refine hP _ _ _ _ _ ?_
      refine hP _ _ _ _ _ ⟨(zi hn rfl rfl rfl), _, hA1.2.2.1, (by omega), ?_⟩
      refine hP _ _ _ _ _ ?_
      refine hP _ _ _ _ _ ⟨ztk ht, ztc rfl rfl, fun hz => absurd hz ( fun z => h2 (by have z : (T (k + 1)).1 + 2 = 4 := z; omega)), fun _ => ?_⟩
      refine hP _ _ _ _ _ ?_
      refine hP _ _ _ _ _ ?_
      refine hP _ _ _ _ _ ⟨(zi hn rfl rfl rfl), Nat.le_of_ble_eq_true rfl, Nat.le_of_ble_eq_true rfl, ?_⟩
      refine tk_n (due := 2) (by omega) (by omega) hB1 hA1 h2 fun M3 f3 q3 q4 => ?_
      refine hP _ _ _ _ _ ?_
      refine hP _ _ _ _ _ ?_
      refine hP _ _ _ _ _ ?_
      refine hP _ _ _ _ _ ?_
      refine hP _ _ _ _ _ ?_
      refine hP _ _ _ _ _ ⟨fun hz => absurd hz (by decide), fun _ => ?_⟩
      refine hP _ _ _ _ _ ?_
      refine hP _ _ _ _ _ ⟨fun _ => ?_, fun hz => absurd rfl hz⟩
      exact ends false _ M3 ((f1.mono fun _ _ => S3_w).tr (f3.mono fun _ _ => S3_w)) (cr_f hQ (if_pos h2) M3 ((f1.mono fun _ _ => S3_w).tr (f3.mono fun _ _ => S3_w)) q3 q4)
  ·
    refine hP _ _ _ _ _ ?_
    refine hP _ _ _ _ _ ?_
    refine hP _ _ _ _ _ ⟨(zi hn rfl rfl rfl), Nat.le_of_ble_eq_true rfl, Nat.le_of_ble_eq_true rfl, ?_⟩
    refine tk_n (due := 8) (by omega) (by omega) hB hA h8 fun M f1 q1 q2 => ?_
    refine hP _ _ _ _ _ ?_
    refine hP _ _ _ _ _ ?_
    refine hP _ _ _ _ _ ?_
    refine hP _ _ _ _ _ ?_
    refine hP _ _ _ _ _ ?_
    refine hP _ _ _ _ _ ⟨fun hz => absurd hz ( by decide), fun _ => ?_⟩
    refine hP _ _ _ _ _ ?_
    refine hP _ _ _ _ _ ⟨fun _ => ?_, fun hz => absurd ( rfl) hz⟩
    exact ends false _ M (f1.mono fun _ _ => S3_w) (cr_f hQ (ob_l (if_neg h8)) M (f1.mono fun _ _ => S3_w) q1 q2)
def k_X7_readTogether : zCt := fun as n mem Q => ∃ (k K t np pw : Nat) (T : zTS), as = [.ref 103, .ref (t + 2 + pw)] ∧ pw < 20 ∧ cP n mem T K t np pw ∧ qA mem T K k ∧ zs8 (mem.1 (t + 2 + pw) 1) ∧ cRes (cRw (t + 2 + pw) (fun b => b = 2)) n mem Q (ob (tkT T 9 k) fun k2 => nbT T 1 (pcI (mem.1 (t + 2 + pw) 1)) k2) (fun x M => qA M T K x.1 ∧ M.1 (t + 2 + pw) 2 = nI x.2)
theorem ok_X7_readTogether {l : Launch} {G : zG} : zOK l G yX7_readTogether cX7_readTogether 2 (some .boolean) 3 0 0 k_X7_readTogether := by
  intro as n mem Q hK
  obtain ⟨k, K, t, np, pw, T, rfl, hpw, hC, hA, hs8, hQ⟩ := hK
  refine mtX7_readTogether ok_X7_take (by decide) ok_J6_bitCount_0f7a4 (by decide) ok_X7_refuse (by decide) (List.forall_mem_cons.mpr ⟨rfl, List.forall_mem_cons.mpr ⟨rfl, fun _ h => absurd h List.not_mem_nil⟩⟩) (by simp) rfl (fun P hP => ?_)
  show P 0 [.ref 103, .ref (t + 2 + pw)] [] n mem
  have hB := hC.1
  obtain ⟨hn, hF⟩ := hB.1
  have hT := hC.2.1
  have hp8 : pcI (mem.1 (t + 2 + pw) 1) ≤ 8 := pcn_le _ 8
  by_cases h9 : (T k).1 = 9
  · rw [ob_r (tkT_y h9)] at hQ
    have tail : ∀ M, zfr S3 mem M → M.1 103 5 = mem.1 103 5 → qA M T K (k + 1) → ((T (k + 1)).1 = 2 → ¬ ((T (k + 1)).2.2 < 1 ∨ pcI (mem.1 (t + 2 + pw) 1) < (T (k + 1)).2.2)) → P 50 [.ref 103, .ref (t + 2 + pw)] [] n M := by
      intro M f1 q1 hA1 hok
      have hF := (cP_3 f1 hC).1.1.2
      have fw : zfr (cRw (t + 2 + pw) (fun b => b = 2)) mem (zI M (t + 2 + pw) 2 (M.1 103 4)) := (f1.mono fun _ _ => S3_w).I (Or.inr ⟨rfl, rfl⟩)
      have hB2 := (cP_fr hpw fw hC).1
      have hA2 : qA (zI M (t + 2 + pw) 2 (M.1 103 4)) T K (k + 1) := at_w (by omega) hA1
      by_cases h2 : (T (k + 1)).1 = 2
      ·
        refine hP _ _ _ _ _ ?_
        refine hP _ _ _ _ _ ?_
        refine hP _ _ _ _ _ ⟨(zi hn rfl rfl rfl), ?_⟩
        refine hP _ _ _ _ _ ⟨(ztP hn hT hpw), ?_⟩
        refine hP _ _ _ _ _ ?_
        refine hP _ _ _ _ _ ?_
        refine hP _ _ _ _ _ ⟨(zi hn rfl rfl rfl), Nat.le_of_ble_eq_true rfl, Nat.le_of_ble_eq_true rfl, ?_⟩
        refine tk_y (due := 2) (by omega) (by omega) hB2 hA2 h2 fun M3 f3 q3 hA3 => ?_
        refine hP _ _ _ _ _ ?_
        exact ⟨by decide, rfl, cr_t (a := (k + 2, (T (k + 1)).2.2)) hQ (by unfold nbT; rw [if_neg (fun z => z h2), if_neg (hok h2)]) M3 (rw_tr fw f3) (q3.trans (by rw [zI_ne (by omega)]; exact q1)) ⟨hA3, by rw [f3.1 (t + 2 + pw) 2 (by unfold S3; omega), zI_s]; exact hA1.2.2.2 h2⟩⟩
      ·
        refine hP _ _ _ _ _ ?_
        refine hP _ _ _ _ _ ?_
        refine hP _ _ _ _ _ ⟨(zi hn rfl rfl rfl), ?_⟩
        refine hP _ _ _ _ _ ⟨(ztP hn hT hpw), ?_⟩
        refine hP _ _ _ _ _ ?_
        refine hP _ _ _ _ _ ?_
        refine hP _ _ _ _ _ ⟨(zi hn rfl rfl rfl), Nat.le_of_ble_eq_true rfl, Nat.le_of_ble_eq_true rfl, ?_⟩
        refine tk_n (due := 2) (by omega) (by omega) hB2 hA2 h2 fun M3 f3 q3 q4 => ?_
        refine hP _ _ _ _ _ ?_
        exact ⟨by decide, rfl, cr_f hQ (if_pos h2) M3 (rw_tr fw f3) q3 q4⟩
    refine hP _ _ _ _ _ ?_
    refine hP _ _ _ _ _ ?_
    refine hP _ _ _ _ _ ⟨(zi hn rfl rfl rfl), Nat.le_of_ble_eq_true rfl, Nat.le_of_ble_eq_true rfl, ?_⟩
    refine tk_y (due := 9) (by omega) (by omega) hB hA h9 fun M f1 q1 hA1 => ?_
    have hC1 := cP_3 f1 hC
    have hB1 := hC1.1
    have hF := hB1.1.2
    have ht := at_lt hB1 hA1.1
    have r1 : M.1 (t + 2 + pw) 1 = mem.1 (t + 2 + pw) 1 := f1.1 _ 1 (by unfold S3; omega)
    refine hP _ _ _ _ _ ⟨fun hz => absurd hz ( by decide), fun _ => ?_⟩
    refine hP _ _ _ _ _ ?_
    refine hP _ _ _ _ _ ⟨(zi hn rfl rfl rfl), _, hA1.2.2.1, (by omega), ?_⟩
    refine hP _ _ _ _ _ ?_
    refine hP _ _ _ _ _ ⟨ztk ht, ztc rfl rfl, fun h19 => ?_, fun h19 => ?_⟩
    ·
      have h2 : (T (k + 1)).1 = 2 := by have h19 : (T (k + 1)).1 + 2 = 4 := h19; omega
      have hv := hA1.2.2.2 h2
      have hv9 := hB.2.2 _ h2
      refine hP _ _ _ _ _ ?_
      refine hP _ _ _ _ _ ⟨(zi hn rfl rfl rfl), ?_⟩
      refine hP _ _ _ _ _ ?_
      refine hP _ _ _ _ _ ⟨fun h27 => ?_, fun h27 => ?_⟩
      ·
        refine hP _ _ _ _ _ ?_
        refine hP _ _ _ _ _ ?_
        refine hP _ _ _ _ _ ⟨(zi hn rfl rfl rfl), Nat.le_of_ble_eq_true rfl, Nat.le_of_ble_eq_true rfl, ?_⟩
        refine use_rf (w := 2) hB1 hA1 fun M2 f2 h5' h6' => ?_
        refine hP _ _ _ _ _ ?_
        first | exact ⟨by decide, rfl, cr_f hQ (by unfold nbT; rw [if_neg (fun z => z h2), if_pos (Or.inr (Nat.not_le.mp fun z => h41 (by rw [hv, r1]; exact nI_le z (by omega))))]) M2 ((f1.tr f2).mono fun _ _ => S3_w) h5' h6'⟩ | exact ⟨by decide, rfl, cr_f hQ (by unfold nbT; rw [if_neg (fun z => z h2), if_pos (Or.inl ((nI_ltI (b := 1) (by omega) (by omega)).mp (by rw [← hv]; exact h27)))]) M2 ((f1.tr f2).mono fun _ _ => S3_w) h5' h6'⟩
      ·
        refine hP _ _ _ _ _ ?_
        refine hP _ _ _ _ _ ⟨(zi hn rfl rfl rfl), ?_⟩
        refine hP _ _ _ _ _ ?_
        refine hP _ _ _ _ _ ⟨(ztP hn hT hpw), ?_⟩
        refine hP _ _ _ _ _ ⟨Nat.le_of_ble_eq_true rfl, Nat.le_of_ble_eq_true rfl, ?_⟩
        refine ⟨_, rfl, by rw [r1]; exact hs8, ?_⟩
        refine hP _ _ _ _ _ ⟨fun h41 => ?_, fun h41 => ?_⟩
        ·
          first | exact tail M f1 q1 hA1 (fun _ z => z.elim (fun y => h27 (by rw [hv]; exact nI_lt (b := 1) y (by omega))) (fun y => absurd ((nI_leI (by omega) (by omega)).mp (by rw [← hv, ← r1]; exact h41)) (Nat.not_le.mpr y))) | exact tail M f1 q1 hA1 (fun z => absurd (show (T (k + 1)).1 + 2 = 4 by omega) h19)
        ·
          refine hP _ _ _ _ _ ?_
          refine hP _ _ _ _ _ ?_
          refine hP _ _ _ _ _ ⟨(zi hn rfl rfl rfl), Nat.le_of_ble_eq_true rfl, Nat.le_of_ble_eq_true rfl, ?_⟩
          refine use_rf (w := 2) hB1 hA1 fun M2 f2 h5' h6' => ?_
          refine hP _ _ _ _ _ ?_
          first | exact ⟨by decide, rfl, cr_f hQ (by unfold nbT; rw [if_neg (fun z => z h2), if_pos (Or.inr (Nat.not_le.mp fun z => h41 (by rw [hv, r1]; exact nI_le z (by omega))))]) M2 ((f1.tr f2).mono fun _ _ => S3_w) h5' h6'⟩ | exact ⟨by decide, rfl, cr_f hQ (by unfold nbT; rw [if_neg (fun z => z h2), if_pos (Or.inl ((nI_ltI (b := 1) (by omega) (by omega)).mp (by rw [← hv]; exact h27)))]) M2 ((f1.tr f2).mono fun _ _ => S3_w) h5' h6'⟩
    ·
      first | exact tail M f1 q1 hA1 (fun _ z => z.elim (fun y => h27 (by rw [hv]; exact nI_lt (b := 1) y (by omega))) (fun y => absurd ((nI_leI (by omega) (by omega)).mp (by rw [← hv, ← r1]; exact h41)) (Nat.not_le.mpr y))) | exact tail M f1 q1 hA1 (fun z => absurd (show (T (k + 1)).1 + 2 = 4 by omega) h19)
  ·
    refine hP _ _ _ _ _ ?_
    refine hP _ _ _ _ _ ?_
    refine hP _ _ _ _ _ ⟨(zi hn rfl rfl rfl), Nat.le_of_ble_eq_true rfl, Nat.le_of_ble_eq_true rfl, ?_⟩
    refine tk_n (due := 9) (by omega) (by omega) hB hA h9 fun M f1 q1 q2 => ?_
    refine hP _ _ _ _ _ ⟨fun _ => ?_, fun hz => absurd ( rfl) hz⟩
    refine hP _ _ _ _ _ ?_
    refine hP _ _ _ _ _ ?_
    exact ⟨by decide, rfl, cr_f hQ (ob_l (if_neg h9)) M (f1.mono fun _ _ => S3_w) q1 q2⟩
theorem pcn6 {a : Int32} {v : Nat} (hv : v < 6) (h : bt a v = false) : pcn (a ||| 1 <<< (nI v &&& 31)) 6 = pcn a 6 + 1 := by rw [pcn_set (by omega) h 6 (by omega), if_pos hv]
def k_X7_readKinds : zCt := fun as n mem Q => ∃ (k K t np pw : Nat) (T : zTS), as = [.ref 103, .ref (t + 2 + pw)] ∧ pw < 20 ∧ cP n mem T K t np pw ∧ qA mem T K k ∧ mem.1 (t + 2 + pw) 3 = 0 ∧ cRes (cRw (t + 2 + pw) (fun b => b = 3)) n mem Q (ob (tkT T 10 k) fun k1 => ksT T k1) (fun h M => qA M T K h.1 ∧ M.1 (t + 2 + pw) 3 = h.2)
theorem ok_X7_readKinds {l : Launch} {G : zG} : zOK l G yX7_readKinds cX7_readKinds 4 (some .boolean) 3 0 0 k_X7_readKinds := by
  intro as n mem Q hK
  obtain ⟨k, K, t, np, pw, T, rfl, hpw, hC, hA, h0, hQ⟩ := hK
  refine mtX7_readKinds ok_X7_take (by decide) ok_X7_refuse (by decide) ok_X10_has (by decide) (List.forall_mem_cons.mpr ⟨rfl, List.forall_mem_cons.mpr ⟨rfl, fun _ h => absurd h List.not_mem_nil⟩⟩) (by simp) rfl (fun P hP => ?_)
  show P 0 [.ref 103, .ref (t + 2 + pw), .null, .null] [] n mem
  have hB := hC.1
  have hn := hB.1.1
  have hT := hC.2.1
  have ends : ∀ (g : Bool) v3 M, Q (some (.int (zb g))) n M → P 108 [.ref 103, .ref (t + 2 + pw), .int (zb g), v3] [] n M := by
    intro g v3 M h
    refine hP _ _ _ _ _ ?_
    refine hP _ _ _ _ _ ?_
    exact ⟨by cases g <;> decide, rfl, h⟩
  have loop : ∀ f i k a M, i + f = 9 → pcn a 6 = i → (i = 0 → (T k).1 = 2) → zfr (cRw (t + 2 + pw) (fun b => b = 3)) mem M → qA M T K k → M.1 103 5 = mem.1 103 5 → M.1 (t + 2 + pw) 3 = a → cRes (cRw (t + 2 + pw) (fun b => b = 3)) n mem Q (kdT T f k a) (fun h M => qA M T K h.1 ∧ M.1 (t + 2 + pw) 3 = h.2) → P 10 [.ref 103, .ref (t + 2 + pw), .int 1, .int (nI i)] [] n M := by
    intro f
    induction f with
    | zero => intro i k a M hi hpc; have := pcn_le a 6; omega
    | succ f ih =>
      intro i k a M hi hpc h02 fM hA m5 ma hQ
      have hpc6 := pcn_le a 6
      have hC1 := cP_fr hpw fM hC
      have hB1 := hC1.1
      have hF := hB1.1.2
      have ht := at_lt hB1 hA.1
      rw [kdT] at hQ
      by_cases h2 : (T k).1 = 2
      · have hv := hA.2.2.2 h2
        have hv9 := hB.2.2 _ h2
        rw [if_neg (fun z => z h2)] at hQ
        have body : P 34 [.ref 103, .ref (t + 2 + pw), .int 1, .int (nI i)] [] n M := by
          refine hP _ _ _ _ _ ?_
          refine hP _ _ _ _ _ ⟨(zi hn rfl rfl rfl), _, hA.2.2.1, (by omega), ?_⟩
          refine hP _ _ _ _ _ ?_
          refine hP _ _ _ _ _ ⟨ztk ht, ztc rfl rfl, fun _ => ?_, fun hz => absurd ( by show (T k).1 + 2 = 4; omega) hz⟩
          refine hP _ _ _ _ _ ?_
          refine hP _ _ _ _ _ ⟨(zi hn rfl rfl rfl), ?_⟩
          refine hP _ _ _ _ _ ?_
          refine hP _ _ _ _ _ ⟨fun h50 => ?_, fun h50 => ?_⟩
          ·
            have hlt : (T k).2.2 < 6 := (nI_ltI (by omega) (by omega)).mp (by rw [← hv]; exact h50)
            rw [if_neg (Nat.not_le.mpr hlt)] at hQ
            refine hP _ _ _ _ _ ?_
            refine hP _ _ _ _ _ ⟨(ztP hn hT hpw), ?_⟩
            refine hP _ _ _ _ _ ?_
            refine hP _ _ _ _ _ ⟨(zi hn rfl rfl rfl), ?_⟩
            refine hP _ _ _ _ _ ⟨Nat.le_of_ble_eq_true rfl, Nat.le_of_ble_eq_true rfl, ?_⟩
            refine ⟨a, (T k).2.2, by rw [← ma, ← hv]; rfl, by omega, ?_⟩
            refine hP _ _ _ _ _ ⟨fun h70 => ?_, fun h70 => ?_⟩
            ·
              have h70 := zb_0.mp h70
              rw [if_neg (by rw [h70]; decide)] at hQ
              refine hP _ _ _ _ _ ?_
              refine hP _ _ _ _ _ ?_
              refine hP _ _ _ _ _ ⟨(ztP hn hT hpw), ?_⟩
              refine hP _ _ _ _ _ ?_
              refine hP _ _ _ _ _ ?_
              refine hP _ _ _ _ _ ⟨(zi hn rfl rfl rfl), ?_⟩
              refine hP _ _ _ _ _ ?_
              refine hP _ _ _ _ _ ?_
              refine hP _ _ _ _ _ ⟨(ztP hn hT hpw), ?_⟩
              show P 94 [.ref 103, .ref (t + 2 + pw), .int 1, .int (nI i)] [] n (zI M (t + 2 + pw) 3 (M.1 (t + 2 + pw) 3 ||| 1 <<< (M.1 103 4 &&& 31)))
              refine hP _ _ _ _ _ ?_
              refine hP _ _ _ _ _ ?_
              refine hP _ _ _ _ _ ⟨(zi hn rfl rfl rfl), Nat.le_of_ble_eq_true rfl, Nat.le_of_ble_eq_true rfl, ?_⟩
              have fw : zfr (cRw (t + 2 + pw) (fun b => b = 3)) mem (zI M (t + 2 + pw) 3 (M.1 (t + 2 + pw) 3 ||| 1 <<< (M.1 103 4 &&& 31))) := fM.I (Or.inr ⟨rfl, rfl⟩)
              refine tk_y (due := 2) (by omega) (by omega) (cP_fr hpw fw hC).1 (at_w (by omega) hA) h2 fun M3 f3 q3 hA3 => ?_
              refine hP _ _ _ _ _ ?_
              refine hP _ _ _ _ _ ?_
              refine hP _ _ _ _ _ ?_
              have ih1 := ih (i + 1) (k + 1) (a ||| 1 <<< (nI (T k).2.2 &&& 31)) M3 (by omega) (by rw [pcn6 hlt h70, hpc]) (fun z => by omega) (rw_tr fw f3) hA3 (q3.trans (by rw [zI_ne (by omega)]; exact m5)) (by rw [f3.1 (t + 2 + pw) 3 (by unfold S3; omega), zI_s, ma, hv]) hQ
              rw [nI_succ i] at ih1
              exact ih1
            ·
              have h70 := zb_n.mp h70
              refine hP _ _ _ _ _ ?_
              refine hP _ _ _ _ _ ?_
              refine hP _ _ _ _ _ ⟨(zi hn rfl rfl rfl), Nat.le_of_ble_eq_true rfl, Nat.le_of_ble_eq_true rfl, ?_⟩
              refine use_rf (w := 3) hB1 hA fun M2 f2 h5' h6' => ?_
              refine hP _ _ _ _ _ ?_
              exact ⟨by decide, rfl, cr_f hQ (if_pos h70) M2 (rw_tr fM f2) h5' h6'⟩
          ·
            refine hP _ _ _ _ _ ?_
            refine hP _ _ _ _ _ ?_
            refine hP _ _ _ _ _ ⟨(zi hn rfl rfl rfl), Nat.le_of_ble_eq_true rfl, Nat.le_of_ble_eq_true rfl, ?_⟩
            refine use_rf (w := 2) hB1 hA fun M2 f2 h5' h6' => ?_
            refine hP _ _ _ _ _ ?_
            exact ⟨by decide, rfl, cr_f hQ (if_pos (Nat.not_lt.mp fun z => h50 (by rw [hv]; exact nI_lt (b := 6) z (by omega)))) M2 (rw_tr fM f2) h5' h6'⟩
        refine hP _ _ _ _ _ ?_
        refine hP _ _ _ _ _ ?_
        refine hP _ _ _ _ _ ⟨fun hz => absurd hz ( nI_nlt (a := 6) (by omega) (by omega)), fun _ => ?_⟩
        refine hP _ _ _ _ _ ?_
        refine hP _ _ _ _ _ ⟨fun hz => absurd hz ( by decide), fun _ => ?_⟩
        refine hP _ _ _ _ _ ?_
        refine hP _ _ _ _ _ ⟨fun h21 => ?_, fun h21 => ?_⟩
        ·
          exact body
        ·
          refine hP _ _ _ _ _ ?_
          refine hP _ _ _ _ _ ⟨(zi hn rfl rfl rfl), _, hA.2.2.1, (by omega), ?_⟩
          refine hP _ _ _ _ _ ?_
          refine hP _ _ _ _ _ ⟨ztk ht, ztc rfl rfl, fun _ => ?_, fun hz => absurd ( by show (T k).1 + 2 = 4; omega) hz⟩
          exact body
      · have i0 : 0 < i := Nat.pos_of_ne_zero fun z => h2 (h02 z)
        refine hP _ _ _ _ _ ?_
        refine hP _ _ _ _ _ ?_
        refine hP _ _ _ _ _ ⟨fun hz => absurd hz ( nI_nlt (a := 6) (by omega) (by omega)), fun _ => ?_⟩
        refine hP _ _ _ _ _ ?_
        refine hP _ _ _ _ _ ⟨fun hz => absurd hz ( by decide), fun _ => ?_⟩
        refine hP _ _ _ _ _ ?_
        refine hP _ _ _ _ _ ⟨fun hz => absurd hz ( nI_ne0 i0 (by omega)), fun _ => ?_⟩
        refine hP _ _ _ _ _ ?_
        refine hP _ _ _ _ _ ⟨(zi hn rfl rfl rfl), _, hA.2.2.1, (by omega), ?_⟩
        refine hP _ _ _ _ _ ?_
        refine hP _ _ _ _ _ ⟨ztk ht, ztc rfl rfl, fun hz => absurd hz ( fun z => h2 (by have z : (T k).1 + 2 = 4 := z; omega)), fun _ => ?_⟩
        exact ends true _ M (cr_t hQ (if_pos h2) M fM m5 ⟨hA, ma⟩)
  have hF := hB.1.2
  by_cases h8 : (T k).1 = 10
  · rw [ob_r (tkT_y h8)] at hQ
    by_cases h2 : (T (k + 1)).1 = 2
    · unfold ksT at hQ
      rw [if_neg (fun z => z h2)] at hQ
      refine hP _ _ _ _ _ ?_
      refine hP _ _ _ _ _ ?_
      refine hP _ _ _ _ _ ⟨(zi hn rfl rfl rfl), Nat.le_of_ble_eq_true rfl, Nat.le_of_ble_eq_true rfl, ?_⟩
      refine tk_y (due := 10) (by omega) (by omega) hB hA h8 fun M f1 q1 hA1 => ?_
      refine hP _ _ _ _ _ ?_
      refine hP _ _ _ _ _ ?_
      refine hP _ _ _ _ _ ?_
      exact loop 9 0 (k + 1) 0 M (by omega) rfl (fun _ => h2) (f1.mono fun _ _ => S3_w) hA1 q1 ((f1.1 (t + 2 + pw) 3 (by unfold S3; omega)).trans h0) hQ
    ·
      refine hP _ _ _ _ _ ?_
      refine hP _ _ _ _ _ ?_
      refine hP _ _ _ _ _ ⟨(zi hn rfl rfl rfl), Nat.le_of_ble_eq_true rfl, Nat.le_of_ble_eq_true rfl, ?_⟩
      refine tk_y (due := 10) (by omega) (by omega) hB hA h8 fun M f1 q1 hA1 => ?_
      have hC1 := cP_3 f1 hC
      have hB1 := hC1.1
      have hF := hB1.1.2
      have ht := at_lt hB1 hA1.1
      refine hP _ _ _ _ _ ?_
      refine hP _ _ _ _ _ ?_
      refine hP _ _ _ _ _ ?_
      refine hP _ _ _ _ _ ?_
      refine hP _ _ _ _ _ ?_
      refine hP _ _ _ _ _ ⟨fun hz => absurd hz ( by decide), fun _ => ?_⟩
      refine hP _ _ _ _ _ ?_
      refine hP _ _ _ _ _ ⟨fun hz => absurd hz ( by decide), fun _ => ?_⟩
      refine hP _ _ _ _ _ ?_
      refine hP _ _ _ _ _ ⟨fun _ => ?_, fun hz => absurd ( rfl) hz⟩
      refine hP _ _ _ _ _ ?_
      refine hP _ _ _ _ _ ⟨(zi hn rfl rfl rfl), _, hA1.2.2.1, (by omega), ?_⟩
      refine hP _ _ _ _ _ ?_
      refine hP _ _ _ _ _ ⟨ztk ht, ztc rfl rfl, fun hz => absurd hz ( fun z => h2 (by have z : (T (k + 1)).1 + 2 = 4 := z; omega)), fun _ => ?_⟩
      refine hP _ _ _ _ _ ?_
      refine hP _ _ _ _ _ ?_
      refine hP _ _ _ _ _ ⟨(zi hn rfl rfl rfl), Nat.le_of_ble_eq_true rfl, Nat.le_of_ble_eq_true rfl, ?_⟩
      refine tk_n (due := 2) (by omega) (by omega) hB1 hA1 h2 fun M3 f3 q3 q4 => ?_
      refine hP _ _ _ _ _ ?_
      refine hP _ _ _ _ _ ?_
      refine hP _ _ _ _ _ ?_
      refine hP _ _ _ _ _ ?_
      refine hP _ _ _ _ _ ?_
      refine hP _ _ _ _ _ ⟨fun hz => absurd hz (by decide), fun _ => ?_⟩
      refine hP _ _ _ _ _ ?_
      refine hP _ _ _ _ _ ⟨fun _ => ?_, fun hz => absurd rfl hz⟩
      exact ends false _ M3 (cr_f hQ (if_pos h2) M3 ((f1.mono fun _ _ => S3_w).tr (f3.mono fun _ _ => S3_w)) q3 q4)
  ·
    refine hP _ _ _ _ _ ?_
    refine hP _ _ _ _ _ ?_
    refine hP _ _ _ _ _ ⟨(zi hn rfl rfl rfl), Nat.le_of_ble_eq_true rfl, Nat.le_of_ble_eq_true rfl, ?_⟩
    refine tk_n (due := 10) (by omega) (by omega) hB hA h8 fun M f1 q1 q2 => ?_
    refine hP _ _ _ _ _ ?_
    refine hP _ _ _ _ _ ?_
    refine hP _ _ _ _ _ ?_
    refine hP _ _ _ _ _ ?_
    refine hP _ _ _ _ _ ?_
    refine hP _ _ _ _ _ ⟨fun hz => absurd hz ( by decide), fun _ => ?_⟩
    refine hP _ _ _ _ _ ?_
    refine hP _ _ _ _ _ ⟨fun _ => ?_, fun hz => absurd ( rfl) hz⟩
    exact ends false _ M (cr_f hQ (ob_l (if_neg h8)) M (f1.mono fun _ _ => S3_w) q1 q2)
