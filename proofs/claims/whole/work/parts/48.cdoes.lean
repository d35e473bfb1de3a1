/-- an act is put down, before it is judged -/
def actP (mem : zM) (m x : Nat) (ps pt th kd am : Int32) : zM := zI (zI (zI (zI (cput (zI (zI (zI (zI (zI mem x 0 ps) x 1 pt) x 2 th) x 3 kd) x 4 am) m) x 5 (nI (m + 1))) x 6 (mem.1 108 6)) x 7 (-1)) x 8 (-1)
def sP (x a b : Nat) : Prop := (a = x ∧ b < 9) ∨ (a = 108 ∧ b = 5) ∨ a = 109 ∨ a = 110
theorem actP_fr {mem : zM} {m x : Nat} {ps pt th kd am : Int32} : zfr (sP x) mem (actP mem m x ps pt th kd am) := by
  unfold actP cput
  refine zfr.I (zfr.I (zfr.I (zfr.I (zfr.I (zfr.I (zfr.I (zfr.I (zfr.I (zfr.I (zfr.I (zfr.I zfr.rf ?_) ?_) ?_) ?_) ?_) ?_) ?_) ?_) ?_) ?_) ?_) ?_ <;> first | exact Or.inl ⟨rfl, by omega⟩ | exact Or.inr (Or.inl ⟨rfl, rfl⟩) | exact Or.inr (Or.inr (Or.inl rfl)) | exact Or.inr (Or.inr (Or.inr rfl))
theorem zFx_P {M m : zM} {x : Nat} (h : zfr (sP x) M m) (hx : 120 ≤ x ∧ x < 136) (hF : zFx M) : zFx m := by
  have e : ∀ a b, ¬ sP x a b → m.2.2 a b = M.2.2 a b := h.2.2
  have hl : ∀ q ∈ zfxl, ¬ ((120 ≤ q.1 ∧ q.1 < 136) ∨ (q.1 = 108 ∧ q.2.1 = 5) ∨ q.1 = 109 ∨ q.1 = 110) := by decide +kernel
  refine ⟨fun q hq => (e _ _ (fun z => hl q hq (by unfold sP at z; omega))).trans (hF.1 q hq), fun p hp => ?_, fun a ha => ?_, ?_⟩
  · rw [e 137 p (by unfold sP; omega), e 159 p (by unfold sP; omega)]; exact hF.2.1 p hp
  · rw [e 119 a (by unfold sP; omega)]; exact hF.2.2.1 a ha
  · rw [e 100 8 (by unfold sP; omega), e 100 9 (by unfold sP; omega)]; exact hF.2.2.2
theorem tl_frP {mem M : zM} {x t np pw : Nat} (h : zfr (sP x) mem M) (hx : 120 ≤ x ∧ x < 136) (hTl : zTl mem t np pw) : zTl M t np pw ∧ (zUc mem t pw → zUc M t pw) := by
  obtain ⟨hT, hnp, hnp8, hpw, hw, hPs⟩ := hTl
  have row : ∀ a, a ≠ 108 → a ≠ 109 → a ≠ 110 → a ≠ x → M.1 a = mem.1 a := fun a h0 h1 h2 h3 => by funext b; exact h.1 a b (by unfold sP; omega)
  refine ⟨⟨hT, ?_, hnp8, ?_, hw, fun p hp => ?_⟩, fun hU p hp => ?_⟩
  · rw [row t (by omega) (by omega) (by omega) (by omega)]; exact hnp
  · rw [row t (by omega) (by omega) (by omega) (by omega)]; exact hpw
  · rw [row (t + 2 + p) (by omega) (by omega) (by omega) (by omega)]; exact hPs p hp
  · rw [row (t + 2 + p) (by omega) (by omega) (by omega) (by omega)]; exact hU p hp
def C_does (mem : zM) (t np pw : Nat) (ps pt th kd am : Int32) (m na : Nat) (Q : Int32 → zM → Prop) : Prop :=
  if (mayC mem t ps pt && (kdC kd && amC am)) = false ∨ inC th (mem.1 t 1) = false ∨ th = pt ∨ bt ps (ix th) = true ∨ cfull mem = true ∨ ¬ mem.1 100 6 < 16 then Q (-1) mem
  else if ¬ (ps ||| 1 <<< (pt &&& 31) ||| 1 <<< (th &&& 31)) &&& deadM (mem.1 113) (mem.1 108 5) 8 = 0 then Q (-2) mem
  else ∀ A M, A = actP mem m (120 + na) ps pt th kd am → zfr (sX (120 + na)) A M → M.1 (120 + na) 11 = opN A t pw (ix kd) am (-1) → M.1 (120 + na) 9 = hwC A t np pw (ix kd) am th ps pt → M.1 (120 + na) 10 = udC A t np pw (ix kd) am th ps pt → Q (nI na) (zI M 100 6 (nI (na + 1)))
def k_X10_does : zCt := fun as n mem Q => ∃ (ps pt th kd am : Int32) (t np pw m na : Nat), as = [.ref 100, .int ps, .int pt, .int th, .int kd, .int am] ∧ zCs n mem t np pw m na ∧ C_does mem t np pw ps pt th kd am m na (fun r mem => Q (some (.int r)) n mem)
theorem ok_X10_does {l : Launch} {G : zG} : zOK l G yX10_does cX10_does 8 (some .int) 6 0 0 k_X10_does := by
  intro as n mem Q hK
  obtain ⟨ps, pt, th, kd, am, t, np, pw, m, na, rfl, hC, hQ⟩ := hK
  refine mtX10_does ok_X10_mayActFor (by decide) ok_X10_isKind (by decide) ok_X10_isAmount (by decide) ok_X10_isParty (by decide) ok_X10_has (by decide) ok_X4_isFull (by decide) ok_X4_deadBy (by decide) ok_X4_putDown (by decide) ok_X10_judgeNow (by decide) (List.forall_mem_cons.mpr ⟨rfl, List.forall_mem_cons.mpr ⟨rfl, List.forall_mem_cons.mpr ⟨rfl, List.forall_mem_cons.mpr ⟨rfl, List.forall_mem_cons.mpr ⟨rfl, List.forall_mem_cons.mpr ⟨rfl, fun _ h => absurd h List.not_mem_nil⟩⟩⟩⟩⟩⟩) (by simp) rfl (fun P hP => ?_)
  show P 0 [.ref 100, .int ps, .int pt, .int th, .int kd, .int am, .null, .null] [] n mem
  obtain ⟨⟨hn, hF⟩, ht, hTl, hU, ⟨hm, hN⟩, hna, hna16⟩ := id hC
  obtain ⟨hT, hnp, hnp8, hpw, hw, hPs⟩ := id hTl
  unfold C_does at hQ
  refine hP _ _ _ _ _ ?_
  refine hP _ _ _ _ _ ?_
  refine hP _ _ _ _ _ ?_
  refine hP _ _ _ _ _ ⟨(zi hn rfl rfl rfl), Nat.le_of_ble_eq_true rfl, Nat.le_of_ble_eq_true rfl, ?_⟩
  refine ⟨_, _, t, np, rfl, ⟨hn, hF⟩, ⟨ht, hT⟩, hnp, hnp8, ?_⟩
  rw [show (inC pt (mem.1 t 1) && (!decide (ps ≤ 0) && (!decide ((1 <<< (mem.1 t 1 &&& 31)) ≤ ps) && (decide (ps &&& mem.1 t 3 = 0) && !bt ps (ix pt))))) = mayC mem t ps pt from rfl]
  refine hP _ _ _ _ _ ⟨fun h6 => ?_, fun h6 => ?_⟩
  ·
    have h6 := zb_0.mp h6
    refine hP _ _ _ _ _ ?_
    refine hP _ _ _ _ _ ?_
    exact ⟨rfl, by rw [if_pos (Or.inl (by simp [h6]))] at hQ; exact hQ⟩
  ·
    have h6 := zb_n.mp h6
    refine hP _ _ _ _ _ ?_
    refine hP _ _ _ _ _ ⟨Nat.le_of_ble_eq_true rfl, Nat.le_of_ble_eq_true rfl, ?_⟩
    refine ⟨_, rfl, ?_⟩
    rw [show decide (¬ kd < 0 ∧ ¬ 6 ≤ kd) = kdC kd from rfl]
    refine hP _ _ _ _ _ ⟨fun h14 => ?_, fun h14 => ?_⟩
    ·
      have h14 := zb_0.mp h14
      refine hP _ _ _ _ _ ?_
      refine hP _ _ _ _ _ ?_
      exact ⟨rfl, by rw [if_pos (Or.inl (by simp [h6, h14]))] at hQ; exact hQ⟩
    ·
      have h14 := zb_n.mp h14
      refine hP _ _ _ _ _ ?_
      refine hP _ _ _ _ _ ⟨Nat.le_of_ble_eq_true rfl, Nat.le_of_ble_eq_true rfl, ?_⟩
      refine ⟨_, rfl, ?_⟩
      rw [show decide (¬ am < 0 ∧ ¬ 999 < am) = amC am from rfl]
      refine hP _ _ _ _ _ ⟨fun h22 => ?_, fun h22 => ?_⟩
      ·
        have h22 := zb_0.mp h22
        refine hP _ _ _ _ _ ?_
        refine hP _ _ _ _ _ ?_
        exact ⟨rfl, by rw [if_pos (Or.inl (by simp [h6, h14, h22]))] at hQ; exact hQ⟩
      ·
        have h22 := zb_n.mp h22
        refine hP _ _ _ _ _ ?_
        refine hP _ _ _ _ _ ?_
        refine hP _ _ _ _ _ ⟨(zi hn rfl rfl rfl), Nat.le_of_ble_eq_true rfl, Nat.le_of_ble_eq_true rfl, ?_⟩
        refine ⟨_, t, rfl, ⟨hn, hF⟩, ⟨ht, hT⟩, ?_⟩
        refine hP _ _ _ _ _ ⟨fun h32 => ?_, fun h32 => ?_⟩
        ·
          have h32 := zb_0.mp h32
          refine hP _ _ _ _ _ ?_
          refine hP _ _ _ _ _ ?_
          exact ⟨rfl, by rw [if_pos (by first | exact Or.inr (Or.inl h32) | exact Or.inr (Or.inr (Or.inl h37)) | exact Or.inr (Or.inr (Or.inr (Or.inl (by rw [hxq]; exact h45)))) | exact Or.inr (Or.inr (Or.inr (Or.inr (Or.inl h55)))) | exact Or.inr (Or.inr (Or.inr (Or.inr (Or.inr h64)))))] at hQ; exact hQ⟩
        ·
          have h32 := zb_n.mp h32
          obtain ⟨q, hq, rfl⟩ := inC_nI (by omega) (hnp ▸ h32)
          have hxq := ix_nI (j := q) (by omega)
          refine hP _ _ _ _ _ ?_
          refine hP _ _ _ _ _ ?_
          refine hP _ _ _ _ _ ⟨fun h37 => ?_, fun h37 => ?_⟩
          ·
            refine hP _ _ _ _ _ ?_
            refine hP _ _ _ _ _ ?_
            exact ⟨rfl, by rw [if_pos (by first | exact Or.inr (Or.inl h32) | exact Or.inr (Or.inr (Or.inl h37)) | exact Or.inr (Or.inr (Or.inr (Or.inl (by rw [hxq]; exact h45)))) | exact Or.inr (Or.inr (Or.inr (Or.inr (Or.inl h55)))) | exact Or.inr (Or.inr (Or.inr (Or.inr (Or.inr h64)))))] at hQ; exact hQ⟩
          ·
            refine hP _ _ _ _ _ ?_
            refine hP _ _ _ _ _ ?_
            refine hP _ _ _ _ _ ⟨Nat.le_of_ble_eq_true rfl, Nat.le_of_ble_eq_true rfl, ?_⟩
            refine ⟨_, q, rfl, by omega, ?_⟩
            refine hP _ _ _ _ _ ⟨fun h45 => ?_, fun h45 => ?_⟩
            ·
              have h45 := zb_0.mp h45
              refine hP _ _ _ _ _ ?_
              refine hP _ _ _ _ _ ⟨(zi hn rfl rfl rfl), _, fx_Book_log hF, (by decide), ?_⟩
              refine hP _ _ _ _ _ ⟨(zi hn rfl rfl rfl), Nat.le_of_ble_eq_true rfl, Nat.le_of_ble_eq_true rfl, ?_⟩
              refine ⟨rfl, ⟨hn, hF⟩, ?_⟩
              refine hP _ _ _ _ _ ⟨fun h55 => ?_, fun h55 => ?_⟩
              ·
                have h55 := zb_0.mp h55
                refine hP _ _ _ _ _ ?_
                refine hP _ _ _ _ _ ⟨(zi hn rfl rfl rfl), ?_⟩
                refine hP _ _ _ _ _ ?_
                refine hP _ _ _ _ _ ⟨fun h64 => ?_, fun h64 => ?_⟩
                ·
                  rw [if_neg (fun z => z.elim (fun y => by rw [h6, h14, h22] at y; cases y) (fun y => y.elim (fun y => by rw [h32] at y; cases y) (fun y => y.elim h37 (fun y => y.elim (fun y => by rw [hxq, h45] at y; cases y) (fun y => y.elim (fun y => by rw [h55] at y; cases y) (fun y => y h64))))))] at hQ
                  refine hP _ _ _ _ _ ?_
                  refine hP _ _ _ _ _ ?_
                  refine hP _ _ _ _ _ ?_
                  refine hP _ _ _ _ _ ?_
                  refine hP _ _ _ _ _ ?_
                  refine hP _ _ _ _ _ ?_
                  refine hP _ _ _ _ _ ?_
                  refine hP _ _ _ _ _ ?_
                  refine hP _ _ _ _ _ ?_
                  refine hP _ _ _ _ _ ?_
                  refine hP _ _ _ _ _ ?_
                  refine hP _ _ _ _ _ ?_
                  refine hP _ _ _ _ _ ⟨(zi hn rfl rfl rfl), _, fx_Book_log hF, (by decide), ?_⟩
                  refine hP _ _ _ _ _ ?_
                  refine hP _ _ _ _ _ ⟨(zi hn rfl rfl rfl), _, fx_Book_log hF, (by decide), ?_⟩
                  refine hP _ _ _ _ _ ⟨(zi hn rfl rfl rfl), ?_⟩
                  refine hP _ _ _ _ _ ⟨(zi hn rfl rfl rfl), Nat.le_of_ble_eq_true rfl, Nat.le_of_ble_eq_true rfl, ?_⟩
                  refine ⟨_, rfl, ⟨hn, hF⟩, ?_⟩
                  refine hP _ _ _ _ _ ?_
                  refine hP _ _ _ _ _ ⟨fun h97 => ?_, fun h97 => ?_⟩
                  ·
                    rw [if_neg (fun z => z h97)] at hQ
                    have hm3 := cfull_m hm hN.1 h55
                    have hna3 : na < 16 := by rcases Nat.lt_or_ge na 16 with z | z; exact z; exact absurd h64 (by rw [hna]; exact nI_nlt (b := 16) z (by omega))
                    have n109 : ¬ 120 + na = 109 := by omega
                    have n110 : ¬ 120 + na = 110 := by omega
                    have n108 : ¬ 108 = 120 + na := by omega
                    have hx2 : 120 ≤ 120 + na ∧ 120 + na < 136 := by omega
                    obtain ⟨c, hc, rfl⟩ := kdC_in h14
                    have fA := actP_fr (mem := mem) (m := m) (x := 120 + na) (ps := ps) (pt := pt) (th := nI q) (kd := nI c) (am := am)
                    have hFA := zFx_P fA hx2 hF
                    have hTA := tl_frP fA hx2 hTl
                    have htA : (actP mem m (120 + na) ps pt (nI q) (nI c) am).2.2 100 8 = t := (fA.2.2 100 8 (by unfold sP; omega)).trans ht
                    have hAn : (actP mem m (120 + na) ps pt (nI q) (nI c) am).1 100 6 = nI na := (fA.1 100 6 (by unfold sP; omega)).trans hna
                    have hAe : ∃ A, A = actP mem m (120 + na) ps pt (nI q) (nI c) am := ⟨_, rfl⟩
                    refine hP _ _ _ _ _ ?_
                    refine hP _ _ _ _ _ ⟨(zi hn rfl rfl rfl), _, fx_Book_acts hF, (by decide), ?_⟩
                    refine hP _ _ _ _ _ ?_
                    refine hP _ _ _ _ _ ⟨(zi hn rfl rfl rfl), ?_⟩
                    refine hP _ _ _ _ _ ⟨_, na, (zi hn rfl rfl rfl), hna, by omega, _, (fx_acts hF hna3), (by omega), ?_⟩
                    refine hP _ _ _ _ _ ?_
                    refine hP _ _ _ _ _ ?_
                    refine hP _ _ _ _ _ ?_
                    refine hP _ _ _ _ _ ⟨(ziA hn hna3), ?_⟩
                    refine hP _ _ _ _ _ ?_
                    refine hP _ _ _ _ _ ?_
                    refine hP _ _ _ _ _ ⟨(ziA hn hna3), ?_⟩
                    refine hP _ _ _ _ _ ?_
                    refine hP _ _ _ _ _ ?_
                    refine hP _ _ _ _ _ ⟨(ziA hn hna3), ?_⟩
                    refine hP _ _ _ _ _ ?_
                    refine hP _ _ _ _ _ ?_
                    refine hP _ _ _ _ _ ⟨(ziA hn hna3), ?_⟩
                    refine hP _ _ _ _ _ ?_
                    refine hP _ _ _ _ _ ?_
                    refine hP _ _ _ _ _ ⟨(ziA hn hna3), ?_⟩
                    refine hP _ _ _ _ _ ?_
                    refine hP _ _ _ _ _ ?_
                    refine hP _ _ _ _ _ ⟨(zi hn rfl rfl rfl), _, fx_Book_log hF, (by decide), ?_⟩
                    refine hP _ _ _ _ _ ⟨(zi hn rfl rfl rfl), Nat.le_of_ble_eq_true rfl, Nat.le_of_ble_eq_true rfl, ?_⟩
                    refine ⟨m, rfl, ⟨hn, hF⟩, by rw [zI_ne n108, zI_ne n108, zI_ne n108, zI_ne n108, zI_ne n108]; exact hm, hm3, ?_⟩
                    refine hP _ _ _ _ _ ⟨(ziA hn hna3), ?_⟩
                    refine hP _ _ _ _ _ ?_
                    refine hP _ _ _ _ _ ?_
                    refine hP _ _ _ _ _ ⟨(zi hn rfl rfl rfl), _, fx_Book_log hF, (by decide), ?_⟩
                    refine hP _ _ _ _ _ ⟨(zi hn rfl rfl rfl), ?_⟩
                    refine hP _ _ _ _ _ ⟨(ziA hn hna3), ?_⟩
                    refine hP _ _ _ _ _ ?_
                    refine hP _ _ _ _ _ ?_
                    refine hP _ _ _ _ _ ⟨(ziA hn hna3), ?_⟩
                    refine hP _ _ _ _ _ ?_
                    refine hP _ _ _ _ _ ?_
                    refine hP _ _ _ _ _ ⟨(ziA hn hna3), ?_⟩
                    obtain ⟨A, hA⟩ := hAe
                    have a0 : A.1 (120 + na) 0 = ps := by rw [hA]; unfold actP cput; simp [zI_at, n109, n110]
                    have a1 : A.1 (120 + na) 1 = pt := by rw [hA]; unfold actP cput; simp [zI_at, n109, n110]
                    have a2 : A.1 (120 + na) 2 = nI q := by rw [hA]; unfold actP cput; simp [zI_at, n109, n110]
                    have a3 : A.1 (120 + na) 3 = nI c := by rw [hA]; unfold actP cput; simp [zI_at, n109, n110]
                    have a4 : A.1 (120 + na) 4 = am := by rw [hA]; unfold actP cput; simp [zI_at, n109, n110]
                    rw [← hA] at fA hFA hTA htA hAn
                    have hQ := hQ A
                    have eA : ∀ (B : zM), B = actP mem m (120 + na) ps pt (nI q) (nI c) am → P 182 [.ref 100, .int ps, .int pt, .int (nI q), .int (nI c), .int am, .int (ps ||| 1 <<< (pt &&& 31) ||| 1 <<< (nI q &&& 31)), .ref (120 + na)] [] n A → P 182 [.ref 100, .int ps, .int pt, .int (nI q), .int (nI c), .int am, .int (ps ||| 1 <<< (pt &&& 31) ||| 1 <<< (nI q &&& 31)), .ref (120 + na)] [] n B := fun B hB h => by rw [hB, ← hA]; exact h
                    refine eA _ ?_ ?_
                    · unfold actP; congr 3; simp [cput, zI_at, n108]
                    refine hP _ _ _ _ _ ?_
                    refine hP _ _ _ _ _ ?_
                    refine hP _ _ _ _ _ ⟨(zi hn rfl rfl rfl), Nat.le_of_ble_eq_true rfl, Nat.le_of_ble_eq_true rfl, ?_⟩
                    refine ⟨120 + na, t, np, pw, c, q, rfl, hx2, ziA hn hna3, ⟨hn, hFA⟩, htA, hTA.1, hTA.2 hU, a3, by omega, a2, by omega, fun M fM g11 g9 g10 => ?_⟩
                    rw [a4] at g11 g9 g10
                    rw [a0, a1] at g9 g10
                    rw [ix_nI (j := c) (by omega)] at hQ
                    have hQ := hQ M hA fM g11 g9 g10
                    have hMn : M.1 100 6 = nI na := (fM.1 100 6 (by unfold sX sJ; omega)).trans hAn
                    have e1 : M.1 100 6 + 1 = nI (na + 1) := by rw [hMn]; exact nI_1 na
                    refine hP _ _ _ _ _ ?_
                    refine hP _ _ _ _ _ ?_
                    refine hP _ _ _ _ _ ⟨(zi hn rfl rfl rfl), ?_⟩
                    refine hP _ _ _ _ _ ?_
                    refine hP _ _ _ _ _ ?_
                    refine hP _ _ _ _ _ ⟨(zi hn rfl rfl rfl), ?_⟩
                    refine hP _ _ _ _ _ ?_
                    refine hP _ _ _ _ _ ⟨(zi hn rfl rfl rfl), ?_⟩
                    refine hP _ _ _ _ _ ?_
                    refine hP _ _ _ _ _ ?_
                    refine hP _ _ _ _ _ ?_
                    refine ⟨rfl, ?_⟩
                    rw [zI_s]
                    show Q (some (.int (M.1 100 6 + 1 - 1))) n (zI M 100 6 (M.1 100 6 + 1))
                    rw [e1, nI_pred]
                    exact hQ
                  ·
                    refine hP _ _ _ _ _ ?_
                    refine hP _ _ _ _ _ ?_
                    exact ⟨rfl, by rw [if_pos h97] at hQ; exact hQ⟩
                ·
                  refine hP _ _ _ _ _ ?_
                  refine hP _ _ _ _ _ ?_
                  exact ⟨rfl, by rw [if_pos (by first | exact Or.inr (Or.inl h32) | exact Or.inr (Or.inr (Or.inl h37)) | exact Or.inr (Or.inr (Or.inr (Or.inl (by rw [hxq]; exact h45)))) | exact Or.inr (Or.inr (Or.inr (Or.inr (Or.inl h55)))) | exact Or.inr (Or.inr (Or.inr (Or.inr (Or.inr h64)))))] at hQ; exact hQ⟩
              ·
                have h55 := zb_n.mp h55
                refine hP _ _ _ _ _ ?_
                refine hP _ _ _ _ _ ?_
                exact ⟨rfl, by rw [if_pos (by first | exact Or.inr (Or.inl h32) | exact Or.inr (Or.inr (Or.inl h37)) | exact Or.inr (Or.inr (Or.inr (Or.inl (by rw [hxq]; exact h45)))) | exact Or.inr (Or.inr (Or.inr (Or.inr (Or.inl h55)))) | exact Or.inr (Or.inr (Or.inr (Or.inr (Or.inr h64)))))] at hQ; exact hQ⟩
            ·
              have h45 := zb_n.mp h45
              refine hP _ _ _ _ _ ?_
              refine hP _ _ _ _ _ ?_
              exact ⟨rfl, by rw [if_pos (by first | exact Or.inr (Or.inl h32) | exact Or.inr (Or.inr (Or.inl h37)) | exact Or.inr (Or.inr (Or.inr (Or.inl (by rw [hxq]; exact h45)))) | exact Or.inr (Or.inr (Or.inr (Or.inr (Or.inl h55)))) | exact Or.inr (Or.inr (Or.inr (Or.inr (Or.inr h64)))))] at hQ; exact hQ⟩
