def cAt (M : zM) (np pw q : Nat) (ps kd am : Int32) : Bool := !decide (canN M np pw q ps kd am = -1)
def k_X11_upTo : zCt := fun as n mem Q => ∃ (ps pt kd : Int32) (np pw m na : Nat), as = [.ref 180, .int ps, .int pt, .int kd] ∧ zst n mem ∧ (fun mem : zM => zMi n mem np pw m na ∧
    (if askedM (mem.1 180) ps pt kd 0 = false then Q (some (.int (-1))) n mem
     else (cAt (zNow mem np pw m) np pw (ix pt) ps kd 0 = false → ∀ V, zfr sV mem V → Q (some (.int (-2))) n V) ∧
       (cAt (zNow mem np pw m) np pw (ix pt) ps kd 0 = true → ∀ a, a < 1000 → cAt (zNow mem np pw m) np pw (ix pt) ps kd (nI a) = true → (a + 1 = 1000 ∨ cAt (zNow mem np pw m) np pw (ix pt) ps kd (nI (a + 1)) = false) → ∀ V, zfr sV mem V → Q (some (.int (nI a))) n V))) (zI mem 180 0 0)
theorem ok_X11_upTo {l : Launch} {G : zG} : zOK l G yX11_upTo cX11_upTo 7 (some .int) 11 0 0 k_X11_upTo := by
  intro as n mem Q hK
  obtain ⟨ps, pt, kd, np, pw, m, na, rfl, ⟨hn, hF⟩, hQ⟩ := hK
  refine mtX11_upTo ok_X11_isAsked (by decide) ok_X11_seesNow (by decide) ok_X11_can0 (by decide) (List.forall_mem_cons.mpr ⟨rfl, List.forall_mem_cons.mpr ⟨rfl, List.forall_mem_cons.mpr ⟨rfl, List.forall_mem_cons.mpr ⟨rfl, fun _ h => absurd h List.not_mem_nil⟩⟩⟩⟩) (by simp) rfl (fun P hP => ?_)
  show P 0 [.ref 180, .int ps, .int pt, .int kd, .null, .null, .null] [] n mem
  refine hP _ _ _ _ _ ?_
  refine hP _ _ _ _ _ ?_
  refine hP _ _ _ _ _ ⟨(zi hn rfl rfl rfl), ?_⟩
  show P 5 [.ref 180, .int ps, .int pt, .int kd, .null, .null, .null] [] n (zI mem 180 0 0)
  have hF : zFx (zI mem 180 0 0) := hF
  generalize zI mem 180 0 0 = mem at *
  obtain ⟨⟨-, ⟨c1, c2, c3, c4, c5, c6, c7, c8⟩, hR⟩, hQ⟩ := hQ
  have loop : ∀ (V : zM) (q c : Nat), q < 8 → c < 6 → zfr sV mem V → (∀ a, a < 1000 → cAt V np pw q ps (nI c) (nI a) = true → (a + 1 = 1000 ∨ cAt V np pw q ps (nI c) (nI (a + 1)) = false) → ∀ V, zfr sV mem V → Q (some (.int (nI a))) n V) →
      ∀ d lo hi, hi = lo + d + 1 → hi ≤ 1000 → cAt V np pw q ps (nI c) (nI lo) = true → (hi = 1000 ∨ cAt V np pw q ps (nI c) (nI hi) = false) → ∀ u, zfr sA V u → ∀ v6, P 45 [.ref 180, .int ps, .int (nI q), .int (nI c), .int (nI lo), .int (nI hi), v6] [] n u := by
    intro V q c hq8 hc6 fV hQ d
    induction d using Nat.strongRecOn with
    | _ d ih =>
      intro lo hi hd h1 hlo hhi u fu v6
      have e1 : nI hi - nI lo = nI (d + 1) := by rw [pk_sub (by omega)]; congr 1; omega
      have fu' := fV.tr (fu.mono fun _ _ => sA_V)
      have hF := zFx_fr fu' hF
      have hR := zRo_fr fu' hR
      by_cases hd0 : d = 0
      · subst hd0
        refine hP _ _ _ _ _ ?_
        refine hP _ _ _ _ _ ?_
        refine hP _ _ _ _ _ ?_
        refine hP _ _ _ _ _ ?_
        refine hP _ _ _ _ _ ⟨fun _ => ?_, fun hz => absurd ( by show nI hi - nI lo ≤ 1; rw [e1]; decide) hz⟩
        refine hP _ _ _ _ _ ?_
        refine hP _ _ _ _ _ ?_
        exact ⟨rfl, hQ lo (by omega) hlo (by rw [show lo + 1 = hi by omega]; exact hhi) u fu'⟩
      · have e2 : (nI lo + nI hi) / 2 = nI ((lo + hi) / 2) := by rw [nI_add]; exact pk_div (a := lo + hi) (d := 2) (by omega) (by omega) (by omega)
        have e3 := zVr_ask (ps := ps) (kd := nI c) (am := (nI lo + nI hi) / 2) fu
        refine hP _ _ _ _ _ ?_
        refine hP _ _ _ _ _ ?_
        refine hP _ _ _ _ _ ?_
        refine hP _ _ _ _ _ ?_
        refine hP _ _ _ _ _ ⟨fun hz => absurd hz ( by show ¬ nI hi - nI lo ≤ 1; rw [e1]; exact nI_ge (a := 1) (b := d + 1) (by omega) (by omega)), fun _ => ?_⟩
        refine hP _ _ _ _ _ ?_
        refine hP _ _ _ _ _ ?_
        refine hP _ _ _ _ _ ?_
        refine hP _ _ _ _ _ ?_
        refine hP _ _ _ _ _ ⟨by decide, ?_⟩
        refine hP _ _ _ _ _ ?_
        refine hP _ _ _ _ _ ?_
        refine hP _ _ _ _ _ ?_
        refine hP _ _ _ _ _ ?_
        refine hP _ _ _ _ _ ?_
        refine hP _ _ _ _ _ ?_
        refine hP _ _ _ _ _ ⟨(zi hn rfl rfl rfl), Nat.le_of_ble_eq_true rfl, Nat.le_of_ble_eq_true rfl, ?_⟩
        refine ⟨ps, q, c, np, pw, _, rfl, hq8, hc6, ⟨hn, hF⟩, hR, fun r hr => ?_⟩
        rw [e3]
        have fn := fr_rw (r := r) (fr_ask (ps := ps) (kd := nI c) (am := (nI lo + nI hi) / 2) fu)
        refine hP _ _ _ _ _ ?_
        refine hP _ _ _ _ _ ⟨fun h73 => ?_, fun h73 => ?_⟩
        ·
          have g : cAt V np pw q ps (nI c) (nI ((lo + hi) / 2)) = false := by unfold cAt canN; rw [← e2, show canM np pw (zVr (zask V ps (nI c) ((nI lo + nI hi) / 2))) 3 q = -1 from h73]; rfl
          refine hP _ _ _ _ _ ?_
          refine hP _ _ _ _ _ ?_
          refine hP _ _ _ _ _ ?_
          refine hP _ _ _ _ _ ?_
          first | (have t := ih ((lo + hi) / 2 - lo - 1) (by omega) lo ((lo + hi) / 2) (by omega) (by omega) hlo (Or.inr g) _ fn (.int (nI ((lo + hi) / 2))); rw [← e2] at t; exact t) | (have t := ih (hi - (lo + hi) / 2 - 1) (by omega) ((lo + hi) / 2) hi (by omega) (by omega) g hhi _ fn (.int (nI ((lo + hi) / 2))); rw [← e2] at t; exact t)
        ·
          have h73 : ¬ canM np pw (zVr (zask V ps (nI c) ((nI lo + nI hi) / 2))) 3 q = -1 := h73
          have g : cAt V np pw q ps (nI c) (nI ((lo + hi) / 2)) = true := by unfold cAt canN; rw [← e2, decide_eq_false h73]; rfl
          refine hP _ _ _ _ _ ?_
          refine hP _ _ _ _ _ ?_
          refine hP _ _ _ _ _ ?_
          first | (have t := ih ((lo + hi) / 2 - lo - 1) (by omega) lo ((lo + hi) / 2) (by omega) (by omega) hlo (Or.inr g) _ fn (.int (nI ((lo + hi) / 2))); rw [← e2] at t; exact t) | (have t := ih (hi - (lo + hi) / 2 - 1) (by omega) ((lo + hi) / 2) hi (by omega) (by omega) g hhi _ fn (.int (nI ((lo + hi) / 2))); rw [← e2] at t; exact t)
  refine hP _ _ _ _ _ ?_
  refine hP _ _ _ _ _ ?_
  refine hP _ _ _ _ _ ?_
  refine hP _ _ _ _ _ ?_
  refine hP _ _ _ _ _ ?_
  refine hP _ _ _ _ _ ⟨(zi hn rfl rfl rfl), Nat.le_of_ble_eq_true rfl, Nat.le_of_ble_eq_true rfl, ?_⟩
  refine ⟨_, _, _, _, rfl, ⟨hn, hF⟩, ?_⟩
  refine hP _ _ _ _ _ ⟨fun h13 => ?_, fun h13 => ?_⟩
  ·
    have h13 := zb_0.mp h13
    refine hP _ _ _ _ _ ?_
    refine hP _ _ _ _ _ ?_
    exact ⟨rfl, by simpa [h13] using hQ⟩
  ·
    have h13 := zb_n.mp h13
    obtain ⟨⟨q, hq, rfl⟩, ⟨c, hc, rfl⟩, -⟩ := asked_in c1 c2 h13
    have hx := ix_nI (j := q) (by omega)
    simp only [h13, hx, Bool.true_eq_false, if_false] at hQ
    refine hP _ _ _ _ _ ?_
    refine hP _ _ _ _ _ ⟨(zi hn rfl rfl rfl), Nat.le_of_ble_eq_true rfl, Nat.le_of_ble_eq_true rfl, ?_⟩
    refine ⟨m, np, pw, rfl, c5, by omega, ⟨hn, hF⟩, hR, ?_⟩
    have fV : zfr sV mem (zNow mem np pw m) := fr_vw (fr_see zfr.rf)
    have hF' := zFx_fr fV hF
    have hR' := zRo_fr fV hR
    unfold zNow at hQ hF' hR' fV
    generalize zVw np pw m (zsee mem (nI m) (mem.1 180 28)) = V at hQ hF' hR' fV ⊢
    refine hP _ _ _ _ _ ?_
    refine hP _ _ _ _ _ ?_
    refine hP _ _ _ _ _ ?_
    refine hP _ _ _ _ _ ?_
    refine hP _ _ _ _ _ ?_
    refine hP _ _ _ _ _ ⟨(zi hn rfl rfl rfl), Nat.le_of_ble_eq_true rfl, Nat.le_of_ble_eq_true rfl, ?_⟩
    refine ⟨ps, q, c, np, pw, _, rfl, by omega, hc, ⟨hn, hF'⟩, hR', fun r hr => ?_⟩
    have fn := fr_rw (r := r) (fr_ask (ps := ps) (kd := nI c) (am := 0) (zfr.rf (mem := V)))
    refine hP _ _ _ _ _ ?_
    refine hP _ _ _ _ _ ⟨fun h31 => ?_, fun h31 => ?_⟩
    ·
      refine hP _ _ _ _ _ ?_
      refine hP _ _ _ _ _ ?_
      exact ⟨rfl, hQ.1 (by unfold cAt canN; rw [h31]; rfl) _ (fV.tr (fn.mono fun _ _ => sA_V))⟩
    ·
      have g : cAt V np pw q ps (nI c) 0 = true := by unfold cAt canN; simp only [h31, decide_false, Bool.not_false]
      refine hP _ _ _ _ _ ?_
      refine hP _ _ _ _ _ ?_
      refine hP _ _ _ _ _ ?_
      refine hP _ _ _ _ _ ?_
      exact loop V q c (by omega) hc fV (hQ.2 g) 999 0 1000 (by omega) (by omega) g (Or.inl rfl) _ fn _
def alM (f : Nat → Int32) (M : zM) (np pw q : Nat) (kd am : Int32) : Nat → Int32
  | 0 => 0
  | p + 1 => if askedM f (1 <<< (nI p &&& 31)) (nI q) kd am = true ∧ ¬ canN M np pw q (1 <<< (nI p &&& 31)) kd am = -1 then alM f M np pw q kd am p ||| (1 <<< (nI p &&& 31)) else alM f M np pw q kd am p
theorem kasked_in {f : Nat → Int32} {pt kd am : Int32} {np : Nat} (hnp : f 13 = nI np) (h8 : np ≤ 8) (h : kaskedM f pt kd am = true) : (∃ q, q < np ∧ pt = nI q) ∧ (∃ c, c < 6 ∧ kd = nI c) ∧ ∃ a, a ≤ 999 ∧ am = nI a := by
  simp only [kaskedM, Bool.and_eq_true] at h
  obtain ⟨a1, a2, a3⟩ := h
  obtain ⟨q, hq, e1⟩ := isin_nI (c := np) (by omega) (hnp ▸ a1)
  obtain ⟨c, hc, e2⟩ := isin_N (c := 5) (by omega) a2
  obtain ⟨a, ha, e3⟩ := isin_N (c := 999) (by omega) a3
  exact ⟨⟨q, hq, e1⟩, ⟨c, by omega, e2⟩, ⟨a, ha, e3⟩⟩
theorem asked_fr {M m : zM} {ps pt kd am : Int32} (h : zfr sV M m) : askedM (m.1 180) ps pt kd am = askedM (M.1 180) ps pt kd am := by
  unfold askedM
  rw [h.1 180 13 (by unfold sV; omega), h.1 180 14 (by unfold sV; omega)]
def k_X11_alone : zCt := fun as n mem Q => ∃ (pt kd am : Int32) (np pw m na : Nat), as = [.ref 180, .int pt, .int kd, .int am] ∧ zst n mem ∧ (fun mem : zM => zMi n mem np pw m na ∧
    (if kaskedM (mem.1 180) pt kd am = false then Q (some (.int (-1))) n mem
     else ∀ V, zfr sV mem V → Q (some (.int (alM (mem.1 180) (zNow mem np pw m) np pw (ix pt) kd am np))) n V)) (zI mem 180 0 0)
theorem ok_X11_alone {l : Launch} {G : zG} : zOK l G yX11_alone cX11_alone 6 (some .int) 11 0 0 k_X11_alone := by
  intro as n mem Q hK
  obtain ⟨pt, kd, am, np, pw, m, na, rfl, ⟨hn, hF⟩, hQ⟩ := hK
  refine mtX11_alone ok_X11_isKindAsked (by decide) ok_X11_seesNow (by decide) ok_X11_isAsked (by decide) ok_X11_can0 (by decide) (List.forall_mem_cons.mpr ⟨rfl, List.forall_mem_cons.mpr ⟨rfl, List.forall_mem_cons.mpr ⟨rfl, List.forall_mem_cons.mpr ⟨rfl, fun _ h => absurd h List.not_mem_nil⟩⟩⟩⟩) (by simp) rfl (fun P hP => ?_)
  show P 0 [.ref 180, .int pt, .int kd, .int am, .null, .null] [] n mem
  refine hP _ _ _ _ _ ?_
  refine hP _ _ _ _ _ ?_
  refine hP _ _ _ _ _ ⟨(zi hn rfl rfl rfl), ?_⟩
  show P 5 [.ref 180, .int pt, .int kd, .int am, .null, .null] [] n (zI mem 180 0 0)
  have hF : zFx (zI mem 180 0 0) := hF
  generalize zI mem 180 0 0 = mem at *
  obtain ⟨⟨-, ⟨c1, c2, c3, c4, c5, c6, c7, c8⟩, hR⟩, hQ⟩ := hQ
  have loop : ∀ (V : zM) (q c a : Nat), q < 8 → c < 6 → zfr sV mem V → (∀ u, zfr sV mem u → Q (some (.int (alM (mem.1 180) V np pw q (nI c) (nI a) np))) n u) →
      ∀ i, i ≤ np → ∀ u, zfr sA V u → P 27 [.ref 180, .int (nI q), .int (nI c), .int (nI a), .int (alM (mem.1 180) V np pw q (nI c) (nI a) i), .int (nI i)] [] n u := by
    intro V q c a hq8 hc6 fV hQ
    refine zloop ?_ ?_
    · intro u fu
      have fu' := fV.tr (fu.mono fun _ _ => sA_V)
      have hF := zFx_fr fu' hF
      have r1 := (zRo_fr fu' hR).1
      refine hP _ _ _ _ _ ?_
      refine hP _ _ _ _ _ ?_
      refine hP _ _ _ _ _ ⟨(zi hn rfl rfl rfl), ?_⟩
      refine hP _ _ _ _ _ ⟨fun _ => ?_, fun hz => absurd ( by rw [r1]; exact nI_le (Nat.le_refl _) (by omega)) hz⟩
      refine hP _ _ _ _ _ ?_
      refine hP _ _ _ _ _ ?_
      exact ⟨rfl, hQ u fu'⟩
    · intro i hi ih u fu
      have fu' := fV.tr (fu.mono fun _ _ => sA_V)
      have hF := zFx_fr fu' hF
      have hR := zRo_fr fu' hR
      have r1 := hR.1
      rw [nI_succ i] at ih
      refine hP _ _ _ _ _ ?_
      refine hP _ _ _ _ _ ?_
      refine hP _ _ _ _ _ ⟨(zi hn rfl rfl rfl), ?_⟩
      refine hP _ _ _ _ _ ⟨fun hz => absurd hz ( by rw [r1]; exact nI_ge hi (by omega)), fun _ => ?_⟩
      refine hP _ _ _ _ _ ?_
      refine hP _ _ _ _ _ ?_
      refine hP _ _ _ _ _ ?_
      refine hP _ _ _ _ _ ?_
      refine hP _ _ _ _ _ ?_
      refine hP _ _ _ _ _ ?_
      refine hP _ _ _ _ _ ?_
      refine hP _ _ _ _ _ ⟨(zi hn rfl rfl rfl), Nat.le_of_ble_eq_true rfl, Nat.le_of_ble_eq_true rfl, ?_⟩
      refine ⟨_, _, _, _, rfl, ⟨hn, hF⟩, ?_⟩
      rw [asked_fr fu']
      refine hP _ _ _ _ _ ⟨fun h47 => ?_, fun h47 => ?_⟩
      ·
        have h47 := zb_0.mp h47
        refine hP _ _ _ _ _ ?_
        refine hP _ _ _ _ _ ?_
        first | (have ih := ih _ fn; simp only [alM, h47, g, not_false_eq_true, and_self, if_true] at ih; exact ih) | (have g : canN V np pw q (1 <<< (nI i &&& 31)) (nI c) (nI a) = -1 := h62; have ih := ih _ fn; simp only [alM, g, not_true_eq_false, and_false, if_false] at ih; exact ih) | (have ih := ih _ fu; simp only [alM, h47, Bool.false_eq_true, false_and, if_false] at ih; exact ih)
      ·
        have h47 := zb_n.mp h47
        refine hP _ _ _ _ _ ?_
        refine hP _ _ _ _ _ ?_
        refine hP _ _ _ _ _ ?_
        refine hP _ _ _ _ _ ?_
        refine hP _ _ _ _ _ ?_
        refine hP _ _ _ _ _ ?_
        refine hP _ _ _ _ _ ?_
        refine hP _ _ _ _ _ ⟨(zi hn rfl rfl rfl), Nat.le_of_ble_eq_true rfl, Nat.le_of_ble_eq_true rfl, ?_⟩
        refine ⟨_, q, c, np, pw, _, rfl, hq8, hc6, ⟨hn, hF⟩, hR, fun r hr => ?_⟩
        rw [zVr_ask fu]
        have fn := fr_rw (r := r) (fr_ask (ps := 1 <<< (nI i &&& 31)) (kd := nI c) (am := nI a) fu)
        refine hP _ _ _ _ _ ?_
        refine hP _ _ _ _ _ ⟨fun h62 => ?_, fun h62 => ?_⟩
        ·
          refine hP _ _ _ _ _ ?_
          refine hP _ _ _ _ _ ?_
          first | (have ih := ih _ fn; simp only [alM, h47, g, not_false_eq_true, and_self, if_true] at ih; exact ih) | (have g : canN V np pw q (1 <<< (nI i &&& 31)) (nI c) (nI a) = -1 := h62; have ih := ih _ fn; simp only [alM, g, not_true_eq_false, and_false, if_false] at ih; exact ih) | (have ih := ih _ fu; simp only [alM, h47, Bool.false_eq_true, false_and, if_false] at ih; exact ih)
        ·
          have g : ¬ canN V np pw q (1 <<< (nI i &&& 31)) (nI c) (nI a) = -1 := h62
          refine hP _ _ _ _ _ ?_
          refine hP _ _ _ _ _ ?_
          refine hP _ _ _ _ _ ?_
          refine hP _ _ _ _ _ ?_
          refine hP _ _ _ _ _ ?_
          refine hP _ _ _ _ _ ?_
          refine hP _ _ _ _ _ ?_
          refine hP _ _ _ _ _ ?_
          first | (have ih := ih _ fn; simp only [alM, h47, g, not_false_eq_true, and_self, if_true] at ih; exact ih) | (have g : canN V np pw q (1 <<< (nI i &&& 31)) (nI c) (nI a) = -1 := h62; have ih := ih _ fn; simp only [alM, g, not_true_eq_false, and_false, if_false] at ih; exact ih) | (have ih := ih _ fu; simp only [alM, h47, Bool.false_eq_true, false_and, if_false] at ih; exact ih)
  refine hP _ _ _ _ _ ?_
  refine hP _ _ _ _ _ ?_
  refine hP _ _ _ _ _ ?_
  refine hP _ _ _ _ _ ?_
  refine hP _ _ _ _ _ ⟨(zi hn rfl rfl rfl), Nat.le_of_ble_eq_true rfl, Nat.le_of_ble_eq_true rfl, ?_⟩
  refine ⟨_, _, _, rfl, ⟨hn, hF⟩, ?_⟩
  refine hP _ _ _ _ _ ⟨fun h12 => ?_, fun h12 => ?_⟩
  ·
    have h12 := zb_0.mp h12
    refine hP _ _ _ _ _ ?_
    refine hP _ _ _ _ _ ?_
    exact ⟨rfl, by simpa [h12] using hQ⟩
  ·
    have h12 := zb_n.mp h12
    obtain ⟨⟨q, hq, rfl⟩, ⟨c, hc, rfl⟩, ⟨a, ha, rfl⟩⟩ := kasked_in c1 c2 h12
    have hx := ix_nI (j := q) (by omega)
    simp only [h12, hx, Bool.true_eq_false, if_false] at hQ
    refine hP _ _ _ _ _ ?_
    refine hP _ _ _ _ _ ⟨(zi hn rfl rfl rfl), Nat.le_of_ble_eq_true rfl, Nat.le_of_ble_eq_true rfl, ?_⟩
    refine ⟨m, np, pw, rfl, c5, by omega, ⟨hn, hF⟩, hR, ?_⟩
    have fV : zfr sV mem (zNow mem np pw m) := fr_vw (fr_see zfr.rf)
    unfold zNow at hQ fV
    generalize zVw np pw m (zsee mem (nI m) (mem.1 180 28)) = V at hQ fV ⊢
    refine hP _ _ _ _ _ ?_
    refine hP _ _ _ _ _ ?_
    refine hP _ _ _ _ _ ?_
    refine hP _ _ _ _ _ ?_
    exact loop V q c a (by omega) hc fV hQ 0 (by omega) V zfr.rf
