/-! ===== what canM reads ===== -/
def zVe (pw : Nat) (v v' : zVt) : Prop := (v.1 14 = v'.1 14 ∧ v.1 30 = v'.1 30 ∧ v.1 32 = v'.1 32 ∧ v.1 37 = v'.1 37 ∧ v.1 38 = v'.1 38 ∧ v.1 39 = v'.1 39) ∧ v.2.1 = v'.2.1 ∧ v.2.2.1 = v'.2.2.1 ∧ ∀ p, p < pw → v.2.2.2.1 p = v'.2.2.2.1 p ∧ v.2.2.2.2.1 p = v'.2.2.2.2.1 p ∧ v.2.2.2.2.2 p = v'.2.2.2.2.2 p
theorem opM_e {pw : Nat} {v v' : zVt} (h : zVe pw v v') {p : Nat} (hp : p < pw) : opM v p = opM v' p := by
  obtain ⟨⟨a1, a2, a3, a4, a5, a6⟩, b, c, d⟩ := h
  obtain ⟨d1, d2, d3⟩ := d p hp
  unfold opM lvM
  rw [a3, a5, a6, d1, d2, d3]
theorem tpM_e {pw : Nat} {v v' : zVt} (h : zVe pw v v') {cn cn' : Nat → Int32} (hc : cn = cn') {deep : Bool} : tpM v cn deep = tpM v' cn' deep := by
  obtain ⟨⟨a1, a2, a3, a4, a5, a6⟩, b, c, d⟩ := h
  subst hc
  funext x
  unfold tpM
  rw [a1, a2, a4, c]
theorem fsM_e {pw : Nat} {v v' : zVt} (h : zVe pw v v') {tp : Nat → Bool} {np q : Nat} : ∀ i, i ≤ pw → fsM v tp np q i = fsM v' tp np q i := by
  intro i
  induction i with
  | zero => intro _; rfl
  | succ i ih =>
    intro hi
    rw [fsM, fsM, ih (by omega), opM_e h (by omega), h.2.1]
theorem canM_e {np pw : Nat} {v v' : zVt} (h : zVe pw v v') : ∀ k, canM np pw v k = canM np pw v' k := by
  intro k
  induction k with
  | zero => funext q; rw [canM, canM, tpM_e h rfl]; exact fsM_e h pw (Nat.le_refl _)
  | succ k ih => funext q; rw [canM, canM, tpM_e h ih]; exact fsM_e h pw (Nat.le_refl _)
theorem tpK_e {np pw : Nat} {v v' : zVt} (h : zVe pw v v') (k : Nat) : tpK np pw v k = tpK np pw v' k := by
  cases k with
  | zero => exact tpM_e h rfl
  | succ k => exact tpM_e h (canM_e h k)
theorem usM_e {np pw : Nat} {v v' : zVt} (h : zVe pw v v') : ∀ k, usM np pw v k = usM np pw v' k := by
  intro k
  induction k with
  | zero => funext q; rw [usM, usM, canM_e h]
  | succ k ih => funext q; rw [usM, usM, canM_e h, tpK_e h, ih, h.2.1, h.1.1]
/-- the counts that a view reads -/
def fF (fi ao on wo th ps kd am : Int32) (j : Nat) : Int32 := match j with
  | 14 => fi | 30 => ao | 31 => on | 32 => wo | 33 => th | 37 => ps | 38 => kd | 39 => am | _ => 0
theorem endedM_f {f f' e t : Nat → Int32} (h0 : f 30 = f' 30) (h3 : f 33 = f' 33) : endedM f e t = endedM f' e t := by funext p; unfold endedM; rw [h0, h3]
theorem whyM_f {np : Nat} {f f' g e t d : Nat → Int32} (h0 : f 30 = f' 30) (h1 : f 31 = f' 31) (h2 : f 32 = f' 32) (h3 : f 33 = f' 33) : whyM np f g e t d = whyM np f' g e t d := by funext w p; unfold whyM; rw [endedM_f h0 h3, h0, h1, h2]
theorem whyP_f {np : Nat} {f f' g e t d : Nat → Int32} (h0 : f 30 = f' 30) (h1 : f 31 = f' 31) (h2 : f 32 = f' 32) (h3 : f 33 = f' 33) : whyP np f g e t d = whyP np f' g e t d := by
  have key : ∀ s, whyF np f g e t d s = whyF np f' g e t d s := by
    intro s
    induction s with
    | zero => rfl
    | succ s ih => funext p; rw [whyF, whyF, ih, whyM_f h0 h1 h2 h3]
  funext p
  unfold whyP
  rw [key]
/-- a view in closed form, out of the rows that stay -/
def vP (mem : zM) (np k : Nat) (on wo th ps kd am : Int32) : zVt :=
  (fF (mem.1 180 14) (nI k) on wo th ps kd am, mem.1 182, mem.1 187, whyP np (fF (mem.1 180 14) (nI k) on 0 th ps kd am) (mem.1 182) (mem.1 185) (mem.1 186) (mem.1 187), kP (mem.1 182) (fun p => nkF (mem.1 182) (mem.1 188) (mem.1 189) p k), mP (mem.1 182) (fun p => nmF (mem.1 182) (mem.1 188) (mem.1 190) p k))
theorem row_V {M m : zM} (h : zfr sV M m) {a : Nat} (ha : a ≠ 180 ∧ ¬ (192 ≤ a ∧ a ≤ 195)) : m.1 a = M.1 a := by funext b; exact h.1 a b (by unfold sV; omega)
/-- u: before the view is laid (as of k), M: the rows that stay -/
theorem view_e {M u : zM} {np pw k : Nat} {on th ps kd am : Int32} (fu : zfr sV M u) (hR : zRo (M.1 180) (M.1 182) (M.1 188) np pw) (hk : k ≤ 300) (e0 : u.1 180 30 = nI k) (e1 : u.1 180 31 = on) (e2 : u.1 180 32 = 0) (e3 : u.1 180 33 = th) {S : zM} (hS : zfr sA (zVw np pw k u) S) : zVe pw (zVr (zask S ps kd am)) (vP M np k on 0 th ps kd am) := by
  rw [zVr_ask hS]
  have hR' := zRo_fr fu hR
  have rows := Vw_rows hR' hk
  have r2 := row_V fu (a := 182) (by omega)
  have r5 := row_V fu (a := 185) (by omega)
  have r6 := row_V fu (a := 186) (by omega)
  have r7 := row_V fu (a := 187) (by omega)
  have r8 := row_V fu (a := 188) (by omega)
  have r9 := row_V fu (a := 189) (by omega)
  have r0 := row_V fu (a := 190) (by omega)
  have f14 : u.1 180 14 = M.1 180 14 := fu.1 180 14 (by unfold sV; omega)
  have v180 := zVw_row (np := np) (pw := pw) (k := k) (mem := u) nv180
  have v182 := zVw_row (np := np) (pw := pw) (k := k) (mem := u) nv182
  have v187 := zVw_row (np := np) (pw := pw) (k := k) (mem := u) (a := 187) (by unfold nvw; omega)
  have w := whyP_f (np := np) (f := u.1 180) (f' := fF (M.1 180 14) (nI k) on 0 th ps kd am) (g := M.1 182) (e := M.1 185) (t := M.1 186) (d := M.1 187) e0 e1 e2 e3
  rw [r2, r5, r6, r7, r8, r9, r0, w] at rows
  have z180 : ∀ j, j ≠ 37 → j ≠ 38 → j ≠ 39 → (zask (zVw np pw k u) ps kd am).1 180 j = u.1 180 j := by
    intro j h1 h2 h3
    show (if j = 39 then am else if j = 38 then kd else if j = 37 then ps else (zVw np pw k u).1 180 j) = _
    rw [if_neg h3, if_neg h2, if_neg h1, v180]
  refine ⟨⟨?_, ?_, ?_, rfl, rfl, rfl⟩, ?_, ?_, rows⟩
  · exact (z180 14 (by omega) (by omega) (by omega)).trans f14
  · exact (z180 30 (by omega) (by omega) (by omega)).trans e0
  · exact (z180 32 (by omega) (by omega) (by omega)).trans e2
  · exact v182.trans r2
  · exact v187.trans r7
def canP (mem : zM) (np pw k : Nat) (on wo th ps kd am : Int32) (q : Nat) : Int32 := canM np pw (vP mem np k on wo th ps kd am) 3 q
def usP (mem : zM) (np pw k : Nat) (on wo th ps kd am : Int32) (q : Nat) : Int32 := usM np pw (vP mem np k on wo th ps kd am) 3 q
/-- an act's own row: persons, name, third, kind, amount, moment, day -/
def zAr (r : Nat → Int32) (a : Nat) : Prop := (∃ q, q < 8 ∧ r (9 * a + 1) = nI q) ∧ (∃ t, t < 8 ∧ r (9 * a + 2) = nI t) ∧ (∃ c, c < 6 ∧ r (9 * a + 3) = nI c) ∧ (∃ w, w ≤ 300 ∧ r (9 * a + 5) = nI w)
def canA (mem : zM) (np pw : Nat) (wo th : Int32) (a : Nat) : Int32 := canP mem np pw (ix (mem.1 191 (9 * a + 5))) (mem.1 191 (9 * a + 6)) wo th (mem.1 191 (9 * a)) (mem.1 191 (9 * a + 3)) (mem.1 191 (9 * a + 4)) (ix (mem.1 191 (9 * a + 1)))
def bThen (mem : zM) (np pw a : Nat) : Int32 := if canA mem np pw 0 (-1) a = -1 then (if canA mem np pw 0 (mem.1 191 (9 * a + 2)) a = -1 then 0 else 2) else 1
def bAt (mem : zM) (np pw a : Nat) (m : Int32) : Int32 := if bThen mem np pw a = 0 ∧ isby (mem.1 191 (9 * a + 7)) m = true then 3 else bThen mem np pw a
/-- couldThen: S with what is asked over it reads as vW -/
def k_X11_couldThen : zCt := fun as n S Q => ∃ (a np pw : Nat) (vW : Int32 → Int32 → Int32 → zVt) (M : zM), as = [.ref 180, .int (nI a)] ∧ a < 16 ∧ zst n M ∧ zRo (M.1 180) (M.1 182) (M.1 188) np pw ∧ zAr (M.1 191) a ∧ zfr sV M S ∧ (∀ ps kd am, zVe pw (zVr (zask S ps kd am)) (vW ps kd am)) ∧
    (∀ S', zfr sA S S' → memoM np pw (zVr S') (S'.1 195) → zVe pw (zVr S') (vW (M.1 191 (9 * a)) (M.1 191 (9 * a + 3)) (M.1 191 (9 * a + 4))) → S'.1 180 37 = M.1 191 (9 * a) → S'.1 180 38 = M.1 191 (9 * a + 3) →
      Q (some (.int (zb (!decide (canM np pw (vW (M.1 191 (9 * a)) (M.1 191 (9 * a + 3)) (M.1 191 (9 * a + 4))) 3 (ix (M.1 191 (9 * a + 1))) = -1))))) n S')
theorem ok_X11_couldThen {l : Launch} {G : zG} : zOK l G yX11_couldThen cX11_couldThen 2 (some .boolean) 11 0 0 k_X11_couldThen := by
  intro as n mem Q hK
  obtain ⟨a, np, pw, vW, M, rfl, ha, ⟨hn, hF⟩, hR, hA, fm, hve, hQ⟩ := hK
  refine mtX11_couldThen ok_X11_its (by decide) ok_X11_can0 (by decide) (List.forall_mem_cons.mpr ⟨rfl, List.forall_mem_cons.mpr ⟨rfl, fun _ h => absurd h List.not_mem_nil⟩⟩) (by simp) rfl (fun P hP => ?_)
  show P 0 [.ref 180, .int (nI a)] [] n mem
  have hF := zFx_fr fm hF
  have hR' := zRo_fr fm hR
  have r1 := row_V fm (a := 191) (by omega)
  obtain ⟨⟨q, hq8, hq⟩, -, ⟨c, hc6, hc⟩, -⟩ := hA
  have hxq := ix_nI (j := q) (by omega)
  rw [← r1] at hq hc hQ
  have ve := hve (mem.1 191 (9 * a)) (mem.1 191 (9 * a + 3)) (mem.1 191 (9 * a + 4))
  have ce := congrFun (canM_e (np := np) ve 3) q
  refine hP _ _ _ _ _ ?_
  refine hP _ _ _ _ _ ?_
  refine hP _ _ _ _ _ ?_
  refine hP _ _ _ _ _ ?_
  refine hP _ _ _ _ _ ⟨(zi hn rfl rfl rfl), Nat.le_of_ble_eq_true rfl, Nat.le_of_ble_eq_true rfl, ?_⟩
  refine ⟨a, 0, rfl, ha, by omega, ⟨hn, hF⟩, ?_⟩
  refine hP _ _ _ _ _ ?_
  refine hP _ _ _ _ _ ?_
  refine hP _ _ _ _ _ ?_
  refine hP _ _ _ _ _ ⟨(zi hn rfl rfl rfl), Nat.le_of_ble_eq_true rfl, Nat.le_of_ble_eq_true rfl, ?_⟩
  refine ⟨a, 1, rfl, ha, by omega, ⟨hn, hF⟩, ?_⟩
  refine hP _ _ _ _ _ ?_
  refine hP _ _ _ _ _ ?_
  refine hP _ _ _ _ _ ?_
  refine hP _ _ _ _ _ ⟨(zi hn rfl rfl rfl), Nat.le_of_ble_eq_true rfl, Nat.le_of_ble_eq_true rfl, ?_⟩
  refine ⟨a, 3, rfl, ha, by omega, ⟨hn, hF⟩, ?_⟩
  refine hP _ _ _ _ _ ?_
  refine hP _ _ _ _ _ ?_
  refine hP _ _ _ _ _ ?_
  refine hP _ _ _ _ _ ⟨(zi hn rfl rfl rfl), Nat.le_of_ble_eq_true rfl, Nat.le_of_ble_eq_true rfl, ?_⟩
  refine ⟨a, 4, rfl, ha, by omega, ⟨hn, hF⟩, ?_⟩
  refine hP _ _ _ _ _ ⟨(zi hn rfl rfl rfl), Nat.le_of_ble_eq_true rfl, Nat.le_of_ble_eq_true rfl, ?_⟩
  refine ⟨mem.1 191 (9 * a), q, c, np, pw, mem.1 191 (9 * a + 4), by rw [← hq, ← hc]; rfl, hq8, hc6, ⟨hn, hF⟩, hR', fun r hr => ?_⟩
  rw [← hc] at hr ⊢
  rw [ce]
  have fn := fr_rw (r := r) (fr_ask (ps := mem.1 191 (9 * a)) (kd := mem.1 191 (9 * a + 3)) (am := mem.1 191 (9 * a + 4)) (zfr.rf (mem := mem)))
  have hQ := hQ (zrw (zask mem (mem.1 191 (9 * a)) (mem.1 191 (9 * a + 3)) (mem.1 191 (9 * a + 4))) 195 r) fn hr ve rfl rfl
  rw [hq, hxq] at hQ
  refine hP _ _ _ _ _ ?_
  refine hP _ _ _ _ _ ⟨fun h29 => ?_, fun h29 => ?_⟩
  ·
    refine hP _ _ _ _ _ ?_
    refine hP _ _ _ _ _ ?_
    exact ⟨by decide, rfl, by simpa [zb, h29] using hQ⟩
  ·
    refine hP _ _ _ _ _ ?_
    refine hP _ _ _ _ _ ?_
    refine hP _ _ _ _ _ ?_
    exact ⟨by decide, rfl, by simpa [zb, h29] using hQ⟩
/-- bindsThen: M the rows that stay; behind it the view stays -/
def vA (M : zM) (np : Nat) (wl th : Int32) (a : Nat) (ps kd am : Int32) : zVt := vP M np (ix (M.1 191 (9 * a + 5))) (M.1 191 (9 * a + 6)) wl th ps kd am
theorem canA_eq {M : zM} {np pw a : Nat} {wl th : Int32} : canA M np pw wl th a = canM np pw (vA M np wl th a (M.1 191 (9 * a)) (M.1 191 (9 * a + 3)) (M.1 191 (9 * a + 4))) 3 (ix (M.1 191 (9 * a + 1))) := rfl
/-- the third whose view binds -/
def thA (M : zM) (np pw a : Nat) : Int32 := if bThen M np pw a = 1 then -1 else M.1 191 (9 * a + 2)
def k_X11_bindsThen : zCt := fun as n u Q => ∃ (a np pw : Nat) (M : zM), as = [.ref 180, .int (nI a)] ∧ a < 16 ∧ zst n M ∧ zRo (M.1 180) (M.1 182) (M.1 188) np pw ∧ zAr (M.1 191) a ∧ zfr sV M u ∧
    (∀ S, zfr sV M S → memoM np pw (zVr S) (S.1 195) → (∀ ps kd am, zVe pw (zVr (zask S ps kd am)) (vA M np 0 (thA M np pw a) a ps kd am)) → zVe pw (zVr S) (vA M np 0 (thA M np pw a) a (M.1 191 (9 * a)) (M.1 191 (9 * a + 3)) (M.1 191 (9 * a + 4))) → S.1 180 37 = M.1 191 (9 * a) → S.1 180 38 = M.1 191 (9 * a + 3) →
      Q (some (.int (bThen M np pw a))) n S)
theorem ok_X11_bindsThen {l : Launch} {G : zG} : zOK l G yX11_bindsThen cX11_bindsThen 2 (some .int) 12 0 0 k_X11_bindsThen := by
  intro as n mem Q hK
  obtain ⟨a, np, pw, M, rfl, ha, ⟨hn, hF0⟩, hR0, hA, fm, hQ⟩ := hK
  refine mtX11_bindsThen ok_X11_its (by decide) ok_X11_sees (by decide) ok_X11_couldThen (by decide) ok_X11_laysView (by decide) (List.forall_mem_cons.mpr ⟨rfl, List.forall_mem_cons.mpr ⟨rfl, fun _ h => absurd h List.not_mem_nil⟩⟩) (by simp) rfl (fun P hP => ?_)
  show P 0 [.ref 180, .int (nI a)] [] n mem
  have hF := zFx_fr fm hF0
  have hR := zRo_fr fm hR0
  have r1 := row_V fm (a := 191) (by omega)
  obtain ⟨hAq, ⟨t, ht8, ht⟩, hAc, ⟨w, hw3, hw⟩⟩ := id hA
  have hxw := ix_nI (j := w) (by omega)
  have hw' := hw
  rw [← r1] at hw'
  have e6 : mem.1 191 (9 * a + 6) = M.1 191 (9 * a + 6) := by rw [r1]
  refine hP _ _ _ _ _ ?_
  refine hP _ _ _ _ _ ?_
  refine hP _ _ _ _ _ ?_
  refine hP _ _ _ _ _ ?_
  refine hP _ _ _ _ _ ⟨(zi hn rfl rfl rfl), Nat.le_of_ble_eq_true rfl, Nat.le_of_ble_eq_true rfl, ?_⟩
  refine ⟨a, 5, rfl, ha, by omega, ⟨hn, hF⟩, ?_⟩
  refine hP _ _ _ _ _ ?_
  refine hP _ _ _ _ _ ?_
  refine hP _ _ _ _ _ ?_
  refine hP _ _ _ _ _ ⟨(zi hn rfl rfl rfl), Nat.le_of_ble_eq_true rfl, Nat.le_of_ble_eq_true rfl, ?_⟩
  refine ⟨a, 6, rfl, ha, by omega, ⟨hn, hF⟩, ?_⟩
  refine hP _ _ _ _ _ ⟨(zi hn rfl rfl rfl), Nat.le_of_ble_eq_true rfl, Nat.le_of_ble_eq_true rfl, ?_⟩
  refine ⟨w, np, pw, _, by rw [← hw']; rfl, hw3, ⟨hn, hF⟩, hR, ?_⟩
  have fs : zfr sV M (zsee mem (nI w) (mem.1 191 (9 * a + 6))) := fr_see fm
  have fv : zfr sV M (zVw np pw w (zsee mem (nI w) (mem.1 191 (9 * a + 6)))) := fr_vw fs
  have hve : ∀ ps kd am, zVe pw (zVr (zask (zVw np pw w (zsee mem (nI w) (mem.1 191 (9 * a + 6)))) ps kd am)) (vA M np 0 (-1) a ps kd am) := by
    intro ps kd am
    unfold vA
    rw [hw, hxw, ← e6]
    exact view_e fs hR0 hw3 rfl rfl rfl rfl zfr.rf
  have q30 : (zVw np pw w (zsee mem (nI w) (mem.1 191 (9 * a + 6)))).1 180 30 = nI w := by rw [zVw_row nv180]; rfl
  have q31 : (zVw np pw w (zsee mem (nI w) (mem.1 191 (9 * a + 6)))).1 180 31 = M.1 191 (9 * a + 6) := by rw [zVw_row nv180, ← e6]; rfl
  have q32 : (zVw np pw w (zsee mem (nI w) (mem.1 191 (9 * a + 6)))).1 180 32 = 0 := by rw [zVw_row nv180]; rfl
  generalize zVw np pw w (zsee mem (nI w) (mem.1 191 (9 * a + 6))) = V at fv hve q30 q31 q32 ⊢
  refine hP _ _ _ _ _ ?_
  refine hP _ _ _ _ _ ?_
  refine hP _ _ _ _ _ ⟨(zi hn rfl rfl rfl), Nat.le_of_ble_eq_true rfl, Nat.le_of_ble_eq_true rfl, ?_⟩
  refine ⟨a, np, pw, vA M np 0 (-1) a, M, rfl, ha, ⟨hn, hF0⟩, hR0, hA, fv, hve, fun S fS hM hvS h37 h38 => ?_⟩
  have fS' : zfr sV M S := fv.tr (fS.mono fun _ _ => sA_V)
  have hF := zFx_fr fS' hF0
  have hR := zRo_fr fS' hR0
  have r1 := row_V fS' (a := 191) (by omega)
  refine hP _ _ _ _ _ ⟨fun h22 => ?_, fun h22 => ?_⟩
  ·
    have h22 := zb_0.mp h22
    have g1 : canA M np pw 0 (-1) a = -1 := of_decide_eq_true ((Bool.not_eq_false' _).mp h22)
    refine hP _ _ _ _ _ ?_
    refine hP _ _ _ _ _ ?_
    refine hP _ _ _ _ _ ?_
    refine hP _ _ _ _ _ ?_
    refine hP _ _ _ _ _ ⟨(zi hn rfl rfl rfl), Nat.le_of_ble_eq_true rfl, Nat.le_of_ble_eq_true rfl, ?_⟩
    refine ⟨a, 2, rfl, ha, by omega, ⟨hn, hF⟩, ?_⟩
    refine hP _ _ _ _ _ ⟨(zi hn rfl rfl rfl), ?_⟩
    refine hP _ _ _ _ _ ?_
    refine hP _ _ _ _ _ ⟨(zi hn rfl rfl rfl), Nat.le_of_ble_eq_true rfl, Nat.le_of_ble_eq_true rfl, ?_⟩
    have e3 : (zI S 180 33 (S.1 191 (9 * a + 2))).1 180 33 = M.1 191 (9 * a + 2) := by rw [zI_s, r1]
    have fT : zfr sV M (zI S 180 33 (S.1 191 (9 * a + 2))) := fS'.I (Or.inl ⟨rfl, by omega⟩)
    have hF := zFx_fr fT hF0
    have hR := zRo_fr fT hR0
    have e30 : (zI S 180 33 (S.1 191 (9 * a + 2))).1 180 30 = nI w := (fS.1 180 30 (by unfold sA; omega)).trans q30
    have e31 : (zI S 180 33 (S.1 191 (9 * a + 2))).1 180 31 = M.1 191 (9 * a + 6) := (fS.1 180 31 (by unfold sA; omega)).trans q31
    have e32 : (zI S 180 33 (S.1 191 (9 * a + 2))).1 180 32 = 0 := (fS.1 180 32 (by unfold sA; omega)).trans q32
    refine ⟨np, pw, w, rfl, ⟨hn, hF⟩, hR, Or.inr ⟨t, ht8, e3.trans ht⟩, e30, hw3, ?_⟩
    have fv2 : zfr sV M (zVw np pw w (zI S 180 33 (S.1 191 (9 * a + 2)))) := fr_vw fT
    have hve2 : ∀ ps kd am, zVe pw (zVr (zask (zVw np pw w (zI S 180 33 (S.1 191 (9 * a + 2)))) ps kd am)) (vA M np 0 (M.1 191 (9 * a + 2)) a ps kd am) := by
      intro ps kd am
      unfold vA
      rw [hw, hxw]
      exact view_e fT hR0 hw3 e30 e31 e32 e3 zfr.rf
    generalize zVw np pw w (zI S 180 33 (S.1 191 (9 * a + 2))) = V2 at fv2 hve2 ⊢
    refine hP _ _ _ _ _ ?_
    refine hP _ _ _ _ _ ?_
    refine hP _ _ _ _ _ ⟨(zi hn rfl rfl rfl), Nat.le_of_ble_eq_true rfl, Nat.le_of_ble_eq_true rfl, ?_⟩
    refine ⟨a, np, pw, vA M np 0 (M.1 191 (9 * a + 2)) a, M, rfl, ha, ⟨hn, hF0⟩, hR0, hA, fv2, hve2, fun S2 fS2 hM2 hvS2 g37 g38 => ?_⟩
    have fS2' : zfr sV M S2 := fv2.tr (fS2.mono fun _ _ => sA_V)
    have hn1 : ¬ bThen M np pw a = 1 := by unfold bThen; rw [if_pos g1]; split <;> decide
    have gt : thA M np pw a = M.1 191 (9 * a + 2) := if_neg hn1
    rw [gt] at hQ
    have hQ := hQ S2 fS2' hM2 (fun ps kd am => by rw [zVr_ask fS2]; exact hve2 ps kd am) hvS2 g37 g38
    unfold bThen at hQ
    rw [if_pos g1] at hQ
    refine hP _ _ _ _ _ ⟨fun h46 => ?_, fun h46 => ?_⟩
    ·
      have h46 := zb_0.mp h46
      have g2 : canA M np pw 0 (M.1 191 (9 * a + 2)) a = -1 := of_decide_eq_true ((Bool.not_eq_false' _).mp h46)
      refine hP _ _ _ _ _ ?_
      refine hP _ _ _ _ _ ?_
      first | (rw [if_neg g2] at hQ; exact ⟨rfl, hQ⟩) | (rw [if_pos g2] at hQ; exact ⟨rfl, hQ⟩)
    ·
      have h46 := zb_n.mp h46
      have g2 : ¬ canA M np pw 0 (M.1 191 (9 * a + 2)) a = -1 := of_decide_eq_false ((Bool.not_eq_true' _).mp h46)
      refine hP _ _ _ _ _ ?_
      refine hP _ _ _ _ _ ?_
      refine hP _ _ _ _ _ ?_
      first | (rw [if_neg g2] at hQ; exact ⟨rfl, hQ⟩) | (rw [if_pos g2] at hQ; exact ⟨rfl, hQ⟩)
  ·
    have h22 := zb_n.mp h22
    have g1 : ¬ canA M np pw 0 (-1) a = -1 := of_decide_eq_false ((Bool.not_eq_true' _).mp h22)
    have gb : bThen M np pw a = 1 := if_neg g1
    have gt : thA M np pw a = -1 := if_pos gb
    rw [gt, gb] at hQ
    refine hP _ _ _ _ _ ?_
    refine hP _ _ _ _ _ ?_
    exact ⟨rfl, hQ S fS' hM (fun ps kd am => by rw [zVr_ask fS]; exact hve ps kd am) hvS h37 h38⟩
def k_X11_bindsAt : zCt := fun as n u Q => ∃ (a np pw : Nat) (m : Int32) (M : zM), as = [.ref 180, .int (nI a), .int m] ∧ a < 16 ∧ zst n M ∧ zRo (M.1 180) (M.1 182) (M.1 188) np pw ∧ zAr (M.1 191) a ∧ zfr sV M u ∧ (∀ S, zfr sV M S → Q (some (.int (bAt M np pw a m))) n S)
theorem ok_X11_bindsAt {l : Launch} {G : zG} : zOK l G yX11_bindsAt cX11_bindsAt 4 (some .int) 13 0 0 k_X11_bindsAt := by
  intro as n mem Q hK
  obtain ⟨a, np, pw, m, M, rfl, ha, ⟨hn, hF0⟩, hR0, hA, fm, hQ⟩ := hK
  refine mtX11_bindsAt ok_X11_bindsThen (by decide) ok_X11_its (by decide) ok_X11_isBy (by decide) (List.forall_mem_cons.mpr ⟨rfl, List.forall_mem_cons.mpr ⟨rfl, List.forall_mem_cons.mpr ⟨rfl, fun _ h => absurd h List.not_mem_nil⟩⟩⟩) (by simp) rfl (fun P hP => ?_)
  show P 0 [.ref 180, .int (nI a), .int m, .null] [] n mem
  refine hP _ _ _ _ _ ?_
  refine hP _ _ _ _ _ ?_
  refine hP _ _ _ _ _ ⟨(zi hn rfl rfl rfl), Nat.le_of_ble_eq_true rfl, Nat.le_of_ble_eq_true rfl, ?_⟩
  refine ⟨a, np, pw, M, rfl, ha, ⟨hn, hF0⟩, hR0, hA, fm, fun S fS _ _ _ _ _ => ?_⟩
  have hF := zFx_fr fS hF0
  have r1 := row_V fS (a := 191) (by omega)
  have hQ := hQ S fS
  refine hP _ _ _ _ _ ?_
  refine hP _ _ _ _ _ ?_
  refine hP _ _ _ _ _ ⟨fun h7 => ?_, fun h7 => ?_⟩
  ·
    refine hP _ _ _ _ _ ?_
    refine hP _ _ _ _ _ ?_
    refine hP _ _ _ _ _ ?_
    refine hP _ _ _ _ _ ⟨(zi hn rfl rfl rfl), Nat.le_of_ble_eq_true rfl, Nat.le_of_ble_eq_true rfl, ?_⟩
    refine ⟨a, 7, rfl, ha, by omega, ⟨hn, hF⟩, ?_⟩
    refine hP _ _ _ _ _ ?_
    refine hP _ _ _ _ _ ⟨Nat.le_of_ble_eq_true rfl, Nat.le_of_ble_eq_true rfl, ?_⟩
    refine ⟨_, _, rfl, ?_⟩
    rw [r1]
    refine hP _ _ _ _ _ ⟨fun h21 => ?_, fun h21 => ?_⟩
    ·
      have h21 := zb_0.mp h21
      refine hP _ _ _ _ _ ?_
      refine hP _ _ _ _ _ ?_
      exact ⟨rfl, by simpa [bAt, h7, h21] using hQ⟩
    ·
      have h21 := zb_n.mp h21
      refine hP _ _ _ _ _ ?_
      refine hP _ _ _ _ _ ?_
      refine hP _ _ _ _ _ ?_
      exact ⟨rfl, by simpa [bAt, h7, h21] using hQ⟩
  ·
    refine hP _ _ _ _ _ ?_
    refine hP _ _ _ _ _ ?_
    exact ⟨rfl, by simpa [bAt, h7] using hQ⟩
