
def ztok (i : Nat) : Prop := 2 ≤ i ∧ i < 16
theorem zsm {G : zG} {i : Nat} (h : i < 100) : zAd G i = G.2.1 i := by
  have : Nat.ble 100 i = false := by
    cases hb : Nat.ble 100 i with
    | false => rfl
    | true => exact absurd (Nat.le_of_ble_eq_true hb) (by omega)
  simp [zAd, this]
def o_aldT (nx : Nat) : zOp := fun k ls st n mem => match st with
  | .int i :: .ref 16 :: st => ∃ j, i = nI j ∧ j < 14 ∧ k nx ls (.ref (2 + j) :: st) n mem
  | _ => False
def o_alenT (nx : Nat) : zOp := fun k ls st n mem => match st with
  | .ref 16 :: st => k nx ls (.int 14 :: st) n mem
  | _ => False
def o_getW (nx : Nat) : zOp := fun k ls st n mem => match st with
  | .ref i :: st => ztok i ∧ k nx ls (.ref (20 + zwd (i - 2)) :: st) n mem
  | _ => False
def o_astT (nx : Nat) : zOp := fun k ls st n mem => match st with
  | .ref (v + 1) :: .int i :: .ref a :: st => ∃ len j, zis n a (.inr (5, len)) ∧ i = nI j ∧ j < len ∧ ztok (v + 1) ∧ k nx ls st n (zR mem a j (v + 1))
  | _ => False
def o_acmp (tgt nx : Nat) : zOp := fun k ls st n mem => match st with
  | .ref y :: .ref x :: st => ztok x ∧ ztok y ∧ (x = y → k tgt ls st n mem) ∧ (¬ x = y → k nx ls st n mem)
  | _ => False
def o_tsw (tgts : List Nat) (dflt : Nat) : zOp := fun k ls st n mem => match st with
  | .int x :: st => (∀ i, i < tgts.length → x = nI i → k (tgts.getD i 0) ls st n mem) ∧ ((x < 0 ∨ nI tgts.length ≤ x) → k dflt ls st n mem)
  | _ => False
def o_storeJ (i nx : Nat) : zOp := fun k ls st n mem => match st with
  | .long x :: st => bif zok ls i then k nx (zs (zs ls i (.long x)) (i + 1) .null) st n mem else False
  | _ => False
theorem zL_storeJ {G : zG} {lsC : Array Slot} {nL i : Nat} {ls : List Value} {v : Int64} (hk : zok ls i = true) (h : lv_has lsC nL ((i, .long v) :: (zL G 0 ls).filter (fun q => !(q.1 == i) && (!(q.1 == i + 1) && !(q.1 + 1 == i && q.2.category == 2))))) : lv_has lsC nL (zL G 0 (zs (zs ls i (.long v)) (i + 1) .null)) := by
  refine ⟨h.1, h.2.1, fun q hq => ?_⟩
  obtain ⟨j, h1, h2⟩ := zL_mem.mp hq
  rcases zg_zs h1 with ⟨a, b⟩ | ⟨a, b⟩
  · exact absurd b h1
  · rw [b] at h1 h2
    rcases zg_zs h1 with ⟨a', b'⟩ | ⟨a', b'⟩
    · rw [h2, b', a']; simpa [zV] using h.2.2 _ List.mem_cons_self
    · rw [b'] at h1 h2
      refine h.2.2 q (List.mem_cons_of_mem _ (List.mem_filter.mpr ⟨zL_mem.mpr ⟨j, h1, h2⟩, ?_⟩))
      subst h2
      have hji : (0 + j == i) = false := by simpa using a'
      have hji2 : (0 + j == i + 1) = false := by simpa using a
      simp only [hji, hji2, Bool.not_false, Bool.true_and, Bool.not_eq_true', Bool.and_eq_false_iff]
      by_cases hj : 0 + j + 1 = i
      · right
        have : i = j + 1 := by omega
        subst this
        have hc : (zg ls j).category = 1 := Nat.eq_of_beq_eq_true hk
        rw [zV_cat, hc]; rfl
      · left; simpa using hj
section Sound6
variable {G : zG} {n0 nE nL : Nat} {cc : ByteArray} {own : String} {p : Program} {l : Launch} {e : Env} {R : Room} {s : State} {m : MethodId} {args : Array Value} {below : List Frame} {meth : Method} {c : Code} {Z : State → Prop}
theorem sn_ldcw (X : zCx G n0 nE nL cc own p R s m args c) {pc idx : Nat} {v : Int32} (hw : Cond.constant own idx v ∈ zTs) (hd : decode cc pc = .ok (.ldc_w idx, 3)) : zSnd G n0 nE nL p l e R s m args below meth c Z pc (o_push (.int v) (pc + 3)) := by
  intro k hk ls st n mem h H locs lsC cs ss e1 e2 e3 hl hz hP hS
  exact lv_ldcw X.1 X.2.1 X.2.2.2.1 (X.2.2.2.2.1 _ hw) hd (hk _ _ _ _ _ h H locs lsC cs ss e1 e2 e3 hl hz hP hS)
theorem sn_lstore_n (X : zCx G n0 nE nL cc own p R s m args c) {pc : Nat} {q : Fin 4} (i : Nat) (hi2 : i + 1 < nL) (hd : decode cc pc = .ok (.lstore_n q, 1)) (hi : (q : Nat) = i) : zSnd G n0 nE nL p l e R s m args below meth c Z pc (o_storeJ i (pc + 1)) := by
  intro k hk ls st n mem h H locs lsC cs ss e1 e2 e3 hl hz hP hS
  unfold o_storeJ at h
  split at h
  · cases hq : zok ls i with
    | false => rw [hq] at h; exact h.elim
    | true =>
      rw [hq] at h
      exact lv_lstore_n X.1 X.2.1 hd hi hl hi2 rfl (fun ls' hl' => hk _ _ _ _ _ h H locs ls' cs ss e1 e2 e3 (zL_storeJ hq hl') hz hP hS)
  · exact h.elim
theorem sn_tok (X : zCx G n0 nE nL cc own p R s m args c) {pc idx : Nat} (t : Nat) (ht : t < 14) (hw : Cond.fieldLink own idx RX8 (ztn t) "LAuthorityBook$Token;" ∈ zTs) (hd : decode cc pc = .ok (.getstatic idx, 3)) : zSnd G n0 nE nL p l e R s m args below meth c Z pc (o_push (.ref (2 + t)) (pc + 3)) := by
  intro k hk ls st n mem h H locs lsC cs ss e1 e2 e3 hl hz hP hS
  have key := hk _ _ _ _ _ h H locs lsC cs ss e1 e2 e3 hl hz hP hS
  refine va_gets X.1 X.2.1 (X.2.2.2.2.2.1.2.2.2.1 t ht) hS X.2.2.2.1 (X.2.2.2.2.1 _ hw) (fun _ z => z) hd ?_
  rw [← zsm (G := G) (i := 2 + t) (by omega)]
  exact key
theorem sn_tokAll (X : zCx G n0 nE nL cc own p R s m args c) {pc idx : Nat} {host : String} (hw : Cond.fieldLinkNest own idx RX8 "ALL" "[LAuthorityBook$Token;" host ∈ lw_tbl) (hd : decode cc pc = .ok (.getstatic idx, 3)) : zSnd G n0 nE nL p l e R s m args below meth c Z pc (o_push (.ref 16) (pc + 3)) := by
  intro k hk ls st n mem h H locs lsC cs ss e1 e2 e3 hl hz hP hS
  have key := hk _ _ _ _ _ h H locs lsC cs ss e1 e2 e3 hl hz hP hS
  refine va_getsN X.1 X.2.1 X.2.2.2.2.2.1.2.2.2.2.1 hS X.2.2.2.1 (va_Nw.use rfl (X.2.2.2.2.2.1.2.1 _ hw rfl)) (fun _ z => z) hd ?_
  rw [← zsm (G := G) (i := 16) (by omega)]
  exact key
theorem sn_aldT (X : zCx G n0 nE nL cc own p R s m args c) {pc : Nat} (hd : decode cc pc = .ok (.aaload, 1)) : zSnd G n0 nE nL p l e R s m args below meth c Z pc (o_aldT (pc + 1)) := by
  intro k hk ls st n mem h H locs lsC cs ss e1 e2 e3 hl hz hP hS
  unfold o_aldT at h
  split at h
  · obtain ⟨j, rfl, hj, h2⟩ := h
    have hc : (nI j).toNatClampNeg = j := nI_clamp (by omega)
    have h1 : vp_in (nI j) 14 := vp_in_nI hj (by omega)
    rw [← hc] at h2
    generalize nI j = i at h1 h2 hc ⊢
    have key := hk _ _ _ _ _ h2 H locs lsC cs ss e1 e2 e3 hl hz hP hS
    obtain ⟨cell, g1, g2, g3, g4, g5, g6, g7⟩ := (X.2.2.2.2.2.1.2.2.2.2.2.1).kept hS.2.1
    have hlt : i.toNatClampNeg < 14 := Nat.not_le.mp fun q => h1 (Or.inr q)
    rw [← zsm (G := G) (i := 16) (by omega)] at g1
    refine W.aald (v := .ref (G.2.1 (2 + i.toNatClampNeg))) (ty := .object RX8) X.1 X.2.1 g1 g2 rfl g3 (fun q => h1 (q.imp id fun z => Nat.le_trans g4 z)) (g6 _ hlt) rfl rfl hd ?_
    rw [← zsm (G := G) (i := 2 + i.toNatClampNeg) (by omega)]
    exact key
  · exact h.elim
theorem sn_alenT (X : zCx G n0 nE nL cc own p R s m args c) {pc : Nat} (hd : decode cc pc = .ok (.arraylength, 1)) : zSnd G n0 nE nL p l e R s m args below meth c Z pc (o_alenT (pc + 1)) := by
  intro k hk ls st n mem h H locs lsC cs ss e1 e2 e3 hl hz hP hS
  unfold o_alenT at h
  split at h
  · have key := hk _ _ _ _ _ h H locs lsC cs ss e1 e2 e3 hl hz hP hS
    have hT := X.2.2.2.2.2.1.2.2.2.2.2.1
    rw [← zsm (G := G) (i := 16) (by omega)] at hT
    exact va_tlen X.1 X.2.1 hT hS rfl hd key
  · exact h.elim
theorem sn_getW (X : zCx G n0 nE nL cc own p R s m args c) {pc idx : Nat} (hw : Cond.fieldLink own idx RX8 "word" "Ljava/lang/String;" ∈ zTs) (hd : decode cc pc = .ok (.getfield idx, 3)) : zSnd G n0 nE nL p l e R s m args below meth c Z pc (o_getW (pc + 3)) := by
  intro k hk ls st n mem h H locs lsC cs ss e1 e2 e3 hl hz hP hS
  unfold o_getW at h
  split at h
  · rename_i i st
    obtain ⟨h1, h2⟩ := h
    obtain ⟨j, hj, hji⟩ : ∃ j : Nat, j < 14 ∧ i = 2 + j := by obtain ⟨a, b⟩ := h1; exact ⟨i - 2, Nat.sub_lt_left_of_lt_add a (by exact b), (Nat.add_sub_cancel' a).symm⟩
    subst hji
    have key := hk _ _ _ _ _ h2 H locs lsC cs ss e1 e2 e3 hl hz hP hS
    rw [show 2 + j - 2 = j by omega] at key
    have hO := (X.2.2.2.2.2.1.2.2.2.2.2.2.1 j hj).2
    have hwd : zwd j < 25 := by
      have : ∀ j, j < 14 → zwd j < 25 := by decide
      exact this j hj
    rw [← zsm (G := G) (i := 2 + j) (by omega), ← zsm (G := G) (i := 20 + zwd j) (by omega)] at hO
    exact vk_getf X.1 X.2.1 hO hS X.2.2.2.1 (X.2.2.2.2.1 _ hw) (fun _ z => z) hd key
  · exact h.elim
theorem ztok_at {i : Nat} (h : ztok i) : ∃ j : Nat, j < 14 ∧ i = 2 + j := ⟨i - 2, by obtain ⟨a, b⟩ := h; omega, by obtain ⟨a, b⟩ := h; omega⟩
theorem sn_astT (X : zCx G n0 nE nL cc own p R s m args c) {pc : Nat} (hd : decode cc pc = .ok (.aastore, 1)) : zSnd G n0 nE nL p l e R s m args below meth c Z pc (o_astT (pc + 1)) := by
  intro k hk ls st n mem h H locs lsC cs ss e1 e2 e3 hl hz hP hS
  unfold o_astT at h
  split at h
  · rename_i v i a st
    obtain ⟨len, j0, h1, rfl, hj0, h4, h3⟩ := h
    obtain ⟨h2, hc⟩ := zix h1 hj0
    rw [← hc] at h3
    obtain ⟨j, hj, hji⟩ := ztok_at h4
    obtain ⟨cell, g1, g2, g3, -⟩ := ((X.2.2.2.2.2.1.2.2.2.2.2.2.1 j hj).1).kept hS.2.1
    rw [← zsm (G := G) (i := 2 + j) (by omega), ← hji] at g1
    exact z_aast X 5 rfl ⟨by omega, by omega⟩ hd h1 h2 ⟨cell, g1, g2, g3⟩ hP hS (fun H1 locs1 z1 hP1 hS1 => hk _ _ _ _ _ h3 H1 locs1 lsC cs ss e1 e2 e3 hl (z1.trans hz) hP1 hS1)
  · exact h.elim
theorem ztok_inj (X : zCx G n0 nE nL cc own p R s m args c) {x y : Nat} (hx : ztok x) (hy : ztok y) (h : zAd G x = zAd G y) : x = y := by
  obtain ⟨i, hi, rfl⟩ := ztok_at hx
  obtain ⟨j, hj, rfl⟩ := ztok_at hy
  rw [zsm (by omega), zsm (by omega)] at h
  rw [X.2.2.2.2.2.1.2.2.2.2.2.2.2.2.2.2 i j hi hj h]
theorem sn_acmp_eq (X : zCx G n0 nE nL cc own p R s m args c) {pc : Nat} {off : Int} (tgt : Nat) (hd : decode cc pc = .ok (.if_acmp .eq off, 3)) (ht : (pc : Int) + off = (tgt : Int)) : zSnd G n0 nE nL p l e R s m args below meth c Z pc (o_acmp tgt (pc + 3)) := by
  intro k hk ls st n mem h H locs lsC cs ss e1 e2 e3 hl hz hP hS
  unfold o_acmp at h
  split at h
  · rename_i y x st
    obtain ⟨h1, h2, h3, h4⟩ := h
    exact lv_acmp_eq (rx := some (zAd G x)) (ry := some (zAd G y)) X.1 X.2.1 hd ht (fun z => hk _ _ _ _ _ (h3 (ztok_inj X h1 h2 (Option.some.inj z))) H locs lsC cs ss e1 e2 e3 hl hz hP hS) (fun z => hk _ _ _ _ _ (h4 fun w => z (by rw [w])) H locs lsC cs ss e1 e2 e3 hl hz hP hS)
  · exact h.elim
theorem sn_acmp_ne (X : zCx G n0 nE nL cc own p R s m args c) {pc : Nat} {off : Int} (tgt : Nat) (hd : decode cc pc = .ok (.if_acmp .ne off, 3)) (ht : (pc : Int) + off = (tgt : Int)) : zSnd G n0 nE nL p l e R s m args below meth c Z pc (o_acmp (pc + 3) tgt) := by
  intro k hk ls st n mem h H locs lsC cs ss e1 e2 e3 hl hz hP hS
  unfold o_acmp at h
  split at h
  · rename_i y x st
    obtain ⟨h1, h2, h3, h4⟩ := h
    exact lv_acmp_ne (rx := some (zAd G x)) (ry := some (zAd G y)) X.1 X.2.1 hd ht (fun z => hk _ _ _ _ _ (h4 fun w => z (by rw [w])) H locs lsC cs ss e1 e2 e3 hl hz hP hS) (fun z => hk _ _ _ _ _ (h3 (ztok_inj X h1 h2 (Option.some.inj z))) H locs lsC cs ss e1 e2 e3 hl hz hP hS)
  · exact h.elim
theorem sn_ldcS (X : zCx G n0 nE nL cc own p R s m args c) {pc : Nat} (q : Nat) (hq : q < 25) {idx : Nat} (ho : (zso q).1 = own ∧ (zso q).2.1 = idx) (hd : decode cc pc = .ok (.ldc idx, 2)) : zSnd G n0 nE nL p l e R s m args below meth c Z pc (o_push (.ref (20 + q)) (pc + 2)) := by
  intro k hk ls st n mem h H locs lsC cs ss e1 e2 e3 hl hz hP hS
  have key := hk _ _ _ _ _ h H locs lsC cs ss e1 e2 e3 hl hz hP hS
  have hR := X.2.2.2.2.2.1.2.2.2.2.2.2.2.2.1 q hq
  rw [ho.1, ho.2, ← zsm (G := G) (i := 20 + q) (by omega)] at hR
  exact va_ldcS X.1 X.2.1 X.2.2.2.1 hR hd key
/-- a switch on 0, 1, .. -/
theorem sn_tsw (X : zCx G n0 nE nL cc own p R s m args c) {pc len : Nat} {dflt hi : Int} {offs : Array Int} (tgts : List Nat) (dt : Nat) (hd : decode cc pc = .ok (.tableswitch dflt 0 hi offs, len)) (h1 : (hi : Int) = (tgts.length : Int) - 1) (hsm : 0 < tgts.length ∧ tgts.length < 100) (h2 : (pc : Int) + dflt = (dt : Int)) (h3 : ∀ i : Nat, i < tgts.length → offs[i]? = some (((tgts.getD i 0 : Nat) : Int) - (pc : Int))) : zSnd G n0 nE nL p l e R s m args below meth c Z pc (o_tsw tgts dt) := by
  intro k hk ls st n mem h H locs lsC cs ss e1 e2 e3 hl hz hP hS
  unfold o_tsw at h
  split at h
  · rename_i x st
    have hn0 : nI 0 = 0 := nI_0
    by_cases hout : x < 0 ∨ nI tgts.length ≤ x
    · refine lv_tableOut X.1 X.2.1 hd ?_ h2 (hk _ _ _ _ _ (h.2 hout) H locs lsC cs ss e1 e2 e3 hl hz hP hS)
      rcases hout with z | z
      · left; rw [Int32.lt_iff_toInt_lt] at z; simpa using z
      · right; rw [Int32.le_iff_toInt_le, nI_toInt (by omega)] at z; omega
    · have hx0 : ¬ x < 0 := fun z => hout (Or.inl z)
      obtain ⟨j, hj1, hj2⟩ := nI_of hx0
      have hj : j < tgts.length := by
        rcases Nat.lt_or_ge j tgts.length with z | z
        · exact z
        · exact absurd (Or.inr (by rw [hj2]; exact nI_le z hj1)) hout
      have ho := h3 j hj
      have hxi : x.toInt = (j : Int) := by rw [hj2]; exact nI_toInt hj1
      refine lv_tableIn X.1 X.2.1 hd (by rw [hxi]; omega) (by rw [hxi]; omega) (off := ((tgts.getD j 0 : Nat) : Int) - (pc : Int)) (by rw [hxi]; simpa using ho) (tgt := tgts.getD j 0) (by omega) (hk _ _ _ _ _ (h.1 j hj hj2) H locs lsC cs ss e1 e2 e3 hl hz hP hS)
  · exact h.elim
end Sound6
theorem zroom {h h1 mL : Nat} (hm : mL ≤ 20) (hh : h1 < h) : h1 + 1 ≤ h ∧ 8 + (mL + 11) + 40 * h1 ≤ 40 * h := by omega
