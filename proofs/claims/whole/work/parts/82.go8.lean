theorem fr_wrL {S : Nat → Nat → Prop} {b o f : Nat} (h1 : ∀ k, S b k) (h2 : S o f) {M : zM} : ∀ (L : List Int32) (m : zM) (k : Nat), zfr S M m → zfr S M (wrL b o f m k L) := by
  intro L
  induction L with
  | nil => intro m k h; exact h
  | cons c cs ih => intro m k h; exact ih _ _ ((h.I (h1 k)).I h2)
theorem go_letter {n : Nat} {mem : zM} {Q : zPo} {p i : Int32} (hJ : J n mem) (hQ : ∀ r M, zTw k_X11_letter [.ref 180, .int p, .int i] n r M → Q (some (.int r)) n M) : k_X10_letter [.ref 100, .int p, .int i] n mem Q := by
  obtain ⟨t, np, pw, m, na, hj⟩ := hJ
  have hj0 := J_t hj
  obtain ⟨-, hC, hP, hE, hN⟩ := id hj.1
  have hT := hC.2.1
  have h20 := hC.2.2.2.1.2.2
  have h8 := hC.2.2.1.2.2
  have h16 := hC.2.2.2.2.2.2.2.2.2
  have e13 : mem.1 180 13 = nI np := hC.2.2.1.2.1
  have e15 : mem.1 180 15 = nI pw := hC.2.2.2.1.2.1
  have e27 : mem.1 180 27 = nI m := hC.2.2.2.2.2.1.2.1
  have e29 : mem.1 180 29 = nI na := hC.2.2.2.2.2.2.2.2.1
  have vl : ∀ p, p < pw → zPr (mem.1 182) p := by
    intro p hp
    obtain ⟨⟨q, hq, e0⟩, -, ⟨b, -, hb, e2⟩, -, ⟨c, hc, e4⟩, h5, h6, h7⟩ := (hP p hp).2.1
    refine ⟨⟨q, by omega, e0⟩, ⟨b, hb, e2⟩, ⟨c, hc, e4⟩, h5, h6, ?_⟩
    rcases h7 with z | ⟨u, hu, z⟩
    · exact Or.inl z
    · exact Or.inr ⟨u, by omega, z⟩
  have le : ∀ p, p < pw → lineR (mem.1 (t + 2 + p)) 0 = lineR (mem.1 182) p := by
    intro p hp
    have hr := (hP p hp).1
    unfold lineR
    show lineL (mem.1 (t + 2 + p) 0) (mem.1 (t + 2 + p) 1) (mem.1 (t + 2 + p) 2) (mem.1 (t + 2 + p) 3) (mem.1 (t + 2 + p) 4) (mem.1 (t + 2 + p) 5) (mem.1 (t + 2 + p) 6) (mem.1 (t + 2 + p) 7) = _
    rw [hr 0 (by omega), hr 1 (by omega), hr 2 (by omega), hr 3 (by omega), hr 4 (by omega), hr 5 (by omega), hr 6 (by omega), hr 7 (by omega)]
    rfl
  have vc : ∀ p, p < pw → zPr (mem.1 (t + 2 + p)) 0 := by
    intro p hp
    have hr := (hP p hp).1
    have v := vl p hp
    unfold zPr at v ⊢
    show (∃ a, a < 8 ∧ mem.1 (t + 2 + p) 0 = nI a) ∧ (∃ a, a ≤ 8 ∧ mem.1 (t + 2 + p) 2 = nI a) ∧ (∃ a, a ≤ 999 ∧ mem.1 (t + 2 + p) 4 = nI a) ∧ (mem.1 (t + 2 + p) 5 = -1 ∨ ∃ a, a ≤ 999 ∧ mem.1 (t + 2 + p) 5 = nI a) ∧ (mem.1 (t + 2 + p) 6 = 0 ∨ mem.1 (t + 2 + p) 6 = 1) ∧ (mem.1 (t + 2 + p) 7 = -1 ∨ ∃ a, a < 20 ∧ mem.1 (t + 2 + p) 7 = nI a)
    rw [hr 0 (by omega), hr 2 (by omega), hr 4 (by omega), hr 5 (by omega), hr 6 (by omega), hr 7 (by omega)]
    exact v
  refine ⟨p, i, t, np, pw, m, na, rfl, jB_Cs hj.1, vc, ?_⟩
  rw [hC.2.2.2.1.1]
  cases hc : inC p (nI pw) with
  | false =>
    rw [if_pos rfl]
    refine hQ _ _ fun Q2 hq => ⟨p, i, np, pw, m, na, rfl, hj.1.1, jB_Mc hj0.1, vl, ?_⟩
    rw [show (zI mem 180 0 0).1 180 15 = nI pw from e15, ← inC_in (by omega), hc, if_pos rfl]
    exact hq _ ⟨t, np, pw, m, na, hj0⟩
  | true =>
    rw [if_neg (by decide)]
    obtain ⟨j, hjp, rfl⟩ := inC_nI (by omega) hc
    have ij : ix (nI j) = j := ix_nI (by omega)
    rw [ij, le j hjp]
    generalize hM : wrL 118 117 1 (zI mem 117 1 0) 0 (lineR (mem.1 182) j) = M
    have f : zfr sQ mem M := by
      rw [← hM]
      exact fr_wrL (fun _ => by unfold sQ; omega) (by unfold sQ; omega) _ _ _ (zfr.rf.I (by unfold sQ; omega))
    have hjM := J_t (J_q hj f)
    have r182 : (zI M 180 0 0).1 182 = mem.1 182 := by rw [zI_ne (by omega)]; funext b; exact f.1 182 b (by unfold sQ; omega)
    have r15 : (zI M 180 0 0).1 180 15 = nI pw := by rw [zI_o (by omega), f.1 180 15 (by unfold sQ; omega)]; exact e15
    refine hQ _ _ fun Q2 hq => ⟨nI j, i, np, pw, m, na, rfl, hjM.1.1, jB_Mc hjM.1, fun p hp => by rw [r182]; exact vl p hp, ?_⟩
    rw [r15, ← inC_in (by omega), hc, if_neg (by decide), ij, r182]
    have hl : (lineR (mem.1 182) j).length ≤ 2000 := by have := lineL_len (mem.1 182 (8 * j)) (mem.1 182 (8 * j + 1)) (mem.1 182 (8 * j + 2)) (mem.1 182 (8 * j + 3)) (mem.1 182 (8 * j + 4)) (mem.1 182 (8 * j + 5)) (mem.1 182 (8 * j + 6)) (mem.1 182 (8 * j + 7)); unfold lineR; omega
    rw [← inC_in hl]
    refine hq _ ⟨t, np, pw, m, na, J_q hjM ?_⟩
    exact fr_wrL (fun _ => by unfold sQ; omega) (by unfold sQ; omega) _ _ _ (zfr.rf.I (by unfold sQ; omega))
/-! ===== the tape ===== -/
theorem b_i8 {z : Int32} {i : Nat} (hi : i < 32) : bt (z.toInt8.toInt32) i = bt z (if i < 8 then i else 7) := by
  unfold bt
  rw [Int8.toBitVec_toInt32, Int32.toBitVec_toInt8, BitVec.getLsbD_signExtend, decide_eq_true hi, Bool.true_and]
  by_cases h : i < 8
  · rw [if_pos h, if_pos h, BitVec.getLsbD_signExtend, decide_eq_true h, Bool.true_and, if_pos hi]
  · rw [if_neg h, if_neg h, BitVec.msb_eq_getLsbD_last, BitVec.getLsbD_signExtend]
    rfl
theorem zlet_i8 (z : Int32) : zlet (z.toInt8.toInt32) := by
  unfold zlet
  apply b_ext
  intro i hi
  rw [b_i8 hi]
  by_cases h : i < 8
  · rw [if_pos h]
  · rw [if_neg h, b_i8 (by omega), b_i8 hi, if_neg h]; rfl
theorem by_eq (w : Int32) {j : Nat} (hj : j < 4) : byM w j = byC w j &&& 255 ∧ zlet (byC w j) := by
  refine ⟨?_, zlet_i8 _⟩
  unfold byM byC
  apply b_ext
  intro i hi
  rw [b_and, b_and, b_255]
  by_cases h : i < 8
  · rw [decide_eq_true h, Bool.and_true, Bool.and_true, b_i8 hi, if_pos h]
    rcases (show j = 0 ∨ j = 1 ∨ j = 2 ∨ j = 3 by omega) with rfl | rfl | rfl | rfl
    · show bt ((w.toUInt32 >>> ((nI 24).toUInt32 &&& Int32.toUInt32 31)).toInt32) i = bt (w >>> (nI 24 &&& 31)) i
      rw [b_ushr 24 (by omega), b_sshr 24 (by omega) w hi, if_pos (by omega)]
    · show bt ((w.toUInt32 >>> ((nI 16).toUInt32 &&& Int32.toUInt32 31)).toInt32) i = bt (w >>> (nI 16 &&& 31)) i
      rw [b_ushr 16 (by omega), b_sshr 16 (by omega) w hi, if_pos (by omega)]
    · show bt ((w.toUInt32 >>> ((nI 8).toUInt32 &&& Int32.toUInt32 31)).toInt32) i = bt (w >>> (nI 8 &&& 31)) i
      rw [b_ushr 8 (by omega), b_sshr 8 (by omega) w hi, if_pos (by omega)]
    · show bt ((w.toUInt32 >>> ((nI 0).toUInt32 &&& Int32.toUInt32 31)).toInt32) i = bt (w >>> (nI 0 &&& 31)) i
      rw [b_ushr 0 (by omega), b_sshr 0 (by omega) w hi, if_pos (by omega)]
  · rw [decide_eq_false h, Bool.and_false, Bool.and_false]
theorem cl4_at {mem : zM} {t : Nat} {w : Int32} : ∀ j, (∀ b, (cl4 mem t w j).1 102 b = if t ≤ b ∧ b < t + j then byC w (b - t) else mem.1 102 b) ∧ ∀ a, a ≠ 102 → a ≠ 101 → (cl4 mem t w j).1 a = mem.1 a := by
  intro j
  induction j with
  | zero => exact ⟨fun b => by rw [if_neg (by omega)]; rfl, fun a _ _ => rfl⟩
  | succ j ih =>
    rw [cl4]
    refine ⟨fun b => ?_, fun a h1 h2 => by rw [zI_ne h2, zI_ne h1]; exact ih.2 a h1 h2⟩
    rw [zI_ne (by omega), zI_at, if_pos rfl]
    by_cases z : b = t + j
    · rw [if_pos z, if_pos (by omega), z, Nat.add_sub_cancel_left]
    · rw [if_neg z, ih.1 b]
      by_cases y : t ≤ b ∧ b < t + j
      · rw [if_pos y, if_pos (by omega)]
      · rw [if_neg y, if_neg (by omega)]
theorem zl4_at {mem : zM} {t : Nat} {w : Int32} : ∀ j, (∀ b, (zl4 mem t w j).1 181 b = if t ≤ b ∧ b < t + j then byM w (b - t) else mem.1 181 b) ∧ (∀ a, a ≠ 181 → a ≠ 180 → (zl4 mem t w j).1 a = mem.1 a) ∧ ∀ b, b ≠ 2 → (zl4 mem t w j).1 180 b = mem.1 180 b := by
  intro j
  induction j with
  | zero => exact ⟨fun b => by rw [if_neg (by omega)]; rfl, fun a _ _ => rfl, fun b _ => rfl⟩
  | succ j ih =>
    rw [zl4]
    refine ⟨fun b => ?_, fun a h1 h2 => by rw [zI_ne h2, zI_ne h1]; exact ih.2.1 a h1 h2, fun b hb => by rw [zI_o hb, zI_ne (by omega)]; exact ih.2.2 b hb⟩
    rw [zI_ne (by omega), zI_at, if_pos rfl]
    by_cases z : b = t + j
    · rw [if_pos z, if_pos (by omega), z, Nat.add_sub_cancel_left]
    · rw [if_neg z, ih.1 b]
      by_cases y : t ≤ b ∧ b < t + j
      · rw [if_pos y, if_pos (by omega)]
      · rw [if_neg y, if_neg (by omega)]
def tpR (f g : Nat → Int32) : Prop := ∀ x, g x = f x &&& 255 ∧ zlet (f x)
theorem tpR_4 {C R : zM} {t : Nat} {w : Int32} (h : tpR (C.1 102) (R.1 181)) : tpR ((cl4 C t w 4).1 102) ((zl4 R t w 4).1 181) := by
  intro x
  rw [(cl4_at 4).1, (zl4_at 4).1]
  by_cases z : t ≤ x ∧ x < t + 4
  · rw [if_pos z, if_pos z]; exact by_eq w (by omega)
  · rw [if_neg z, if_neg z]; exact h x
theorem go_feed {n : Nat} {mem : zM} {Q : zPo} {a b c d e : Int32} (hJ : J n mem) (hQ : ∀ r M, zTw k_X11_feed [.ref 180, .int a, .int b, .int c, .int d, .int e] n r M → Q (some (.int r)) n M) : k_X10_feed [.ref 100, .int a, .int b, .int c, .int d, .int e] n mem Q := by
  obtain ⟨t, np, pw, m, na, hj⟩ := hJ
  have hj0 := J_t hj
  obtain ⟨-, hC, hP, hE, hN⟩ := id hj.1
  have hT := hC.2.1
  have h20 := hC.2.2.2.1.2.2
  have h8 := hC.2.2.1.2.2
  have h16 := hC.2.2.2.2.2.2.2.2.2
  have e13 : mem.1 180 13 = nI np := hC.2.2.1.2.1
  have e15 : mem.1 180 15 = nI pw := hC.2.2.2.1.2.1
  have e27 : mem.1 180 27 = nI m := hC.2.2.2.2.2.1.2.1
  have e29 : mem.1 180 29 = nI na := hC.2.2.2.2.2.2.2.2.1
  obtain ⟨sz, s1, s2, s3, s4, s5⟩ := hj.2.1
  refine ⟨a, b, c, d, e, sz, rfl, hj.1.1, s1, s3, ?_⟩
  by_cases hc : sz + 20 ≤ 840
  · rw [if_pos hc]
    have hi : ∀ x, 180 ≤ x → (cl20 mem sz a b c d e).1 x = mem.1 x := fun x hx => by unfold cl20; rw [(cl4_at 4).2 x (by omega) (by omega), (cl4_at 4).2 x (by omega) (by omega), (cl4_at 4).2 x (by omega) (by omega), (cl4_at 4).2 x (by omega) (by omega), (cl4_at 4).2 x (by omega) (by omega)]
    have hr : tpR ((cl20 mem sz a b c d e).1 102) ((zl20 (zI (cl20 mem sz a b c d e) 180 0 0) sz a b c d e).1 181) := by
      have r0 : tpR (mem.1 102) ((zI (cl20 mem sz a b c d e) 180 0 0).1 181) := by
        rw [zI_ne (by omega), hi 181 (by omega)]; exact s4
      unfold zl20 cl20
      exact tpR_4 (tpR_4 (tpR_4 (tpR_4 (tpR_4 r0))))
    have fC : zfr (sU t) mem (cl20 mem sz a b c d e) := by
      have one : ∀ (M : zM) (s : Nat) (w : Int32), zfr (sU t) mem M → ∀ j, zfr (sU t) mem (cl4 M s w j) := by
        intro M s w hM j
        induction j with
        | zero => exact hM
        | succ j ih => exact (ih.I (by unfold sU; omega)).I (by unfold sU; omega)
      exact one _ _ _ (one _ _ _ (one _ _ _ (one _ _ _ (one _ _ _ zfr.rf 4) 4) 4) 4) 4
    have fR : zfr (sU t) mem (zl20 (zI (cl20 mem sz a b c d e) 180 0 0) sz a b c d e) := by
      have one : ∀ (M : zM) (s : Nat) (w : Int32), zfr (sU t) mem M → ∀ j, zfr (sU t) mem (zl4 M s w j) := by
        intro M s w hM j
        induction j with
        | zero => exact hM
        | succ j ih => exact (ih.I (by unfold sU; omega)).I (by unfold sU; omega)
      exact one _ _ _ (one _ _ _ (one _ _ _ (one _ _ _ (one _ _ _ (fC.I (Or.inl (Or.inl ⟨rfl, Or.inl rfl⟩))) 4) 4) 4) 4) 4
    have c2 : (cl20 mem sz a b c d e).2 = mem.2 := by unfold cl20; rw [cl4_2, cl4_2, cl4_2, cl4_2, cl4_2]
    have hstC : zst n (cl20 mem sz a b c d e) := ⟨hj.1.1.1, by unfold zFx; rw [c2]; exact hj.1.1.2⟩
    refine hQ _ _ fun Q2 hq => ⟨a, b, c, d, e, sz, rfl, hstC, ?_⟩
    have e2 : (zI (cl20 mem sz a b c d e) 180 0 0).1 180 2 = nI sz := by rw [zI_o (by omega), hi 180 (by omega)]; exact s2
    refine ⟨e2, s3, ?_⟩
    rw [if_pos hc]
    generalize hN : zl20 (zI (cl20 mem sz a b c d e) 180 0 0) sz a b c d e = N at fR hr ⊢
    have n2 : N.2 = mem.2 := by rw [← hN]; unfold zl20; rw [zl4_2, zl4_2, zl4_2, zl4_2, zl4_2]; exact c2
    have hstN : zst n N := ⟨hj.1.1.1, by unfold zFx; rw [n2]; exact hj.1.1.2⟩
    obtain ⟨hB', hA'⟩ := jB_u hj.1 hj.2.2 fR hstN
    have lo : ∀ x, x < 180 → N.1 x = (cl20 mem sz a b c d e).1 x := fun x hx => by
      rw [← hN]; unfold zl20
      rw [(zl4_at 4).2.1 x (by omega) (by omega), (zl4_at 4).2.1 x (by omega) (by omega), (zl4_at 4).2.1 x (by omega) (by omega), (zl4_at 4).2.1 x (by omega) (by omega), (zl4_at 4).2.1 x (by omega) (by omega), zI_ne (by omega)]
    refine hq N ⟨t, np, pw, m, na, hB', ⟨sz + 20, ?_, ?_, hc, ?_, ?_⟩, hA'⟩
    · rw [lo 101 (by omega)]; unfold cl20; rw [cl4, zI_s]
    · rw [← hN]; unfold zl20; rw [zl4, zI_s]
    · rw [lo 102 (by omega)]; exact hr
    · rw [lo 100 (by omega)]
      have e1 : (cl20 mem sz a b c d e).1 100 = mem.1 100 := by unfold cl20; rw [(cl4_at 4).2 100 (by omega) (by omega), (cl4_at 4).2 100 (by omega) (by omega), (cl4_at 4).2 100 (by omega) (by omega), (cl4_at 4).2 100 (by omega) (by omega), (cl4_at 4).2 100 (by omega) (by omega)]
      have e3 : N.1 180 8 = mem.1 180 8 := by
        rw [← hN]; unfold zl20
        rw [(zl4_at 4).2.2 8 (by omega), (zl4_at 4).2.2 8 (by omega), (zl4_at 4).2.2 8 (by omega), (zl4_at 4).2.2 8 (by omega), (zl4_at 4).2.2 8 (by omega), zI_o (by omega), hi 180 (by omega)]
      rw [e1, e3]; exact s5
  · rw [if_neg hc]
    refine hQ _ _ fun Q2 hq => ⟨a, b, c, d, e, sz, rfl, hj.1.1, s2, s3, ?_⟩
    rw [if_neg hc]
    exact hq _ ⟨t, np, pw, m, na, hj0⟩
