def bt (x : Int32) (i : Nat) : Bool := x.toBitVec.getLsbD i
theorem b_ext {x y : Int32} (h : ∀ i, i < 32 → bt x i = bt y i) : x = y := Int32.toBitVec_inj.mp (BitVec.eq_of_getLsbD_eq (fun i hi => h i hi))
theorem b_or (x y : Int32) (i : Nat) : bt (x ||| y) i = (bt x i || bt y i) := by unfold bt; rw [Int32.toBitVec_or, BitVec.getLsbD_or]
theorem b_and (x y : Int32) (i : Nat) : bt (x &&& y) i = (bt x i && bt y i) := by unfold bt; rw [Int32.toBitVec_and, BitVec.getLsbD_and]
theorem b_xor (x y : Int32) (i : Nat) : bt (x ^^^ y) i = (bt x i ^^ bt y i) := by unfold bt; rw [Int32.toBitVec_xor, BitVec.getLsbD_xor]
theorem b_big {x : Int32} {i : Nat} (h : 32 ≤ i) : bt x i = false := BitVec.getLsbD_of_ge _ _ h
theorem b_255 (i : Nat) : bt 255 i = decide (i < 8) := by
  rcases Nat.lt_or_ge i 32 with h | h
  · exact (by decide +kernel : ∀ i, i < 32 → bt 255 i = decide (i < 8)) i h
  · rw [b_big h, decide_eq_false (by omega)]
theorem b_65535 (i : Nat) : bt 65535 i = decide (i < 16) := by
  rcases Nat.lt_or_ge i 32 with h | h
  · exact (by decide +kernel : ∀ i, i < 32 → bt 65535 i = decide (i < 16)) i h
  · rw [b_big h, decide_eq_false (by omega)]
theorem b_m1 : ∀ i, i < 32 → bt (-1) i = true := by decide +kernel
theorem b_0 (i : Nat) : bt 0 i = false := BitVec.getLsbD_zero
theorem s_l : ∀ n, n < 32 → ((nI n &&& 31).toBitVec.smod 32).toNat = n := by decide +kernel
theorem s_u : ∀ n, n < 32 → (((nI n).toUInt32 &&& Int32.toUInt32 31).toBitVec % 32).toNat = n := by decide +kernel
theorem b_shl (n : Nat) (hn : n < 32) (x : Int32) {i : Nat} (hi : i < 32) : bt (x <<< (nI n &&& 31)) i = (decide (n ≤ i) && bt x (i - n)) := by
  unfold bt
  rw [Int32.toBitVec_shiftLeft]
  show (x.toBitVec <<< ((nI n &&& 31).toBitVec.smod 32).toNat).getLsbD i = _
  rw [s_l n hn, BitVec.getLsbD_shiftLeft]
  rcases Nat.lt_or_ge i n with h | h
  · simp [h, Nat.not_le.mpr h]
  · simp [hi, h, Nat.not_lt.mpr h]
theorem b_ushr (n : Nat) (hn : n < 32) (x : Int32) (i : Nat) : bt ((x.toUInt32 >>> ((nI n).toUInt32 &&& Int32.toUInt32 31)).toInt32) i = bt x (n + i) := by
  show (x.toUInt32 >>> ((nI n).toUInt32 &&& Int32.toUInt32 31)).toBitVec.getLsbD i = x.toUInt32.toBitVec.getLsbD (n + i)
  rw [UInt32.toBitVec_shiftRight]
  show (x.toUInt32.toBitVec >>> (((nI n).toUInt32 &&& Int32.toUInt32 31).toBitVec % 32).toNat).getLsbD i = _
  rw [s_u n hn, BitVec.getLsbD_ushiftRight]
theorem b_sshr (n : Nat) (hn : n < 32) (x : Int32) {i : Nat} (hi : i < 32) : bt (x >>> (nI n &&& 31)) i = if n + i < 32 then bt x (n + i) else bt x 31 := by
  unfold bt
  rw [Int32.toBitVec_shiftRight]
  show (x.toBitVec.sshiftRight ((nI n &&& 31).toBitVec.smod 32).toNat).getLsbD i = _
  rw [s_l n hn, BitVec.getLsbD_sshiftRight, BitVec.msb_eq_getLsbD_last]
  simp [hi]
theorem b_shl8 (x : Int32) {i : Nat} (hi : i < 32) : bt (x <<< ((8 : Int32) &&& 31)) i = (decide (8 ≤ i) && bt x (i - 8)) := b_shl 8 (by omega) x hi
theorem b_shl16 (x : Int32) {i : Nat} (hi : i < 32) : bt (x <<< ((16 : Int32) &&& 31)) i = (decide (16 ≤ i) && bt x (i - 16)) := b_shl 16 (by omega) x hi
theorem b_shl24 (x : Int32) {i : Nat} (hi : i < 32) : bt (x <<< ((24 : Int32) &&& 31)) i = (decide (24 ≤ i) && bt x (i - 24)) := b_shl 24 (by omega) x hi
theorem b_sshr8 (x : Int32) {i : Nat} (hi : i < 32) : bt (x >>> ((8 : Int32) &&& 31)) i = if 8 + i < 32 then bt x (8 + i) else bt x 31 := b_sshr 8 (by omega) x hi
theorem nx_and (a b : Nat) : nI a &&& nI b = nI (a &&& b) := by
  apply Int32.toBitVec_inj.1
  show BitVec.ofNat 32 a &&& BitVec.ofNat 32 b = BitVec.ofNat 32 (a &&& b)
  apply BitVec.eq_of_getLsbD_eq
  intro i hi
  simp [hi]

def zb (b : Bool) : Int32 := bif b then 1 else 0
theorem zb_0 {b : Bool} : zb b = 0 ↔ b = false := by cases b <;> decide
theorem zb_n {b : Bool} : ¬ zb b = 0 ↔ b = true := by cases b <;> decide
theorem zb_1 {b : Bool} : zb b = 1 ↔ b = true := by cases b <;> decide
theorem zb_or (b : Bool) : zb b = 0 ∨ zb b = 1 := by cases b <;> decide
theorem bt_1 (i : Nat) : bt 1 i = decide (i = 0) := by
  rcases Nat.lt_or_ge i 32 with h | h
  · exact (by decide +kernel : ∀ i, i < 32 → bt 1 i = decide (i = 0)) i h
  · rw [b_big h, decide_eq_false (by omega)]
theorem and1_bt (y : Int32) : y &&& 1 = nI (bt y 0).toNat := by
  apply b_ext
  intro i hi
  rw [b_and, bt_1]
  by_cases h0 : i = 0
  · subst h0
    cases bt y 0 <;> decide
  · rw [decide_eq_false h0, Bool.and_false]
    cases bt y 0
    · exact ((by decide +kernel : ∀ i, i < 32 → ¬ i = 0 → bt (nI false.toNat) i = false) i hi h0).symm
    · exact ((by decide +kernel : ∀ i, i < 32 → ¬ i = 0 → bt (nI true.toNat) i = false) i hi h0).symm
theorem has_bt (x : Int32) {j : Nat} (hj : j < 32) : x >>> (nI j &&& 31) &&& 1 = zb (bt x j) := by
  rw [and1_bt, b_sshr j hj x (by omega), if_pos (by omega), Nat.add_zero]
  cases bt x j <;> decide
theorem b_1shl {j i : Nat} (hj : j < 32) (hi : i < 32) : bt ((1 : Int32) <<< (nI j &&& 31)) i = decide (i = j) := by
  rw [b_shl j hj 1 hi, bt_1]
  rcases Nat.lt_trichotomy i j with h | h | h
  · rw [decide_eq_false (by omega), Bool.false_and, decide_eq_false (by omega)]
  · rw [decide_eq_true (by omega), Bool.true_and, decide_eq_true (by omega), decide_eq_true h]
  · rw [decide_eq_false (show ¬ i - j = 0 by omega), Bool.and_false, decide_eq_false (by omega)]
theorem b_not (x : Int32) {i : Nat} (hi : i < 32) : bt (x ^^^ (-1)) i = !bt x i := by rw [b_xor, b_m1 i hi, Bool.xor_true]
theorem zi {n i : Nat} {kd : zKd} (hn : 97 ≤ n) (h1 : Nat.ble 100 i = true) (h2 : Nat.ble i 196 = true) (h : zkd i = kd) : zis n i kd :=
  ⟨h, Nat.le_of_ble_eq_true h1, by have := Nat.le_of_ble_eq_true h2; omega⟩
theorem zkd_act {a : Nat} (h : a < 16) : zkd (120 + a) = .inl 0 := (by decide +kernel : ∀ a, a < 16 → zkd (120 + a) = .inl 0) a h
theorem zkd_pw {p t : Nat} (ht : t = 138 ∨ t = 160) (h : p < 20) : zkd (t + p) = .inl 5 := by
  rcases ht with rfl | rfl
  · exact (by decide +kernel : ∀ a, a < 20 → zkd (138 + a) = .inl 5) p h
  · exact (by decide +kernel : ∀ a, a < 20 → zkd (160 + a) = .inl 5) p h
theorem ziA {n a : Nat} (hn : 97 ≤ n) (h : a < 16) : zis n (120 + a) (.inl 0) := ⟨zkd_act h, by omega, by omega⟩
theorem ziP {n p t : Nat} (hn : 97 ≤ n) (ht : t = 138 ∨ t = 160) (h : p < 20) : zis n (t + p) (.inl 5) := ⟨zkd_pw ht h, by omega, by omega⟩
theorem zloop {C : Nat → Prop} {N : Nat} (hN : C N) (hs : ∀ i, i < N → C (i + 1) → C i) : ∀ i, i ≤ N → C i := by
  have key : ∀ k i, i + k = N → C i := by
    intro k
    induction k with
    | zero => intro i h; have : i = N := by omega
              rw [this]; exact hN
    | succ k ih => intro i h; exact hs i (by omega) (ih (i + 1) (by omega))
  intro i h
  exact key (N - i) i (by omega)
/-- what may change -/
def zfr (S : Nat → Nat → Prop) (mem mem' : zM) : Prop := (∀ a b, ¬ S a b → mem'.1 a b = mem.1 a b) ∧ (∀ a b, ¬ S a b → mem'.2.1 a b = mem.2.1 a b) ∧ (∀ a b, ¬ S a b → mem'.2.2 a b = mem.2.2 a b)
theorem zfr.rf {S : Nat → Nat → Prop} {mem : zM} : zfr S mem mem := ⟨fun _ _ _ => rfl, fun _ _ _ => rfl, fun _ _ _ => rfl⟩
theorem zfr.tr {S : Nat → Nat → Prop} {m1 m2 m3 : zM} (h : zfr S m1 m2) (k : zfr S m2 m3) : zfr S m1 m3 :=
  ⟨fun a b s => (k.1 a b s).trans (h.1 a b s), fun a b s => (k.2.1 a b s).trans (h.2.1 a b s), fun a b s => (k.2.2 a b s).trans (h.2.2 a b s)⟩
theorem zfr.mono {S S' : Nat → Nat → Prop} {m1 m2 : zM} (h : zfr S m1 m2) (hs : ∀ a b, S a b → S' a b) : zfr S' m1 m2 :=
  ⟨fun a b s => h.1 a b fun q => s (hs a b q), fun a b s => h.2.1 a b fun q => s (hs a b q), fun a b s => h.2.2 a b fun q => s (hs a b q)⟩
theorem zfr.I {S : Nat → Nat → Prop} {m1 m2 : zM} {i j : Nat} {v : Int32} (h : zfr S m1 m2) (hs : S i j) : zfr S m1 (zI m2 i j v) :=
  h.tr ⟨fun a b s => by
    show zup m2.1 i j v a b = m2.1 a b
    unfold zup
    by_cases ha : a = i
    · by_cases hb : b = j
      · subst ha; subst hb; exact absurd hs s
      · rw [if_pos ha, if_neg hb]
    · rw [if_neg ha], fun _ _ _ => rfl, fun _ _ _ => rfl⟩
theorem zfr.J {S : Nat → Nat → Prop} {m1 m2 : zM} {i j : Nat} {v : Int64} (h : zfr S m1 m2) (hs : S i j) : zfr S m1 (zJ m2 i j v) :=
  h.tr ⟨fun _ _ _ => rfl, fun a b s => by
    show zup m2.2.1 i j v a b = m2.2.1 a b
    unfold zup
    by_cases ha : a = i
    · by_cases hb : b = j
      · subst ha; subst hb; exact absurd hs s
      · rw [if_pos ha, if_neg hb]
    · rw [if_neg ha], fun _ _ _ => rfl⟩
theorem zfr.R {S : Nat → Nat → Prop} {m1 m2 : zM} {i j : Nat} {v : Nat} (h : zfr S m1 m2) (hs : S i j) : zfr S m1 (zR m2 i j v) :=
  h.tr ⟨fun _ _ _ => rfl, fun _ _ _ => rfl, fun a b s => by
    show zup m2.2.2 i j v a b = m2.2.2 a b
    unfold zup
    by_cases ha : a = i
    · by_cases hb : b = j
      · subst ha; subst hb; exact absurd hs s
      · rw [if_pos ha, if_neg hb]
    · rw [if_neg ha]⟩
theorem zI_at {mem : zM} {i j : Nat} {v : Int32} (a b : Nat) : (zI mem i j v).1 a b = if a = i then (if b = j then v else mem.1 a b) else mem.1 a b := rfl
theorem zI_ne {mem : zM} {i j a : Nat} {v : Int32} (h : a ≠ i) : (zI mem i j v).1 a = mem.1 a := zup_row h
theorem zI_s {mem : zM} {i j : Nat} {v : Int32} : (zI mem i j v).1 i j = v := by simp [zI_at]
theorem zI_o {mem : zM} {i j b : Nat} {v : Int32} (h : b ≠ j) : (zI mem i j v).1 i b = mem.1 i b := by simp [zI_at, h]
/-- the references that never change -/
def zfxl : List (Nat × Nat × Nat) := [(100, 0, 101), (100, 1, 103), (100, 2, 108), (100, 3, 114), (100, 4, 117), (100, 5, 119), (101, 0, 102), (103, 0, 104), (104, 0, 101), (104, 2, 105), (104, 3, 106), (104, 4, 107), (108, 0, 109), (108, 1, 110), (108, 2, 111), (108, 3, 112), (108, 4, 113), (114, 0, 115), (114, 1, 116), (117, 0, 118), (180, 1, 181), (180, 11, 182), (180, 12, 183), (180, 19, 184), (180, 20, 185), (180, 21, 186), (180, 22, 187), (180, 23, 188), (180, 24, 189), (180, 25, 190), (180, 26, 191), (180, 34, 192), (180, 35, 193), (180, 36, 194), (180, 40, 195), (180, 41, 196), (136, 0, 137), (158, 0, 159)]
def zFx (mem : zM) : Prop := (∀ q ∈ zfxl, mem.2.2 q.1 q.2.1 = q.2.2) ∧ (∀ p, p < 20 → mem.2.2 137 p = 138 + p ∧ mem.2.2 159 p = 160 + p) ∧ (∀ a, a < 16 → mem.2.2 119 a = 120 + a) ∧ ((mem.2.2 100 8 = 136 ∧ mem.2.2 100 9 = 158) ∨ (mem.2.2 100 8 = 158 ∧ mem.2.2 100 9 = 136))
theorem fx_Book_tape {mem : zM} (h : zFx mem) : mem.2.2 100 0 = 101 := h.1 (100, 0, 101) (List.mem_of_getElem? (i := 0) rfl)
theorem fx_Book_reader {mem : zM} (h : zFx mem) : mem.2.2 100 1 = 103 := h.1 (100, 1, 103) (List.mem_of_getElem? (i := 1) rfl)
theorem fx_Book_log {mem : zM} (h : zFx mem) : mem.2.2 100 2 = 108 := h.1 (100, 2, 108) (List.mem_of_getElem? (i := 2) rfl)
theorem fx_Book_judge {mem : zM} (h : zFx mem) : mem.2.2 100 3 = 114 := h.1 (100, 3, 114) (List.mem_of_getElem? (i := 3) rfl)
theorem fx_Book_writer {mem : zM} (h : zFx mem) : mem.2.2 100 4 = 117 := h.1 (100, 4, 117) (List.mem_of_getElem? (i := 4) rfl)
theorem fx_Book_acts {mem : zM} (h : zFx mem) : mem.2.2 100 5 = 119 := h.1 (100, 5, 119) (List.mem_of_getElem? (i := 5) rfl)
theorem fx_Tape_bytes {mem : zM} (h : zFx mem) : mem.2.2 101 0 = 102 := h.1 (101, 0, 102) (List.mem_of_getElem? (i := 6) rfl)
theorem fx_TextReader_lexer {mem : zM} (h : zFx mem) : mem.2.2 103 0 = 104 := h.1 (103, 0, 104) (List.mem_of_getElem? (i := 7) rfl)
theorem fx_Lexer_tape {mem : zM} (h : zFx mem) : mem.2.2 104 0 = 101 := h.1 (104, 0, 101) (List.mem_of_getElem? (i := 8) rfl)
theorem fx_Lexer_tokens {mem : zM} (h : zFx mem) : mem.2.2 104 2 = 105 := h.1 (104, 2, 105) (List.mem_of_getElem? (i := 9) rfl)
theorem fx_Lexer_starts {mem : zM} (h : zFx mem) : mem.2.2 104 3 = 106 := h.1 (104, 3, 106) (List.mem_of_getElem? (i := 10) rfl)
theorem fx_Lexer_numbers {mem : zM} (h : zFx mem) : mem.2.2 104 4 = 107 := h.1 (104, 4, 107) (List.mem_of_getElem? (i := 11) rfl)
theorem fx_Log_dayAt {mem : zM} (h : zFx mem) : mem.2.2 108 0 = 109 := h.1 (108, 0, 109) (List.mem_of_getElem? (i := 12) rfl)
theorem fx_Log_narrowed {mem : zM} (h : zFx mem) : mem.2.2 108 1 = 110 := h.1 (108, 1, 110) (List.mem_of_getElem? (i := 13) rfl)
theorem fx_Log_kindsTo {mem : zM} (h : zFx mem) : mem.2.2 108 2 = 111 := h.1 (108, 2, 111) (List.mem_of_getElem? (i := 14) rfl)
theorem fx_Log_mostTo {mem : zM} (h : zFx mem) : mem.2.2 108 3 = 112 := h.1 (108, 3, 112) (List.mem_of_getElem? (i := 15) rfl)
theorem fx_Log_diedAt {mem : zM} (h : zFx mem) : mem.2.2 108 4 = 113 := h.1 (108, 4, 113) (List.mem_of_getElem? (i := 16) rfl)
theorem fx_Judge_within {mem : zM} (h : zFx mem) : mem.2.2 114 0 = 115 := h.1 (114, 0, 115) (List.mem_of_getElem? (i := 17) rfl)
theorem fx_Judge_next {mem : zM} (h : zFx mem) : mem.2.2 114 1 = 116 := h.1 (114, 1, 116) (List.mem_of_getElem? (i := 18) rfl)
theorem fx_LineWriter_bytes {mem : zM} (h : zFx mem) : mem.2.2 117 0 = 118 := h.1 (117, 0, 118) (List.mem_of_getElem? (i := 19) rfl)
theorem fx_Model_tape {mem : zM} (h : zFx mem) : mem.2.2 180 1 = 181 := h.1 (180, 1, 181) (List.mem_of_getElem? (i := 20) rfl)
theorem fx_Model_powers {mem : zM} (h : zFx mem) : mem.2.2 180 11 = 182 := h.1 (180, 11, 182) (List.mem_of_getElem? (i := 21) rfl)
theorem fx_Model_powersRead {mem : zM} (h : zFx mem) : mem.2.2 180 12 = 183 := h.1 (180, 12, 183) (List.mem_of_getElem? (i := 22) rfl)
theorem fx_Model_dayOf {mem : zM} (h : zFx mem) : mem.2.2 180 19 = 184 := h.1 (180, 19, 184) (List.mem_of_getElem? (i := 23) rfl)
theorem fx_Model_entries {mem : zM} (h : zFx mem) : mem.2.2 180 20 = 185 := h.1 (180, 20, 185) (List.mem_of_getElem? (i := 24) rfl)
theorem fx_Model_notices {mem : zM} (h : zFx mem) : mem.2.2 180 21 = 186 := h.1 (180, 21, 186) (List.mem_of_getElem? (i := 25) rfl)
theorem fx_Model_diedAt {mem : zM} (h : zFx mem) : mem.2.2 180 22 = 187 := h.1 (180, 22, 187) (List.mem_of_getElem? (i := 26) rfl)
theorem fx_Model_narrowPower {mem : zM} (h : zFx mem) : mem.2.2 180 23 = 188 := h.1 (180, 23, 188) (List.mem_of_getElem? (i := 27) rfl)
theorem fx_Model_narrowKinds {mem : zM} (h : zFx mem) : mem.2.2 180 24 = 189 := h.1 (180, 24, 189) (List.mem_of_getElem? (i := 28) rfl)
theorem fx_Model_narrowMost {mem : zM} (h : zFx mem) : mem.2.2 180 25 = 190 := h.1 (180, 25, 190) (List.mem_of_getElem? (i := 29) rfl)
theorem fx_Model_acts {mem : zM} (h : zFx mem) : mem.2.2 180 26 = 191 := h.1 (180, 26, 191) (List.mem_of_getElem? (i := 30) rfl)
theorem fx_Model_whyNow {mem : zM} (h : zFx mem) : mem.2.2 180 34 = 192 := h.1 (180, 34, 192) (List.mem_of_getElem? (i := 31) rfl)
theorem fx_Model_kindsNow {mem : zM} (h : zFx mem) : mem.2.2 180 35 = 193 := h.1 (180, 35, 193) (List.mem_of_getElem? (i := 32) rfl)
theorem fx_Model_mostNow {mem : zM} (h : zFx mem) : mem.2.2 180 36 = 194 := h.1 (180, 36, 194) (List.mem_of_getElem? (i := 33) rfl)
theorem fx_Model_answers {mem : zM} (h : zFx mem) : mem.2.2 180 40 = 195 := h.1 (180, 40, 195) (List.mem_of_getElem? (i := 34) rfl)
theorem fx_Model_line {mem : zM} (h : zFx mem) : mem.2.2 180 41 = 196 := h.1 (180, 41, 196) (List.mem_of_getElem? (i := 35) rfl)
theorem fx_Told_powers_136 {mem : zM} (h : zFx mem) : mem.2.2 136 0 = 137 := h.1 (136, 0, 137) (List.mem_of_getElem? (i := 36) rfl)
theorem fx_Told_powers_158 {mem : zM} (h : zFx mem) : mem.2.2 158 0 = 159 := h.1 (158, 0, 159) (List.mem_of_getElem? (i := 37) rfl)
theorem fx_acts {mem : zM} (h : zFx mem) {a : Nat} (ha : a < 16) : mem.2.2 119 a = 120 + a := h.2.2.1 a ha
