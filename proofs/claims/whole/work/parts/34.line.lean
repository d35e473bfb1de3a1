/-! ===== a line, letter by letter: b the row, o and f where its length stands ===== -/
def wr (b o f : Nat) (mem : zM) (k : Nat) (c : Int32) : zM := zI (zI mem b k c) o f (nI (k + 1))
def wrL (b o f : Nat) (mem : zM) : Nat → List Int32 → zM
  | _, [] => mem
  | k, c :: cs => wrL b o f (wr b o f mem k c) (k + 1) cs
theorem wrL_app {b o f : Nat} {ys : List Int32} : ∀ {xs : List Int32} {mem : zM} {k : Nat}, wrL b o f mem k (xs ++ ys) = wrL b o f (wrL b o f mem k xs) (k + xs.length) ys := by
  intro xs
  induction xs with
  | nil => intro mem k; rfl
  | cons x xs ih =>
    intro mem k
    show wrL b o f (wr b o f mem k x) (k + 1) (xs ++ ys) = wrL b o f (wrL b o f (wr b o f mem k x) (k + 1) xs) (k + (xs.length + 1)) ys
    rw [ih, show k + 1 + xs.length = k + (xs.length + 1) by omega]
theorem wrL_2 {b o f : Nat} : ∀ {xs : List Int32} {mem : zM} {k : Nat}, (wrL b o f mem k xs).2 = mem.2 := by
  intro xs
  induction xs with
  | nil => intro mem k; rfl
  | cons x xs ih => intro mem k; exact ih
theorem wrL_row {b o f a : Nat} (h1 : a ≠ b) (h2 : a ≠ o) : ∀ {xs : List Int32} {mem : zM} {k : Nat}, (wrL b o f mem k xs).1 a = mem.1 a := by
  intro xs
  induction xs with
  | nil => intro mem k; rfl
  | cons x xs ih => intro mem k; show (wrL b o f (wr b o f mem k x) (k + 1) xs).1 a = _; rw [ih]; unfold wr; rw [zI_ne h2, zI_ne h1]
theorem wrL_o {b o f j : Nat} (h : o ≠ b) (hj : j ≠ f) : ∀ {xs : List Int32} {mem : zM} {k : Nat}, (wrL b o f mem k xs).1 o j = mem.1 o j := by
  intro xs
  induction xs with
  | nil => intro mem k; rfl
  | cons x xs ih => intro mem k; show (wrL b o f (wr b o f mem k x) (k + 1) xs).1 o j = _; rw [ih]; unfold wr; rw [zI_o hj, zI_ne h]
theorem wrL_len {b o f : Nat} : ∀ {xs : List Int32} {mem : zM} {k : Nat}, mem.1 o f = nI k → (wrL b o f mem k xs).1 o f = nI (k + xs.length) := by
  intro xs
  induction xs with
  | nil => intro mem k h; exact h
  | cons x xs ih =>
    intro mem k h
    show (wrL b o f (wr b o f mem k x) (k + 1) xs).1 o f = nI (k + (xs.length + 1))
    rw [ih (by unfold wr; rw [zI_s]), show k + 1 + xs.length = k + (xs.length + 1) by omega]
theorem wrL_lo {b o f : Nat} (h : b ≠ o) : ∀ {xs : List Int32} {mem : zM} {k j : Nat}, j < k → (wrL b o f mem k xs).1 b j = mem.1 b j := by
  intro xs
  induction xs with
  | nil => intro mem k j _; rfl
  | cons x xs ih => intro mem k j hj; show (wrL b o f (wr b o f mem k x) (k + 1) xs).1 b j = _; rw [ih (by omega)]; unfold wr; rw [zI_ne h, zI_o (by omega)]
theorem wrL_at {b o f : Nat} (h : b ≠ o) : ∀ {xs : List Int32} {mem : zM} {k j : Nat}, j < xs.length → (wrL b o f mem k xs).1 b (k + j) = xs.getD j 0 := by
  intro xs
  induction xs with
  | nil => intro mem k j hj; exact absurd hj (Nat.not_lt_zero _)
  | cons x xs ih =>
    intro mem k j hj
    show (wrL b o f (wr b o f mem k x) (k + 1) xs).1 b (k + j) = _
    cases j with
    | zero =>
      rw [wrL_lo h (by omega)]
      unfold wr
      rw [zI_ne h]
      exact zI_s
    | succ j =>
      rw [show k + (j + 1) = k + 1 + j by omega, ih (by simpa using hj)]; rfl
/-- a blank, and a number up to 999 -/
def numL (k : Nat) : List Int32 := 32 :: ((if 99 < k then [nI (48 + k / 100)] else []) ++ ((if 9 < k then [nI (48 + k / 10 % 10)] else []) ++ [nI (48 + k % 10)]))
theorem numL_len (k : Nat) : (numL k).length ≤ 4 := by
  unfold numL
  by_cases h1 : 99 < k <;> by_cases h2 : 9 < k <;> simp [h1, h2]
theorem numL_8 {k : Nat} (h : k < 8) : (numL k).length = 2 := by
  unfold numL
  rw [if_neg (by omega), if_neg (by omega)]; rfl
def setL (s : Int32) : Nat → List Int32
  | 0 => []
  | i + 1 => setL s i ++ (if bt s i = true then numL i else [])
theorem setL_len (s : Int32) : ∀ i, i ≤ 8 → (setL s i).length ≤ 2 * i := by
  intro i
  induction i with
  | zero => intro _; exact Nat.le_refl _
  | succ i ih =>
    intro hi
    have := ih (by omega)
    have h8 := numL_8 (k := i) (by omega)
    unfold setL
    rw [List.length_append]
    split
    · omega
    · simp; omega
/-- all letters are bytes -/
def zlet (c : Int32) : Prop := c.toInt8.toInt32 = c
/-- a word, with a blank ahead of it but at the start -/
def wrdL (w : Nat) : List Int32 := 32 :: wdM w
/-- r: giver, holders, together, kinds, most, till, sub, under -/
def lineL (gv ho to kd mo ti sb un : Int32) : List Int32 :=
  (if un = -1 then wdM 2 else wdM 3) ++ ((if un = -1 then numL (ix gv) else numL (ix un)) ++ (wrdL 4 ++ (setL ho 8 ++ (wrdL 5 ++ (numL (ix to) ++ (wrdL 6 ++ (setL kd 8 ++ (wrdL 7 ++ (numL (ix mo) ++ ((if ti = -1 then [] else wrdL 8 ++ numL (ix ti)) ++ ((if sb = 1 then wrdL 9 else []) ++ [59])))))))))))
theorem lineL_len (gv ho to kd mo ti sb un : Int32) : (lineL gv ho to kd mo ti sb un).length ≤ 80 := by
  have h1 := numL_len (ix gv)
  have h2 := numL_len (ix un)
  have h3 := numL_len (ix to)
  have h4 := numL_len (ix mo)
  have h5 := numL_len (ix ti)
  have h6 := setL_len ho 8 (by omega)
  have h7 := setL_len kd 8 (by omega)
  have w : (wdM 2).length = 4 ∧ (wdM 3).length = 5 ∧ (wrdL 4).length = 3 ∧ (wrdL 5).length = 3 ∧ (wrdL 6).length = 6 ∧ (wrdL 7).length = 5 ∧ (wrdL 8).length = 5 ∧ (wrdL 9).length = 4 := by decide
  obtain ⟨w2, w3, w4, w5, w6, w7, w8, w9⟩ := w
  unfold lineL
  simp only [List.length_append, w4, w5, w6, w7]
  have a1 : (if un = -1 then wdM 2 else wdM 3).length ≤ 5 := by split <;> omega
  have a2 : (if un = -1 then numL (ix gv) else numL (ix un)).length ≤ 4 := by split <;> omega
  have a3 : (if ti = -1 then [] else wrdL 8 ++ numL (ix ti)).length ≤ 9 := by
    split
    · simp
    · rw [List.length_append, w8]; omega
  have a4 : (if sb = 1 then wrdL 9 else []).length ≤ 4 := by
    split
    · omega
    · simp
  have a5 : ([59] : List Int32).length = 1 := rfl
  omega
def k_X11_writes : zCt := fun as n mem Q => ∃ (c : Int32) (k : Nat), as = [.ref 180, .int c] ∧ zst n mem ∧ mem.1 180 42 = nI k ∧ k < 200 ∧ Q none n (wr 196 180 42 mem k c)
theorem ok_X11_writes {l : Launch} {G : zG} : zOK l G yX11_writes cX11_writes 2 none 0 0 0 k_X11_writes := by
  intro as n mem Q hK
  obtain ⟨c, k, rfl, ⟨hn, hF⟩, hk, hk2, hQ⟩ := hK
  refine mtX11_writes (List.forall_mem_cons.mpr ⟨rfl, List.forall_mem_cons.mpr ⟨rfl, fun _ h => absurd h List.not_mem_nil⟩⟩) (by simp) rfl (fun P hP => ?_)
  show P 0 [.ref 180, .int c] [] n mem
  have e1 : nI (k + 1) = mem.1 180 42 + 1 := by rw [hk]; exact (nI_1 k).symm
  unfold wr at hQ
  rw [e1] at hQ
  refine hP _ _ _ _ _ ?_
  refine hP _ _ _ _ _ ⟨(zi hn rfl rfl rfl), _, fx_Model_line hF, (by decide), ?_⟩
  refine hP _ _ _ _ _ ?_
  refine hP _ _ _ _ _ ⟨(zi hn rfl rfl rfl), ?_⟩
  refine hP _ _ _ _ _ ?_
  refine hP _ _ _ _ _ ⟨_, k, (zi hn rfl rfl rfl), hk, by omega, ?_⟩
  refine hP _ _ _ _ _ ?_
  refine hP _ _ _ _ _ ?_
  refine hP _ _ _ _ _ ⟨(zi hn rfl rfl rfl), ?_⟩
  refine hP _ _ _ _ _ ?_
  refine hP _ _ _ _ _ ?_
  refine hP _ _ _ _ _ ⟨(zi hn rfl rfl rfl), ?_⟩
  refine hP _ _ _ _ _ ?_
  exact ⟨rfl, hQ⟩
theorem wr_2 {b o f : Nat} {mem : zM} {k : Nat} {c : Int32} : (wr b o f mem k c).2 = mem.2 := rfl
theorem wr_len {b o f : Nat} {mem : zM} {k : Nat} {c : Int32} : (wr b o f mem k c).1 o f = nI (k + 1) := by unfold wr; rw [zI_s]
def wdH (w k : Nat) : List Int32 := if k = 0 then wdM w else wrdL w
theorem wdM_len : ∀ w, w < 10 → (wdM w).length ≤ 6 := by decide
theorem wdM_ne : ∀ w, w < 10 → ∀ j, j < (wdM w).length → ¬ (wdM w).getD j 0 = 0 := by decide +kernel
theorem getD_take {xs : List Int32} {j : Nat} (h : j < xs.length) : xs.take j ++ [xs.getD j 0] = xs.take (j + 1) := by
  rw [List.take_add_one, List.getD_eq_getElem?_getD, List.getElem?_eq_getElem h]; rfl
def k_X11_writesWord : zCt := fun as n mem Q => ∃ (w k : Nat), as = [.ref 180, .int (nI w)] ∧ w < 10 ∧ zst n mem ∧ mem.1 180 42 = nI k ∧ k + 7 < 200 ∧ Q none n (wrL 196 180 42 mem k (wdH w k))
theorem ok_X11_writesWord {l : Launch} {G : zG} : zOK l G yX11_writesWord cX11_writesWord 3 none 1 0 0 k_X11_writesWord := by
  intro as n mem Q hK
  obtain ⟨w, k, rfl, hw, ⟨hn, hF⟩, hk, hk2, hQ⟩ := hK
  refine mtX11_writesWord ok_X11_writes (by decide) ok_X11_letterOf (by decide) (List.forall_mem_cons.mpr ⟨rfl, List.forall_mem_cons.mpr ⟨rfl, fun _ h => absurd h List.not_mem_nil⟩⟩) (by simp) rfl (fun P hP => ?_)
  show P 0 [.ref 180, .int (nI w), .null] [] n mem
  have hl := wdM_len w hw
  have loop : ∀ (M : zM) (q : Nat), zFx M → M.1 180 42 = nI q → q + 6 < 200 → Q none n (wrL 196 180 42 M q (wdM w)) → ∀ j, j ≤ (wdM w).length → P 15 [.ref 180, .int (nI w), .int (nI j)] [] n (wrL 196 180 42 M q ((wdM w).take j)) := by
    intro M q hFM hq hq2 hQ
    refine zloop ?_ ?_
    · have e0 : letS w (nI (wdM w).length) = 0 := (by decide +kernel : ∀ w, w < 10 → letS w (nI (wdM w).length) = 0) w hw
      rw [List.take_length]
      refine hP _ _ _ _ _ ?_
      refine hP _ _ _ _ _ ?_
      refine hP _ _ _ _ _ ⟨Nat.le_of_ble_eq_true rfl, Nat.le_of_ble_eq_true rfl, ?_⟩
      refine ⟨w, _, rfl, hw, ?_⟩
      refine hP _ _ _ _ _ ⟨fun _ => ?_, fun hz => absurd ( e0) hz⟩
      refine hP _ _ _ _ _ ?_
      exact ⟨rfl, hQ⟩
    · intro j hj ih
      have e0 : ¬ letS w (nI j) = 0 := by rw [letS_wd w hw j (by omega)]; exact wdM_ne w hw j hj
      have hl2 := wrL_len (b := 196) (xs := (wdM w).take j) hq
      rw [List.length_take, Nat.min_eq_left (by omega)] at hl2
      have hF : zFx (wrL 196 180 42 M q ((wdM w).take j)) := zFx_2 wrL_2 hFM
      rw [← getD_take hj, wrL_app, List.length_take, Nat.min_eq_left (by omega), ← letS_wd w hw j (by omega), nI_succ j] at ih
      generalize wrL 196 180 42 M q ((wdM w).take j) = N at hl2 hF ih ⊢
      refine hP _ _ _ _ _ ?_
      refine hP _ _ _ _ _ ?_
      refine hP _ _ _ _ _ ⟨Nat.le_of_ble_eq_true rfl, Nat.le_of_ble_eq_true rfl, ?_⟩
      refine ⟨w, _, rfl, hw, ?_⟩
      refine hP _ _ _ _ _ ⟨fun hz => absurd hz ( e0), fun _ => ?_⟩
      refine hP _ _ _ _ _ ?_
      refine hP _ _ _ _ _ ?_
      refine hP _ _ _ _ _ ?_
      refine hP _ _ _ _ _ ⟨Nat.le_of_ble_eq_true rfl, Nat.le_of_ble_eq_true rfl, ?_⟩
      refine ⟨w, _, rfl, hw, ?_⟩
      refine hP _ _ _ _ _ ⟨(zi hn rfl rfl rfl), Nat.le_of_ble_eq_true rfl, Nat.le_of_ble_eq_true rfl, ?_⟩
      refine ⟨_, q + j, rfl, ⟨hn, hF⟩, hl2, by omega, ?_⟩
      refine hP _ _ _ _ _ ?_
      refine hP _ _ _ _ _ ?_
      exact ih
  by_cases h0 : k = 0
  · subst h0
    refine hP _ _ _ _ _ ?_
    refine hP _ _ _ _ _ ⟨(zi hn rfl rfl rfl), ?_⟩
    refine hP _ _ _ _ _ ⟨fun _ => ?_, fun hz => absurd ( by rw [hk]; decide) hz⟩
    refine hP _ _ _ _ _ ?_
    refine hP _ _ _ _ _ ?_
    exact loop mem 0 hF hk (by omega) hQ 0 (by omega)
  · unfold wdH at hQ
    rw [if_neg h0] at hQ
    refine hP _ _ _ _ _ ?_
    refine hP _ _ _ _ _ ⟨(zi hn rfl rfl rfl), ?_⟩
    refine hP _ _ _ _ _ ⟨fun hz => absurd hz ( by rw [hk]; exact nI_nle (by omega) (by omega)), fun _ => ?_⟩
    refine hP _ _ _ _ _ ?_
    refine hP _ _ _ _ _ ?_
    refine hP _ _ _ _ _ ⟨(zi hn rfl rfl rfl), Nat.le_of_ble_eq_true rfl, Nat.le_of_ble_eq_true rfl, ?_⟩
    refine ⟨_, k, rfl, ⟨hn, hF⟩, hk, by omega, ?_⟩
    refine hP _ _ _ _ _ ?_
    refine hP _ _ _ _ _ ?_
    exact loop (wr 196 180 42 mem k 32) (k + 1) (zFx_2 wr_2 hF) wr_len (by omega) hQ 0 (by omega)
theorem dgA {k : Nat} (h : k ≤ 999) : (48 : Int32) + nI k / 100 = nI (48 + k / 100) := by
  rw [show (100 : Int32) = nI 100 from rfl, pk_div (by omega) (by omega) (by omega)]; exact nI_add 48 _
theorem dgB {k : Nat} (h : k ≤ 999) : (48 : Int32) + (nI k / 10 - nI k / 10 / 10 * 10) = nI (48 + k / 10 % 10) := by
  rw [show (10 : Int32) = nI 10 from rfl, pk_div (by omega) (by omega) (by omega), pk_rem (by omega) (by omega) (by omega)]; exact nI_add 48 _
theorem dgC {k : Nat} (h : k ≤ 999) : (48 : Int32) + (nI k - nI k / 10 * 10) = nI (48 + k % 10) := by
  rw [show (10 : Int32) = nI 10 from rfl, pk_rem (by omega) (by omega) (by omega)]; exact nI_add 48 _
def k_X11_writesNumber : zCt := fun as n mem Q => ∃ (v k : Nat), as = [.ref 180, .int (nI v)] ∧ v ≤ 999 ∧ zst n mem ∧ mem.1 180 42 = nI k ∧ k + 4 < 200 ∧ Q none n (wrL 196 180 42 mem k (numL v))
theorem ok_X11_writesNumber {l : Launch} {G : zG} : zOK l G yX11_writesNumber cX11_writesNumber 2 none 1 0 0 k_X11_writesNumber := by
  intro as n mem Q hK
  obtain ⟨v, k, rfl, hv, ⟨hn, hF⟩, hk, hk2, hQ⟩ := hK
  refine mtX11_writesNumber ok_X11_writes (by decide) (List.forall_mem_cons.mpr ⟨rfl, List.forall_mem_cons.mpr ⟨rfl, fun _ h => absurd h List.not_mem_nil⟩⟩) (by simp) rfl (fun P hP => ?_)
  show P 0 [.ref 180, .int (nI v)] [] n mem
  have F1 : zFx (wr 196 180 42 mem k 32) := hF
  by_cases h1 : 99 < v
  · have e : numL v = [32, 48 + nI v / 100, 48 + (nI v / 10 - nI v / 10 / 10 * 10), 48 + (nI v - nI v / 10 * 10)] := by rw [dgA hv, dgB hv, dgC hv]; unfold numL; rw [if_pos h1, if_pos (by omega)]; rfl
    rw [e] at hQ
    refine hP _ _ _ _ _ ?_
    refine hP _ _ _ _ _ ?_
    refine hP _ _ _ _ _ ⟨(zi hn rfl rfl rfl), Nat.le_of_ble_eq_true rfl, Nat.le_of_ble_eq_true rfl, ?_⟩
    refine ⟨_, k, rfl, ⟨hn, hF⟩, hk, by omega, ?_⟩
    refine hP _ _ _ _ _ ?_
    refine hP _ _ _ _ _ ?_
    refine hP _ _ _ _ _ ⟨fun hz => absurd hz ( nI_ge (a := 99) h1 (by omega)), fun _ => ?_⟩
    refine hP _ _ _ _ _ ?_
    refine hP _ _ _ _ _ ?_
    refine hP _ _ _ _ _ ?_
    refine hP _ _ _ _ _ ?_
    refine hP _ _ _ _ _ ⟨by decide, ?_⟩
    refine hP _ _ _ _ _ ?_
    refine hP _ _ _ _ _ ⟨(zi hn rfl rfl rfl), Nat.le_of_ble_eq_true rfl, Nat.le_of_ble_eq_true rfl, ?_⟩
    refine ⟨_, k + 1, rfl, ⟨hn, F1⟩, wr_len, by omega, ?_⟩
    refine hP _ _ _ _ _ ?_
    refine hP _ _ _ _ _ ?_
    refine hP _ _ _ _ _ ⟨fun hz => absurd hz ( nI_ge (a := 9) (by omega) (by omega)), fun _ => ?_⟩
    refine hP _ _ _ _ _ ?_
    refine hP _ _ _ _ _ ?_
    refine hP _ _ _ _ _ ?_
    refine hP _ _ _ _ _ ?_
    refine hP _ _ _ _ _ ⟨by decide, ?_⟩
    refine hP _ _ _ _ _ ?_
    refine hP _ _ _ _ _ ⟨by decide, ?_⟩
    refine hP _ _ _ _ _ ?_
    refine hP _ _ _ _ _ ⟨(zi hn rfl rfl rfl), Nat.le_of_ble_eq_true rfl, Nat.le_of_ble_eq_true rfl, ?_⟩
    refine ⟨_, k + 1 + 1, rfl, ⟨hn, F1⟩, wr_len, by omega, ?_⟩
    refine hP _ _ _ _ _ ?_
    refine hP _ _ _ _ _ ?_
    refine hP _ _ _ _ _ ?_
    refine hP _ _ _ _ _ ?_
    refine hP _ _ _ _ _ ⟨by decide, ?_⟩
    refine hP _ _ _ _ _ ?_
    refine hP _ _ _ _ _ ⟨(zi hn rfl rfl rfl), Nat.le_of_ble_eq_true rfl, Nat.le_of_ble_eq_true rfl, ?_⟩
    refine ⟨_, k + 1 + 1 + 1, rfl, ⟨hn, F1⟩, wr_len, by omega, ?_⟩
    refine hP _ _ _ _ _ ?_
    exact ⟨rfl, hQ⟩
  · by_cases h2 : 9 < v
    · have e : numL v = [32, 48 + (nI v / 10 - nI v / 10 / 10 * 10), 48 + (nI v - nI v / 10 * 10)] := by rw [dgB hv, dgC hv]; unfold numL; rw [if_neg h1, if_pos h2]; rfl
      rw [e] at hQ
      refine hP _ _ _ _ _ ?_
      refine hP _ _ _ _ _ ?_
      refine hP _ _ _ _ _ ⟨(zi hn rfl rfl rfl), Nat.le_of_ble_eq_true rfl, Nat.le_of_ble_eq_true rfl, ?_⟩
      refine ⟨_, k, rfl, ⟨hn, hF⟩, hk, by omega, ?_⟩
      refine hP _ _ _ _ _ ?_
      refine hP _ _ _ _ _ ?_
      refine hP _ _ _ _ _ ⟨fun _ => ?_, fun hz => absurd ( nI_le (b := 99) (by omega) (by omega)) hz⟩
      refine hP _ _ _ _ _ ?_
      refine hP _ _ _ _ _ ?_
      refine hP _ _ _ _ _ ⟨fun hz => absurd hz ( nI_ge (a := 9) (by omega) (by omega)), fun _ => ?_⟩
      refine hP _ _ _ _ _ ?_
      refine hP _ _ _ _ _ ?_
      refine hP _ _ _ _ _ ?_
      refine hP _ _ _ _ _ ?_
      refine hP _ _ _ _ _ ⟨by decide, ?_⟩
      refine hP _ _ _ _ _ ?_
      refine hP _ _ _ _ _ ⟨by decide, ?_⟩
      refine hP _ _ _ _ _ ?_
      refine hP _ _ _ _ _ ⟨(zi hn rfl rfl rfl), Nat.le_of_ble_eq_true rfl, Nat.le_of_ble_eq_true rfl, ?_⟩
      refine ⟨_, k + 1, rfl, ⟨hn, F1⟩, wr_len, by omega, ?_⟩
      refine hP _ _ _ _ _ ?_
      refine hP _ _ _ _ _ ?_
      refine hP _ _ _ _ _ ?_
      refine hP _ _ _ _ _ ?_
      refine hP _ _ _ _ _ ⟨by decide, ?_⟩
      refine hP _ _ _ _ _ ?_
      refine hP _ _ _ _ _ ⟨(zi hn rfl rfl rfl), Nat.le_of_ble_eq_true rfl, Nat.le_of_ble_eq_true rfl, ?_⟩
      refine ⟨_, k + 1 + 1, rfl, ⟨hn, F1⟩, wr_len, by omega, ?_⟩
      refine hP _ _ _ _ _ ?_
      exact ⟨rfl, hQ⟩
    · have e : numL v = [32, 48 + (nI v - nI v / 10 * 10)] := by rw [dgC hv]; unfold numL; rw [if_neg h1, if_neg h2]; rfl
      rw [e] at hQ
      refine hP _ _ _ _ _ ?_
      refine hP _ _ _ _ _ ?_
      refine hP _ _ _ _ _ ⟨(zi hn rfl rfl rfl), Nat.le_of_ble_eq_true rfl, Nat.le_of_ble_eq_true rfl, ?_⟩
      refine ⟨_, k, rfl, ⟨hn, hF⟩, hk, by omega, ?_⟩
      refine hP _ _ _ _ _ ?_
      refine hP _ _ _ _ _ ?_
      refine hP _ _ _ _ _ ⟨fun _ => ?_, fun hz => absurd ( nI_le (b := 99) (by omega) (by omega)) hz⟩
      refine hP _ _ _ _ _ ?_
      refine hP _ _ _ _ _ ?_
      refine hP _ _ _ _ _ ⟨fun _ => ?_, fun hz => absurd ( nI_le (b := 9) (by omega) (by omega)) hz⟩
      refine hP _ _ _ _ _ ?_
      refine hP _ _ _ _ _ ?_
      refine hP _ _ _ _ _ ?_
      refine hP _ _ _ _ _ ?_
      refine hP _ _ _ _ _ ⟨by decide, ?_⟩
      refine hP _ _ _ _ _ ?_
      refine hP _ _ _ _ _ ⟨(zi hn rfl rfl rfl), Nat.le_of_ble_eq_true rfl, Nat.le_of_ble_eq_true rfl, ?_⟩
      refine ⟨_, k + 1, rfl, ⟨hn, F1⟩, wr_len, by omega, ?_⟩
      refine hP _ _ _ _ _ ?_
      exact ⟨rfl, hQ⟩
def k_X11_writesSet : zCt := fun as n mem Q => ∃ (s : Int32) (k : Nat), as = [.ref 180, .int s] ∧ zst n mem ∧ mem.1 180 42 = nI k ∧ k + 20 < 200 ∧ Q none n (wrL 196 180 42 mem k (setL s 8))
theorem ok_X11_writesSet {l : Launch} {G : zG} : zOK l G yX11_writesSet cX11_writesSet 3 none 2 0 0 k_X11_writesSet := by
  intro as n mem Q hK
  obtain ⟨s, k, rfl, ⟨hn, hF⟩, hk, hk2, hQ⟩ := hK
  refine mtX11_writesSet ok_X11_has (by decide) ok_X11_writesNumber (by decide) (List.forall_mem_cons.mpr ⟨rfl, List.forall_mem_cons.mpr ⟨rfl, fun _ h => absurd h List.not_mem_nil⟩⟩) (by simp) rfl (fun P hP => ?_)
  show P 0 [.ref 180, .int s, .null] [] n mem
  have loop : ∀ i, i ≤ 8 → P 2 [.ref 180, .int s, .int (nI i)] [] n (wrL 196 180 42 mem k (setL s i)) := by
    refine zloop ?_ ?_
    ·
      refine hP _ _ _ _ _ ?_
      refine hP _ _ _ _ _ ?_
      refine hP _ _ _ _ _ ⟨fun _ => ?_, fun hz => absurd ( by decide) hz⟩
      refine hP _ _ _ _ _ ?_
      exact ⟨rfl, hQ⟩
    · intro i hi ih
      have hl := setL_len s i (by omega)
      have hl2 := wrL_len (b := 196) (xs := setL s i) hk
      have hF : zFx (wrL 196 180 42 mem k (setL s i)) := zFx_2 wrL_2 hF
      unfold setL at ih
      rw [wrL_app, nI_succ i] at ih
      generalize wrL 196 180 42 mem k (setL s i) = N at hl2 hF ih ⊢
      refine hP _ _ _ _ _ ?_
      refine hP _ _ _ _ _ ?_
      refine hP _ _ _ _ _ ⟨fun hz => absurd hz ( nI_ge (b := 8) hi (by omega)), fun _ => ?_⟩
      refine hP _ _ _ _ _ ?_
      refine hP _ _ _ _ _ ?_
      refine hP _ _ _ _ _ ⟨Nat.le_of_ble_eq_true rfl, Nat.le_of_ble_eq_true rfl, ?_⟩
      refine ⟨_, i, rfl, by omega, ?_⟩
      refine hP _ _ _ _ _ ⟨fun h13 => ?_, fun h13 => ?_⟩
      ·
        have h13 := zb_0.mp h13
        refine hP _ _ _ _ _ ?_
        refine hP _ _ _ _ _ ?_
        simp only [h13, if_true, if_false, Bool.false_eq_true] at ih
        exact ih
      ·
        have h13 := zb_n.mp h13
        refine hP _ _ _ _ _ ?_
        refine hP _ _ _ _ _ ?_
        refine hP _ _ _ _ _ ⟨(zi hn rfl rfl rfl), Nat.le_of_ble_eq_true rfl, Nat.le_of_ble_eq_true rfl, ?_⟩
        refine ⟨i, k + (setL s i).length, rfl, by omega, ⟨hn, hF⟩, hl2, by omega, ?_⟩
        refine hP _ _ _ _ _ ?_
        refine hP _ _ _ _ _ ?_
        simp only [h13, if_true, if_false, Bool.false_eq_true] at ih
        exact ih
  refine hP _ _ _ _ _ ?_
  refine hP _ _ _ _ _ ?_
  exact loop 0 (by omega)
/-- what a power's row holds, as numbers -/
def zPr (r : Nat → Int32) (p : Nat) : Prop := (∃ a, a < 8 ∧ r (8 * p) = nI a) ∧ (∃ a, a ≤ 8 ∧ r (8 * p + 2) = nI a) ∧ (∃ a, a ≤ 999 ∧ r (8 * p + 4) = nI a) ∧ (r (8 * p + 5) = -1 ∨ ∃ a, a ≤ 999 ∧ r (8 * p + 5) = nI a) ∧ (r (8 * p + 6) = 0 ∨ r (8 * p + 6) = 1) ∧ (r (8 * p + 7) = -1 ∨ ∃ a, a < 20 ∧ r (8 * p + 7) = nI a)
def lineR (r : Nat → Int32) (p : Nat) : List Int32 := lineL (r (8 * p)) (r (8 * p + 1)) (r (8 * p + 2)) (r (8 * p + 3)) (r (8 * p + 4)) (r (8 * p + 5)) (r (8 * p + 6)) (r (8 * p + 7))
def k_X11_laysLine : zCt := fun as n mem Q => ∃ (p : Nat), as = [.ref 180, .int (nI p)] ∧ p < 20 ∧ zst n mem ∧ zPr (mem.1 182) p ∧ Q none n (wrL 196 180 42 (zI mem 180 42 0) 0 (lineR (mem.1 182) p))
theorem m1_ne {a : Nat} (h : a < 2 ^ 31) : ¬ nI a = -1 := fun w => absurd (w ▸ nI_pos' (n := a) h) (by decide)
theorem ap_first {n : Nat} {B : zM} {w : Nat} {Q : zPo} (hw : w < 10) (hB : zst n B) (h0 : B.1 180 42 = nI 0) (h : Q none n (wrL 196 180 42 B 0 ([] ++ wdM w))) : k_X11_writesWord [.ref 180, .int (nI w)] n B Q :=
  ⟨w, 0, rfl, hw, hB, h0, by omega, h⟩
theorem ap_word {n : Nat} {B : zM} {L : List Int32} {w : Nat} {Q : zPo} (hw : w < 10) (hB : zst n B) (h0 : B.1 180 42 = nI 0) (h1 : 0 < L.length) (h2 : L.length ≤ 90) (h : Q none n (wrL 196 180 42 B 0 (L ++ wrdL w))) : k_X11_writesWord [.ref 180, .int (nI w)] n (wrL 196 180 42 B 0 L) Q := by
  refine ⟨w, 0 + L.length, rfl, hw, ⟨hB.1, zFx_2 wrL_2 hB.2⟩, wrL_len h0, by omega, ?_⟩
  rw [wrL_app] at h
  unfold wdH
  rw [if_neg (by omega)]
  exact h
theorem ap_num {n : Nat} {B : zM} {L : List Int32} {v : Nat} {x : Int32} {Q : zPo} (hx : x = nI v) (hv : v ≤ 999) (hB : zst n B) (h0 : B.1 180 42 = nI 0) (h2 : L.length ≤ 90) (h : Q none n (wrL 196 180 42 B 0 (L ++ numL v))) : k_X11_writesNumber [.ref 180, .int x] n (wrL 196 180 42 B 0 L) Q := by
  subst hx
  refine ⟨v, 0 + L.length, rfl, hv, ⟨hB.1, zFx_2 wrL_2 hB.2⟩, wrL_len h0, by omega, ?_⟩
  rw [wrL_app] at h
  exact h
theorem ap_set {n : Nat} {B : zM} {L : List Int32} {s x : Int32} {Q : zPo} (hx : x = s) (hB : zst n B) (h0 : B.1 180 42 = nI 0) (h2 : L.length ≤ 90) (h : Q none n (wrL 196 180 42 B 0 (L ++ setL s 8))) : k_X11_writesSet [.ref 180, .int x] n (wrL 196 180 42 B 0 L) Q := by
  subst hx
  refine ⟨x, 0 + L.length, rfl, ⟨hB.1, zFx_2 wrL_2 hB.2⟩, wrL_len h0, by omega, ?_⟩
  rw [wrL_app] at h
  exact h
theorem ap_one {n : Nat} {B : zM} {L : List Int32} {c : Int32} {Q : zPo} (hB : zst n B) (h0 : B.1 180 42 = nI 0) (h2 : L.length ≤ 90) (h : Q none n (wrL 196 180 42 B 0 (L ++ [c]))) : k_X11_writes [.ref 180, .int c] n (wrL 196 180 42 B 0 L) Q := by
  refine ⟨c, 0 + L.length, rfl, ⟨hB.1, zFx_2 wrL_2 hB.2⟩, wrL_len h0, by omega, ?_⟩
  rw [wrL_app] at h
  exact h
theorem wl2 : (wdM 2).length = 4 := rfl
theorem wl3 : (wdM 3).length = 5 := rfl
theorem wl4 : (wrdL 4).length = 3 := rfl
theorem wl5 : (wrdL 5).length = 3 := rfl
theorem wl6 : (wrdL 6).length = 6 := rfl
theorem wl7 : (wrdL 7).length = 5 := rfl
theorem wl8 : (wrdL 8).length = 5 := rfl
theorem wl9 : (wrdL 9).length = 4 := rfl
theorem ok_X11_laysLine {l : Launch} {G : zG} : zOK l G yX11_laysLine cX11_laysLine 4 none 3 0 0 k_X11_laysLine := by
  intro as n mem Q hK
  obtain ⟨p, rfl, hp, ⟨hn, hF⟩, hP8, hQ⟩ := hK
  refine mtX11_laysLine ok_X11_writesWord (by decide) ok_X11_writesNumber (by decide) ok_X11_writesSet (by decide) ok_X11_writes (by decide) (List.forall_mem_cons.mpr ⟨rfl, List.forall_mem_cons.mpr ⟨rfl, fun _ h => absurd h List.not_mem_nil⟩⟩) (by simp) rfl (fun P hP => ?_)
  show P 0 [.ref 180, .int (nI p), .null, .null] [] n mem
  obtain ⟨⟨gv, hgv8, hgv⟩, ⟨to, hto8, hto⟩, ⟨mo, hmo9, hmo⟩, hti, hsb, hun⟩ := hP8
  have l3 := numL_len to
  have l4 := numL_len mo
  have l6 := setL_len (mem.1 182 (8 * p + 1)) 8 (by omega)
  have l7 := setL_len (mem.1 182 (8 * p + 3)) 8 (by omega)
  have m0 : (zI mem 180 42 0).1 180 42 = nI 0 := zI_s
  have hB : zst n (zI mem 180 42 0) := ⟨hn, hF⟩
  have g0 : (zI mem 180 42 0).1 182 = mem.1 182 := zI_ne (by omega)
  have hF : zFx (zI mem 180 42 0) := hF
  have hQ : ∀ L, L = lineR (mem.1 182) p → Q none n (wrL 196 180 42 (zI mem 180 42 0) 0 L) := fun L e => e ▸ hQ
  generalize hBe : zI mem 180 42 0 = B at m0 hB g0 hF hQ
  rw [← g0] at hQ hgv hto hmo hti hsb hun l6 l7
  have mid : ∀ (L : List Int32), 0 < L.length → L.length ≤ 9 → (∀ T, L ++ T = (if B.1 182 (8 * p + 7) = -1 then wdM 2 else wdM 3) ++ ((if B.1 182 (8 * p + 7) = -1 then numL (ix (B.1 182 (8 * p))) else numL (ix (B.1 182 (8 * p + 7)))) ++ T)) → ∀ v3, P 70 [.ref 180, .int (nI p), .int (nI 8 * nI p), v3] [] n (wrL 196 180 42 B 0 L) := by
    intro L hL0 hL9 hLT v3
    have hF : ∀ L, zFx (wrL 196 180 42 B 0 L) := fun L => zFx_2 wrL_2 hF
    have fin : ∀ A, (∀ T, A ++ T = wrdL 4 ++ (setL (B.1 182 (8 * p + 1)) 8 ++ (wrdL 5 ++ (numL to ++ (wrdL 6 ++ (setL (B.1 182 (8 * p + 3)) 8 ++ (wrdL 7 ++ (numL mo ++ T)))))))) → ∀ C, C = (if B.1 182 (8 * p + 5) = -1 then [] else wrdL 8 ++ numL (ix (B.1 182 (8 * p + 5)))) ++ ((if B.1 182 (8 * p + 6) = 1 then wrdL 9 else []) ++ [59]) → L ++ (A ++ C) = lineR (B.1 182) p := by
      intro A hA C hC
      rw [hLT, hA, hC]
      unfold lineR lineL
      rw [hto, hmo, ix_nI (j := to) (by omega), ix_nI (j := mo) (by omega)]
    have hA0 := fin (wrdL 4 ++ (setL (B.1 182 (8 * p + 1)) 8 ++ (wrdL 5 ++ (numL to ++ (wrdL 6 ++ (setL (B.1 182 (8 * p + 3)) 8 ++ (wrdL 7 ++ (numL mo)))))))) (fun T => by simp only [List.append_assoc])
    by_cases h5 : B.1 182 (8 * p + 5) = -1
    · by_cases h6 : B.1 182 (8 * p + 6) = 1
      ·
        refine hP _ _ _ _ _ ?_
        refine hP _ _ _ _ _ ?_
        refine hP _ _ _ _ _ ⟨(zi hn rfl rfl rfl), Nat.le_of_ble_eq_true rfl, Nat.le_of_ble_eq_true rfl, ?_⟩
        refine ap_word (by decide) hB m0 hL0 (by omega) ?_
        refine hP _ _ _ _ _ ?_
        refine hP _ _ _ _ _ ?_
        refine hP _ _ _ _ _ ⟨(zi hn rfl rfl rfl), _, fx_Model_powers (hF _), (by decide), ?_⟩
        refine hP _ _ _ _ _ ?_
        refine hP _ _ _ _ _ ?_
        refine hP _ _ _ _ _ ?_
        refine hP _ _ _ _ _ ⟨_, 8 * p + 1, (zi hn rfl rfl rfl), nlin 8 p 1, by omega, ?_⟩
        refine hP _ _ _ _ _ ⟨(zi hn rfl rfl rfl), Nat.le_of_ble_eq_true rfl, Nat.le_of_ble_eq_true rfl, ?_⟩
        refine ap_set (s := B.1 182 (8 * p + 1)) ((congrFun (wrL_row (by decide) (by decide)) (8 * p + 1)).trans rfl) hB m0 (by simp only [List.length_append, wl4, wl5, wl6, wl7, wl8, wl9]; omega) ?_
        refine hP _ _ _ _ _ ?_
        refine hP _ _ _ _ _ ?_
        refine hP _ _ _ _ _ ⟨(zi hn rfl rfl rfl), Nat.le_of_ble_eq_true rfl, Nat.le_of_ble_eq_true rfl, ?_⟩
        refine ap_word (by decide) hB m0 (by simp only [List.length_append, wl4, wl5, wl6, wl7, wl8, wl9]; omega) (by simp only [List.length_append, wl4, wl5, wl6, wl7, wl8, wl9]; omega) ?_
        refine hP _ _ _ _ _ ?_
        refine hP _ _ _ _ _ ?_
        refine hP _ _ _ _ _ ⟨(zi hn rfl rfl rfl), _, fx_Model_powers (hF _), (by decide), ?_⟩
        refine hP _ _ _ _ _ ?_
        refine hP _ _ _ _ _ ?_
        refine hP _ _ _ _ _ ?_
        refine hP _ _ _ _ _ ⟨_, 8 * p + 2, (zi hn rfl rfl rfl), nlin 8 p 2, by omega, ?_⟩
        refine hP _ _ _ _ _ ⟨(zi hn rfl rfl rfl), Nat.le_of_ble_eq_true rfl, Nat.le_of_ble_eq_true rfl, ?_⟩
        refine ap_num ((congrFun (wrL_row (by decide) (by decide)) (8 * p + 2)).trans hto) (by omega) hB m0 (by simp only [List.length_append, wl4, wl5, wl6, wl7, wl8, wl9]; omega) ?_
        refine hP _ _ _ _ _ ?_
        refine hP _ _ _ _ _ ?_
        refine hP _ _ _ _ _ ⟨(zi hn rfl rfl rfl), Nat.le_of_ble_eq_true rfl, Nat.le_of_ble_eq_true rfl, ?_⟩
        refine ap_word (by decide) hB m0 (by simp only [List.length_append, wl4, wl5, wl6, wl7, wl8, wl9]; omega) (by simp only [List.length_append, wl4, wl5, wl6, wl7, wl8, wl9]; omega) ?_
        refine hP _ _ _ _ _ ?_
        refine hP _ _ _ _ _ ?_
        refine hP _ _ _ _ _ ⟨(zi hn rfl rfl rfl), _, fx_Model_powers (hF _), (by decide), ?_⟩
        refine hP _ _ _ _ _ ?_
        refine hP _ _ _ _ _ ?_
        refine hP _ _ _ _ _ ?_
        refine hP _ _ _ _ _ ⟨_, 8 * p + 3, (zi hn rfl rfl rfl), nlin 8 p 3, by omega, ?_⟩
        refine hP _ _ _ _ _ ⟨(zi hn rfl rfl rfl), Nat.le_of_ble_eq_true rfl, Nat.le_of_ble_eq_true rfl, ?_⟩
        refine ap_set (s := B.1 182 (8 * p + 3)) ((congrFun (wrL_row (by decide) (by decide)) (8 * p + 3)).trans rfl) hB m0 (by simp only [List.length_append, wl4, wl5, wl6, wl7, wl8, wl9]; omega) ?_
        refine hP _ _ _ _ _ ?_
        refine hP _ _ _ _ _ ?_
        refine hP _ _ _ _ _ ⟨(zi hn rfl rfl rfl), Nat.le_of_ble_eq_true rfl, Nat.le_of_ble_eq_true rfl, ?_⟩
        refine ap_word (by decide) hB m0 (by simp only [List.length_append, wl4, wl5, wl6, wl7, wl8, wl9]; omega) (by simp only [List.length_append, wl4, wl5, wl6, wl7, wl8, wl9]; omega) ?_
        refine hP _ _ _ _ _ ?_
        refine hP _ _ _ _ _ ?_
        refine hP _ _ _ _ _ ⟨(zi hn rfl rfl rfl), _, fx_Model_powers (hF _), (by decide), ?_⟩
        refine hP _ _ _ _ _ ?_
        refine hP _ _ _ _ _ ?_
        refine hP _ _ _ _ _ ?_
        refine hP _ _ _ _ _ ⟨_, 8 * p + 4, (zi hn rfl rfl rfl), nlin 8 p 4, by omega, ?_⟩
        refine hP _ _ _ _ _ ⟨(zi hn rfl rfl rfl), Nat.le_of_ble_eq_true rfl, Nat.le_of_ble_eq_true rfl, ?_⟩
        refine ap_num ((congrFun (wrL_row (by decide) (by decide)) (8 * p + 4)).trans hmo) (by omega) hB m0 (by simp only [List.length_append, wl4, wl5, wl6, wl7, wl8, wl9]; omega) ?_
        refine hP _ _ _ _ _ ?_
        refine hP _ _ _ _ _ ⟨(zi hn rfl rfl rfl), _, fx_Model_powers (hF _), (by decide), ?_⟩
        refine hP _ _ _ _ _ ?_
        refine hP _ _ _ _ _ ?_
        refine hP _ _ _ _ _ ?_
        refine hP _ _ _ _ _ ⟨_, 8 * p + 5, (zi hn rfl rfl rfl), nlin 8 p 5, by omega, ?_⟩
        refine hP _ _ _ _ _ ?_
        refine hP _ _ _ _ _ ⟨fun _ => ?_, fun hz => absurd ( ((congrFun (wrL_row (by decide) (by decide)) (8 * p + 5)).trans h5)) hz⟩
        refine hP _ _ _ _ _ ?_
        refine hP _ _ _ _ _ ⟨(zi hn rfl rfl rfl), _, fx_Model_powers (hF _), (by decide), ?_⟩
        refine hP _ _ _ _ _ ?_
        refine hP _ _ _ _ _ ?_
        refine hP _ _ _ _ _ ?_
        refine hP _ _ _ _ _ ⟨_, 8 * p + 6, (zi hn rfl rfl rfl), nlin 8 p 6, by omega, ?_⟩
        refine hP _ _ _ _ _ ?_
        refine hP _ _ _ _ _ ⟨fun _ => ?_, fun hz => absurd ( ((congrFun (wrL_row (by decide) (by decide)) (8 * p + 6)).trans h6)) hz⟩
        refine hP _ _ _ _ _ ?_
        refine hP _ _ _ _ _ ?_
        refine hP _ _ _ _ _ ⟨(zi hn rfl rfl rfl), Nat.le_of_ble_eq_true rfl, Nat.le_of_ble_eq_true rfl, ?_⟩
        refine ap_word (by decide) hB m0 (by simp only [List.length_append, wl4, wl5, wl6, wl7, wl8, wl9]; omega) (by simp only [List.length_append, wl4, wl5, wl6, wl7, wl8, wl9]; omega) ?_
        refine hP _ _ _ _ _ ?_
        refine hP _ _ _ _ _ ?_
        refine hP _ _ _ _ _ ⟨(zi hn rfl rfl rfl), Nat.le_of_ble_eq_true rfl, Nat.le_of_ble_eq_true rfl, ?_⟩
        refine ap_one hB m0 (by simp only [List.length_append, wl4, wl5, wl6, wl7, wl8, wl9]; omega) ?_
        refine hP _ _ _ _ _ ?_
        exact ⟨rfl, hQ _ (by rw [if_pos h5, if_pos h6] at hA0; rw [← hA0 _ rfl]; simp only [List.append_assoc, List.nil_append])⟩
      ·
        refine hP _ _ _ _ _ ?_
        refine hP _ _ _ _ _ ?_
        refine hP _ _ _ _ _ ⟨(zi hn rfl rfl rfl), Nat.le_of_ble_eq_true rfl, Nat.le_of_ble_eq_true rfl, ?_⟩
        refine ap_word (by decide) hB m0 hL0 (by omega) ?_
        refine hP _ _ _ _ _ ?_
        refine hP _ _ _ _ _ ?_
        refine hP _ _ _ _ _ ⟨(zi hn rfl rfl rfl), _, fx_Model_powers (hF _), (by decide), ?_⟩
        refine hP _ _ _ _ _ ?_
        refine hP _ _ _ _ _ ?_
        refine hP _ _ _ _ _ ?_
        refine hP _ _ _ _ _ ⟨_, 8 * p + 1, (zi hn rfl rfl rfl), nlin 8 p 1, by omega, ?_⟩
        refine hP _ _ _ _ _ ⟨(zi hn rfl rfl rfl), Nat.le_of_ble_eq_true rfl, Nat.le_of_ble_eq_true rfl, ?_⟩
        refine ap_set (s := B.1 182 (8 * p + 1)) ((congrFun (wrL_row (by decide) (by decide)) (8 * p + 1)).trans rfl) hB m0 (by simp only [List.length_append, wl4, wl5, wl6, wl7, wl8, wl9]; omega) ?_
        refine hP _ _ _ _ _ ?_
        refine hP _ _ _ _ _ ?_
        refine hP _ _ _ _ _ ⟨(zi hn rfl rfl rfl), Nat.le_of_ble_eq_true rfl, Nat.le_of_ble_eq_true rfl, ?_⟩
        refine ap_word (by decide) hB m0 (by simp only [List.length_append, wl4, wl5, wl6, wl7, wl8, wl9]; omega) (by simp only [List.length_append, wl4, wl5, wl6, wl7, wl8, wl9]; omega) ?_
        refine hP _ _ _ _ _ ?_
        refine hP _ _ _ _ _ ?_
        refine hP _ _ _ _ _ ⟨(zi hn rfl rfl rfl), _, fx_Model_powers (hF _), (by decide), ?_⟩
        refine hP _ _ _ _ _ ?_
        refine hP _ _ _ _ _ ?_
        refine hP _ _ _ _ _ ?_
        refine hP _ _ _ _ _ ⟨_, 8 * p + 2, (zi hn rfl rfl rfl), nlin 8 p 2, by omega, ?_⟩
        refine hP _ _ _ _ _ ⟨(zi hn rfl rfl rfl), Nat.le_of_ble_eq_true rfl, Nat.le_of_ble_eq_true rfl, ?_⟩
        refine ap_num ((congrFun (wrL_row (by decide) (by decide)) (8 * p + 2)).trans hto) (by omega) hB m0 (by simp only [List.length_append, wl4, wl5, wl6, wl7, wl8, wl9]; omega) ?_
        refine hP _ _ _ _ _ ?_
        refine hP _ _ _ _ _ ?_
        refine hP _ _ _ _ _ ⟨(zi hn rfl rfl rfl), Nat.le_of_ble_eq_true rfl, Nat.le_of_ble_eq_true rfl, ?_⟩
        refine ap_word (by decide) hB m0 (by simp only [List.length_append, wl4, wl5, wl6, wl7, wl8, wl9]; omega) (by simp only [List.length_append, wl4, wl5, wl6, wl7, wl8, wl9]; omega) ?_
        refine hP _ _ _ _ _ ?_
        refine hP _ _ _ _ _ ?_
        refine hP _ _ _ _ _ ⟨(zi hn rfl rfl rfl), _, fx_Model_powers (hF _), (by decide), ?_⟩
        refine hP _ _ _ _ _ ?_
        refine hP _ _ _ _ _ ?_
        refine hP _ _ _ _ _ ?_
        refine hP _ _ _ _ _ ⟨_, 8 * p + 3, (zi hn rfl rfl rfl), nlin 8 p 3, by omega, ?_⟩
        refine hP _ _ _ _ _ ⟨(zi hn rfl rfl rfl), Nat.le_of_ble_eq_true rfl, Nat.le_of_ble_eq_true rfl, ?_⟩
        refine ap_set (s := B.1 182 (8 * p + 3)) ((congrFun (wrL_row (by decide) (by decide)) (8 * p + 3)).trans rfl) hB m0 (by simp only [List.length_append, wl4, wl5, wl6, wl7, wl8, wl9]; omega) ?_
        refine hP _ _ _ _ _ ?_
        refine hP _ _ _ _ _ ?_
        refine hP _ _ _ _ _ ⟨(zi hn rfl rfl rfl), Nat.le_of_ble_eq_true rfl, Nat.le_of_ble_eq_true rfl, ?_⟩
        refine ap_word (by decide) hB m0 (by simp only [List.length_append, wl4, wl5, wl6, wl7, wl8, wl9]; omega) (by simp only [List.length_append, wl4, wl5, wl6, wl7, wl8, wl9]; omega) ?_
        refine hP _ _ _ _ _ ?_
        refine hP _ _ _ _ _ ?_
        refine hP _ _ _ _ _ ⟨(zi hn rfl rfl rfl), _, fx_Model_powers (hF _), (by decide), ?_⟩
        refine hP _ _ _ _ _ ?_
        refine hP _ _ _ _ _ ?_
        refine hP _ _ _ _ _ ?_
        refine hP _ _ _ _ _ ⟨_, 8 * p + 4, (zi hn rfl rfl rfl), nlin 8 p 4, by omega, ?_⟩
        refine hP _ _ _ _ _ ⟨(zi hn rfl rfl rfl), Nat.le_of_ble_eq_true rfl, Nat.le_of_ble_eq_true rfl, ?_⟩
        refine ap_num ((congrFun (wrL_row (by decide) (by decide)) (8 * p + 4)).trans hmo) (by omega) hB m0 (by simp only [List.length_append, wl4, wl5, wl6, wl7, wl8, wl9]; omega) ?_
        refine hP _ _ _ _ _ ?_
        refine hP _ _ _ _ _ ⟨(zi hn rfl rfl rfl), _, fx_Model_powers (hF _), (by decide), ?_⟩
        refine hP _ _ _ _ _ ?_
        refine hP _ _ _ _ _ ?_
        refine hP _ _ _ _ _ ?_
        refine hP _ _ _ _ _ ⟨_, 8 * p + 5, (zi hn rfl rfl rfl), nlin 8 p 5, by omega, ?_⟩
        refine hP _ _ _ _ _ ?_
        refine hP _ _ _ _ _ ⟨fun _ => ?_, fun hz => absurd ( ((congrFun (wrL_row (by decide) (by decide)) (8 * p + 5)).trans h5)) hz⟩
        refine hP _ _ _ _ _ ?_
        refine hP _ _ _ _ _ ⟨(zi hn rfl rfl rfl), _, fx_Model_powers (hF _), (by decide), ?_⟩
        refine hP _ _ _ _ _ ?_
        refine hP _ _ _ _ _ ?_
        refine hP _ _ _ _ _ ?_
        refine hP _ _ _ _ _ ⟨_, 8 * p + 6, (zi hn rfl rfl rfl), nlin 8 p 6, by omega, ?_⟩
        refine hP _ _ _ _ _ ?_
        refine hP _ _ _ _ _ ⟨fun hz => absurd hz ( fun z => h6 (((congrFun (wrL_row (by decide) (by decide)) (8 * p + 6)).trans rfl).symm.trans z)), fun _ => ?_⟩
        refine hP _ _ _ _ _ ?_
        refine hP _ _ _ _ _ ?_
        refine hP _ _ _ _ _ ⟨(zi hn rfl rfl rfl), Nat.le_of_ble_eq_true rfl, Nat.le_of_ble_eq_true rfl, ?_⟩
        refine ap_one hB m0 (by simp only [List.length_append, wl4, wl5, wl6, wl7, wl8, wl9]; omega) ?_
        refine hP _ _ _ _ _ ?_
        exact ⟨rfl, hQ _ (by rw [if_pos h5, if_neg h6] at hA0; rw [← hA0 _ rfl]; simp only [List.append_assoc, List.nil_append])⟩
    · obtain ⟨ti, hti9, hti⟩ := hti.resolve_left h5
      have l5 := numL_len ti
      by_cases h6 : B.1 182 (8 * p + 6) = 1
      ·
        refine hP _ _ _ _ _ ?_
        refine hP _ _ _ _ _ ?_
        refine hP _ _ _ _ _ ⟨(zi hn rfl rfl rfl), Nat.le_of_ble_eq_true rfl, Nat.le_of_ble_eq_true rfl, ?_⟩
        refine ap_word (by decide) hB m0 hL0 (by omega) ?_
        refine hP _ _ _ _ _ ?_
        refine hP _ _ _ _ _ ?_
        refine hP _ _ _ _ _ ⟨(zi hn rfl rfl rfl), _, fx_Model_powers (hF _), (by decide), ?_⟩
        refine hP _ _ _ _ _ ?_
        refine hP _ _ _ _ _ ?_
        refine hP _ _ _ _ _ ?_
        refine hP _ _ _ _ _ ⟨_, 8 * p + 1, (zi hn rfl rfl rfl), nlin 8 p 1, by omega, ?_⟩
        refine hP _ _ _ _ _ ⟨(zi hn rfl rfl rfl), Nat.le_of_ble_eq_true rfl, Nat.le_of_ble_eq_true rfl, ?_⟩
        refine ap_set (s := B.1 182 (8 * p + 1)) ((congrFun (wrL_row (by decide) (by decide)) (8 * p + 1)).trans rfl) hB m0 (by simp only [List.length_append, wl4, wl5, wl6, wl7, wl8, wl9]; omega) ?_
        refine hP _ _ _ _ _ ?_
        refine hP _ _ _ _ _ ?_
        refine hP _ _ _ _ _ ⟨(zi hn rfl rfl rfl), Nat.le_of_ble_eq_true rfl, Nat.le_of_ble_eq_true rfl, ?_⟩
        refine ap_word (by decide) hB m0 (by simp only [List.length_append, wl4, wl5, wl6, wl7, wl8, wl9]; omega) (by simp only [List.length_append, wl4, wl5, wl6, wl7, wl8, wl9]; omega) ?_
        refine hP _ _ _ _ _ ?_
        refine hP _ _ _ _ _ ?_
        refine hP _ _ _ _ _ ⟨(zi hn rfl rfl rfl), _, fx_Model_powers (hF _), (by decide), ?_⟩
        refine hP _ _ _ _ _ ?_
        refine hP _ _ _ _ _ ?_
        refine hP _ _ _ _ _ ?_
        refine hP _ _ _ _ _ ⟨_, 8 * p + 2, (zi hn rfl rfl rfl), nlin 8 p 2, by omega, ?_⟩
        refine hP _ _ _ _ _ ⟨(zi hn rfl rfl rfl), Nat.le_of_ble_eq_true rfl, Nat.le_of_ble_eq_true rfl, ?_⟩
        refine ap_num ((congrFun (wrL_row (by decide) (by decide)) (8 * p + 2)).trans hto) (by omega) hB m0 (by simp only [List.length_append, wl4, wl5, wl6, wl7, wl8, wl9]; omega) ?_
        refine hP _ _ _ _ _ ?_
        refine hP _ _ _ _ _ ?_
        refine hP _ _ _ _ _ ⟨(zi hn rfl rfl rfl), Nat.le_of_ble_eq_true rfl, Nat.le_of_ble_eq_true rfl, ?_⟩
        refine ap_word (by decide) hB m0 (by simp only [List.length_append, wl4, wl5, wl6, wl7, wl8, wl9]; omega) (by simp only [List.length_append, wl4, wl5, wl6, wl7, wl8, wl9]; omega) ?_
        refine hP _ _ _ _ _ ?_
        refine hP _ _ _ _ _ ?_
        refine hP _ _ _ _ _ ⟨(zi hn rfl rfl rfl), _, fx_Model_powers (hF _), (by decide), ?_⟩
        refine hP _ _ _ _ _ ?_
        refine hP _ _ _ _ _ ?_
        refine hP _ _ _ _ _ ?_
        refine hP _ _ _ _ _ ⟨_, 8 * p + 3, (zi hn rfl rfl rfl), nlin 8 p 3, by omega, ?_⟩
        refine hP _ _ _ _ _ ⟨(zi hn rfl rfl rfl), Nat.le_of_ble_eq_true rfl, Nat.le_of_ble_eq_true rfl, ?_⟩
        refine ap_set (s := B.1 182 (8 * p + 3)) ((congrFun (wrL_row (by decide) (by decide)) (8 * p + 3)).trans rfl) hB m0 (by simp only [List.length_append, wl4, wl5, wl6, wl7, wl8, wl9]; omega) ?_
        refine hP _ _ _ _ _ ?_
        refine hP _ _ _ _ _ ?_
        refine hP _ _ _ _ _ ⟨(zi hn rfl rfl rfl), Nat.le_of_ble_eq_true rfl, Nat.le_of_ble_eq_true rfl, ?_⟩
        refine ap_word (by decide) hB m0 (by simp only [List.length_append, wl4, wl5, wl6, wl7, wl8, wl9]; omega) (by simp only [List.length_append, wl4, wl5, wl6, wl7, wl8, wl9]; omega) ?_
        refine hP _ _ _ _ _ ?_
        refine hP _ _ _ _ _ ?_
        refine hP _ _ _ _ _ ⟨(zi hn rfl rfl rfl), _, fx_Model_powers (hF _), (by decide), ?_⟩
        refine hP _ _ _ _ _ ?_
        refine hP _ _ _ _ _ ?_
        refine hP _ _ _ _ _ ?_
        refine hP _ _ _ _ _ ⟨_, 8 * p + 4, (zi hn rfl rfl rfl), nlin 8 p 4, by omega, ?_⟩
        refine hP _ _ _ _ _ ⟨(zi hn rfl rfl rfl), Nat.le_of_ble_eq_true rfl, Nat.le_of_ble_eq_true rfl, ?_⟩
        refine ap_num ((congrFun (wrL_row (by decide) (by decide)) (8 * p + 4)).trans hmo) (by omega) hB m0 (by simp only [List.length_append, wl4, wl5, wl6, wl7, wl8, wl9]; omega) ?_
        refine hP _ _ _ _ _ ?_
        refine hP _ _ _ _ _ ⟨(zi hn rfl rfl rfl), _, fx_Model_powers (hF _), (by decide), ?_⟩
        refine hP _ _ _ _ _ ?_
        refine hP _ _ _ _ _ ?_
        refine hP _ _ _ _ _ ?_
        refine hP _ _ _ _ _ ⟨_, 8 * p + 5, (zi hn rfl rfl rfl), nlin 8 p 5, by omega, ?_⟩
        refine hP _ _ _ _ _ ?_
        refine hP _ _ _ _ _ ⟨fun hz => absurd hz ( fun z => h5 (((congrFun (wrL_row (by decide) (by decide)) (8 * p + 5)).trans rfl).symm.trans z)), fun _ => ?_⟩
        refine hP _ _ _ _ _ ?_
        refine hP _ _ _ _ _ ?_
        refine hP _ _ _ _ _ ⟨(zi hn rfl rfl rfl), Nat.le_of_ble_eq_true rfl, Nat.le_of_ble_eq_true rfl, ?_⟩
        refine ap_word (by decide) hB m0 (by simp only [List.length_append, wl4, wl5, wl6, wl7, wl8, wl9]; omega) (by simp only [List.length_append, wl4, wl5, wl6, wl7, wl8, wl9]; omega) ?_
        refine hP _ _ _ _ _ ?_
        refine hP _ _ _ _ _ ?_
        refine hP _ _ _ _ _ ⟨(zi hn rfl rfl rfl), _, fx_Model_powers (hF _), (by decide), ?_⟩
        refine hP _ _ _ _ _ ?_
        refine hP _ _ _ _ _ ?_
        refine hP _ _ _ _ _ ?_
        refine hP _ _ _ _ _ ⟨_, 8 * p + 5, (zi hn rfl rfl rfl), nlin 8 p 5, by omega, ?_⟩
        refine hP _ _ _ _ _ ⟨(zi hn rfl rfl rfl), Nat.le_of_ble_eq_true rfl, Nat.le_of_ble_eq_true rfl, ?_⟩
        refine ap_num ((congrFun (wrL_row (by decide) (by decide)) (8 * p + 5)).trans hti) (by omega) hB m0 (by simp only [List.length_append, wl4, wl5, wl6, wl7, wl8, wl9]; omega) ?_
        refine hP _ _ _ _ _ ?_
        refine hP _ _ _ _ _ ⟨(zi hn rfl rfl rfl), _, fx_Model_powers (hF _), (by decide), ?_⟩
        refine hP _ _ _ _ _ ?_
        refine hP _ _ _ _ _ ?_
        refine hP _ _ _ _ _ ?_
        refine hP _ _ _ _ _ ⟨_, 8 * p + 6, (zi hn rfl rfl rfl), nlin 8 p 6, by omega, ?_⟩
        refine hP _ _ _ _ _ ?_
        refine hP _ _ _ _ _ ⟨fun _ => ?_, fun hz => absurd ( ((congrFun (wrL_row (by decide) (by decide)) (8 * p + 6)).trans h6)) hz⟩
        refine hP _ _ _ _ _ ?_
        refine hP _ _ _ _ _ ?_
        refine hP _ _ _ _ _ ⟨(zi hn rfl rfl rfl), Nat.le_of_ble_eq_true rfl, Nat.le_of_ble_eq_true rfl, ?_⟩
        refine ap_word (by decide) hB m0 (by simp only [List.length_append, wl4, wl5, wl6, wl7, wl8, wl9]; omega) (by simp only [List.length_append, wl4, wl5, wl6, wl7, wl8, wl9]; omega) ?_
        refine hP _ _ _ _ _ ?_
        refine hP _ _ _ _ _ ?_
        refine hP _ _ _ _ _ ⟨(zi hn rfl rfl rfl), Nat.le_of_ble_eq_true rfl, Nat.le_of_ble_eq_true rfl, ?_⟩
        refine ap_one hB m0 (by simp only [List.length_append, wl4, wl5, wl6, wl7, wl8, wl9]; omega) ?_
        refine hP _ _ _ _ _ ?_
        exact ⟨rfl, hQ _ (by rw [if_neg h5, hti, ix_nI (j := ti) (by omega), if_pos h6] at hA0; rw [← hA0 _ rfl]; simp only [List.append_assoc, List.nil_append])⟩
      ·
        refine hP _ _ _ _ _ ?_
        refine hP _ _ _ _ _ ?_
        refine hP _ _ _ _ _ ⟨(zi hn rfl rfl rfl), Nat.le_of_ble_eq_true rfl, Nat.le_of_ble_eq_true rfl, ?_⟩
        refine ap_word (by decide) hB m0 hL0 (by omega) ?_
        refine hP _ _ _ _ _ ?_
        refine hP _ _ _ _ _ ?_
        refine hP _ _ _ _ _ ⟨(zi hn rfl rfl rfl), _, fx_Model_powers (hF _), (by decide), ?_⟩
        refine hP _ _ _ _ _ ?_
        refine hP _ _ _ _ _ ?_
        refine hP _ _ _ _ _ ?_
        refine hP _ _ _ _ _ ⟨_, 8 * p + 1, (zi hn rfl rfl rfl), nlin 8 p 1, by omega, ?_⟩
        refine hP _ _ _ _ _ ⟨(zi hn rfl rfl rfl), Nat.le_of_ble_eq_true rfl, Nat.le_of_ble_eq_true rfl, ?_⟩
        refine ap_set (s := B.1 182 (8 * p + 1)) ((congrFun (wrL_row (by decide) (by decide)) (8 * p + 1)).trans rfl) hB m0 (by simp only [List.length_append, wl4, wl5, wl6, wl7, wl8, wl9]; omega) ?_
        refine hP _ _ _ _ _ ?_
        refine hP _ _ _ _ _ ?_
        refine hP _ _ _ _ _ ⟨(zi hn rfl rfl rfl), Nat.le_of_ble_eq_true rfl, Nat.le_of_ble_eq_true rfl, ?_⟩
        refine ap_word (by decide) hB m0 (by simp only [List.length_append, wl4, wl5, wl6, wl7, wl8, wl9]; omega) (by simp only [List.length_append, wl4, wl5, wl6, wl7, wl8, wl9]; omega) ?_
        refine hP _ _ _ _ _ ?_
        refine hP _ _ _ _ _ ?_
        refine hP _ _ _ _ _ ⟨(zi hn rfl rfl rfl), _, fx_Model_powers (hF _), (by decide), ?_⟩
        refine hP _ _ _ _ _ ?_
        refine hP _ _ _ _ _ ?_
        refine hP _ _ _ _ _ ?_
        refine hP _ _ _ _ _ ⟨_, 8 * p + 2, (zi hn rfl rfl rfl), nlin 8 p 2, by omega, ?_⟩
        refine hP _ _ _ _ _ ⟨(zi hn rfl rfl rfl), Nat.le_of_ble_eq_true rfl, Nat.le_of_ble_eq_true rfl, ?_⟩
        refine ap_num ((congrFun (wrL_row (by decide) (by decide)) (8 * p + 2)).trans hto) (by omega) hB m0 (by simp only [List.length_append, wl4, wl5, wl6, wl7, wl8, wl9]; omega) ?_
        refine hP _ _ _ _ _ ?_
        refine hP _ _ _ _ _ ?_
        refine hP _ _ _ _ _ ⟨(zi hn rfl rfl rfl), Nat.le_of_ble_eq_true rfl, Nat.le_of_ble_eq_true rfl, ?_⟩
        refine ap_word (by decide) hB m0 (by simp only [List.length_append, wl4, wl5, wl6, wl7, wl8, wl9]; omega) (by simp only [List.length_append, wl4, wl5, wl6, wl7, wl8, wl9]; omega) ?_
        refine hP _ _ _ _ _ ?_
        refine hP _ _ _ _ _ ?_
        refine hP _ _ _ _ _ ⟨(zi hn rfl rfl rfl), _, fx_Model_powers (hF _), (by decide), ?_⟩
        refine hP _ _ _ _ _ ?_
        refine hP _ _ _ _ _ ?_
        refine hP _ _ _ _ _ ?_
        refine hP _ _ _ _ _ ⟨_, 8 * p + 3, (zi hn rfl rfl rfl), nlin 8 p 3, by omega, ?_⟩
        refine hP _ _ _ _ _ ⟨(zi hn rfl rfl rfl), Nat.le_of_ble_eq_true rfl, Nat.le_of_ble_eq_true rfl, ?_⟩
        refine ap_set (s := B.1 182 (8 * p + 3)) ((congrFun (wrL_row (by decide) (by decide)) (8 * p + 3)).trans rfl) hB m0 (by simp only [List.length_append, wl4, wl5, wl6, wl7, wl8, wl9]; omega) ?_
        refine hP _ _ _ _ _ ?_
        refine hP _ _ _ _ _ ?_
        refine hP _ _ _ _ _ ⟨(zi hn rfl rfl rfl), Nat.le_of_ble_eq_true rfl, Nat.le_of_ble_eq_true rfl, ?_⟩
        refine ap_word (by decide) hB m0 (by simp only [List.length_append, wl4, wl5, wl6, wl7, wl8, wl9]; omega) (by simp only [List.length_append, wl4, wl5, wl6, wl7, wl8, wl9]; omega) ?_
        refine hP _ _ _ _ _ ?_
        refine hP _ _ _ _ _ ?_
        refine hP _ _ _ _ _ ⟨(zi hn rfl rfl rfl), _, fx_Model_powers (hF _), (by decide), ?_⟩
        refine hP _ _ _ _ _ ?_
        refine hP _ _ _ _ _ ?_
        refine hP _ _ _ _ _ ?_
        refine hP _ _ _ _ _ ⟨_, 8 * p + 4, (zi hn rfl rfl rfl), nlin 8 p 4, by omega, ?_⟩
        refine hP _ _ _ _ _ ⟨(zi hn rfl rfl rfl), Nat.le_of_ble_eq_true rfl, Nat.le_of_ble_eq_true rfl, ?_⟩
        refine ap_num ((congrFun (wrL_row (by decide) (by decide)) (8 * p + 4)).trans hmo) (by omega) hB m0 (by simp only [List.length_append, wl4, wl5, wl6, wl7, wl8, wl9]; omega) ?_
        refine hP _ _ _ _ _ ?_
        refine hP _ _ _ _ _ ⟨(zi hn rfl rfl rfl), _, fx_Model_powers (hF _), (by decide), ?_⟩
        refine hP _ _ _ _ _ ?_
        refine hP _ _ _ _ _ ?_
        refine hP _ _ _ _ _ ?_
        refine hP _ _ _ _ _ ⟨_, 8 * p + 5, (zi hn rfl rfl rfl), nlin 8 p 5, by omega, ?_⟩
        refine hP _ _ _ _ _ ?_
        refine hP _ _ _ _ _ ⟨fun hz => absurd hz ( fun z => h5 (((congrFun (wrL_row (by decide) (by decide)) (8 * p + 5)).trans rfl).symm.trans z)), fun _ => ?_⟩
        refine hP _ _ _ _ _ ?_
        refine hP _ _ _ _ _ ?_
        refine hP _ _ _ _ _ ⟨(zi hn rfl rfl rfl), Nat.le_of_ble_eq_true rfl, Nat.le_of_ble_eq_true rfl, ?_⟩
        refine ap_word (by decide) hB m0 (by simp only [List.length_append, wl4, wl5, wl6, wl7, wl8, wl9]; omega) (by simp only [List.length_append, wl4, wl5, wl6, wl7, wl8, wl9]; omega) ?_
        refine hP _ _ _ _ _ ?_
        refine hP _ _ _ _ _ ?_
        refine hP _ _ _ _ _ ⟨(zi hn rfl rfl rfl), _, fx_Model_powers (hF _), (by decide), ?_⟩
        refine hP _ _ _ _ _ ?_
        refine hP _ _ _ _ _ ?_
        refine hP _ _ _ _ _ ?_
        refine hP _ _ _ _ _ ⟨_, 8 * p + 5, (zi hn rfl rfl rfl), nlin 8 p 5, by omega, ?_⟩
        refine hP _ _ _ _ _ ⟨(zi hn rfl rfl rfl), Nat.le_of_ble_eq_true rfl, Nat.le_of_ble_eq_true rfl, ?_⟩
        refine ap_num ((congrFun (wrL_row (by decide) (by decide)) (8 * p + 5)).trans hti) (by omega) hB m0 (by simp only [List.length_append, wl4, wl5, wl6, wl7, wl8, wl9]; omega) ?_
        refine hP _ _ _ _ _ ?_
        refine hP _ _ _ _ _ ⟨(zi hn rfl rfl rfl), _, fx_Model_powers (hF _), (by decide), ?_⟩
        refine hP _ _ _ _ _ ?_
        refine hP _ _ _ _ _ ?_
        refine hP _ _ _ _ _ ?_
        refine hP _ _ _ _ _ ⟨_, 8 * p + 6, (zi hn rfl rfl rfl), nlin 8 p 6, by omega, ?_⟩
        refine hP _ _ _ _ _ ?_
        refine hP _ _ _ _ _ ⟨fun hz => absurd hz ( fun z => h6 (((congrFun (wrL_row (by decide) (by decide)) (8 * p + 6)).trans rfl).symm.trans z)), fun _ => ?_⟩
        refine hP _ _ _ _ _ ?_
        refine hP _ _ _ _ _ ?_
        refine hP _ _ _ _ _ ⟨(zi hn rfl rfl rfl), Nat.le_of_ble_eq_true rfl, Nat.le_of_ble_eq_true rfl, ?_⟩
        refine ap_one hB m0 (by simp only [List.length_append, wl4, wl5, wl6, wl7, wl8, wl9]; omega) ?_
        refine hP _ _ _ _ _ ?_
        exact ⟨rfl, hQ _ (by rw [if_neg h5, hti, ix_nI (j := ti) (by omega), if_neg h6] at hA0; rw [← hA0 _ rfl]; simp only [List.append_assoc, List.nil_append])⟩
  have l1 := numL_len gv
  by_cases hu : B.1 182 (8 * p + 7) = -1
  ·
    refine hP _ _ _ _ _ ?_
    refine hP _ _ _ _ _ ?_
    refine hP _ _ _ _ _ ?_
    refine hP _ _ _ _ _ ?_
    refine hP _ _ _ _ _ ?_
    refine hP _ _ _ _ _ ?_
    refine hP _ _ _ _ _ ⟨(zi hn rfl rfl rfl), ?_⟩
    rw [hBe]
    refine hP _ _ _ _ _ ?_
    refine hP _ _ _ _ _ ⟨(zi hn rfl rfl rfl), _, fx_Model_powers hF, (by decide), ?_⟩
    refine hP _ _ _ _ _ ?_
    refine hP _ _ _ _ _ ?_
    refine hP _ _ _ _ _ ?_
    refine hP _ _ _ _ _ ⟨_, 8 * p + 7, (zi hn rfl rfl rfl), nlin 8 p 7, by omega, ?_⟩
    refine hP _ _ _ _ _ ?_
    refine hP _ _ _ _ _ ⟨fun _ => ?_, fun hz => absurd ( hu) hz⟩
    refine hP _ _ _ _ _ ?_
    refine hP _ _ _ _ _ ?_
    refine hP _ _ _ _ _ ?_
    refine hP _ _ _ _ _ ?_
    refine hP _ _ _ _ _ ⟨fun _ => ?_, fun hz => absurd ( rfl) hz⟩
    refine hP _ _ _ _ _ ?_
    refine hP _ _ _ _ _ ⟨(zi hn rfl rfl rfl), Nat.le_of_ble_eq_true rfl, Nat.le_of_ble_eq_true rfl, ?_⟩
    refine ap_first (w := 2) (by decide) hB m0 ?_
    have hF : zFx (wrL 196 180 42 B 0 ([] ++ wdM 2)) := zFx_2 wrL_2 hF
    refine hP _ _ _ _ _ ?_
    refine hP _ _ _ _ _ ?_
    refine hP _ _ _ _ _ ⟨fun _ => ?_, fun hz => absurd ( rfl) hz⟩
    refine hP _ _ _ _ _ ?_
    refine hP _ _ _ _ _ ⟨(zi hn rfl rfl rfl), _, fx_Model_powers hF, (by decide), ?_⟩
    refine hP _ _ _ _ _ ?_
    refine hP _ _ _ _ _ ?_
    refine hP _ _ _ _ _ ?_
    refine hP _ _ _ _ _ ⟨_, 8 * p, (zi hn rfl rfl rfl), nlin 8 p 0, by omega, ?_⟩
    refine hP _ _ _ _ _ ⟨(zi hn rfl rfl rfl), Nat.le_of_ble_eq_true rfl, Nat.le_of_ble_eq_true rfl, ?_⟩
    refine ap_num (v := gv) ((congrFun (wrL_row (by decide) (by decide)) (8 * p)).trans hgv) (by omega) hB m0 (by simp only [List.length_append, List.length_nil, wl2, wl3]; omega) ?_
    refine mid _ (by simp only [List.length_append, List.length_nil, wl2, wl3]; omega) (by simp only [List.length_append, List.length_nil, wl2, wl3]; omega) (fun T => by rw [if_pos hu, if_pos hu, hgv, ix_nI (j := gv) (by omega)]; simp only [List.append_assoc, List.nil_append]) _
  · obtain ⟨u, hu20, hun⟩ := hun.resolve_left hu
    have l2 := numL_len u
    refine hP _ _ _ _ _ ?_
    refine hP _ _ _ _ _ ?_
    refine hP _ _ _ _ _ ?_
    refine hP _ _ _ _ _ ?_
    refine hP _ _ _ _ _ ?_
    refine hP _ _ _ _ _ ?_
    refine hP _ _ _ _ _ ⟨(zi hn rfl rfl rfl), ?_⟩
    rw [hBe]
    refine hP _ _ _ _ _ ?_
    refine hP _ _ _ _ _ ⟨(zi hn rfl rfl rfl), _, fx_Model_powers hF, (by decide), ?_⟩
    refine hP _ _ _ _ _ ?_
    refine hP _ _ _ _ _ ?_
    refine hP _ _ _ _ _ ?_
    refine hP _ _ _ _ _ ⟨_, 8 * p + 7, (zi hn rfl rfl rfl), nlin 8 p 7, by omega, ?_⟩
    refine hP _ _ _ _ _ ?_
    refine hP _ _ _ _ _ ⟨fun hz => absurd hz ( hu), fun _ => ?_⟩
    refine hP _ _ _ _ _ ?_
    refine hP _ _ _ _ _ ?_
    refine hP _ _ _ _ _ ?_
    refine hP _ _ _ _ _ ?_
    refine hP _ _ _ _ _ ?_
    refine hP _ _ _ _ _ ⟨fun hz => absurd hz ( by decide), fun _ => ?_⟩
    refine hP _ _ _ _ _ ?_
    refine hP _ _ _ _ _ ?_
    refine hP _ _ _ _ _ ⟨(zi hn rfl rfl rfl), Nat.le_of_ble_eq_true rfl, Nat.le_of_ble_eq_true rfl, ?_⟩
    refine ap_first (w := 3) (by decide) hB m0 ?_
    have hF : zFx (wrL 196 180 42 B 0 ([] ++ wdM 3)) := zFx_2 wrL_2 hF
    refine hP _ _ _ _ _ ?_
    refine hP _ _ _ _ _ ?_
    refine hP _ _ _ _ _ ⟨fun hz => absurd hz ( by decide), fun _ => ?_⟩
    refine hP _ _ _ _ _ ?_
    refine hP _ _ _ _ _ ⟨(zi hn rfl rfl rfl), _, fx_Model_powers hF, (by decide), ?_⟩
    refine hP _ _ _ _ _ ?_
    refine hP _ _ _ _ _ ?_
    refine hP _ _ _ _ _ ?_
    refine hP _ _ _ _ _ ⟨_, 8 * p + 7, (zi hn rfl rfl rfl), nlin 8 p 7, by omega, ?_⟩
    refine hP _ _ _ _ _ ?_
    refine hP _ _ _ _ _ ⟨(zi hn rfl rfl rfl), Nat.le_of_ble_eq_true rfl, Nat.le_of_ble_eq_true rfl, ?_⟩
    refine ap_num (v := u) ((congrFun (wrL_row (by decide) (by decide)) (8 * p + 7)).trans hun) (by omega) hB m0 (by simp only [List.length_append, List.length_nil, wl2, wl3]; omega) ?_
    refine mid _ (by simp only [List.length_append, List.length_nil, wl2, wl3]; omega) (by simp only [List.length_append, List.length_nil, wl2, wl3]; omega) (fun T => by rw [if_neg hu, if_neg hu, hun, ix_nI (j := u) (by omega)]; simp only [List.append_assoc, List.nil_append]) _
