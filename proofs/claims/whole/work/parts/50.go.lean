/-! ===== words as numbers ===== -/
def hF (f : Nat → Nat) : Nat → Nat
  | 0 => 0
  | i + 1 => 27 * hF f i + f i
theorem hF_inj {f g : Nat → Nat} : ∀ n m, (∀ i, i < n → 1 ≤ f i ∧ f i ≤ 26) → (∀ i, i < m → 1 ≤ g i ∧ g i ≤ 26) → hF f n = hF g m → n = m ∧ ∀ i, i < n → f i = g i := by
  intro n
  induction n with
  | zero =>
    intro m _ hg h
    cases m with
    | zero => exact ⟨rfl, fun i hi => absurd hi (Nat.not_lt_zero _)⟩
    | succ m => have := hg m (by omega); rw [hF, hF] at h; omega
  | succ n ih =>
    intro m hf hg h
    cases m with
    | zero => have := hf n (by omega); rw [hF, hF] at h; omega
    | succ m =>
      have a := hf n (by omega)
      have b := hg m (by omega)
      rw [hF, hF] at h
      obtain ⟨e, q⟩ := ih m (fun i hi => hf i (by omega)) (fun i hi => hg i (by omega)) (by omega)
      subst e
      refine ⟨rfl, fun i hi => ?_⟩
      by_cases e : i = n
      · subst e; omega
      · exact q i (by omega)
theorem hF_lt {f : Nat → Nat} : ∀ n, (∀ i, i < n → f i ≤ 26) → hF f n < 27 ^ n := by
  intro n
  induction n with
  | zero => intro _; exact Nat.one_pos
  | succ n ih =>
    intro h
    have := ih fun i hi => h i (by omega)
    have := h n (by omega)
    rw [hF, Nat.pow_succ]
    omega
def hB (B : Nat → Int32) (s : Nat) : Nat → Int64
  | 0 => 0
  | i + 1 => 27 * hB B s i + (B (s + i)).toInt64 - 96
def hW (w : Nat) : Nat → Int64
  | 0 => 0
  | i + 1 => 27 * hW w i + (letS w (nI i)).toInt64 - 96
def hV (w : Nat) : Int64 := hW w (wdM w).length
theorem ltr_nI {c : Int32} (h : ltr c = true) : ∃ d, 97 ≤ d ∧ d ≤ 122 ∧ c = nI d := by
  obtain ⟨h1, h2⟩ := of_decide_eq_true h
  have h0 : ¬ c < 0 := fun z => h1 (Int32.lt_trans z (by decide))
  obtain ⟨d, hd, rfl⟩ := nI_of h0
  refine ⟨d, ?_, ?_, rfl⟩
  · rcases Nat.lt_or_ge d 97 with z | z
    · exact absurd (nI_lt (b := 97) z (by omega)) h1
    · exact z
  · rcases Nat.lt_or_ge 122 d with z | z
    · exact absurd (nI_lt (a := 122) z hd) h2
    · exact z
theorem dgt_nI {c : Int32} (h : dgt c = true) : ∃ d, 48 ≤ d ∧ d ≤ 57 ∧ c = nI d := by
  obtain ⟨h1, h2⟩ := of_decide_eq_true h
  have h0 : ¬ c < 0 := fun z => h1 (Int32.lt_trans z (by decide))
  obtain ⟨d, hd, rfl⟩ := nI_of h0
  refine ⟨d, ?_, ?_, rfl⟩
  · rcases Nat.lt_or_ge d 48 with z | z
    · exact absurd (nI_lt (b := 48) z (by omega)) h1
    · exact z
  · rcases Nat.lt_or_ge 57 d with z | z
    · exact absurd (nI_lt (a := 57) z hd) h2
    · exact z
theorem ltr_dgt {c : Int32} (h : ltr c = true) : dgt c = false := by
  obtain ⟨d, h1, h2, rfl⟩ := ltr_nI h
  exact decide_eq_false (fun z => z.2 (nI_lt (a := 57) (by omega) (by omega)))
def lvF (B : Nat → Int32) (s i : Nat) : Nat := ix (B (s + i)) - 96
theorem lvF_r {B : Nat → Int32} {s i : Nat} (h : ltr (B (s + i)) = true) : 1 ≤ lvF B s i ∧ lvF B s i ≤ 26 ∧ B (s + i) = nI (lvF B s i + 96) := by
  obtain ⟨d, h1, h2, h3⟩ := ltr_nI h
  unfold lvF
  rw [h3, ix_nI (by omega)]
  exact ⟨by omega, by omega, by congr 1; omega⟩
theorem hB_lN {B : Nat → Int32} {s : Nat} : ∀ n, (∀ i, i < n → ltr (B (s + i)) = true) → hB B s n = lN (hF (lvF B s) n) := by
  intro n
  induction n with
  | zero => intro _; rfl
  | succ n ih =>
    intro h
    have r := lvF_r (h n (by omega))
    rw [hB, ih fun i hi => h i (by omega), r.2.2, nI_l (by omega), show (27 : Int64) = lN 27 from rfl, lN_mul, lN_add, show (96 : Int64) = lN 96 from rfl, lN_sub (by omega), hF]
    congr 1
theorem hV_lN : ∀ w, w < 10 → hV w = lN (hF (fun i => ix ((wdM w).getD i 0) - 96) (wdM w).length) := by decide +kernel
theorem wd_r : ∀ w, w < 10 → ∀ i, i < (wdM w).length → 1 ≤ ix ((wdM w).getD i 0) - 96 ∧ ix ((wdM w).getD i 0) - 96 ≤ 26 ∧ (wdM w).getD i 0 = nI (ix ((wdM w).getD i 0) - 96 + 96) := by decide +kernel
theorem wd_l : ∀ w, w < 10 → ∀ i, i < (wdM w).length → ltr ((wdM w).getD i 0) = true := by decide +kernel
/-- the numbers are one just if the words are -/
theorem hF_congr {f g : Nat → Nat} : ∀ n, (∀ i, i < n → f i = g i) → hF f n = hF g n := by
  intro n
  induction n with
  | zero => intro _; rfl
  | succ n ih => intro h; rw [hF, hF, ih fun i hi => h i (by omega), h n (by omega)]
theorem p27 : (27 : Nat) ^ 7 < 2 ^ 63 := by decide
theorem hF_lt7 {f : Nat → Nat} {n : Nat} (h7 : n ≤ 7) (h : ∀ i, i < n → f i ≤ 26) : hF f n < 2 ^ 63 := Nat.lt_trans (Nat.lt_of_lt_of_le (hF_lt n h) (Nat.pow_le_pow_right (Nat.succ_pos _) h7)) p27
theorem hash_iff {B : Nat → Int32} {s n w : Nat} (hw : w < 10) (hL : ∀ i, i < n → ltr (B (s + i)) = true) : hB B s (min n 7) = hV w ↔ wm B s n w := by
  have hl := wdM_len w hw
  constructor
  · intro h
    rw [hB_lN _ fun i hi => hL i (by omega), hV_lN w hw] at h
    have l7 : (wdM w).length ≤ 7 := by omega
    have q1 := hF_lt7 (f := lvF B s) (n := min n 7) (by omega) fun i hi => (lvF_r (hL i (by omega))).2.1
    have q2 := hF_lt7 (f := fun i => ix ((wdM w).getD i 0) - 96) (n := (wdM w).length) l7 fun i hi => (wd_r w hw i hi).2.1
    have h := (pk_lEQ q1 q2).mp h
    clear q1 q2
    obtain ⟨e, q⟩ := hF_inj _ _ (fun i hi => ⟨(lvF_r (hL i (by omega))).1, (lvF_r (hL i (by omega))).2.1⟩) (fun i hi => ⟨(wd_r w hw i hi).1, (wd_r w hw i hi).2.1⟩) h
    refine ⟨by omega, fun i hi => ?_⟩
    rw [(lvF_r (hL i hi)).2.2, q i (by omega)]
    exact (wd_r w hw i (by omega)).2.2.symm
  · intro h
    have e : n = (wdM w).length := h.1
    rw [show min n 7 = n by omega, hB_lN _ hL, hV_lN w hw, ← e]
    rw [hF_congr (f := lvF B s) (g := fun i => ix ((wdM w).getD i 0) - 96) n fun i hi => show ix (B (s + i)) - 96 = ix ((wdM w).getD i 0) - 96 by rw [h.2 i hi]]
/-- the reference at a token: its kind k, where it stands, its number -/
def zTk (mem : zM) (k s : Nat) (v : Int32) : Prop := mem.1 180 5 = nI s ∧ ((k = 0 ∧ mem.1 180 6 = 0) ∨ (k = 1 ∧ (mem.1 180 6 = 1 ∨ (mem.1 180 6 = 2 ∧ ∀ w, w < 10 → ¬ mem.2.1 180 10 = hV w))) ∨ (k = 2 ∧ mem.1 180 6 = 3 ∧ mem.1 180 7 = v) ∨ (k = 3 ∧ mem.1 180 6 = 4) ∨ (∃ w, w < 10 ∧ k = 4 + w ∧ mem.1 180 6 = 2 ∧ mem.2.1 180 10 = hV w))
def sG (a b : Nat) : Prop := a = 180 ∧ ((4 ≤ b ∧ b ≤ 7) ∨ b = 10)
theorem zFx_G {M m : zM} (h : zfr sG M m) (hF : zFx M) : zFx m := by
  have e : ∀ a b, ¬ sG a b → m.2.2 a b = M.2.2 a b := h.2.2
  have hl : ∀ q ∈ zfxl, ¬ sG q.1 q.2.1 := by unfold sG; decide +kernel
  refine ⟨fun q hq => (e _ _ (hl q hq)).trans (hF.1 q hq), fun p hp => ?_, fun a ha => ?_, ?_⟩
  · rw [e 137 p (by unfold sG; omega), e 159 p (by unfold sG; omega)]; exact hF.2.1 p hp
  · rw [e 119 a (by unfold sG; omega)]; exact hF.2.2.1 a ha
  · rw [e 100 8 (by unfold sG; omega), e 100 9 (by unfold sG; omega)]; exact hF.2.2.2
theorem row_G {M m : zM} (h : zfr sG M m) {a : Nat} (ha : a ≠ 180) : m.1 a = M.1 a := by funext b; exact h.1 a b (by unfold sG; omega)
def gdB (B : Nat → Int32) (s : Nat) (L : Bool) : Nat → Bool
  | 0 => true
  | i + 1 => gdB B s L i && decide (ltr (B (s + i)) = L)
theorem gdB_iff {B : Nat → Int32} {s : Nat} {L : Bool} : ∀ n, gdB B s L n = true ↔ ∀ i, i < n → ltr (B (s + i)) = L := by
  intro n
  induction n with
  | zero => exact ⟨fun _ i h => absurd h (Nat.not_lt_zero _), fun _ => rfl⟩
  | succ n ih =>
    rw [gdB, Bool.and_eq_true, ih]
    refine ⟨fun h i hi => ?_, fun h => ⟨fun i hi => h i (by omega), decide_eq_true (h n (by omega))⟩⟩
    by_cases e : i = n
    · subst e; exact of_decide_eq_true h.2
    · exact h.1 i (by omega)
/-- what the reference sets a word of letters and digits down as -/
theorem tkC_ln {B : Nat → Int32} {sz s : Nat} (hs : s < sz) (ha : alnum (B s) = true) (mem : zM) (h5 : mem.1 180 5 = nI s) (h10 : mem.2.1 180 10 = hB B s (min (en B sz s - s) 7)) (h7 : mem.1 180 7 = numI B s (min (en B sz s - s) 3))
    (h6 : mem.1 180 6 = if gdB B s (ltr (B s)) (en B sz s - s) = true ∧ ¬ (ltr (B s) = false ∧ 3 < en B sz s - s) then (if ltr (B s) = true then 2 else 3) else 1) : zTk mem (tkC B sz s) s (numI B s (en B sz s - s)) := by
  have hgt : s < en B sz s := by
    rw [en_y hs ha]
    have := en_ge (B := B) (sz := sz) (s + 1)
    omega
  have hall := en_all (B := B) (sz := sz) s
  have n59 : ¬ B s = 59 := fun z => by rw [not59 z] at ha; cases ha
  have ene : ¬ en B sz s = s := by omega
  generalize hn : en B sz s - s = n at *
  have hn1 : 0 < n := by omega
  have hall' : ∀ i, i < n → alnum (B (s + i)) = true := fun i hi => (hall (s + i) (by omega) (by omega)).2
  refine ⟨h5, ?_⟩
  unfold tkC
  rw [hn, if_neg n59, if_neg ene]
  cases hL : ltr (B s) with
  | true =>
    rw [hL] at h6
    have nD : ¬ (allD B s n = true ∧ n ≤ 3) := fun z => by
      have := (allD_iff n).mp z.1 0 hn1
      rw [Nat.add_zero, ltr_dgt hL] at this; cases this
    rw [if_neg nD]
    by_cases hg : gdB B s true n = true
    · have hl := (gdB_iff n).mp hg
      rw [if_pos ((allL_iff n).mpr hl)]
      rw [if_pos ⟨hg, fun z => Bool.false_ne_true z.1.symm⟩, if_pos rfl] at h6
      by_cases hw : ∃ w, w < 10 ∧ wm B s n w
      · obtain ⟨w, hw, hm⟩ := hw
        rw [wT_y hm hw]
        exact Or.inr (Or.inr (Or.inr (Or.inr ⟨w, hw, rfl, h6, h10.trans ((hash_iff hw hl).mpr hm)⟩)))
      · have hw : ∀ w, w < 10 → ¬ wm B s n w := fun w h z => hw ⟨w, h, z⟩
        rw [wT_n hw]
        exact Or.inr (Or.inl ⟨rfl, Or.inr ⟨h6, fun w h z => hw w h ((hash_iff h hl).mp (h10.symm.trans z))⟩⟩)
    · have nl : ¬ allL B s n = true := fun z => hg ((gdB_iff n).mpr ((allL_iff n).mp z))
      rw [if_neg nl]
      rw [if_neg (fun z => hg z.1)] at h6
      exact Or.inr (Or.inl ⟨rfl, Or.inl h6⟩)
  | false =>
    rw [hL] at h6
    have nl : ¬ allL B s n = true := fun z => by
      have := (allL_iff n).mp z 0 hn1
      rw [Nat.add_zero, hL] at this; cases this
    by_cases hg : gdB B s false n = true
    · have hd : allD B s n = true := (allD_iff n).mpr fun i hi => by
        have a := hall' i hi
        unfold alnum at a
        rw [(gdB_iff n).mp hg i hi, Bool.false_or] at a
        exact a
      by_cases h3 : 3 < n
      · rw [if_neg (fun z => by omega), if_neg nl]
        rw [if_neg (fun z => z.2 ⟨rfl, h3⟩)] at h6
        exact Or.inr (Or.inl ⟨rfl, Or.inl h6⟩)
      · rw [if_pos ⟨hd, by omega⟩]
        rw [if_pos ⟨hg, fun z => h3 z.2⟩, if_neg (by decide)] at h6
        rw [show min n 3 = n by omega] at h7
        exact Or.inr (Or.inr (Or.inl ⟨rfl, h6, h7⟩))
    · have nd : ¬ (allD B s n = true ∧ n ≤ 3) := fun z => hg ((gdB_iff n).mpr fun i hi => by
        cases hq : ltr (B (s + i)) with
        | false => rfl
        | true => have := (allD_iff n).mp z.1 i hi; rw [ltr_dgt hq] at this; cases this)
      rw [if_neg nd, if_neg nl]
      rw [if_neg (fun z => hg z.1)] at h6
      exact Or.inr (Or.inl ⟨rfl, Or.inl h6⟩)
