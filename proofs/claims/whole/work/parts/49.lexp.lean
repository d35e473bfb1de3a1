/-! ===== tokens, as the document has them: B the bytes, sz how many ===== -/
def skF (B : Nat → Int32) (lim : Nat) : Nat → Nat → Nat
  | 0, p => p
  | f + 1, p => if p < lim ∧ blk (B p) = true then skF B lim f (p + 1) else p
def sk (B : Nat → Int32) (lim p : Nat) : Nat := skF B lim (lim - p) p
theorem sk_y {B : Nat → Int32} {lim p : Nat} (h : p < lim) (hb : blk (B p) = true) : sk B lim p = sk B lim (p + 1) := by
  unfold sk
  obtain ⟨f, hf⟩ : ∃ f, lim - p = f + 1 := ⟨lim - p - 1, by omega⟩
  rw [hf, skF, if_pos ⟨h, hb⟩, show lim - (p + 1) = f by omega]
theorem sk_n {B : Nat → Int32} {lim p : Nat} (h : ¬ (p < lim ∧ blk (B p) = true)) : sk B lim p = p := by
  unfold sk
  cases hf : lim - p with
  | zero => rfl
  | succ f => rw [skF, if_neg h]
def alnum (c : Int32) : Bool := ltr c || dgt c
def enF (B : Nat → Int32) (sz : Nat) : Nat → Nat → Nat
  | 0, p => p
  | f + 1, p => if p < sz ∧ alnum (B p) = true then enF B sz f (p + 1) else p
def en (B : Nat → Int32) (sz p : Nat) : Nat := enF B sz (sz - p) p
theorem en_y {B : Nat → Int32} {sz p : Nat} (h : p < sz) (hb : alnum (B p) = true) : en B sz p = en B sz (p + 1) := by
  unfold en
  obtain ⟨f, hf⟩ : ∃ f, sz - p = f + 1 := ⟨sz - p - 1, by omega⟩
  rw [hf, enF, if_pos ⟨h, hb⟩, show sz - (p + 1) = f by omega]
theorem en_n {B : Nat → Int32} {sz p : Nat} (h : ¬ (p < sz ∧ alnum (B p) = true)) : en B sz p = p := by
  unfold en
  cases hf : sz - p with
  | zero => rfl
  | succ f => rw [enF, if_neg h]
theorem sk_ind {B : Nat → Int32} {lim : Nat} (R : Nat → Nat → Prop) (h1 : ∀ p, ¬ (p < lim ∧ blk (B p) = true) → R p p) (h2 : ∀ p, p < lim → blk (B p) = true → R (p + 1) (sk B lim (p + 1)) → R p (sk B lim (p + 1))) : ∀ p, R p (sk B lim p) := by
  have key : ∀ d p, lim - p = d → R p (sk B lim p) := by
    intro d
    induction d with
    | zero => intro p hp; rw [sk_n (by omega)]; exact h1 p (by omega)
    | succ d ih =>
      intro p hp
      by_cases hc : p < lim ∧ blk (B p) = true
      · rw [sk_y hc.1 hc.2]; exact h2 p hc.1 hc.2 (ih (p + 1) (by omega))
      · rw [sk_n hc]; exact h1 p hc
  exact fun p => key _ p rfl
theorem en_ind {B : Nat → Int32} {sz : Nat} (R : Nat → Nat → Prop) (h1 : ∀ p, ¬ (p < sz ∧ alnum (B p) = true) → R p p) (h2 : ∀ p, p < sz → alnum (B p) = true → R (p + 1) (en B sz (p + 1)) → R p (en B sz (p + 1))) : ∀ p, R p (en B sz p) := by
  have key : ∀ d p, sz - p = d → R p (en B sz p) := by
    intro d
    induction d with
    | zero => intro p hp; rw [en_n (by omega)]; exact h1 p (by omega)
    | succ d ih =>
      intro p hp
      by_cases hc : p < sz ∧ alnum (B p) = true
      · rw [en_y hc.1 hc.2]; exact h2 p hc.1 hc.2 (ih (p + 1) (by omega))
      · rw [en_n hc]; exact h1 p hc
  exact fun p => key _ p rfl
theorem sk_ge {B : Nat → Int32} {lim : Nat} (p : Nat) : p ≤ sk B lim p := sk_ind (fun p q => p ≤ q) (fun p _ => Nat.le_refl p) (fun p _ _ h => by omega) p
theorem en_ge {B : Nat → Int32} {sz : Nat} (p : Nat) : p ≤ en B sz p := en_ind (fun p q => p ≤ q) (fun p _ => Nat.le_refl p) (fun p _ _ h => by omega) p
theorem sk_le {B : Nat → Int32} {lim : Nat} (p : Nat) : p ≤ lim → sk B lim p ≤ lim := sk_ind (fun p q => p ≤ lim → q ≤ lim) (fun p _ h => h) (fun p h _ ih _ => ih (by omega)) p
theorem en_le {B : Nat → Int32} {sz : Nat} (p : Nat) : p ≤ sz → en B sz p ≤ sz := en_ind (fun p q => p ≤ sz → q ≤ sz) (fun p _ h => h) (fun p h _ ih _ => ih (by omega)) p
theorem en_stop {B : Nat → Int32} {sz : Nat} (p : Nat) : ¬ (en B sz p < sz ∧ alnum (B (en B sz p)) = true) := en_ind (fun _ q => ¬ (q < sz ∧ alnum (B q) = true)) (fun p h => h) (fun p _ _ ih => ih) p
theorem en_all {B : Nat → Int32} {sz : Nat} (p : Nat) : ∀ j, p ≤ j → j < en B sz p → j < sz ∧ alnum (B j) = true := en_ind (fun p q => ∀ j, p ≤ j → j < q → j < sz ∧ alnum (B j) = true) (fun p _ j h1 h2 => by omega) (fun p h hb ih j h1 h2 => by
  by_cases e : j = p
  · subst e; exact ⟨h, hb⟩
  · exact ih j (by omega) h2) p
theorem sk_stop {B : Nat → Int32} {lim : Nat} (p : Nat) : ¬ (sk B lim p < lim ∧ blk (B (sk B lim p)) = true) := sk_ind (fun _ q => ¬ (q < lim ∧ blk (B q) = true)) (fun p h => h) (fun p _ _ ih => ih) p
/-- skipping up to a limit within, or up to the end -/
theorem sk_lim {B : Nat → Int32} {lim sz : Nat} (h : lim ≤ sz) (p : Nat) : (sk B sz p < lim → sk B lim p = sk B sz p) ∧ (lim ≤ sk B sz p → lim ≤ sk B lim p) := by
  refine sk_ind (lim := sz) (fun p q => (q < lim → sk B lim p = q) ∧ (lim ≤ q → lim ≤ sk B lim p)) (fun p hp => ⟨fun h1 => sk_n (fun z => hp ⟨by omega, z.2⟩), fun h1 => Nat.le_trans h1 (sk_ge p)⟩) (fun p h1 hb ih => ?_) p
  by_cases hl : p < lim
  · rw [sk_y (lim := lim) hl hb]; exact ih
  · refine ⟨fun h2 => ?_, fun _ => Nat.le_trans (by omega) (sk_ge p)⟩
    have := sk_ge (B := B) (lim := sz) (p + 1)
    omega
def allD (B : Nat → Int32) (s : Nat) : Nat → Bool
  | 0 => true
  | i + 1 => allD B s i && dgt (B (s + i))
def allL (B : Nat → Int32) (s : Nat) : Nat → Bool
  | 0 => true
  | i + 1 => allL B s i && ltr (B (s + i))
theorem allD_iff {B : Nat → Int32} {s : Nat} : ∀ n, allD B s n = true ↔ ∀ i, i < n → dgt (B (s + i)) = true := by
  intro n
  induction n with
  | zero => exact ⟨fun _ i h => absurd h (Nat.not_lt_zero _), fun _ => rfl⟩
  | succ n ih =>
    rw [allD, Bool.and_eq_true, ih]
    refine ⟨fun h i hi => ?_, fun h => ⟨fun i hi => h i (by omega), h n (by omega)⟩⟩
    by_cases e : i = n
    · subst e; exact h.2
    · exact h.1 i (by omega)
theorem allL_iff {B : Nat → Int32} {s : Nat} : ∀ n, allL B s n = true ↔ ∀ i, i < n → ltr (B (s + i)) = true := by
  intro n
  induction n with
  | zero => exact ⟨fun _ i h => absurd h (Nat.not_lt_zero _), fun _ => rfl⟩
  | succ n ih =>
    rw [allL, Bool.and_eq_true, ih]
    refine ⟨fun h i hi => ?_, fun h => ⟨fun i hi => h i (by omega), h n (by omega)⟩⟩
    by_cases e : i = n
    · subst e; exact h.2
    · exact h.1 i (by omega)
def numI (B : Nat → Int32) (s : Nat) : Nat → Int32
  | 0 => 0
  | i + 1 => 10 * numI B s i + B (s + i) - 48
/-- the bytes are a word -/
abbrev wm (B : Nat → Int32) (s n w : Nat) : Prop := n = (wdM w).length ∧ ∀ i, i < n → B (s + i) = (wdM w).getD i 0
def wF (B : Nat → Int32) (s n : Nat) : Nat → Nat
  | 0 => 1
  | w + 1 => if wm B s n w then 4 + w else wF B s n w
def wT (B : Nat → Int32) (s n : Nat) : Nat := wF B s n 10
theorem wdM_inj : ∀ w, w < 10 → ∀ v, v < 10 → wdM w = wdM v → w = v := by decide
theorem wm_eq {B : Nat → Int32} {s n w v : Nat} (h1 : wm B s n w) (h2 : wm B s n v) (hw : w < 10) (hv : v < 10) : w = v := by
  refine wdM_inj w hw v hv (List.ext_getElem? fun i => ?_)
  by_cases hi : i < n
  · have a := h1.2 i hi
    have b := h2.2 i hi
    have ha : i < (wdM w).length := h1.1 ▸ hi
    have hb : i < (wdM v).length := h2.1 ▸ hi
    rw [List.getD_eq_getElem?_getD, List.getElem?_eq_getElem ha] at a
    rw [List.getD_eq_getElem?_getD, List.getElem?_eq_getElem hb] at b
    rw [List.getElem?_eq_getElem ha, List.getElem?_eq_getElem hb]
    simp only [Option.getD_some] at a b
    rw [← a, b]
  · rw [List.getElem?_eq_none (by rw [← h1.1]; omega), List.getElem?_eq_none (by rw [← h2.1]; omega)]
theorem wT_y {B : Nat → Int32} {s n w : Nat} (h : wm B s n w) (hw : w < 10) : wT B s n = 4 + w := by
  have key : ∀ k, w < k → k ≤ 10 → wF B s n k = 4 + w := by
    intro k
    induction k with
    | zero => intro h; omega
    | succ k ih =>
      intro h1 h2
      rw [wF]
      by_cases e : w = k
      · subst e; rw [if_pos h]
      · rw [if_neg (fun z => e (wm_eq h z hw (by omega)))]; exact ih (by omega) (by omega)
  exact key 10 hw (Nat.le_refl _)
theorem wT_n {B : Nat → Int32} {s n : Nat} (h : ∀ w, w < 10 → ¬ wm B s n w) : wT B s n = 1 := by
  have key : ∀ k, k ≤ 10 → wF B s n k = 1 := by
    intro k
    induction k with
    | zero => intro _; rfl
    | succ k ih => intro h1; rw [wF, if_neg (h k (by omega))]; exact ih (by omega)
  exact key 10 (Nat.le_refl _)
/-- what begins at s, if it is within the text -/
def tkC (B : Nat → Int32) (sz s : Nat) : Nat :=
  if B s = 59 then 3 else if en B sz s = s then 1 else if allD B s (en B sz s - s) = true ∧ en B sz s - s ≤ 3 then 2 else if allL B s (en B sz s - s) = true then wT B s (en B sz s - s) else 1
def tkP (B : Nat → Int32) (sz p : Nat) : Nat := if min sz 800 ≤ sk B (min sz 800) p then (if min sz 800 < sz then 1 else 0) else tkC B sz (sk B (min sz 800) p)
def stP (B : Nat → Int32) (sz p : Nat) : Nat := min (sk B (min sz 800) p) (min sz 800)
def nmP (B : Nat → Int32) (sz p : Nat) : Int32 := numI B (stP B sz p) (en B sz (stP B sz p) - stP B sz p)
def nxP (B : Nat → Int32) (sz p : Nat) : Nat := if B (stP B sz p) = 59 then stP B sz p + 1 else en B sz (stP B sz p)
theorem tk_a {B : Nat → Int32} {sz p : Nat} (h1 : 800 < sz) (h2 : 800 ≤ sk B sz p) : tkP B sz p = 1 ∧ stP B sz p = 800 := by
  have e : min sz 800 = 800 := by omega
  have := (sk_lim (B := B) (lim := 800) (sz := sz) (by omega) p).2 h2
  unfold tkP stP
  rw [e, if_pos this, if_pos h1]
  exact ⟨rfl, by omega⟩
theorem tk_b {B : Nat → Int32} {sz p : Nat} (h1 : ¬ 800 < sz) (hp : p ≤ sz) (h2 : sz ≤ sk B sz p) : tkP B sz p = 0 ∧ stP B sz p = sk B sz p := by
  have e : min sz 800 = sz := by omega
  have := sk_le (B := B) (lim := sz) p hp
  unfold tkP stP
  rw [e, if_pos h2, if_neg (by omega)]
  exact ⟨rfl, by omega⟩
theorem tk_c {B : Nat → Int32} {sz p : Nat} (h1 : ¬ (800 < sz ∧ 800 ≤ sk B sz p)) (h2 : sk B sz p < sz) : tkP B sz p = tkC B sz (sk B sz p) ∧ stP B sz p = sk B sz p := by
  have hl : sk B sz p < min sz 800 := by omega
  have := (sk_lim (B := B) (lim := min sz 800) (sz := sz) (by omega) p).1 hl
  unfold tkP stP
  rw [this, if_neg (by omega)]
  exact ⟨rfl, by omega⟩
theorem not59 {c : Int32} (h : c = 59) : alnum c = false := by subst h; decide
/-- a token that isn't the last goes on -/
theorem tkC_n {B : Nat → Int32} {sz s : Nat} (hs : s < sz) (h : 2 ≤ tkC B sz s) : s < (if B s = 59 then s + 1 else en B sz s) ∧ (if B s = 59 then s + 1 else en B sz s) ≤ sz := by
  unfold tkC at h
  by_cases h1 : B s = 59
  · rw [if_pos h1]; omega
  · rw [if_neg h1] at h ⊢
    have := en_ge (B := B) (sz := sz) s
    have := en_le (B := B) (sz := sz) s (by omega)
    by_cases h2 : en B sz s = s
    · rw [if_pos h2] at h; omega
    · omega
theorem nx_lt {B : Nat → Int32} {sz p : Nat} (h : 2 ≤ tkP B sz p) : p ≤ stP B sz p ∧ stP B sz p < min sz 800 ∧ stP B sz p < nxP B sz p ∧ nxP B sz p ≤ sz := by
  unfold tkP at h
  by_cases h1 : min sz 800 ≤ sk B (min sz 800) p
  · rw [if_pos h1] at h; split at h <;> omega
  · rw [if_neg h1] at h
    have e : stP B sz p = sk B (min sz 800) p := by unfold stP; omega
    have := sk_ge (B := B) (lim := min sz 800) p
    rw [← e] at h
    have := tkC_n (by omega) h
    unfold nxP
    omega
