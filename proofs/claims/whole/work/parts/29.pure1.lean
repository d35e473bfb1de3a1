/-! ===== the view in closed form ===== -/
/-- what a power under another is has the lesser number -/
def zUn (g : Nat → Int32) (pw : Nat) : Prop := ∀ p, p < pw → (g (8 * p + 7) = -1 ∨ ∃ u, u < p ∧ g (8 * p + 7) = nI u)
theorem zRo.un {f g h : Nat → Int32} {np pw : Nat} (hR : zRo f g h np pw) : zUn g pw := fun p hp => (hR.2.2.2.2.1 p hp).2.2
theorem whyM_w {np : Nat} {f g e t d w w' : Nat → Int32} {p pw : Nat} (hu : zUn g pw) (hp : p < pw) (h20 : pw ≤ 20) (h : ∀ u, u < p → w u = w' u) : whyM np f g e t d w p = whyM np f g e t d w' p := by
  unfold whyM
  rcases hu p hp with z | ⟨u, hup, z⟩
  · rw [z]; rfl
  · rw [z, ix_nI (by omega), h u hup]
def whyF (np : Nat) (f g e t d : Nat → Int32) : Nat → Nat → Int32
  | 0, _ => 0
  | s + 1, p => whyM np f g e t d (whyF np f g e t d s) p
theorem whyF_stab {np : Nat} {f g e t d : Nat → Int32} {pw : Nat} (hu : zUn g pw) (h20 : pw ≤ 20) : ∀ p s s', p < pw → p < s → p < s' → whyF np f g e t d s p = whyF np f g e t d s' p := by
  intro p
  induction p using Nat.strongRecOn with
  | _ p ih =>
    intro s s' hp h1 h2
    obtain ⟨s, rfl⟩ : ∃ k, s = k + 1 := ⟨s - 1, by omega⟩
    obtain ⟨s', rfl⟩ : ∃ k, s' = k + 1 := ⟨s' - 1, by omega⟩
    exact whyM_w hu hp h20 fun u hup => ih u hup s s' (by omega) (by omega) (by omega)
def whyP (np : Nat) (f g e t d : Nat → Int32) (p : Nat) : Int32 := whyF np f g e t d (p + 1) p
theorem whyP_eq {np : Nat} {f g e t d : Nat → Int32} {p pw : Nat} (hu : zUn g pw) (h20 : pw ≤ 20) (hp : p < pw) : whyP np f g e t d p = whyM np f g e t d (whyP np f g e t d) p :=
  whyM_w hu hp h20 fun u hup => whyF_stab hu h20 u p (u + 1) (by omega) hup (by omega)
/-- narrowed by moment k: kinds, most -/
def nkF (g a b : Nat → Int32) (p : Nat) : Nat → Int32
  | 0 => g (8 * p + 3)
  | k + 1 => if a (k + 1) = nI p then nkF g a b p k &&& b (k + 1) else nkF g a b p k
def nmF (g a c : Nat → Int32) (p : Nat) : Nat → Int32
  | 0 => g (8 * p + 4)
  | k + 1 => if a (k + 1) = nI p then (if nmF g a c p k ≤ c (k + 1) then nmF g a c p k else c (k + 1)) else nmF g a c p k
/-- met with those under which it is -/
def kF (g : Nat → Int32) (own : Nat → Int32) : Nat → Nat → Int32
  | 0, _ => 0
  | s + 1, p => if g (8 * p + 7) = -1 then own p else own p &&& kF g own s (ix (g (8 * p + 7)))
def mF (g : Nat → Int32) (own : Nat → Int32) : Nat → Nat → Int32
  | 0, _ => 0
  | s + 1, p => if g (8 * p + 7) = -1 then own p else (if own p ≤ mF g own s (ix (g (8 * p + 7))) then own p else mF g own s (ix (g (8 * p + 7))))
theorem kF_stab {g own : Nat → Int32} {pw : Nat} (hu : zUn g pw) (h20 : pw ≤ 20) : ∀ p s s', p < pw → p < s → p < s' → kF g own s p = kF g own s' p := by
  intro p
  induction p using Nat.strongRecOn with
  | _ p ih =>
    intro s s' hp h1 h2
    obtain ⟨s, rfl⟩ : ∃ k, s = k + 1 := ⟨s - 1, by omega⟩
    obtain ⟨s', rfl⟩ : ∃ k, s' = k + 1 := ⟨s' - 1, by omega⟩
    rw [kF, kF]
    rcases hu p hp with z | ⟨u, hup, z⟩
    · rw [if_pos z, if_pos z]
    · rw [z, ix_nI (by omega), ih u hup s s' (by omega) (by omega) (by omega)]
theorem mF_stab {g own : Nat → Int32} {pw : Nat} (hu : zUn g pw) (h20 : pw ≤ 20) : ∀ p s s', p < pw → p < s → p < s' → mF g own s p = mF g own s' p := by
  intro p
  induction p using Nat.strongRecOn with
  | _ p ih =>
    intro s s' hp h1 h2
    obtain ⟨s, rfl⟩ : ∃ k, s = k + 1 := ⟨s - 1, by omega⟩
    obtain ⟨s', rfl⟩ : ∃ k, s' = k + 1 := ⟨s' - 1, by omega⟩
    rw [mF, mF]
    rcases hu p hp with z | ⟨u, hup, z⟩
    · rw [if_pos z, if_pos z]
    · rw [z, ix_nI (by omega), ih u hup s s' (by omega) (by omega) (by omega)]
def kP (g own : Nat → Int32) (p : Nat) : Int32 := kF g own (p + 1) p
def mP (g own : Nat → Int32) (p : Nat) : Int32 := mF g own (p + 1) p
theorem kP_eq {g own : Nat → Int32} {p pw : Nat} (hu : zUn g pw) (h20 : pw ≤ 20) (hp : p < pw) : kP g own p = if g (8 * p + 7) = -1 then own p else own p &&& kP g own (ix (g (8 * p + 7))) := by
  rcases hu p hp with z | ⟨u, hup, z⟩
  · unfold kP; rw [kF, if_pos z, if_pos z]
  · unfold kP; rw [kF, z, ix_nI (by omega), kF_stab hu h20 u p (u + 1) (by omega) hup (by omega)]
theorem mP_eq {g own : Nat → Int32} {p pw : Nat} (hu : zUn g pw) (h20 : pw ≤ 20) (hp : p < pw) : mP g own p = if g (8 * p + 7) = -1 then own p else (if own p ≤ mP g own (ix (g (8 * p + 7))) then own p else mP g own (ix (g (8 * p + 7)))) := by
  rcases hu p hp with z | ⟨u, hup, z⟩
  · unfold mP; rw [mF, if_pos z, if_pos z]
  · unfold mP; rw [mF, z, ix_nI (by omega), mF_stab hu h20 u p (u + 1) (by omega) hup (by omega)]
theorem V1_rows {np pw : Nat} {mem : zM} (hu : zUn (mem.1 182) pw) (h20 : pw ≤ 20) : ∀ i, i ≤ pw → ∀ p, p < i → (zV1 np mem i).1 192 p = whyP np (mem.1 180) (mem.1 182) (mem.1 185) (mem.1 186) (mem.1 187) p ∧ (zV1 np mem i).1 193 p = mem.1 182 (8 * p + 3) ∧ (zV1 np mem i).1 194 p = mem.1 182 (8 * p + 4) := by
  intro i
  induction i with
  | zero => intro _ p hp; omega
  | succ i ih =>
    intro hi p hp
    have e0 := zV1_row (np := np) (mem := mem) (a := 180) (by unfold nvw; omega) i
    have e2 := zV1_row (np := np) (mem := mem) (a := 182) (by unfold nvw; omega) i
    have e5 := zV1_row (np := np) (mem := mem) (a := 185) (by unfold nvw; omega) i
    have e6 := zV1_row (np := np) (mem := mem) (a := 186) (by unfold nvw; omega) i
    have e7 := zV1_row (np := np) (mem := mem) (a := 187) (by unfold nvw; omega) i
    show (stV1 np (zV1 np mem i) i).1 192 p = _ ∧ (stV1 np (zV1 np mem i) i).1 193 p = _ ∧ (stV1 np (zV1 np mem i) i).1 194 p = _
    unfold stV1
    rw [e0, e2, e5, e6, e7]
    by_cases hpi : p = i
    · subst hpi
      refine ⟨?_, by simp [zI_at], by simp [zI_at]⟩
      have : whyM np (mem.1 180) (mem.1 182) (mem.1 185) (mem.1 186) (mem.1 187) ((zV1 np mem p).1 192) p = whyP np (mem.1 180) (mem.1 182) (mem.1 185) (mem.1 186) (mem.1 187) p := by
        rw [whyP_eq hu h20 (by omega)]
        exact whyM_w hu (by omega) h20 fun u hup => (ih (by omega) u hup).1
      simp [zI_at, this]
    · have := ih (by omega) p (by omega)
      simpa [zI_at, hpi] using this
theorem V2_rows {pw : Nat} {M : zM} (h20 : pw ≤ 20) {k : Nat} (hn : ∀ j, 1 ≤ j → j ≤ k → (M.1 188 j = -1 ∨ ∃ p, p < pw ∧ M.1 188 j = nI p)) (g : Nat → Int32) (h3 : ∀ p, p < pw → M.1 193 p = g (8 * p + 3)) (h4 : ∀ p, p < pw → M.1 194 p = g (8 * p + 4)) : ∀ i, i ≤ k → ∀ p, p < pw → (zV2 M i).1 193 p = nkF g (M.1 188) (M.1 189) p i ∧ (zV2 M i).1 194 p = nmF g (M.1 188) (M.1 190) p i ∧ (zV2 M i).1 192 = M.1 192 := by
  intro i
  induction i with
  | zero => intro _ p hp; exact ⟨h3 p hp, h4 p hp, rfl⟩
  | succ i ih =>
    intro hi p hp
    have ih := ih (by omega)
    have e8 := zV2_row (mem := M) (a := 188) (by unfold nvw; omega) i
    have e9 := zV2_row (mem := M) (a := 189) (by unfold nvw; omega) i
    have e0 := zV2_row (mem := M) (a := 190) (by unfold nvw; omega) i
    show (stV2 (zV2 M i) (i + 1)).1 193 p = _ ∧ (stV2 (zV2 M i) (i + 1)).1 194 p = _ ∧ (stV2 (zV2 M i) (i + 1)).1 192 = _
    rcases hn (i + 1) (by omega) hi with z | ⟨x, hx, z⟩
    · have hne : ¬ M.1 188 (i + 1) = nI p := by rw [z]; exact fun w => absurd (w ▸ nI_pos' (n := p) (by omega)) (by decide)
      unfold stV2
      rw [e8, if_pos z, nkF, nmF, if_neg hne, if_neg hne]
      exact ih p hp
    · have hne1 : ¬ M.1 188 (i + 1) = -1 := by rw [z]; exact fun w => absurd (w ▸ nI_pos' (n := x) (by omega)) (by decide)
      unfold stV2
      rw [e8, if_neg hne1, z, ix_nI (by omega), e9]
      have k0 : (zI (zV2 M i) 193 x ((zV2 M i).1 193 x &&& M.1 189 (i + 1))).1 190 (i + 1) = M.1 190 (i + 1) := by simp [zI_at, e0]
      have k4 : (zI (zV2 M i) 193 x ((zV2 M i).1 193 x &&& M.1 189 (i + 1))).1 194 x = nmF g (M.1 188) (M.1 190) x i := by simp [zI_at, (ih x hx).2.1]
      rw [k0, k4, nkF, nmF]
      by_cases hpx : p = x
      · subst hpx
        rw [if_pos z, if_pos z]
        by_cases hc : nmF g (M.1 188) (M.1 190) p i ≤ M.1 190 (i + 1)
        · rw [if_pos hc, if_pos hc]
          refine ⟨by simp [zI_at, (ih p hp).1], by simp [zI_at, (ih p hp).2.1], ?_⟩
          rw [zI_ne (by omega)]; exact (ih p hp).2.2
        · rw [if_neg hc, if_neg hc]
          refine ⟨by simp [zI_at, (ih p hp).1], by simp [zI_at], ?_⟩
          rw [zI_ne (by omega), zI_ne (by omega)]; exact (ih p hp).2.2
      · have hne : ¬ M.1 188 (i + 1) = nI p := by rw [z, nI_eq (by omega) (by omega)]; exact fun w => hpx w.symm
        rw [if_neg hne, if_neg hne]
        by_cases hc : nmF g (M.1 188) (M.1 190) x i ≤ M.1 190 (i + 1)
        · rw [if_pos hc]
          refine ⟨by simp [zI_at, hpx, (ih p hp).1], by simp [zI_at, (ih p hp).2.1], ?_⟩
          rw [zI_ne (by omega)]; exact (ih p hp).2.2
        · rw [if_neg hc]
          refine ⟨by simp [zI_at, hpx, (ih p hp).1], by simp [zI_at, hpx, (ih p hp).2.1], ?_⟩
          rw [zI_ne (by omega), zI_ne (by omega)]; exact (ih p hp).2.2
theorem V3_rows {pw : Nat} {M : zM} (h20 : pw ≤ 20) (hu : zUn (M.1 182) pw) (ok om : Nat → Int32) (h3 : ∀ p, p < pw → M.1 193 p = ok p) (h4 : ∀ p, p < pw → M.1 194 p = om p) : ∀ i, i ≤ pw → ∀ p, p < pw → (zV3 M i).1 193 p = (if p < i then kP (M.1 182) ok p else ok p) ∧ (zV3 M i).1 194 p = (if p < i then mP (M.1 182) om p else om p) ∧ (zV3 M i).1 192 = M.1 192 := by
  intro i
  induction i with
  | zero => intro _ p hp; exact ⟨by simp [zV3, h3 p hp], by simp [zV3, h4 p hp], rfl⟩
  | succ i ih =>
    intro hi p hp
    have ih := ih (by omega)
    have e2 := zV3_row (mem := M) (a := 182) (by unfold nvw; omega) i
    show (stV3 (zV3 M i) i).1 193 p = _ ∧ (stV3 (zV3 M i) i).1 194 p = _ ∧ (stV3 (zV3 M i) i).1 192 = _
    unfold stV3
    rw [e2]
    have hki := kP_eq (own := ok) hu h20 (p := i) (by omega)
    have hmi := mP_eq (own := om) hu h20 (p := i) (by omega)
    have i3 := (ih i (by omega)).1
    have i4 := (ih i (by omega)).2.1
    rw [if_neg (Nat.lt_irrefl i)] at i3 i4
    rcases hu i (by omega) with z | ⟨u, hui, z⟩
    · rw [if_pos z] at hki hmi ⊢
      by_cases hpi : p = i
      · subst hpi
        rw [if_pos (Nat.lt_succ_self p), if_pos (Nat.lt_succ_self p), hki, hmi]
        exact ⟨i3, i4, (ih p hp).2.2⟩
      · have := ih p hp
        simp only [show (p < i + 1) ↔ (p < i) by omega]
        exact this
    · have hne1 : ¬ M.1 182 (8 * i + 7) = -1 := by rw [z]; exact fun w => absurd (w ▸ nI_pos' (n := u) (by omega)) (by decide)
      have u3 := (ih u (by omega)).1
      have u4 := (ih u (by omega)).2.1
      rw [if_pos hui] at u3 u4
      rw [if_neg hne1, z, ix_nI (by omega)] at hki hmi
      rw [if_neg hne1, z, ix_nI (by omega)]
      have k4 : (zI (zV3 M i) 193 i ((zV3 M i).1 193 i &&& (zV3 M i).1 193 u)).1 194 i = om i := by simp [zI_at, i4]
      have k5 : (zI (zV3 M i) 193 i ((zV3 M i).1 193 i &&& (zV3 M i).1 193 u)).1 194 u = mP (M.1 182) om u := by simp [zI_at, u4]
      rw [k4, k5, i3, u3]
      by_cases hpi : p = i
      · subst hpi
        rw [if_pos (Nat.lt_succ_self p), if_pos (Nat.lt_succ_self p), hki, hmi]
        by_cases hc : om p ≤ mP (M.1 182) om u
        · rw [if_pos hc, if_pos hc]
          refine ⟨by simp [zI_at], by simp [zI_at, i4], ?_⟩
          rw [zI_ne (by omega)]; exact (ih p hp).2.2
        · rw [if_neg hc, if_neg hc]
          refine ⟨by simp [zI_at], by simp [zI_at], ?_⟩
          rw [zI_ne (by omega), zI_ne (by omega)]; exact (ih p hp).2.2
      · simp only [show (p < i + 1) ↔ (p < i) by omega]
        by_cases hc : om i ≤ mP (M.1 182) om u
        · rw [if_pos hc]
          refine ⟨by simp [zI_at, hpi, (ih p hp).1], by simp [zI_at, (ih p hp).2.1], ?_⟩
          rw [zI_ne (by omega)]; exact (ih p hp).2.2
        · rw [if_neg hc]
          refine ⟨by simp [zI_at, hpi, (ih p hp).1], by simp [zI_at, hpi, (ih p hp).2.1], ?_⟩
          rw [zI_ne (by omega), zI_ne (by omega)]; exact (ih p hp).2.2
/-- the view's three rows, in closed form -/
theorem Vw_rows {np pw k : Nat} {M : zM} (hR : zRo (M.1 180) (M.1 182) (M.1 188) np pw) (hk : k ≤ 300) : ∀ p, p < pw → (zVw np pw k M).1 192 p = whyP np (M.1 180) (M.1 182) (M.1 185) (M.1 186) (M.1 187) p ∧ (zVw np pw k M).1 193 p = kP (M.1 182) (fun p => nkF (M.1 182) (M.1 188) (M.1 189) p k) p ∧ (zVw np pw k M).1 194 p = mP (M.1 182) (fun p => nmF (M.1 182) (M.1 188) (M.1 190) p k) p := by
  intro p hp
  have h20 := hR.2.2.2.1
  have hu := hR.un
  have r1 := V1_rows (np := np) (mem := M) hu h20 pw (Nat.le_refl _)
  have e8 := zV1_row (np := np) (mem := M) (a := 188) (by unfold nvw; omega) pw
  have e9 := zV1_row (np := np) (mem := M) (a := 189) (by unfold nvw; omega) pw
  have e0 := zV1_row (np := np) (mem := M) (a := 190) (by unfold nvw; omega) pw
  have r2 := V2_rows (M := zV1 np M pw) h20 (k := k) (by rw [e8]; exact fun j h1 h2 => hR.2.2.2.2.2 j h1 (by omega)) (M.1 182) (fun p hp => (r1 p hp).2.1) (fun p hp => (r1 p hp).2.2) k (Nat.le_refl _)
  rw [e8, e9, e0] at r2
  have e2 : (zV2 (zV1 np M pw) k).1 182 = M.1 182 := by rw [zV2_row nv182, zV1_row nv182]
  have r3 := V3_rows (M := zV2 (zV1 np M pw) k) h20 (by rw [e2]; exact hu) (fun p => nkF (M.1 182) (M.1 188) (M.1 189) p k) (fun p => nmF (M.1 182) (M.1 188) (M.1 190) p k) (fun p hp => (r2 p hp).1) (fun p hp => (r2 p hp).2.1) pw (Nat.le_refl _) p hp
  rw [e2, if_pos hp, if_pos hp] at r3
  refine ⟨?_, r3.1, r3.2.1⟩
  show (zV3 (zV2 (zV1 np M pw) k) pw).1 192 p = _
  rw [r3.2.2, (r2 p hp).2.2]
  exact (r1 p hp).1
