/-! ===== chains of powers, as the class gathers them (upward) and as the reference goes through them ===== -/
theorem lvC_iff {up : Int32} {f : Nat → Int32} : ∀ n, lvC up f n = true ↔ ∀ i, i < n → bt up i = true → f i = 0 := by
  intro n
  induction n with
  | zero => exact ⟨fun _ i h => absurd h (Nat.not_lt_zero _), fun _ => rfl⟩
  | succ n ih =>
    rw [lvC, Bool.and_eq_true, ih]
    constructor
    · intro h i hi hb
      by_cases e : i = n
      · subst e
        have := h.2
        rw [hb, Bool.not_true, Bool.false_or] at this
        exact of_decide_eq_true this
      · exact h.1 i (by omega) hb
    · intro h
      refine ⟨fun i hi => h i (by omega), ?_⟩
      cases hb : bt up n with
      | false => rfl
      | true => rw [decide_eq_true (h n (by omega) hb)]; rfl
theorem up_le {mem : zM} {t np pw : Nat} (hP : jP mem t np pw) (h20 : pw ≤ 20) : ∀ p, p < pw → ∀ i, i < 32 → bt (mem.1 (t + 2 + p) 8) i = true → i ≤ p := by
  intro p
  induction p using Nat.strongRecOn with
  | _ p ih =>
    intro hp i hi hb
    obtain ⟨-, v, hu⟩ := hP p hp
    rw [hu i hi, Bool.or_eq_true] at hb
    rcases hb with hb | hb
    · have := of_decide_eq_true hb; omega
    · rw [Bool.and_eq_true] at hb
      rcases v.2.2.2.2.2.2.2 with z | ⟨u, hup, z⟩
      · rw [z, decide_eq_true rfl] at hb; cases hb.1
      · rw [z, ix_nI (by omega)] at hb
        have := ih u hup (by omega) i hi hb.2
        omega
theorem up_self {mem : zM} {t np pw p : Nat} (hP : jP mem t np pw) (h20 : pw ≤ 20) (hp : p < pw) : bt (mem.1 (t + 2 + p) 8) p = true := by
  rw [(hP p hp).2.2 p (by omega), decide_eq_true rfl]; rfl
theorem chain {mem : zM} {t np pw : Nat} (hP : jP mem t np pw) (h20 : pw ≤ 20) {D C : Nat → Prop} (hC : ∀ p, p < pw → (C p ↔ D p ∧ (mem.1 182 (8 * p + 7) = -1 ∨ C (ix (mem.1 182 (8 * p + 7)))))) : ∀ p, p < pw → ((∀ i, i < 32 → bt (mem.1 (t + 2 + p) 8) i = true → D i) ↔ C p) := by
  intro p
  induction p using Nat.strongRecOn with
  | _ p ih =>
    intro hp
    obtain ⟨-, v, hu⟩ := hP p hp
    rw [hC p hp]
    constructor
    · intro h
      refine ⟨h p (by omega) (up_self hP h20 hp), ?_⟩
      rcases v.2.2.2.2.2.2.2 with z | ⟨u, hup, z⟩
      · exact Or.inl z
      · right
        rw [z, ix_nI (by omega)]
        refine (ih u hup (by omega)).mp fun i hi hb => h i hi ?_
        rw [hu i hi, z, decide_eq_false (nI_m1 (by omega)), ix_nI (by omega), hb]
        exact Bool.or_true _
    · rintro ⟨h1, h2⟩ i hi hb
      rw [hu i hi, Bool.or_eq_true] at hb
      rcases hb with hb | hb
      · rw [of_decide_eq_true hb]; exact h1
      · rw [Bool.and_eq_true] at hb
        rcases v.2.2.2.2.2.2.2 with z | ⟨u, hup, z⟩
        · rw [z, decide_eq_true rfl] at hb; cases hb.1
        · rw [z, ix_nI (by omega)] at hb h2
          exact (ih u hup (by omega)).mpr (h2.resolve_left (nI_m1 (by omega))) i hi hb.2
/-- live then -/
theorem lv_eq {n : Nat} {mem : zM} {t np pw m na : Nat} (hB : jB n mem t np pw m na) {f : Nat → Int32} (h2 : f 32 = 0) (h3 : f 33 = -1) {p : Nat} (hp : p < pw) : lvX mem t p (f 30) (f 31) = decide (whyP np f (mem.1 182) (mem.1 185) (mem.1 186) (mem.1 187) p = 0) := by
  obtain ⟨-, hC, hP, hE, -⟩ := id hB
  have h20 := hC.2.2.2.1.2.2
  have hb : ∀ p, p < pw → endedM f (mem.1 185) (mem.1 186) p = isby (mem.1 (t + 2 + p) 11) (f 30) := by
    intro p hp
    have e0 : mem.1 (t + 2 + p) 11 = mem.1 185 (3 * p) := (hE.1 p hp 0 (by omega)).1
    unfold endedM
    rw [h3, decide_eq_true rfl, Bool.true_or, Bool.and_true, e0]
  have key := chain hP h20 (D := fun i => rsC (mem.1 (t + 2 + i)) (isby (mem.1 (t + 2 + i) 11) (f 30)) (f 31) (deadM (mem.1 113) (f 30) 8) = 0) (C := fun i => whyP np f (mem.1 182) (mem.1 185) (mem.1 186) (mem.1 187) i = 0) (fun p hp => by
    show _ ↔ _
    rw [why_all hB hb hp, if05, h2, b_0, Bool.not_false, Bool.true_and, Bool.or_eq_true, decide_eq_true_iff, decide_eq_true_iff]) p hp
  rw [Bool.eq_iff_iff, decide_eq_true_iff, ← key]
  unfold lvX
  rw [lvC_iff]
  exact ⟨fun h i hi hb => h i (by have := up_le hP h20 p hp i hi hb; omega) hb, fun h i hi hb => h i (by omega) hb⟩
theorem bt_kA1 {up : Int32} {f : Nat → Int32} {x : Nat} : ∀ n, bt (kA1 up f n) x = true ↔ bt 63 x = true ∧ ∀ i, i < n → bt up i = true → bt (f i) x = true := by
  intro n
  induction n with
  | zero => exact ⟨fun h => ⟨h, fun i h => absurd h (Nat.not_lt_zero _)⟩, fun h => h.1⟩
  | succ n ih =>
    rw [kA1, b_and, Bool.and_eq_true, ih]
    cases hb : bt up n with
    | false =>
      rw [if_neg (by decide), ih]
      exact ⟨fun h => ⟨h.1.1, fun i hi hu => by
        by_cases e : i = n
        · subst e; rw [hb] at hu; cases hu
        · exact h.1.2 i (by omega) hu⟩, fun h => ⟨⟨h.1, fun i hi => h.2 i (by omega)⟩, ⟨h.1, fun i hi => h.2 i (by omega)⟩⟩⟩
    | true =>
      rw [if_pos rfl]
      exact ⟨fun h => ⟨h.1.1, fun i hi hu => by
        by_cases e : i = n
        · subst e; exact h.2
        · exact h.1.2 i (by omega) hu⟩, fun h => ⟨⟨h.1, fun i hi => h.2 i (by omega)⟩, h.2 n (by omega) hb⟩⟩
theorem bt_kA2 {mem : zM} {up s : Int32} {x : Nat} : ∀ k, bt (kA2 mem up s k) x = true ↔ bt s x = true ∧ ∀ j, 1 ≤ j → j ≤ k → nrC mem up j = true → bt (mem.1 111 j) x = true := by
  intro k
  induction k with
  | zero => exact ⟨fun h => ⟨h, fun j h1 h2 => by omega⟩, fun h => h.1⟩
  | succ k ih =>
    rw [kA2, b_and, Bool.and_eq_true, ih]
    cases hb : nrC mem up (k + 1) with
    | false =>
      rw [if_neg (by decide), ih]
      exact ⟨fun h => ⟨h.1.1, fun j h1 h2 hu => by
        by_cases e : j = k + 1
        · subst e; rw [hb] at hu; cases hu
        · exact h.1.2 j h1 (by omega) hu⟩, fun h => ⟨⟨h.1, fun j h1 h2 => h.2 j h1 (by omega)⟩, ⟨h.1, fun j h1 h2 => h.2 j h1 (by omega)⟩⟩⟩
    | true =>
      rw [if_pos rfl]
      exact ⟨fun h => ⟨h.1.1, fun j h1 h2 hu => by
        by_cases e : j = k + 1
        · subst e; exact h.2
        · exact h.1.2 j h1 (by omega) hu⟩, fun h => ⟨⟨h.1, fun j h1 h2 => h.2 j h1 (by omega)⟩, h.2 (k + 1) (by omega) (by omega) hb⟩⟩
theorem bt_nk {g a b : Nat → Int32} {p x : Nat} : ∀ k, bt (nkF g a b p k) x = true ↔ bt (g (8 * p + 3)) x = true ∧ ∀ j, 1 ≤ j → j ≤ k → a j = nI p → bt (b j) x = true := by
  intro k
  induction k with
  | zero => exact ⟨fun h => ⟨h, fun j h1 h2 => by omega⟩, fun h => h.1⟩
  | succ k ih =>
    rw [nkF]
    by_cases hb : a (k + 1) = nI p
    · rw [if_pos hb, b_and, Bool.and_eq_true, ih]
      exact ⟨fun h => ⟨h.1.1, fun j h1 h2 hu => by
        by_cases e : j = k + 1
        · subst e; exact h.2
        · exact h.1.2 j h1 (by omega) hu⟩, fun h => ⟨⟨h.1, fun j h1 h2 => h.2 j h1 (by omega)⟩, h.2 (k + 1) (by omega) (by omega) hb⟩⟩
    · rw [if_neg hb, ih]
      exact ⟨fun h => ⟨h.1, fun j h1 h2 hu => by
        by_cases e : j = k + 1
        · subst e; exact absurd hu hb
        · exact h.2 j h1 (by omega) hu⟩, fun h => ⟨h.1, fun j h1 h2 => h.2 j h1 (by omega)⟩⟩
theorem le_if {x a b : Int32} : x ≤ (if a ≤ b then a else b) ↔ x ≤ a ∧ x ≤ b := by
  by_cases h : a ≤ b
  · rw [if_pos h]; exact ⟨fun z => ⟨z, Int32.le_trans z h⟩, fun z => z.1⟩
  · rw [if_neg h]; exact ⟨fun z => ⟨Int32.le_trans z (Int32.le_of_lt (Int32.not_le.mp h)), z⟩, fun z => z.2⟩
theorem le_if2 {x a b : Int32} : x ≤ (if b < a then b else a) ↔ x ≤ a ∧ x ≤ b := by
  by_cases h : b < a
  · rw [if_pos h]; exact ⟨fun z => ⟨Int32.le_trans z (Int32.le_of_lt h), z⟩, fun z => z.2⟩
  · rw [if_neg h]; exact ⟨fun z => ⟨z, Int32.le_trans z (Int32.not_lt.mp h)⟩, fun z => z.1⟩
theorem le_mA1 {up : Int32} {f : Nat → Int32} {x : Int32} : ∀ n, x ≤ mA1 up f n ↔ x ≤ 999 ∧ ∀ i, i < n → bt up i = true → x ≤ f i := by
  intro n
  induction n with
  | zero => exact ⟨fun h => ⟨h, fun i h => absurd h (Nat.not_lt_zero _)⟩, fun h => h.1⟩
  | succ n ih =>
    rw [mA1]
    cases hb : bt up n with
    | false =>
      rw [if_neg (by decide), ih]
      exact ⟨fun h => ⟨h.1, fun i hi hu => by
        by_cases e : i = n
        · subst e; rw [hb] at hu; cases hu
        · exact h.2 i (by omega) hu⟩, fun h => ⟨h.1, fun i hi => h.2 i (by omega)⟩⟩
    | true =>
      rw [if_pos rfl, le_if2, ih]
      exact ⟨fun h => ⟨h.1.1, fun i hi hu => by
        by_cases e : i = n
        · subst e; exact h.2
        · exact h.1.2 i (by omega) hu⟩, fun h => ⟨⟨h.1, fun i hi => h.2 i (by omega)⟩, h.2 n (by omega) hb⟩⟩
theorem le_mA2 {mem : zM} {up s x : Int32} : ∀ k, x ≤ mA2 mem up s k ↔ x ≤ s ∧ ∀ j, 1 ≤ j → j ≤ k → nrC mem up j = true → x ≤ mem.1 112 j := by
  intro k
  induction k with
  | zero => exact ⟨fun h => ⟨h, fun j h1 h2 => by omega⟩, fun h => h.1⟩
  | succ k ih =>
    rw [mA2]
    cases hb : nrC mem up (k + 1) with
    | false =>
      rw [if_neg (by decide), ih]
      exact ⟨fun h => ⟨h.1, fun j h1 h2 hu => by
        by_cases e : j = k + 1
        · subst e; rw [hb] at hu; cases hu
        · exact h.2 j h1 (by omega) hu⟩, fun h => ⟨h.1, fun j h1 h2 => h.2 j h1 (by omega)⟩⟩
    | true =>
      rw [if_pos rfl, le_if2, ih]
      exact ⟨fun h => ⟨h.1.1, fun j h1 h2 hu => by
        by_cases e : j = k + 1
        · subst e; exact h.2
        · exact h.1.2 j h1 (by omega) hu⟩, fun h => ⟨⟨h.1, fun j h1 h2 => h.2 j h1 (by omega)⟩, h.2 (k + 1) (by omega) (by omega) hb⟩⟩
theorem le_nm {g a b : Nat → Int32} {p : Nat} {x : Int32} : ∀ k, x ≤ nmF g a b p k ↔ x ≤ g (8 * p + 4) ∧ ∀ j, 1 ≤ j → j ≤ k → a j = nI p → x ≤ b j := by
  intro k
  induction k with
  | zero => exact ⟨fun h => ⟨h, fun j h1 h2 => by omega⟩, fun h => h.1⟩
  | succ k ih =>
    rw [nmF]
    by_cases hb : a (k + 1) = nI p
    · rw [if_pos hb, le_if, ih]
      exact ⟨fun h => ⟨h.1.1, fun j h1 h2 hu => by
        by_cases e : j = k + 1
        · subst e; exact h.2
        · exact h.1.2 j h1 (by omega) hu⟩, fun h => ⟨⟨h.1, fun j h1 h2 => h.2 j h1 (by omega)⟩, h.2 (k + 1) (by omega) (by omega) hb⟩⟩
    · rw [if_neg hb, ih]
      exact ⟨fun h => ⟨h.1, fun j h1 h2 hu => by
        by_cases e : j = k + 1
        · subst e; exact absurd hu hb
        · exact h.2 j h1 (by omega) hu⟩, fun h => ⟨h.1, fun j h1 h2 => h.2 j h1 (by omega)⟩⟩
/-- what the class narrows by, upward, is what the reference narrows by -/
theorem nr_iff {mem : zM} {t np pw m k : Nat} (hP : jP mem t np pw) (h20 : pw ≤ 20) (hN : jN mem t pw m) (hk : k ≤ m) {p : Nat} (hp : p < pw) {A B : Nat → Prop} (hAB : ∀ j, 1 ≤ j → j ≤ k → ¬ mem.1 188 j = -1 → (A j ↔ B j)) : (∀ j, 1 ≤ j → j ≤ k → nrC mem (mem.1 (t + 2 + p) 8) j = true → A j) ↔ ∀ i, i < 32 → bt (mem.1 (t + 2 + p) 8) i = true → ∀ j, 1 ≤ j → j ≤ k → mem.1 188 j = nI i → B j := by
  constructor
  · intro h i hi hb j h1 h2 e
    have hip := up_le hP h20 p hp i hi hb
    have ne : ¬ mem.1 188 j = -1 := by rw [e]; exact nI_m1 (by omega)
    refine (hAB j h1 h2 ne).mp (h j h1 h2 ?_)
    unfold nrC
    rw [(hN.2.2.1 j h1 (by omega)).1, decide_eq_false ne, e, ix_nI (by omega), hb]; rfl
  · intro h j h1 h2 hr
    unfold nrC at hr
    obtain ⟨e, z⟩ := hN.2.2.1 j h1 (by omega)
    rw [e, Bool.and_eq_true] at hr
    have ne : ¬ mem.1 188 j = -1 := fun w => by rw [decide_eq_true w] at hr; cases hr.1
    obtain ⟨⟨i, hi, ei⟩, -⟩ := z.resolve_left ne
    rw [ei, ix_nI (by omega)] at hr
    exact (hAB j h1 h2 ne).mpr (h i (by omega) hr.2 j h1 h2 ei)
theorem k_eq {n : Nat} {mem : zM} {t np pw m na : Nat} (hB : jB n mem t np pw m na) {k : Nat} (hk : k ≤ m) {p : Nat} (hp : p < pw) : kAX mem t p k = kP (mem.1 182) (fun p => nkF (mem.1 182) (mem.1 188) (mem.1 189) p k) p := by
  obtain ⟨-, hC, hP, hE, hN⟩ := id hB
  have h20 := hC.2.2.2.1.2.2
  apply b_ext
  intro x hx
  have key := chain hP h20 (D := fun i => bt (nkF (mem.1 182) (mem.1 188) (mem.1 189) i k) x = true) (C := fun i => bt (kP (mem.1 182) (fun p => nkF (mem.1 182) (mem.1 188) (mem.1 189) p k) i) x = true) (fun p hp => by
    show _ ↔ _
    rw [kP_eq (jB_un hB) h20 hp]
    by_cases z : mem.1 182 (8 * p + 7) = -1
    · rw [if_pos z]; exact ⟨fun h => ⟨h, Or.inl z⟩, fun h => h.1⟩
    · rw [if_neg z, b_and, Bool.and_eq_true]; exact ⟨fun h => ⟨h.1, Or.inr h.2⟩, fun h => ⟨h.1, h.2.resolve_left z⟩⟩) p hp
  rw [Bool.eq_iff_iff, ← key]
  unfold kAX
  rw [bt_kA2, bt_kA1, nr_iff hP h20 hN hk hp (A := fun j => bt (mem.1 111 j) x = true) (B := fun j => bt (mem.1 189 j) x = true) (fun j h1 h2 ne => by
    rw [((hN.2.2.1 j h1 (by omega)).2.resolve_left ne).2.1])]
  constructor
  · rintro ⟨⟨h0, h1⟩, h2⟩ i hi hb
    have hip := up_le hP h20 p hp i hi hb
    refine (bt_nk k).mpr ⟨?_, h2 i hi hb⟩
    have := h1 i (by omega) hb
    rw [(hP i (by omega)).1 3 (by omega)] at this
    exact this
  · intro h
    refine ⟨⟨?_, fun i hi hb => ?_⟩, fun i hi hb => ((bt_nk k).mp (h i hi hb)).2⟩
    · have := ((bt_nk k).mp (h p (by omega) (up_self hP h20 hp))).1
      rcases Nat.lt_or_ge x 6 with z | z
      · exact (by decide : ∀ x, x < 6 → bt 63 x = true) x z
      · rw [(hP p hp).2.1.2.2.2.1 x z hx] at this; cases this
    · have := ((bt_nk k).mp (h i (by omega) hb)).1
      rw [(hP i (by omega)).1 3 (by omega)]; exact this
theorem m_eq {n : Nat} {mem : zM} {t np pw m na : Nat} (hB : jB n mem t np pw m na) {k : Nat} (hk : k ≤ m) {p : Nat} (hp : p < pw) : mAX mem t p k = mP (mem.1 182) (fun p => nmF (mem.1 182) (mem.1 188) (mem.1 190) p k) p := by
  obtain ⟨-, hC, hP, hE, hN⟩ := id hB
  have h20 := hC.2.2.2.1.2.2
  have both : ∀ x : Int32, x ≤ mAX mem t p k ↔ x ≤ mP (mem.1 182) (fun p => nmF (mem.1 182) (mem.1 188) (mem.1 190) p k) p := by
    intro x
    have key := chain hP h20 (D := fun i => x ≤ nmF (mem.1 182) (mem.1 188) (mem.1 190) i k) (C := fun i => x ≤ mP (mem.1 182) (fun p => nmF (mem.1 182) (mem.1 188) (mem.1 190) p k) i) (fun p hp => by
      show _ ↔ _
      rw [mP_eq (jB_un hB) h20 hp]
      by_cases z : mem.1 182 (8 * p + 7) = -1
      · rw [if_pos z]; exact ⟨fun h => ⟨h, Or.inl z⟩, fun h => h.1⟩
      · rw [if_neg z, le_if]; exact ⟨fun h => ⟨h.1, Or.inr h.2⟩, fun h => ⟨h.1, h.2.resolve_left z⟩⟩) p hp
    rw [← key]
    unfold mAX
    rw [le_mA2, le_mA1, nr_iff hP h20 hN hk hp (A := fun j => x ≤ mem.1 112 j) (B := fun j => x ≤ mem.1 190 j) (fun j h1 h2 ne => by
      rw [((hN.2.2.1 j h1 (by omega)).2.resolve_left ne).2.2])]
    constructor
    · rintro ⟨⟨h0, h1⟩, h2⟩ i hi hb
      have hip := up_le hP h20 p hp i hi hb
      refine (le_nm k).mpr ⟨?_, h2 i hi hb⟩
      have := h1 i (by omega) hb
      rw [(hP i (by omega)).1 4 (by omega)] at this
      exact this
    · intro h
      refine ⟨⟨?_, fun i hi hb => ?_⟩, fun i hi hb => ((le_nm k).mp (h i hi hb)).2⟩
      · have h1 := ((le_nm k).mp (h p (by omega) (up_self hP h20 hp))).1
        obtain ⟨a, ha, e⟩ := (hP p hp).2.1.2.2.2.2.1
        rw [e] at h1
        exact Int32.le_trans h1 (nI_le (b := 999) ha (by omega))
      · have := ((le_nm k).mp (h i (by omega) hb)).1
        rw [(hP i (by omega)).1 4 (by omega)]; exact this
  exact Int32.le_antisymm ((both _).mp (Int32.le_refl _)) ((both _).mpr (Int32.le_refl _))
/-- what hangs on a power: itself and all those under it, of both -/
theorem wa_bt {g : Nat → Nat → Int32} {p : Nat} : ∀ i, i ≤ 32 → ∀ q, q < 32 → bt (waF g p i) q = (decide (q < i) && bt (g q 8) p) := by
  intro i
  induction i with
  | zero => intro _ q _; exact b_0 q
  | succ i ih =>
    intro hi q hq
    rw [waF]
    by_cases e : q = i
    · subst e
      rw [decide_eq_true (Nat.lt_succ_self q), Bool.true_and]
      cases hb : bt (g q 8) p with
      | true => rw [if_pos rfl, b_or, b_1shl (by omega) hq, decide_eq_true rfl, Bool.or_true]
      | false => rw [if_neg (by decide), ih (by omega) q hq, decide_eq_false (Nat.lt_irrefl q)]; rfl
    · have e2 : decide (q < i + 1) = decide (q < i) := decide_eq_decide.mpr (by omega)
      split
      · rw [b_or, ih (by omega) q hq, b_1shl (by omega) hq, decide_eq_false e, Bool.or_false, e2]
      · rw [ih (by omega) q hq, e2]
theorem ha_bt {mem : zM} {t np pw : Nat} (hP : jP mem t np pw) (h20 : pw ≤ 20) {p : Nat} : ∀ s, p + 1 + s ≤ pw → ∀ q, q < 32 → bt (haM (mem.1 182) p s) q = (decide (q < p + 1 + s) && bt (mem.1 (t + 2 + q) 8) p) ∨ (pw ≤ q ∧ bt (haM (mem.1 182) p s) q = false) := by
  intro s
  induction s with
  | zero =>
    intro hs q hq
    by_cases hqp : pw ≤ q
    · right; refine ⟨hqp, ?_⟩
      show bt ((1 : Int32) <<< (nI p &&& 31)) q = false
      rw [b_1shl (by omega) hq, decide_eq_false (by omega)]
    · left
      show bt ((1 : Int32) <<< (nI p &&& 31)) q = _
      rw [b_1shl (by omega) hq]
      by_cases e : q = p
      · subst e; rw [decide_eq_true rfl, decide_eq_true (by omega), up_self hP h20 (by omega)]; rfl
      · rw [decide_eq_false e]
        by_cases hlt : q < p + 1
        · cases hb : bt (mem.1 (t + 2 + q) 8) p with
          | false => rw [Bool.and_false]
          | true => have := up_le hP h20 q (by omega) p (by omega) hb; omega
        · rw [decide_eq_false hlt]; rfl
  | succ s ih =>
    intro hs q hq
    have ihq := ih (by omega)
    by_cases hqp : pw ≤ q
    · right; refine ⟨hqp, ?_⟩
      have h0 : bt (haM (mem.1 182) p s) q = false := by
        rcases ihq q hq with h | h
        · rw [h, decide_eq_false (by omega)]; rfl
        · exact h.2
      rw [haM]
      split
      · exact h0
      · split
        · rw [b_or, h0, b_1shl (by omega) hq, decide_eq_false (by omega)]; rfl
        · exact h0
    · left
      have h0 : bt (haM (mem.1 182) p s) q = (decide (q < p + 1 + s) && bt (mem.1 (t + 2 + q) 8) p) := (ihq q hq).resolve_right fun z => hqp z.1
      rw [haM]
      by_cases e : q = p + 1 + s
      · have hup := (hP q (by omega)).2.2 p (by omega)
        have v := (hP q (by omega)).2.1.2.2.2.2.2.2.2
        rw [decide_eq_false (by omega), Bool.false_or] at hup
        rw [← e]
        have h0' : bt (haM (mem.1 182) p s) q = false := by rw [h0, decide_eq_false (by omega)]; rfl
        rw [decide_eq_true (by omega), Bool.true_and, hup]
        rcases v with z | ⟨u, hu, z⟩
        · rw [if_pos z, h0', z, decide_eq_true rfl]; rfl
        · have hu1 : bt (haM (mem.1 182) p s) u = bt (mem.1 (t + 2 + u) 8) p := by
            rcases ihq u (by omega) with h | h
            · rw [h, decide_eq_true (by omega), Bool.true_and]
            · have := h.1; omega
          rw [z, if_neg (nI_m1 (by omega)), ix_nI (by omega), hu1, decide_eq_false (nI_m1 (by omega))]
          cases hb : bt (mem.1 (t + 2 + u) 8) p with
          | true => rw [if_pos rfl, b_or, b_1shl (by omega) hq, decide_eq_true rfl, Bool.or_true]; rfl
          | false => rw [if_neg (by decide), h0']; rfl
      · have e2 : decide (q < p + 1 + (s + 1)) = decide (q < p + 1 + s) := decide_eq_decide.mpr (by omega)
        rw [e2, ← h0]
        split
        · rfl
        · split
          · rw [b_or, b_1shl (by omega) hq, decide_eq_false e, Bool.or_false]
          · rfl
theorem wa_ha {n : Nat} {mem : zM} {t np pw m na : Nat} (hB : jB n mem t np pw m na) {p : Nat} (hp : p < pw) : ∀ q, q < pw → bt (waF (gC mem t) p pw) q = bt (haM (mem.1 182) p (pw - 1 - p)) q := by
  obtain ⟨-, hC, hP, -⟩ := id hB
  have h20 := hC.2.2.2.1.2.2
  intro q hq
  rw [wa_bt pw (by omega) q (by omega), decide_eq_true hq, Bool.true_and]
  rcases ha_bt hP h20 (p := p) (pw - 1 - p) (by omega) q (by omega) with h | h
  · rw [h, decide_eq_true (by omega), Bool.true_and]; rfl
  · have := h.1; omega
