/-! ===== the class's judge and the reference's chains are one: v the reference's view, g the class's rows ===== -/
/-- rows, open powers, the living, persons, firms as the view has them -/
def zMt (g : Nat → Nat → Int32) (fi op lv ps : Int32) (np pw : Nat) (v : zVt) : Prop :=
  (∀ p, p < pw → g p 0 = v.2.1 (8 * p) ∧ g p 1 = v.2.1 (8 * p + 1) ∧ g p 2 = v.2.1 (8 * p + 2) ∧ bt op p = opM v p ∧ (∀ i, np ≤ i → i < 32 → bt (g p 1) i = false)) ∧
  (∀ h, h < 8 → bt lv h = !isby (v.2.2.1 h) (v.1 30)) ∧ fi = v.1 14 ∧ ps = v.1 37 ∧ np ≤ 8 ∧ pw ≤ 20 ∧ (∀ h, h < 8 → bt fi h = true → bt ps h = false)
theorem pcn_hi {x : Int32} {a : Nat} (h : ∀ i, a ≤ i → i < 32 → bt x i = false) : ∀ i, a ≤ i → i ≤ 32 → pcn x i = pcn x a := by
  intro i
  induction i with
  | zero => intro h1 _; rw [Nat.le_zero.mp h1]
  | succ i ih =>
    intro h1 h2
    by_cases e : a = i + 1
    · rw [e]
    · rw [pcn, ih (by omega) (by omega), h i (by omega) (by omega)]; rfl
theorem cnt_eq {hold lv ps fi : Int32} {W : Nat → Int32} {tp : Nat → Bool} {np : Nat} (h8 : np ≤ 8) (hh : ∀ i, np ≤ i → i < 32 → bt hold i = false) (hd : ∀ h, h < 8 → bt fi h = true → bt ps h = false) (ht : ∀ h, h < np → tp h = (bt lv h && (bt ps h || (bt fi h && !decide (W h = 0))))) : pcI (hold &&& lv &&& ps) + cnC (hold &&& lv &&& fi) W np = cntM hold tp np := by
  have e1 : pcI (hold &&& lv &&& ps) = pcn (hold &&& lv &&& ps) np := by
    unfold pcI
    exact pcn_hi (fun i h1 h2 => by rw [b_and, b_and, hh i h1 h2]; rfl) 8 h8 (by omega)
  rw [e1]
  have key : ∀ i, i ≤ np → pcn (hold &&& lv &&& ps) i + cnC (hold &&& lv &&& fi) W i = cntM hold tp i := by
    intro i
    induction i with
    | zero => intro _; rfl
    | succ i ih =>
      intro hi
      rw [pcn, cnC, cntM, ← ih (by omega), ht i (by omega)]
      have hdi := hd i (by omega)
      have e2 : (bt (hold &&& lv &&& ps) i).toNat + (bt (hold &&& lv &&& fi) i && !decide (W i = 0)).toNat = (bt hold i && (bt lv i && (bt ps i || (bt fi i && !decide (W i = 0))))).toNat := by
        rw [b_and, b_and, b_and, b_and]
        cases bt hold i <;> cases bt lv i <;> cases hf : bt fi i <;> cases hp : bt ps i <;> cases decide (W i = 0) <;> first | rfl | exact absurd (hdi hf) (by rw [hp]; decide)
      omega
  exact key np (Nat.le_refl _)
theorem tuC_bit {hf : Int32} {W : Nat → Int32} {s0 : Int32} {b : Nat} (h : bt s0 b = true) : ∀ i, bt (tuC hf W s0 i) b = true := by
  intro i
  induction i with
  | zero => exact h
  | succ i ih =>
    rw [tuC]
    split
    · rw [b_or, ih]; rfl
    · exact ih
theorem bt_ne0 {x : Int32} {b : Nat} (h : bt x b = true) : ¬ x = 0 := fun z => by rw [z, b_0] at h; cases h
theorem usC_ne {g : Nat → Nat → Int32} {pt : Int32} {ub : Nat → Int32} : ∀ i, i ≤ 100 → ¬ fsC g pt ub i = -1 → ¬ usC g pt ub i = 0 := by
  intro i
  induction i with
  | zero => intro _ h; exact absurd rfl h
  | succ i ih =>
    intro hi h
    rw [fsC] at h
    rw [usC]
    by_cases hf : fsC g pt ub i = -1
    · rw [if_pos hf] at h ⊢
      by_cases hc : g i 0 = pt ∧ ¬ ub i = 0
      · rw [if_pos hc.1]; exact hc.2
      · rw [if_neg hc] at h; exact absurd rfl h
    · rw [if_neg hf]; exact ih (by omega) hf
theorem fsC_in {g : Nat → Nat → Int32} {pt : Int32} {ub : Nat → Int32} : ∀ i, i ≤ 100 → ¬ fsC g pt ub i = -1 → ∃ p, p < i ∧ fsC g pt ub i = nI p ∧ usC g pt ub i = ub p ∧ g p 0 = pt := by
  intro i
  induction i with
  | zero => intro _ h; exact absurd rfl h
  | succ i ih =>
    intro hi h
    rw [fsC] at h
    rw [fsC, usC]
    by_cases hf : fsC g pt ub i = -1
    · rw [if_pos hf] at h
      rw [if_pos hf, if_pos hf]
      by_cases hc : g i 0 = pt ∧ ¬ ub i = 0
      · rw [if_pos hc, if_pos hc.1]; exact ⟨i, by omega, rfl, rfl, hc.1⟩
      · rw [if_neg hc] at h; exact absurd rfl h
    · rw [if_neg hf, if_neg hf]
      obtain ⟨p, h1, h2, h3, h4⟩ := ih (by omega) hf
      exact ⟨p, by omega, h2, h3, h4⟩
theorem nxF_us {g : Nat → Nat → Int32} {fi op lv ps : Int32} {np : Nat} {W : Nat → Int32} {h : Nat} (hl : bt (fi &&& lv) h = true) : ∀ i, i ≤ 100 → nxF g fi np op lv ps W h i = usC g (nI h) (ubC g fi np op lv ps W) i := by
  intro i
  induction i with
  | zero => intro _; rfl
  | succ i ih =>
    intro hi
    rw [nxF, usC, ih (by omega)]
    by_cases hf : fsC g (nI h) (ubC g fi np op lv ps W) i = -1
    · rw [if_pos hf, usC_0 i (by omega) hf]
      by_cases hc : g i 0 = nI h
      · rw [if_pos ⟨hc, hl, rfl⟩, if_pos hc]
      · rw [if_neg (fun z => hc z.1), if_neg hc]
    · rw [if_neg hf, if_neg (fun z => usC_ne i (by omega) hf z.2.2)]
theorem nxF_0 {g : Nat → Nat → Int32} {fi op lv ps : Int32} {np : Nat} {W : Nat → Int32} {h : Nat} (hl : bt (fi &&& lv) h = false) : ∀ i, nxF g fi np op lv ps W h i = 0 := by
  intro i
  induction i with
  | zero => rfl
  | succ i ih =>
    rw [nxF, if_neg (fun z => by rw [hl] at z; exact absurd z.2.1 (by decide))]; exact ih
/-- one level -/
theorem lvl {g : Nat → Nat → Int32} {fi op lv ps : Int32} {np pw : Nat} {v : zVt} (hM : zMt g fi op lv ps np pw v) {W : Nat → Int32} {tp : Nat → Bool} (ht : ∀ h, h < np → tp h = (bt lv h && (bt ps h || (bt fi h && !decide (W h = 0))))) {q : Nat} : ∀ i, i ≤ pw → fsC g (nI q) (ubC g fi np op lv ps W) i = fsM v tp np q i := by
  obtain ⟨hr, hl, hfi, hps, h8, h20, hd⟩ := hM
  intro i
  induction i with
  | zero => intro _; rfl
  | succ i ih =>
    intro hi
    obtain ⟨r0, r1, r2, ro, rh⟩ := hr i (by omega)
    rw [fsC, fsM, ih (by omega)]
    by_cases hf : fsM v tp np q i = -1
    · rw [if_pos hf, if_pos hf]
      have hub : (¬ ubC g fi np op lv ps W i = 0) ↔ (opM v i && !decide (nI (cntM (v.2.1 (8 * i + 1)) tp np) < v.2.1 (8 * i + 2))) = true := by
        unfold ubC
        rw [ro, r1, r2, ← cnt_eq h8 (r1 ▸ rh) hd ht]
        cases ho : opM v i with
        | false => rw [if_neg (by decide)]; exact ⟨fun z => absurd rfl z, fun z => by cases z⟩
        | true =>
          rw [if_pos rfl, Bool.true_and]
          by_cases hlt : nI (pcI (v.2.1 (8 * i + 1) &&& lv &&& ps) + cnC (v.2.1 (8 * i + 1) &&& lv &&& fi) W np) < v.2.1 (8 * i + 2)
          · rw [if_pos hlt, decide_eq_true hlt]; exact ⟨fun z => absurd rfl z, fun z => by cases z⟩
          · rw [if_neg hlt, decide_eq_false hlt]
            exact ⟨fun _ => rfl, fun _ => bt_ne0 (b := i) (tuC_bit (by rw [b_1shl (by omega) (by omega)]; exact decide_eq_true rfl) np)⟩
      by_cases hg : g i 0 = nI q
      · have hg' : v.2.1 (8 * i) = nI q := r0 ▸ hg
        rw [decide_eq_true hg', Bool.true_and]
        by_cases hu : ubC g fi np op lv ps W i = 0
        · rw [if_neg (fun z => z.2 hu), if_neg (fun z => (hub.mpr z) hu)]
        · rw [if_pos ⟨hg, hu⟩, if_pos (hub.mp hu)]
      · have hg' : ¬ v.2.1 (8 * i) = nI q := r0 ▸ hg
        rw [if_neg (fun z => hg z.1), decide_eq_false hg', Bool.false_and, if_neg (by decide)]
    · rw [if_neg hf, if_neg hf]
/-- what is used: the two ways of gathering -/
theorem us_eq {hold fi lv : Int32} {W us : Nat → Int32} {tp : Nat → Bool} {s0 : Int32} {np : Nat} (h : ∀ i, i < np → bt fi i = true → tp i = (bt lv i && !decide (W i = 0)) ∧ (tp i = true → W i = us i)) : ∀ i, i ≤ np → tuC (hold &&& lv &&& fi) W s0 i = usF (hold &&& fi) tp us s0 i := by
  intro i
  induction i with
  | zero => intro _; rfl
  | succ i ih =>
    intro hi
    rw [tuC, usF, ih (by omega)]
    have hi' := h i (by omega)
    by_cases hc : bt (hold &&& fi) i = true ∧ tp i = true
    · rw [if_pos hc]
      have hb : bt hold i = true ∧ bt fi i = true := by have := hc.1; rw [b_and, Bool.and_eq_true] at this; exact this
      obtain ⟨e1, e2⟩ := hi' hb.2
      have ht := hc.2
      rw [e1, Bool.and_eq_true] at ht
      rw [if_pos ⟨by rw [b_and, b_and, hb.1, hb.2, ht.1]; rfl, fun z => by have := ht.2; rw [decide_eq_true z] at this; cases this⟩, e2 hc.2]
    · rw [if_neg hc, if_neg]
      intro z
      apply hc
      have hb := z.1
      rw [b_and, b_and, Bool.and_eq_true, Bool.and_eq_true] at hb
      obtain ⟨e1, -⟩ := hi' hb.2
      exact ⟨by rw [b_and, hb.1.1, hb.2]; rfl, by rw [e1, hb.1.2, decide_eq_false z.2]; rfl⟩
/-- the levels: k firms within -/
theorem core1 {g : Nat → Nat → Int32} {fi op lv ps : Int32} {np pw : Nat} {v : zVt} (hM : zMt g fi op lv ps np pw v) : ∀ k, (∀ q, q < 8 → fsC g (nI q) (ubC g fi np op lv ps (WL g fi np pw op lv ps k)) pw = canM np pw v k q ∧ usC g (nI q) (ubC g fi np op lv ps (WL g fi np pw op lv ps k)) pw = usM np pw v k q) := by
  have hM0 := hM
  obtain ⟨hr, hl, hfi, hps, h8, h20, hd⟩ := hM
  intro k
  induction k with
  | zero =>
    intro q hq
    have ht : ∀ h, h < np → tpM v (fun _ => -1) false h = (bt lv h && (bt ps h || (bt fi h && !decide (WL g fi np pw op lv ps 0 h = 0)))) := by
      intro h hh
      unfold tpM
      rw [← hl h (by omega), hps, hfi]
      show _ = (bt lv h && (bt (v.1 37) h || (bt (v.1 14) h && !decide ((0 : Int32) = 0))))
      simp
    have e1 : fsC g (nI q) (ubC g fi np op lv ps (WL g fi np pw op lv ps 0)) pw = canM np pw v 0 q := lvl hM0 ht pw (Nat.le_refl _)
    refine ⟨e1, ?_⟩
    rw [usM, ← e1]
    by_cases hf : fsC g (nI q) (ubC g fi np op lv ps (WL g fi np pw op lv ps 0)) pw = -1
    · rw [if_pos hf, usC_0 pw (by omega) hf]
    · rw [if_neg hf]
      obtain ⟨p, h1, h2, h3, -⟩ := fsC_in pw (by omega) hf
      have hne := usC_ne pw (by omega) hf
      rw [h3] at hne ⊢
      rw [h2]
      unfold ubC at hne ⊢
      by_cases ho : bt op p = true
      · rw [if_pos ho] at hne ⊢
        split
        · rename_i hz; rw [if_pos hz] at hne; exact absurd rfl hne
        · have key : ∀ i, tuC (g p 1 &&& lv &&& fi) (WL g fi np pw op lv ps 0) (1 <<< (nI p &&& 31)) i = 1 <<< (nI p &&& 31) := by
            intro i
            induction i with
            | zero => rfl
            | succ i ih => rw [tuC, if_neg (fun z => z.2 rfl)]; exact ih
          exact key np
      · rw [if_neg ho] at hne; exact absurd rfl hne
  | succ k ih =>
    intro q hq
    have hW : ∀ h, h < 8 → WL g fi np pw op lv ps (k + 1) h = if bt (fi &&& lv) h = true then usM np pw v k h else 0 := by
      intro h hh
      show nxF g fi np op lv ps (WL g fi np pw op lv ps k) h pw = _
      by_cases hc : bt (fi &&& lv) h = true
      · rw [if_pos hc, nxF_us hc pw (by omega), (ih h hh).2]
      · rw [if_neg hc, nxF_0 (by simpa using hc) pw]
    have hz : ∀ h, h < 8 → (canM np pw v k h = -1 ↔ usM np pw v k h = 0) := by
      intro h hh
      rw [← (ih h hh).1, ← (ih h hh).2]
      exact ⟨fun z => usC_0 pw (by omega) z, fun z => Decidable.not_not.mp fun w => usC_ne pw (by omega) w z⟩
    have hfw : ∀ h, h < 8 → bt fi h = true → (bt lv h && !decide (canM np pw v k h = -1)) = (bt lv h && !decide (WL g fi np pw op lv ps (k + 1) h = 0)) := by
      intro h hh hf
      cases hlh : bt lv h with
      | false => rfl
      | true =>
        rw [hW h hh, if_pos (by rw [b_and, hf, hlh]; rfl), Bool.true_and, Bool.true_and]
        congr 1
        exact decide_eq_decide.mpr (hz h hh)
    have ht : ∀ h, h < np → tpM v (canM np pw v k) true h = (bt lv h && (bt ps h || (bt fi h && !decide (WL g fi np pw op lv ps (k + 1) h = 0)))) := by
      intro h hh
      unfold tpM
      rw [← hl h (by omega), ← hps, ← hfi, Bool.true_and]
      have := hfw h (by omega)
      cases hfh : bt fi h with
      | false => rw [Bool.false_and, Bool.false_and]
      | true =>
        have := this hfh
        rw [Bool.true_and, Bool.true_and, Bool.and_or_distrib_left, Bool.and_or_distrib_left, this]
    have e1 : fsC g (nI q) (ubC g fi np op lv ps (WL g fi np pw op lv ps (k + 1))) pw = canM np pw v (k + 1) q := lvl hM0 ht pw (Nat.le_refl _)
    refine ⟨e1, ?_⟩
    rw [usM, ← e1]
    by_cases hf : fsC g (nI q) (ubC g fi np op lv ps (WL g fi np pw op lv ps (k + 1))) pw = -1
    · rw [if_pos hf, usC_0 pw (by omega) hf]
    · rw [if_neg hf]
      obtain ⟨p, h1, h2, h3, -⟩ := fsC_in pw (by omega) hf
      have hne := usC_ne pw (by omega) hf
      rw [h3] at hne ⊢
      rw [h2, ix_nI (by omega), ← (hr p h1).2.1, ← hfi]
      unfold ubC at hne ⊢
      by_cases ho : bt op p = true
      · rw [if_pos ho] at hne ⊢
        split
        · rename_i hzz; rw [if_pos hzz] at hne; exact absurd rfl hne
        · refine us_eq (fun i hi hfi' => ?_) np (Nat.le_refl _)
          have hps' := hd i (by omega) hfi'
          have e2 : tpK np pw v (k + 1) i = (bt lv i && !decide (WL g fi np pw op lv ps (k + 1) i = 0)) := by
            show tpM v (canM np pw v k) true i = _
            rw [ht i hi, hps', hfi', Bool.false_or, Bool.true_and]
          refine ⟨e2, fun z => ?_⟩
          rw [e2, Bool.and_eq_true] at z
          rw [hW i (by omega), if_pos (by rw [b_and, hfi', z.1]; rfl)]
      · rw [if_neg ho] at hne; exact absurd rfl hne
