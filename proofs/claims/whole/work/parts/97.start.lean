/-! ===== what holds at the law's entry, as the walks need it ===== -/
theorem kn_all {s : State} {args : Array Value} (hts : ∀ w ∈ lw_tbl, w.before args s = true) : ∃ (dC : Nat → ClassId) (dI : Nat → Nat → Nat), ∀ (k : Nat) (q : vw_C), zcls[k]? = some q → u_Kn s q.1 q.2.1 q.2.2 (dC k) (dI k) := by
  have key : ∀ {ci : Nat} {C : String} {T : u_T} {N : Nat} (n : Nat), zCl ci C T N → Cond.instantiable C n ∈ lw_tbl → ∃ r : ClassId × (Nat → Nat), ∀ q, zcls[ci]? = some q → u_Kn s q.1 q.2.1 q.2.2 r.1 r.2 := by
    intro ci C T N n hC hi
    obtain ⟨c, i, h⟩ := u_known (ws := lw_tbl) (C := C) (T := T) (N := N) hts (fun w hw => (List.mem_filter.mp (hC.2.2.1 w hw)).1) (hts _ hi)
    refine ⟨(c, i), fun q hq => ?_⟩
    rw [hC.1] at hq
    cases hq
    exact h
  have wi : ∀ {C : String} {n : Nat} (i : Nat), lw_tbl[i]? = some (Cond.instantiable C n) → Cond.instantiable C n ∈ lw_tbl := fun i h => List.mem_of_getElem? h
  have all : ∀ k : Nat, ∃ r : ClassId × (Nat → Nat), ∀ q : vw_C, zcls[k]? = some q → u_Kn s q.1 q.2.1 q.2.2 r.1 r.2 := by
    intro k
    match k with
    | 0 => exact key 12 zC0 (wi 288 (by decide +kernel))
    | 1 => exact key 8 zC1 (wi 239 (by decide +kernel))
    | 2 => exact key 6 zC2 (wi 145 (by decide +kernel))
    | 3 => exact key 2 zC3 (wi 272 (by decide +kernel))
    | 4 => exact key 7 zC4 (wi 202 (by decide +kernel))
    | 5 => exact key 15 zC5 (wi 340 (by decide +kernel))
    | 6 => exact key 2 zC6 (wi 120 (by decide +kernel))
    | 7 => exact key 7 zC7 (wi 137 (by decide +kernel))
    | 8 =>
      obtain ⟨c, i, h⟩ := u_known (ws := lw_tbl) (C := nse) (T := TX8) (N := 0) hts (by decide +kernel) (hts _ (wi (C := nse) (n := 6) 954 (by decide +kernel)))
      exact ⟨(c, i), fun q hq => by cases hq; exact h⟩
    | 9 => exact key 4 zC9 (wi 333 (by decide +kernel))
    | 10 => exact key 10 zC10 (wi 112 (by decide +kernel))
    | 11 => exact key 43 zC11 (wi 1039 (by decide +kernel))
    | 12 =>
      obtain ⟨c, i, h⟩ := u_known (ws := lw_tbl) (C := nse) (T := TX8) (N := 0) hts (by decide +kernel) (hts _ (wi (C := nse) (n := 6) 954 (by decide +kernel)))
      exact ⟨(c, i), fun q hq => by cases hq; exact h⟩
    | k + 13 => exact ⟨(0, fun _ => 0), fun q hq => by simp [zcls] at hq⟩
  obtain ⟨f, hf⟩ := Classical.axiomOfChoice all
  exact ⟨fun k => (f k).1, fun k => (f k).2, fun k q hq => hf k q hq⟩
theorem arr_all {s : State} {args : Array Value} (hts : ∀ w ∈ lw_tbl, w.before args s = true) : ∃ dA : Nat → ClassId, ∀ t, t < 6 → ArrOfT s (dA t) (zat t) ∧ va_RA s (dA t) (zat t) := by
  have prim : ∀ (ty : FieldType) (i : Nat), lw_tbl[i]? = some (Cond.arrayClass ty) → (∀ C, ty ≠ .object C) → ∃ cA, ArrOfT s cA ty ∧ va_RA s cA ty := by
    intro ty i hi hty
    obtain ⟨c, k, comp, h1, h2, h3⟩ := Cond.arrayClass_spec (hts _ (List.mem_of_getElem? hi))
    refine ⟨c, fun n z => ⟨fun k h => (by cases h), k, h2, comp, h3⟩, ?_⟩
    cases ty <;> first | exact absurd rfl (hty _) | exact h1
  have obj : ∀ (C : String) (i : Nat), lw_tbl[i]? = some (Cond.arrayOver (.object C)) → ∃ cA, ArrOfT s cA (.object C) ∧ va_RA s cA (.object C) := by
    intro C i hi
    obtain ⟨comp, c, k, f1, -, f2, f3, f4⟩ := Cond.arrayOver_spec (hts _ (List.mem_of_getElem? hi))
    exact ⟨c, fun n z => ⟨fun k h => (by cases h), k, f2, comp, f3⟩, k, comp, f2, f3, f1, f4⟩
  have all : ∀ t, ∃ cA : ClassId, t < 6 → ArrOfT s cA (zat t) ∧ va_RA s cA (zat t) := by
    intro t
    match t with
    | 0 => obtain ⟨c, h⟩ := prim .int 176 (by decide +kernel) (fun _ h => nomatch h); exact ⟨c, fun _ => h⟩
    | 1 => obtain ⟨c, h⟩ := prim .byte 135 (by decide +kernel) (fun _ h => nomatch h); exact ⟨c, fun _ => h⟩
    | 2 => obtain ⟨c, h⟩ := prim .long 1487 (by decide +kernel) (fun _ h => nomatch h); exact ⟨c, fun _ => h⟩
    | 3 => obtain ⟨c, h⟩ := obj RX0 287 (by decide +kernel); exact ⟨c, fun _ => h⟩
    | 4 => obtain ⟨c, h⟩ := obj RX5 339 (by decide +kernel); exact ⟨c, fun _ => h⟩
    | 5 => obtain ⟨c, h⟩ := obj RX8 151 (by decide +kernel); exact ⟨c, fun _ => h⟩
    | t + 6 => exact ⟨0, fun h => absurd h (by omega)⟩
  obtain ⟨f, hf⟩ := Classical.axiomOfChoice all
  exact ⟨f, hf⟩
abbrev lwF : List Cond := flatC (Jvm.Cond.and given_1 narrow_1)
def zsT (q : Nat) : Term := .string (zso q).1 (zso q).2.1
def zsV (q : Nat) : Term := .field (zsT q) "java/lang/String" "value" "[B"
theorem f_sx : ∀ q, q < 25 → Cond.exactly (zsT q) "java/lang/String" ∈ lwF := by decide +kernel
theorem f_sc : ∀ q, q < 25 → Cond.eq (.field (zsT q) "java/lang/String" "coder" "B") (.int 0) ∈ lwF := by decide +kernel
theorem f_sa : ∀ q, q < 25 → Cond.arrayOf (zsV q) .byte ∈ lwF := by decide +kernel
theorem f_sl : ∀ q, q < 25 → Cond.eq (.length (zsV q)) (.int (Int32.ofNat (zsb q).length)) ∈ lwF := by decide +kernel
theorem f_se0 : ∀ q, q < 25 → ∀ j, j < (zsb q).length → lwF[[88, 96, 105, 112, 119, 129, 138, 147, 156, 161, 178, 206, 221, 0, 252, 258, 268, 276, 285, 295, 301, 307, 316, 324, 332].getD q 0 + j]? = some (Cond.eq (.elem (zsV q) (.int (Int32.ofNat j))) (.int ((zsb q).getD j 0))) := by decide +kernel
theorem f_se : ∀ q, q < 25 → ∀ j, j < (zsb q).length → Cond.eq (.elem (zsV q) (.int (Int32.ofNat j))) (.int ((zsb q).getD j 0)) ∈ lwF := fun q hq j hj => List.mem_of_getElem? (f_se0 q hq j hj)
theorem f_sr : ∀ q, q < 25 → lw_tbl[[756, 757, 772, 778, 779, 780, 781, 782, 783, 992, 1018, 1026, 1027, 1507, 1508, 1509, 1510, 1511, 1512, 1513, 1514, 1515, 1516, 1517, 1518].getD q 0]? = some (Cond.stringRef (zso q).1 (zso q).2.1 (zso q).2.2) := by decide +kernel
abbrev dTok : String := "LAuthorityBook$Token;"
def zts (t : Nat) : Term := .static RX8 (ztn t) dTok
def ztA9 : Term := .static RX8 "ALL" "[LAuthorityBook$Token;"
theorem f_tx : ∀ t, t < 14 → Cond.exactly (zts t) RX8 ∈ lwF := by decide +kernel
theorem f_to : ∀ t, t < 14 → Cond.eq (.field (zts t) "java/lang/Enum" "ordinal" "I") (.int (Int32.ofNat t)) ∈ lwF := by decide +kernel
theorem f_tw : ∀ t, t < 14 → Cond.eq (.field (zts t) RX8 "word" "Ljava/lang/String;") (zsT (zwd t)) ∈ lwF := by decide +kernel
theorem f_te : ∀ t, t < 14 → Cond.eq (.elem ztA9 (.int (Int32.ofNat t))) (zts t) ∈ lwF := by decide +kernel
theorem f_tl : ∀ t, t < 14 → lw_tbl[[143, 524, 596, 526, 607, 609, 624, 626, 649, 658, 670, 676, 678, 680].getD t 0]? = some (Cond.laysStatic RX8 (ztn t) dTok) := by decide +kernel
theorem f_Aa : Cond.arrayOf ztA9 (.object RX8) ∈ lwF := by decide +kernel
theorem f_Al : Cond.eq (.length ztA9) (.int (Int32.ofNat 14)) ∈ lwF := by decide +kernel
theorem f_cs : Cond.eq (.static "java/lang/String" "COMPACT_STRINGS" "Z") (.int 1) ∈ lwF := by decide +kernel
theorem f_fm : Cond.isRef (.static "jdk/internal/util/Preconditions" "SIOOBE_FORMATTER" "Ljava/util/function/BiFunction;") ∈ lwF := by decide +kernel
theorem f_us : Cond.isRef (.static Bundle.tN "UNASSIGNED_STACK" Bundle.steD) ∈ lwF := by decide +kernel
theorem f_ss : Cond.isRef (.static Bundle.tN "SUPPRESSED_SENTINEL" Bundle.listD) ∈ lwF := by decide +kernel
theorem f_sb : ∀ q, q < 25 → (zsb q).length < 1000 := by decide +kernel
theorem f_wd : ∀ t, t < 14 → zwd t < 25 := by decide +kernel
theorem f_nb : nseB = [955, 957, 959, 961].filterMap (fun i => lw_tbl[i]?) := by decide +kernel
def adr (b aA aF : Nat) (tok sK sV : Nat → Nat) (i : Nat) : Nat := if i = 1 then b else if i < 16 then tok (i - 2) else if i = 16 then aA else if i = 17 then aF else if i < 50 then sK (i - 20) else sV (i - 50)
theorem adr_t {b aA aF : Nat} {tok sK sV : Nat → Nat} {t : Nat} (h : t < 14) : adr b aA aF tok sK sV (2 + t) = tok t := by
  unfold adr; rw [if_neg (by omega), if_pos (by omega), show 2 + t - 2 = t by omega]
theorem adr_k {b aA aF : Nat} {tok sK sV : Nat → Nat} {q : Nat} (h : q < 25) : adr b aA aF tok sK sV (20 + q) = sK q := by
  unfold adr; rw [if_neg (by omega), if_neg (by omega), if_neg (by omega), if_neg (by omega), if_pos (by omega), show 20 + q - 20 = q by omega]
theorem adr_v {b aA aF : Nat} {tok sK sV : Nat → Nat} {q : Nat} (h : q < 25) : adr b aA aF tok sK sV (50 + q) = sV q := by
  unfold adr; rw [if_neg (by omega), if_neg (by omega), if_neg (by omega), if_neg (by omega), if_neg (by omega), show 50 + q - 50 = q by omega]
theorem zE_start {s : State} {b : Nat} (hts : ∀ w ∈ lw_tbl, w.before #[Value.ref b] s = true) (hgv : (Jvm.Cond.and given_1 narrow_1).before #[Value.ref b] s = true) : ∃ G : zG, G.1 = s.heap.size ∧ G.2.1 1 = b ∧ zE G s ∧ zX G s := by
  have hF : ∀ w ∈ lwF, w.before #[Value.ref b] s = true := flat_of_before _ hgv
  have hw : ∀ {w : Cond} (i : Nat), lw_tbl[i]? = some w → w.before #[Value.ref b] s = true := fun i h => hts _ (List.mem_of_getElem? h)
  obtain ⟨A, hAe⟩ : ∃ A : Nat → Prop, A = fun q : Nat => s.heap.size ≤ q := ⟨_, rfl⟩
  have hA : ∀ a : Nat, a < s.heap.size → ¬ A a := fun a h => by rw [hAe]; exact Nat.not_le.mpr h
  obtain ⟨dC, dI, hK⟩ := kn_all hts
  obtain ⟨dA, hAr⟩ := arr_all hts
  -- texts
  have h0 : ∀ q : Nat, ∃ r : Nat × Nat, q < 25 → (zsT q).eval #[Value.ref b] s none [] s = some (.ref r.1) ∧ va_O "java/lang/String" r.1 A s s.heap ∧ va_OF "java/lang/String" "coder" "B" (.int 0) r.1 A s s.heap ∧ va_OF "java/lang/String" "value" "[B" (.ref r.2) r.1 A s s.heap ∧ va_T .byte r.2 (zsb q).length (fun j => .int ((zsb q).getD j 0)) A s s.heap ∧ vk_R (zso q).1 (zso q).2.1 (zso q).2.2 r.1 s := by
    intro q
    by_cases hq : q < 25
    · obtain ⟨a, c, cA, kA, q1, q2, q3, q4, q5, q6, -⟩ := Cond.exactly_spec (args := #[Value.ref b]) (first := s) (o := none) (s := s) (idx := []) (t := zsT q) (cls := "java/lang/String") (hF _ (f_sx q hq))
      have hlen : (zsb q).length < 2 ^ 31 := Nat.lt_of_lt_of_le (f_sb q hq) (by decide)
      obtain ⟨t, ht, hT⟩ := va_Tof (tm := zsV q) (ty := .byte) (f := fun j => .int ((zsb q).getD j 0)) (A := A) hlen (hF _ (f_sa q hq)) (va_eqt (hF _ (f_sl q hq))) (fun j hj => va_eqt (hF _ (f_se q hq j hj))) hA
      exact ⟨(a, t), fun _ => ⟨q1, ⟨cA, q3, q5, by rw [q6]; exact q2, hA a (Array.getElem?_eq_some_iff.mp q3).1⟩, vk_OFof q1 (va_eqt (hF _ (f_sc q hq))) hA, vk_OFof q1 ht hA, hT, vk_R.of (hw _ (f_sr q hq)) q1⟩⟩
    · exact ⟨(0, 0), fun h => absurd h hq⟩
  obtain ⟨sa, hs⟩ := Classical.axiomOfChoice h0
  -- constants
  have h1 : ∀ t : Nat, ∃ r : Nat, t < 14 → (zts t).eval #[Value.ref b] s none [] s = some (.ref r) ∧ va_O RX8 r A s s.heap := by
    intro t
    by_cases ht : t < 14
    · obtain ⟨a, c, cA, kA, q1, q2, q3, q4, q5, q6, -⟩ := Cond.exactly_spec (args := #[Value.ref b]) (first := s) (o := none) (s := s) (idx := []) (t := zts t) (cls := RX8) (hF _ (f_tx t ht))
      exact ⟨a, fun _ => ⟨q1, ⟨cA, q3, q5, by rw [q6]; exact q2, hA a (Array.getElem?_eq_some_iff.mp q3).1⟩⟩⟩
    · exact ⟨0, fun h => absurd h ht⟩
  obtain ⟨tk, htk⟩ := Classical.axiomOfChoice h1
  have hini : (Cond.initialized RX8).before #[Value.ref b] s = true := hw 91 (by decide +kernel)
  have hdist : ∀ t u, t < 14 → u < 14 → tk t = tk u → t = u := by
    intro t u ht hu he
    have e1 := va_eqt (hF _ (f_to t ht))
    have e2 := va_eqt (hF _ (f_to u hu))
    rw [va_fe (htk t ht).1] at e1
    rw [va_fe (htk u hu).1, ← he] at e2
    have e3 := Option.some.inj (e1.symm.trans e2)
    have e4 : nI t = nI u := by injection e3
    exact (nI_eq (by omega) (by omega)).mp e4
  obtain ⟨aA, haA, hTA⟩ := va_Tof (tm := ztA9) (ty := .object RX8) (N := 14) (f := fun t => .ref (tk t)) (A := A) (by decide) (hF _ f_Aa) (va_eqt (hF _ f_Al)) (fun j hj => va_eqv (hF _ (f_te j hj)) (htk j hj).1) hA
  have hZf : va_Zq "jdk/internal/util/Preconditions" "SIOOBE_FORMATTER" "Ljava/util/function/BiFunction;" A s s.heap := va_Zqof (hw 572 (by decide +kernel)) (hw 104 (by decide +kernel)) (hF _ f_fm) hA
  obtain ⟨aF, haF⟩ : ∃ aF : Nat, va_Z "jdk/internal/util/Preconditions" "SIOOBE_FORMATTER" "Ljava/util/function/BiFunction;" .null A s s.heap ∨ va_Z "jdk/internal/util/Preconditions" "SIOOBE_FORMATTER" "Ljava/util/function/BiFunction;" (.ref aF) A s s.heap := by
    rcases hZf with h | ⟨t, h⟩
    · exact ⟨0, Or.inl h⟩
    · exact ⟨t, Or.inr h⟩
  subst hAe
  refine ⟨(s.heap.size, adr b aA aF tk (fun q => (sa q).1) (fun q => (sa q).2), dC, dI, dA), rfl, rfl, ⟨⟨hK, ?_⟩, ?_, ⟨va_AO.of (A := #[Value.ref b]) (hw 287 (by decide +kernel)), va_AO.of (A := #[Value.ref b]) (hw 339 (by decide +kernel)), va_AO.of (A := #[Value.ref b]) (hw 151 (by decide +kernel))⟩, fun t ht => ?_, va_Zref (hw 542 (by decide +kernel)) hini haA hA, ?_, fun t ht => ?_, fun q hq => ?_, fun q hq => ?_, ⟨va_Zof (hw 556 (by decide +kernel)) (hw 102 (by decide +kernel)) (va_eqt (hF _ f_cs)) hA, haF⟩, fun t u ht hu he => ?_⟩, fun w hw9 => ?_, vx_Zqof (hw 980 (by decide +kernel)) (hw 107 (by decide +kernel)) (hF _ f_us) hA, vx_Zqof (hw 982 (by decide +kernel)) (hw 107 (by decide +kernel)) (hF _ f_ss) hA⟩
  · intro k q hq
    match k, hq with
    | 0, hq => cases hq; exact hAr 0 (by decide)
    | 1, hq => cases hq; exact hAr 1 (by decide)
    | 2, hq => cases hq; exact hAr 2 (by decide)
    | 3, hq => cases hq; exact hAr 3 (by decide)
    | 4, hq => cases hq; exact hAr 4 (by decide)
    | 5, hq => cases hq; exact hAr 5 (by decide)
    | k + 6, hq => simp [ztys] at hq
  · intro w hw9 hn
    cases w <;> first | exact (Bool.false_ne_true hn).elim | exact va_Nw.of rfl (hts _ hw9)
  · show va_Z RX8 (ztn t) dTok (.ref (adr b aA aF tk (fun q => (sa q).1) (fun q => (sa q).2) (2 + t))) _ s s.heap
    rw [adr_t ht]
    exact va_Zref (hw _ (f_tl t ht)) hini (htk t ht).1 hA
  · show va_T (.object RX8) aA 14 (fun t => .ref (adr b aA aF tk (fun q => (sa q).1) (fun q => (sa q).2) (2 + t))) _ s s.heap
    obtain ⟨cell, c1, c2, c3, c4, c5, c6, c7⟩ := hTA
    exact ⟨cell, c1, c2, c3, c4, c5, fun j hj => by show cell.slots[j]? = some (Value.ref (adr b aA aF tk (fun q => (sa q).1) (fun q => (sa q).2) (2 + j))); rw [adr_t hj]; exact c6 j hj, c7⟩
  · show va_O RX8 (adr b aA aF tk (fun q => (sa q).1) (fun q => (sa q).2) (2 + t)) _ s s.heap ∧ va_OF RX8 "word" "Ljava/lang/String;" (.ref (adr b aA aF tk (fun q => (sa q).1) (fun q => (sa q).2) (20 + zwd t))) (adr b aA aF tk (fun q => (sa q).1) (fun q => (sa q).2) (2 + t)) _ s s.heap
    rw [adr_t ht, adr_k (f_wd t ht)]
    exact ⟨(htk t ht).2, vk_OFof (htk t ht).1 (va_eqv (hF _ (f_tw t ht)) (hs _ (f_wd t ht)).1) hA⟩
  · show va_O "java/lang/String" (adr b aA aF tk (fun q => (sa q).1) (fun q => (sa q).2) (20 + q)) _ s s.heap ∧ va_OF "java/lang/String" "coder" "B" (.int 0) (adr b aA aF tk (fun q => (sa q).1) (fun q => (sa q).2) (20 + q)) _ s s.heap ∧ va_OF "java/lang/String" "value" "[B" (.ref (adr b aA aF tk (fun q => (sa q).1) (fun q => (sa q).2) (50 + q))) (adr b aA aF tk (fun q => (sa q).1) (fun q => (sa q).2) (20 + q)) _ s s.heap ∧ va_T .byte (adr b aA aF tk (fun q => (sa q).1) (fun q => (sa q).2) (50 + q)) (zsb q).length (fun j => .int ((zsb q).getD j 0)) _ s s.heap
    rw [adr_k hq, adr_v hq]
    exact ⟨(hs q hq).2.1, (hs q hq).2.2.1, (hs q hq).2.2.2.1, (hs q hq).2.2.2.2.1⟩
  · show vk_R (zso q).1 (zso q).2.1 (zso q).2.2 (adr b aA aF tk (fun q => (sa q).1) (fun q => (sa q).2) (20 + q)) s
    rw [adr_k hq]
    exact (hs q hq).2.2.2.2.2
  · have he : adr b aA aF tk (fun q => (sa q).1) (fun q => (sa q).2) (2 + t) = adr b aA aF tk (fun q => (sa q).1) (fun q => (sa q).2) (2 + u) := he
    rw [adr_t ht, adr_t hu] at he
    exact hdist t u ht hu he
  · have h9 : w ∈ [955, 957, 959, 961].filterMap (fun i => lw_tbl[i]?) := by rw [← f_nb]; exact hw9
    obtain ⟨i, -, hi⟩ := List.mem_filterMap.mp h9
    have h10 := hw i hi
    simp only [nseB, List.mem_cons, List.not_mem_nil, or_false] at hw9
    rcases hw9 with rfl | rfl | rfl | rfl <;> exact va_Nw.of rfl h10
