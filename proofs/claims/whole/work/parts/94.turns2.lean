/-! ===== the two turns that may catch; the start; a turn as a whole ===== -/
theorem J_up {n : Nat} {mem : zM} (h : J n mem) : J (n + 1) mem := by
  obtain ⟨t, np, pw, m, na, ⟨⟨h1, h2⟩, h3⟩, h4⟩ := h
  exact ⟨t, np, pw, m, na, ⟨⟨Nat.le_succ_of_le h1, h2⟩, h3⟩, h4⟩
theorem J_zJ {n : Nat} {mem : zM} {a b : Nat} {v : Int64} (h : J n mem) : J n (zJ mem a b v) := h
theorem lcmp_self (x : Int64) : lg_cmp x x = 0 := by
  unfold lg_cmp; rw [if_neg (fun h : x > x => Int64.lt_irrefl h), if_pos rfl]
section Turns2
variable {L : Nat} {xs : Nat → Int32} {n : Nat} {mem : zM} {i : Nat} {v5 v6 : Value} {P : zKt}
theorem law_power0 (hn8 : 98 ≤ n) (hin1 : vp_in (nI i + 1) L) (hin2 : vp_in (nI i + 2) L)
    (hP : ∀ pc ls st n' mem', tL_law L xs n pc P ls st n' mem' → P pc ls st n' mem') (hcut : P 331 [.ref 1, .ref 100, .ref 180, .ref 197, .int (nI i), v5, v6] [.ref 197, .int (xs (nI i + 2).toNatClampNeg), .int (xs (nI i + 1).toNatClampNeg), .ref 100] n mem) : P 317 [.ref 1, .ref 100, .ref 180, .ref 197, .int (nI i), v5, v6] [] n mem := by
  refine hP _ _ _ _ _ ?_
  refine hP _ _ _ _ _ ?_
  refine hP _ _ _ _ _ ?_
  refine hP _ _ _ _ _ ?_
  refine hP _ _ _ _ _ ?_
  refine hP _ _ _ _ _ ⟨_, _, rfl, hin1, ?_⟩
  refine hP _ _ _ _ _ ?_
  refine hP _ _ _ _ _ ?_
  refine hP _ _ _ _ _ ?_
  refine hP _ _ _ _ _ ?_
  refine hP _ _ _ _ _ ⟨_, _, rfl, hin2, ?_⟩
  refine hP _ _ _ _ _ ?_
  exact hcut
theorem law_power1 (hn8 : 98 ≤ n) (hin1 : vp_in (nI i + 1) L) (hin2 : vp_in (nI i + 2) L)
    (hP : ∀ pc ls st n' mem', tL_law L xs n pc P ls st n' mem' → P pc ls st n' mem') (hJ : J n mem) (hno : ¬ thP mem (xs (nI i + 1).toNatClampNeg) (xs (nI i + 2).toNatClampNeg)) (hv : mem.2.1 197 0 = (mem.1 182 (8 * ix (xs (nI i + 1).toNatClampNeg) + ix (xs (nI i + 2).toNatClampNeg))).toInt64) (hend : ∀ M w5 w6, J n M → P 1270 [.ref 1, .ref 100, .ref 180, .ref 197, .int (nI i), w5, w6] [] n M) : P 334 [.ref 1, .ref 100, .ref 180, .ref 197, .int (nI i), v5, v6] [.int 0] n mem := by
  have hn : 97 ≤ n := by omega
  obtain ⟨t, np, pw, m, na, hj⟩ := hJ
  have hj0 := J_t hj
  refine hP _ _ _ _ _ ?_
  refine hP _ _ _ _ _ ?_
  refine hP _ _ _ _ _ ?_
  refine hP _ _ _ _ _ ?_
  refine hP _ _ _ _ _ ?_
  refine hP _ _ _ _ _ ?_
  refine hP _ _ _ _ _ ⟨_, _, rfl, hin1, ?_⟩
  refine hP _ _ _ _ _ ?_
  refine hP _ _ _ _ _ ?_
  refine hP _ _ _ _ _ ?_
  refine hP _ _ _ _ _ ?_
  refine hP _ _ _ _ _ ⟨_, _, rfl, hin2, ?_⟩
  refine hP _ _ _ _ _ ⟨(zi hn rfl rfl rfl), Nat.le_of_ble_eq_true rfl, Nat.le_of_ble_eq_true rfl, ?_⟩
  refine ⟨_, _, np, pw, m, na, rfl, hj.1.1, jB_Mc hj0.1, ?_⟩
  rw [if_neg (show ¬ (isin (xs (nI i + 1).toNatClampNeg) 0 ((zI mem 180 0 0).1 180 15 - 1) = false ∨ isin (xs (nI i + 2).toNatClampNeg) 0 7 = false) from by rw [zI_o (by omega)]; exact hno)]
  refine hP _ _ _ _ _ ?_
  refine hP _ _ _ _ _ ?_
  refine hP _ _ _ _ _ ⟨(zi hn rfl rfl rfl), Nat.le_of_ble_eq_true rfl, Nat.le_of_ble_eq_true rfl, ?_⟩
  refine ⟨rfl, hj0.1.1, ?_⟩
  refine hP _ _ _ _ _ ?_
  refine hP _ _ _ _ _ ⟨fun _ => ?_, fun hz => absurd ( zI_s) hz⟩
  refine hP _ _ _ _ _ ?_
  refine hP _ _ _ _ _ ⟨fun _ => ?_, fun hz => absurd ( rfl) hz⟩
  refine hP _ _ _ _ _ ?_
  refine hP _ _ _ _ _ ?_
  refine hP _ _ _ _ _ ⟨_, 0, ⟨rfl, by omega, by omega⟩, rfl, by decide, ?_⟩
  refine hP _ _ _ _ _ ?_
  refine hP _ _ _ _ _ ?_
  refine hP _ _ _ _ _ ?_
  refine hP _ _ _ _ _ ⟨fun _ => ?_, fun hz => absurd ( (by rw [show (zI mem 180 0 0).2.1 197 0 = _ from hv]; exact lcmp_self _)) hz⟩
  refine hP _ _ _ _ _ ?_
  exact hend _ _ _ ⟨t, np, pw, m, na, hj0⟩
theorem law_power2 (hn8 : 98 ≤ n) (hin1 : vp_in (nI i + 1) L) (hin2 : vp_in (nI i + 2) L)
    (hP : ∀ pc ls st n' mem', tL_law L xs n pc P ls st n' mem' → P pc ls st n' mem') (hJ : J n mem) (hth : thP mem (xs (nI i + 1).toNatClampNeg) (xs (nI i + 2).toNatClampNeg)) (hend : ∀ M w5 w6, J n M → P 1270 [.ref 1, .ref 100, .ref 180, .ref 197, .int (nI i), w5, w6] [] n M) : P 334 [.ref 1, .ref 100, .ref 180, .ref 197, .int (nI i), v5, v6] [.int 1] n mem := by
  have hn : 97 ≤ n := by omega
  obtain ⟨t, np, pw, m, na, hj⟩ := hJ
  have hj0 := J_t hj
  refine hP _ _ _ _ _ ?_
  refine hP _ _ _ _ _ ?_
  refine hP _ _ _ _ _ ?_
  refine hP _ _ _ _ _ ?_
  refine hP _ _ _ _ _ ?_
  refine hP _ _ _ _ _ ?_
  refine hP _ _ _ _ _ ⟨_, _, rfl, hin1, ?_⟩
  refine hP _ _ _ _ _ ?_
  refine hP _ _ _ _ _ ?_
  refine hP _ _ _ _ _ ?_
  refine hP _ _ _ _ _ ?_
  refine hP _ _ _ _ _ ⟨_, _, rfl, hin2, ?_⟩
  refine hP _ _ _ _ _ ⟨(zi hn rfl rfl rfl), Nat.le_of_ble_eq_true rfl, Nat.le_of_ble_eq_true rfl, ?_⟩
  refine ⟨_, _, np, pw, m, na, rfl, hj.1.1, jB_Mc hj0.1, ?_⟩
  rw [if_pos (show isin (xs (nI i + 1).toNatClampNeg) 0 ((zI mem 180 0 0).1 180 15 - 1) = false ∨ isin (xs (nI i + 2).toNatClampNeg) 0 7 = false from by rw [zI_o (by omega)]; exact hth)]
  refine hP _ _ _ _ _ ?_
  refine hP _ _ _ _ _ ?_
  refine hP _ _ _ _ _ ⟨(zi hn rfl rfl rfl), Nat.le_of_ble_eq_true rfl, Nat.le_of_ble_eq_true rfl, ?_⟩
  refine ⟨rfl, (J_1 hj0).1.1, ?_⟩
  refine hP _ _ _ _ _ ?_
  refine hP _ _ _ _ _ ⟨fun _ => ?_, fun hz => absurd ( zI_s) hz⟩
  refine hP _ _ _ _ _ ?_
  refine hP _ _ _ _ _ ⟨fun hz => absurd hz ( (by decide)), fun _ => ?_⟩
  refine hP _ _ _ _ _ ?_
  exact hend _ _ _ ⟨t, np, pw, m, na, J_1 hj0⟩
theorem law_act0 (hn8 : 98 ≤ n) (hin1 : vp_in (nI i + 1) L) (hin2 : vp_in (nI i + 2) L)
    (hP : ∀ pc ls st n' mem', tL_law L xs n pc P ls st n' mem' → P pc ls st n' mem') (hcut : P 510 [.ref 1, .ref 100, .ref 180, .ref 197, .int (nI i), v5, v6] [.ref 197, .int (xs (nI i + 2).toNatClampNeg), .int (xs (nI i + 1).toNatClampNeg), .ref 100] n mem) : P 496 [.ref 1, .ref 100, .ref 180, .ref 197, .int (nI i), v5, v6] [] n mem := by
  refine hP _ _ _ _ _ ?_
  refine hP _ _ _ _ _ ?_
  refine hP _ _ _ _ _ ?_
  refine hP _ _ _ _ _ ?_
  refine hP _ _ _ _ _ ?_
  refine hP _ _ _ _ _ ⟨_, _, rfl, hin1, ?_⟩
  refine hP _ _ _ _ _ ?_
  refine hP _ _ _ _ _ ?_
  refine hP _ _ _ _ _ ?_
  refine hP _ _ _ _ _ ?_
  refine hP _ _ _ _ _ ⟨_, _, rfl, hin2, ?_⟩
  refine hP _ _ _ _ _ ?_
  exact hcut
theorem law_act1 (hn8 : 98 ≤ n) (hin1 : vp_in (nI i + 1) L) (hin2 : vp_in (nI i + 2) L)
    (hP : ∀ pc ls st n' mem', tL_law L xs n pc P ls st n' mem' → P pc ls st n' mem') (hJ : J n mem) (hno : ¬ thA2 mem (xs (nI i + 1).toNatClampNeg) (xs (nI i + 2).toNatClampNeg)) (hv : mem.2.1 197 0 = (mem.1 191 (9 * ix (xs (nI i + 1).toNatClampNeg) + ix (xs (nI i + 2).toNatClampNeg))).toInt64) (hend : ∀ M w5 w6, J n M → P 1270 [.ref 1, .ref 100, .ref 180, .ref 197, .int (nI i), w5, w6] [] n M) : P 513 [.ref 1, .ref 100, .ref 180, .ref 197, .int (nI i), v5, v6] [.int 0] n mem := by
  have hn : 97 ≤ n := by omega
  obtain ⟨t, np, pw, m, na, hj⟩ := hJ
  have hj0 := J_t hj
  refine hP _ _ _ _ _ ?_
  refine hP _ _ _ _ _ ?_
  refine hP _ _ _ _ _ ?_
  refine hP _ _ _ _ _ ?_
  refine hP _ _ _ _ _ ?_
  refine hP _ _ _ _ _ ?_
  refine hP _ _ _ _ _ ⟨_, _, rfl, hin1, ?_⟩
  refine hP _ _ _ _ _ ?_
  refine hP _ _ _ _ _ ?_
  refine hP _ _ _ _ _ ?_
  refine hP _ _ _ _ _ ?_
  refine hP _ _ _ _ _ ⟨_, _, rfl, hin2, ?_⟩
  refine hP _ _ _ _ _ ⟨(zi hn rfl rfl rfl), Nat.le_of_ble_eq_true rfl, Nat.le_of_ble_eq_true rfl, ?_⟩
  refine ⟨_, _, np, pw, m, na, rfl, hj.1.1, jB_Mc hj0.1, ?_⟩
  rw [if_neg (show ¬ (isin (xs (nI i + 1).toNatClampNeg) 0 ((zI mem 180 0 0).1 180 29 - 1) = false ∨ isin (xs (nI i + 2).toNatClampNeg) 0 8 = false) from by rw [zI_o (by omega)]; exact hno)]
  refine hP _ _ _ _ _ ?_
  refine hP _ _ _ _ _ ?_
  refine hP _ _ _ _ _ ⟨(zi hn rfl rfl rfl), Nat.le_of_ble_eq_true rfl, Nat.le_of_ble_eq_true rfl, ?_⟩
  refine ⟨rfl, hj0.1.1, ?_⟩
  refine hP _ _ _ _ _ ?_
  refine hP _ _ _ _ _ ⟨fun _ => ?_, fun hz => absurd ( zI_s) hz⟩
  refine hP _ _ _ _ _ ?_
  refine hP _ _ _ _ _ ⟨fun _ => ?_, fun hz => absurd ( rfl) hz⟩
  refine hP _ _ _ _ _ ?_
  refine hP _ _ _ _ _ ?_
  refine hP _ _ _ _ _ ⟨_, 0, ⟨rfl, by omega, by omega⟩, rfl, by decide, ?_⟩
  refine hP _ _ _ _ _ ?_
  refine hP _ _ _ _ _ ?_
  refine hP _ _ _ _ _ ?_
  refine hP _ _ _ _ _ ⟨fun _ => ?_, fun hz => absurd ( (by rw [show (zI mem 180 0 0).2.1 197 0 = _ from hv]; exact lcmp_self _)) hz⟩
  refine hP _ _ _ _ _ ?_
  exact hend _ _ _ ⟨t, np, pw, m, na, hj0⟩
theorem law_act2 (hn8 : 98 ≤ n) (hin1 : vp_in (nI i + 1) L) (hin2 : vp_in (nI i + 2) L)
    (hP : ∀ pc ls st n' mem', tL_law L xs n pc P ls st n' mem' → P pc ls st n' mem') (hJ : J n mem) (hth : thA2 mem (xs (nI i + 1).toNatClampNeg) (xs (nI i + 2).toNatClampNeg)) (hend : ∀ M w5 w6, J n M → P 1270 [.ref 1, .ref 100, .ref 180, .ref 197, .int (nI i), w5, w6] [] n M) : P 513 [.ref 1, .ref 100, .ref 180, .ref 197, .int (nI i), v5, v6] [.int 1] n mem := by
  have hn : 97 ≤ n := by omega
  obtain ⟨t, np, pw, m, na, hj⟩ := hJ
  have hj0 := J_t hj
  refine hP _ _ _ _ _ ?_
  refine hP _ _ _ _ _ ?_
  refine hP _ _ _ _ _ ?_
  refine hP _ _ _ _ _ ?_
  refine hP _ _ _ _ _ ?_
  refine hP _ _ _ _ _ ?_
  refine hP _ _ _ _ _ ⟨_, _, rfl, hin1, ?_⟩
  refine hP _ _ _ _ _ ?_
  refine hP _ _ _ _ _ ?_
  refine hP _ _ _ _ _ ?_
  refine hP _ _ _ _ _ ?_
  refine hP _ _ _ _ _ ⟨_, _, rfl, hin2, ?_⟩
  refine hP _ _ _ _ _ ⟨(zi hn rfl rfl rfl), Nat.le_of_ble_eq_true rfl, Nat.le_of_ble_eq_true rfl, ?_⟩
  refine ⟨_, _, np, pw, m, na, rfl, hj.1.1, jB_Mc hj0.1, ?_⟩
  rw [if_pos (show isin (xs (nI i + 1).toNatClampNeg) 0 ((zI mem 180 0 0).1 180 29 - 1) = false ∨ isin (xs (nI i + 2).toNatClampNeg) 0 8 = false from by rw [zI_o (by omega)]; exact hth)]
  refine hP _ _ _ _ _ ?_
  refine hP _ _ _ _ _ ?_
  refine hP _ _ _ _ _ ⟨(zi hn rfl rfl rfl), Nat.le_of_ble_eq_true rfl, Nat.le_of_ble_eq_true rfl, ?_⟩
  refine ⟨rfl, (J_1 hj0).1.1, ?_⟩
  refine hP _ _ _ _ _ ?_
  refine hP _ _ _ _ _ ⟨fun _ => ?_, fun hz => absurd ( zI_s) hz⟩
  refine hP _ _ _ _ _ ?_
  refine hP _ _ _ _ _ ⟨fun hz => absurd hz ( (by decide)), fun _ => ?_⟩
  refine hP _ _ _ _ _ ?_
  exact hend _ _ _ ⟨t, np, pw, m, na, J_1 hj0⟩
end Turns2
theorem J_start {mem0 M0 M : zM} {n : Nat} (h0 : ∀ a b, mem0.1 a b = 0) (hMk : zMk mem0 M0) (hF : zFx M) (h1 : ∀ a, a < 180 → M.1 a = M0.1 a) (h3 : ∀ b, M.1 180 b = 0) (h4 : ∀ a, 181 ≤ a → a ≤ 183 → ∀ b, M.1 a b = 0) (h7 : ∀ i, i < 8 → M.1 187 i = -1) (h8 : ∀ i, i < 301 → M.1 184 i = 0 ∧ M.1 188 i = -1) (ht : M.2.2 100 8 = 136) (hn : 97 ≤ n) : J n M := by
  have z : ∀ a b, a < 180 → a ≠ 113 → a ≠ 114 → M.1 a b = 0 := fun a b ha h13 h14 => by rw [h1 a ha, hMk.1 a h13 h14]; exact h0 a b
  have d : ∀ q, q < 8 → M.1 113 q = -1 := fun q hq => by rw [h1 113 (by omega)]; exact hMk.2.2.1 q hq
  refine ⟨136, 0, 0, 0, 0, ⟨⟨hn, hF⟩, ⟨ht, Or.inl rfl, ⟨z 136 1 (by omega) (by omega) (by omega), h3 13, by omega⟩, ⟨z 136 2 (by omega) (by omega) (by omega), h3 15, by omega⟩, (z 136 3 (by omega) (by omega) (by omega)).trans (h3 14).symm, ⟨z 108 5 (by omega) (by omega) (by omega), h3 27, by omega⟩, (z 108 6 (by omega) (by omega) (by omega)).trans (h3 28).symm, ⟨z 100 6 (by omega) (by omega) (by omega), h3 29, by omega⟩⟩, fun p hp => absurd hp (by omega), ⟨fun p hp => absurd hp (by omega), fun p hp => absurd hp (by omega), fun q hq => ⟨(d q hq).trans (h7 q hq).symm, Or.inl (h7 q hq)⟩, fun q _ hq => h7 q hq⟩, ⟨z 109 0 (by omega) (by omega) (by omega), fun k hk => (z 109 k (by omega) (by omega) (by omega)).trans (h8 k (by omega)).1.symm, fun k h1 h2 => absurd h1 (by omega), fun k _ hk => (h8 k (by omega)).2, fun p hp => absurd hp (by omega)⟩⟩, ⟨0, z 101 1 (by omega) (by omega) (by omega), h3 2, by omega, fun j => ?_, (z 100 7 (by omega) (by omega) (by omega)).trans (h3 8).symm⟩, fun a ha => absurd ha (by omega)⟩
  rw [h4 181 (by omega) (by omega) j, z 102 j (by omega) (by omega) (by omega)]
  exact ⟨by decide, by unfold zlet; decide⟩
