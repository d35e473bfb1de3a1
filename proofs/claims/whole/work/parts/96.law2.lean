section Law2
variable {G : zG} {p : Program} {l : Launch} {e : Env} {s : State} {m : MethodId} {below : List Frame} {meth : Method} {c : Code} {b L : Nat} {xs : Nat → Int32}
theorem law_step (hl : l.stackTraces = false) (S : zSgx G 7 cL_law RL p s m #[Value.ref b] c) (hZ : zX G s) (hX : va_X b L xs s s.heap) (hb1 : G.2.1 1 = b) (hG : s.heap.size = G.1) (hbl : b < s.heap.size) (hL : L ≤ 3072) (hr : meth.sig.returnType = ret) (hlocks : meth.locks = false) {i n cells slots : Nat} {mem : zM} {v5 v6 : Value} (hi : i ≤ 3072) (hc : cells ≤ 601024) (hs : slots ≤ 7293034) (hn8 : 98 ≤ n) (hJ : J n mem)
    (ih : i + 6 ≤ L → (cells + 1 ≤ 601024 ∧ slots + 6 ≤ 7293034) ∧ ∀ n' M w5 w6, 98 ≤ n' → J n' M → zLW G 7 p l e room_1 s m #[Value.ref b] below meth c (lw_Z below #[Value.ref b] s) 23 [.ref 1, .ref 100, .ref 180, .ref 197, .int (nI (i + 6)), w5, w6] [] n' M (cells + 1) (slots + 6)) : zLW G 7 p l e room_1 s m #[Value.ref b] below meth c (lw_Z below #[Value.ref b] s) 23 [.ref 1, .ref 100, .ref 180, .ref 197, .int (nI i), v5, v6] [] n mem cells slots := by
  obtain ⟨hx, hb, hml, hown, hts, hE⟩ := id S
  refine z_seg S 0 0 rfl hc hs (tL_law L xs n) (fun s' hk hvm X => sL_law ⟨rfl, rfl⟩ X (zXs_of hX hb1 hG hbl hk hvm))
    (fun pc ls st n' M => n' = n ∧ ((pc = 1277 ∧ st = [.int 1]) ∨ (i + 6 ≤ L ∧ ((pc = 23 ∧ st = [] ∧ J n M ∧ ∃ w5 w6, ls = [.ref 1, .ref 100, .ref 180, .ref 197, .int (nI (i + 6)), w5, w6]) ∨ (pc = 331 ∧ ls = [.ref 1, .ref 100, .ref 180, .ref 197, .int (nI i), v5, v6] ∧ st = [.ref 197, .int (xs (nI i + 2).toNatClampNeg), .int (xs (nI i + 1).toNatClampNeg), .ref 100] ∧ M = mem) ∨ (pc = 510 ∧ ls = [.ref 1, .ref 100, .ref 180, .ref 197, .int (nI i), v5, v6] ∧ st = [.ref 197, .int (xs (nI i + 2).toNatClampNeg), .int (xs (nI i + 1).toNatClampNeg), .ref 100] ∧ M = mem))))) ?_ ?_
  · rintro pc ls st n' M ⟨rfl, hcut⟩ k hk ss hss
    have h1 : k = 0 := by omega
    have h2 : ss = 0 := by omega
    subst h1; subst h2
    rcases hcut with ⟨rfl, rfl⟩ | ⟨hle, hcut⟩
    · intro H locs lsC hl1 hz1 hP1 hS1
      exact va_forget (fun q hq => by rw [hG]; exact hS1.2.2 q hq) (W.widen hc hs (lw_ret hx hb hr hlocks dL_law_1277))
    · obtain ⟨⟨h3, h4⟩, h5⟩ := ih hle
      rcases hcut with ⟨rfl, rfl, hJ2, w5, w6, rfl⟩ | ⟨rfl, rfl, rfl, rfl⟩ | ⟨rfl, rfl, rfl, rfl⟩
      · intro H locs lsC hl1 hz1 hP1 hS1
        exact W.widen (by omega) (by omega) (h5 _ M w5 w6 hn8 hJ2 H locs lsC hl1 hz1 hP1 hS1)
      · exact law_call_power hl S hZ hX hb1 hG hbl hL hn8 hJ hle h3 h4 h5
      · exact law_call_act hl S hZ hX hb1 hG hbl hL hn8 hJ hle h3 h4 h5
  · intro P hP hC
    exact law_head hL hi hn8 hJ hP (fun ls => hC _ _ _ _ _ ⟨rfl, Or.inl ⟨rfl, rfl⟩⟩) (fun hle M w5 w6 hM => hC _ _ _ _ _ ⟨rfl, Or.inr ⟨hle, Or.inl ⟨rfl, rfl, hM, w5, w6, rfl⟩⟩⟩) (fun hle => hC _ _ _ _ _ ⟨rfl, Or.inr ⟨hle, Or.inr (Or.inl ⟨rfl, rfl, rfl, rfl⟩)⟩⟩) (fun hle => hC _ _ _ _ _ ⟨rfl, Or.inr ⟨hle, Or.inr (Or.inr ⟨rfl, rfl, rfl, rfl⟩)⟩⟩)
theorem law_loop (hl : l.stackTraces = false) (S : zSgx G 7 cL_law RL p s m #[Value.ref b] c) (hZ : zX G s) (hX : va_X b L xs s s.heap) (hb1 : G.2.1 1 = b) (hG : s.heap.size = G.1) (hbl : b < s.heap.size) (hL : L ≤ 3072) (hr : meth.sig.returnType = ret) (hlocks : meth.locks = false) : ∀ (f i n cells slots : Nat) (mem : zM) (v5 v6 : Value), L ≤ i + 6 * f → i ≤ 3072 → cells + f ≤ 601024 → slots + 6 * f ≤ 7293034 → 98 ≤ n → J n mem → zLW G 7 p l e room_1 s m #[Value.ref b] below meth c (lw_Z below #[Value.ref b] s) 23 [.ref 1, .ref 100, .ref 180, .ref 197, .int (nI i), v5, v6] [] n mem cells slots := by
  intro f
  induction f with
  | zero =>
    intro i n cells slots mem v5 v6 h1 h2 h3 h4 hn8 hJ
    exact law_step hl S hZ hX hb1 hG hbl hL hr hlocks h2 (by omega) (by omega) hn8 hJ (fun hle => absurd hle (by omega))
  | succ f ih =>
    intro i n cells slots mem v5 v6 h1 h2 h3 h4 hn8 hJ
    exact law_step hl S hZ hX hb1 hG hbl hL hr hlocks h2 (by omega) (by omega) hn8 hJ (fun hle => ⟨⟨by omega, by omega⟩, fun n' M w5 w6 hn9 hJ2 => ih (i + 6) n' (cells + 1) (slots + 6) M w5 w6 (by omega) (by omega) (by omega) (by omega) hn9 hJ2⟩)
def mem0 : zM := (fun _ _ => 0, fun _ _ => 0, fun _ _ => 0)
theorem zS98 : zS (0 + 98) = zS 0 + 8521 := by decide +kernel
theorem law_start (hl : l.stackTraces = false) (S : zSgx G 7 cL_law RL p s m #[Value.ref b] c) (hZ : zX G s) (hX : va_X b L xs s s.heap) (hb1 : G.2.1 1 = b) (hG : s.heap.size = G.1) (hbl : b < s.heap.size) (hL : L ≤ 3072) (hr : meth.sig.returnType = ret) (hlocks : meth.locks = false) : zLW G 7 p l e room_1 s m #[Value.ref b] below meth c (lw_Z below #[Value.ref b] s) 0 [.ref 1, .null, .null, .null, .null, .null, .null] [] 0 mem0 0 0 := by
  have hz : ∀ i, zfresh mem0 i := fun i j => ⟨rfl, rfl, rfl⟩
  refine z_seg S 98 8521 zS98 (by decide) (by decide) (tL_law L xs (0 + 98)) (fun s' hk hvm X => sL_law ⟨rfl, rfl⟩ X (zXs_of hX hb1 hG hbl hk hvm)) (fun pc ls st n' M => pc = 23 ∧ st = [] ∧ n' = 98 ∧ J 98 M ∧ ∃ w5 w6, ls = [.ref 1, .ref 100, .ref 180, .ref 197, .int (nI 0), w5, w6]) ?_ ?_
  · rintro pc ls st n' M ⟨rfl, rfl, rfl, hJ2, w5, w6, rfl⟩ k hk ss hss
    have h1 : k = 98 := by omega
    have h2 : ss = 8521 := by have := zS98; rw [Nat.zero_add] at this; omega
    subst h1; subst h2
    exact law_loop hl S hZ hX hb1 hG hbl hL hr hlocks 512 0 98 _ _ M w5 w6 (by omega) (by omega) (by omega) (by omega) (by omega) hJ2
  · intro P hP hC
    refine hP _ _ _ _ _ ⟨rfl, by decide, hz _, ?_⟩
    refine hP _ _ _ _ _ ?_
    refine hP _ _ _ _ _ ⟨Nat.le_of_ble_eq_true rfl, Nat.le_of_ble_eq_true rfl, by decide, by decide +kernel, ?_⟩
    refine ⟨rfl, rfl, fun i _ => hz i, fun M hFc hMk hfr => ?_⟩
    refine hP _ _ _ _ _ ?_
    refine hP _ _ _ _ _ ⟨rfl, by decide, hfr _ (by decide), ?_⟩
    refine hP _ _ _ _ _ ?_
    refine hP _ _ _ _ _ ⟨Nat.le_of_ble_eq_true rfl, Nat.le_of_ble_eq_true rfl, by decide, by decide +kernel, ?_⟩
    refine ⟨rfl, rfl, hfr, hFc, fun M2 hF h1 h2 h3 h4 h5 h6 h7 h8 ht hfr2 => ?_⟩
    refine hP _ _ _ _ _ ?_
    refine hP _ _ _ _ _ ?_
    refine hP _ _ _ _ _ ⟨_, rfl, Nat.le_of_ble_eq_true rfl, rfl, by decide, hfr2 _ (by decide), ?_⟩
    refine hP _ _ _ _ _ ?_
    refine hP _ _ _ _ _ ?_
    refine hP _ _ _ _ _ ?_
    exact hC _ _ _ _ _ ⟨rfl, rfl, rfl, J_start (fun _ _ => rfl) hMk hF h1 h3 h4 h7 h8 ht (by decide), .null, .null, by rw [nI_0]; rfl⟩
end Law2
