theorem go_text {n : Nat} {mem : zM} {Q : zPo} (hJ : J n mem) (hQ : ∀ r M, zTw k_X11_text [.ref 180] n r M → Q (some (.int r)) n M) : k_X10_text [.ref 100] n mem Q := by
  obtain ⟨t, np, pw, m, na, hj⟩ := hJ
  have hj0 := J_t hj
  obtain ⟨-, hC, hP, hE, hN⟩ := id hj.1
  have hT := hC.2.1
  have h20 := hC.2.2.2.1.2.2
  have h8 := hC.2.2.1.2.2
  have h16 := hC.2.2.2.2.2.2.2.2.2
  have e13 : mem.1 180 13 = nI np := hC.2.2.1.2.1
  have e15 : mem.1 180 15 = nI pw := hC.2.2.2.1.2.1
  have e27 : mem.1 180 27 = nI m := hC.2.2.2.2.2.1.2.1
  have e29 : mem.1 180 29 = nI na := hC.2.2.2.2.2.2.2.2.1
  obtain ⟨sz, s1, s2, s3, s4, s5⟩ := hj.2.1
  have hFx := hj.1.1.2
  obtain ⟨u, htu, h9⟩ : ∃ u, ((t = 136 ∧ u = 158) ∨ (t = 158 ∧ u = 136)) ∧ mem.2.2 100 9 = u := by
    have h8' := hC.1
    rcases hFx.2.2.2 with z | z
    · exact ⟨158, Or.inl ⟨by omega, rfl⟩, z.2⟩
    · exact ⟨136, Or.inr ⟨by omega, rfl⟩, z.2⟩
  have hU : u = 136 ∨ u = 158 := by omega
  have hu294 : u = 294 - t := by omega
  have ets : ∀ B : Nat → Int32, B = mem.1 181 → txR B sz = txR (mem.1 102) sz := fun B hB => by
    unfold txR
    rw [hB, tp_ts (C := mem.1 102) (B := mem.1 181) s4]
  refine ⟨sz, t, u, rfl, hj.1.1, htu, hC.1, h9, s1, s3, ?_⟩
  cases hO : txR (mem.1 102) sz with
  | inl e =>
    intro M fM hFM m1 m7
    have fU : zfr (sU t) mem M := fM.mono fun a b z => by unfold sTC sRT sL at z; unfold sU; omega
    have r181 : M.1 181 = mem.1 181 := by funext b; exact fM.1 181 b (by unfold sTC sRT sL; omega)
    have r2 : M.1 180 2 = nI sz := (fM.1 180 2 (by unfold sTC sRT sL; omega)).trans s2
    refine hQ _ _ fun Q2 hq => ⟨sz, rfl, ⟨hj.1.1.1, hFM⟩, r2, s3, ?_⟩
    rw [ets _ r181, hO]
    intro N fN n2 n8
    have fU2 : zfr (sU t) mem N := fU.tr (fN.mono fun a b z => by unfold sTx at z; unfold sU sQ; omega)
    have hFN : zFx N := zFx_y (fN.mono fun a b z => Or.inl z) hFM
    obtain ⟨hB', hA'⟩ := jB_u hj.1 hj.2.2 fU2 ⟨hj.1.1.1, hFN⟩
    refine hq N ⟨t, np, pw, m, na, hB', ⟨0, ?_, n2, by omega, fun x => ?_, ?_⟩, hA'⟩
    · rw [fN.1 101 1 (by unfold sTx; omega)]; exact m1
    · rw [fN.1 181 x (by unfold sTx; omega), fN.1 102 x (by unfold sTx; omega), r181, fM.1 102 x (by unfold sTC sRT sL; omega)]; exact s4 x
    · rw [fN.1 100 7 (by unfold sTx; omega), m7, n8]
  | inr s =>
    intro M fM hFM m8 m1 m7 m6 l5 l6 l113 hcx
    have r181 : M.1 181 = mem.1 181 := by funext b; exact fM.1 181 b (by unfold sTD sTC sRT sL; omega)
    have r2 : M.1 180 2 = nI sz := (fM.1 180 2 (by unfold sTD sTC sRT sL; omega)).trans s2
    refine hQ _ _ fun Q2 hq => ⟨sz, rfl, ⟨hj.1.1.1, hFM⟩, r2, s3, ?_⟩
    rw [ets _ r181, hO]
    intro N fN hG
    obtain ⟨g2, g8, g13, g14, g15, grow, g27, g28, g29, g185, g186, g187, g184⟩ := hG
    obtain ⟨x8, x20, x1, x3, x2, xr⟩ := hcx
    have hFN : zFx N := zFx_y fN hFM
    have lo : ∀ a b, a < 180 → N.1 a b = M.1 a b := fun a b ha => fN.1 a b (by unfold sTy sTx sB; omega)
    have wf : wfS s := by
      unfold txR at hO
      exact tx_wf 29 0 (0, 0, 0, fun _ _ => 0) s ⟨by show 0 ≤ 8; omega, by show 0 ≤ 20; omega, fun p hp => absurd hp (Nat.not_lt_zero _)⟩ hO
    have rowu : ∀ p j, p < s.2.2.1 → N.1 (u + 2 + p) j = M.1 (u + 2 + p) j := fun p j hp => lo _ j (by omega)
    have hw : ∀ p j, p < s.2.2.1 → j ≤ 8 → N.1 (u + 2 + p) j = s.2.2.2 p j := fun p j hp hj => by rw [rowu p j hp]; exact (xr p hp).1 j hj
    refine hq N ⟨u, s.1, s.2.2.1, 0, 0, ⟨⟨hj.1.1.1, hFN⟩, ⟨?_, hU, ⟨?_, g13, x8⟩, ⟨?_, g15, x20⟩, ?_, ⟨?_, g27, by omega⟩, ?_, ⟨?_, g29, by omega⟩⟩, fun p hp => ⟨fun j hj => ?_, ?_, fun i hi => ?_⟩, ⟨fun p hp e he => ?_, fun p hp q hq => ?_, fun q hq => ?_, fun q _ hq => g187 q hq⟩, ⟨?_, fun k hk => ?_, fun k h1 h2 => by omega, fun k h1 h2 => (g184 k (by omega)).2, fun p hp => ?_⟩⟩, ⟨0, ?_, g2, by omega, fun x => ?_, ?_⟩, fun a ha => absurd ha (Nat.not_lt_zero _)⟩
    · rw [fN.2.2 100 8 (by unfold sTy sTx sB; omega)]; exact m8
    · rw [lo u 1 (by omega)]; exact x1
    · rw [lo u 2 (by omega)]; exact x2
    · rw [lo u 3 (by omega), x3, g14]
    · rw [lo 108 5 (by omega)]; exact l5
    · rw [lo 108 6 (by omega), l6, g28]
    · rw [lo 100 6 (by omega)]; exact m6
    · rw [hw p j hp (by omega), grow p hp j hj]
    · have w := (wf.2.2 p hp).1
      have e : ∀ j, j < 8 → N.1 182 (8 * p + j) = s.2.2.2 p j := grow p hp
      have e0 : N.1 182 (8 * p) = s.2.2.2 p 0 := e 0 (by omega)
      unfold zVl
      rw [e0, e 1 (by omega), e 2 (by omega), e 3 (by omega), e 4 (by omega), e 5 (by omega), e 6 (by omega), e 7 (by omega)]
      exact w
    · obtain ⟨w, w8⟩ := wf.2.2 p hp
      rw [hw p 8 hp (by omega), w8, grow p hp 7 (by omega), b_or, b_1shl (by omega) hi]
      rcases w.2.2.2.2.2.2.2 with z | ⟨v, hv, z⟩
      · rw [z, if_pos rfl, decide_eq_true rfl, b_0]; rfl
      · rw [z, if_neg (nI_m1 (by omega)), ix_nI (by omega), decide_eq_false (nI_m1 (by omega)), hw v 8 (by omega) (by omega)]; rfl
    · have x := xr p hp
      rw [rowu p _ hp, g185 (3 * p + e) (by omega)]
      refine ⟨?_, Or.inl rfl⟩
      rcases (show e = 0 ∨ e = 1 ∨ e = 2 by omega) with rfl | rfl | rfl
      · exact x.2.2.2.1
      · exact x.2.2.2.2.1
      · exact x.2.2.2.2.2.1
    · rw [rowu p _ hp, (xr p hp).2.2.2.2.2.2, g186 (20 * q + p) (by omega), b_0, decide_eq_true rfl]
      exact ⟨rfl, Or.inl rfl⟩
    · rw [lo 113 q (by omega), l113 q hq, g187 q hq]; exact ⟨rfl, Or.inl rfl⟩
    · rw [lo 109 0 (by omega), fM.1 109 0 (by unfold sTD sTC sRT sL; omega)]; exact hN.1
    · have : k = 0 := by omega
      subst this
      rw [lo 109 0 (by omega), fM.1 109 0 (by unfold sTD sTC sRT sL; omega), hN.1, (g184 0 (by omega)).1]
    · have x := xr p hp
      rw [rowu p 9 hp, rowu p 10 hp, x.2.1, x.2.2.1]
      show s.2.2.2 p 3 = N.1 182 (8 * p + 3) ∧ s.2.2.2 p 4 = N.1 182 (8 * p + 4)
      rw [grow p hp 3 (by omega), grow p hp 4 (by omega)]
      exact ⟨rfl, rfl⟩
    · rw [lo 101 1 (by omega)]; exact m1
    · rw [fN.1 181 x (by unfold sTy sTx sB; omega), lo 102 x (by omega), r181, fM.1 102 x (by unfold sTD sTC sRT sL; omega)]; exact s4 x
    · rw [lo 100 7 (by omega), m7, g8]
