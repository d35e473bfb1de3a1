/-! ===== what a later event leaves as it was ===== -/
def zVe2 (pw : Nat) (v v' : zVt) : Prop := (v.1 14 = v'.1 14 ∧ v.1 32 = v'.1 32 ∧ v.1 38 = v'.1 38 ∧ v.1 39 = v'.1 39) ∧ v.2.1 = v'.2.1 ∧ (∀ h, isby (v.2.2.1 h) (v.1 30) = isby (v'.2.2.1 h) (v'.1 30)) ∧ (∀ h, (!isby (v.2.2.1 h) (v.1 30) && bt (v.1 37) h) = (!isby (v.2.2.1 h) (v.1 30) && bt (v'.1 37) h)) ∧ ∀ p, p < pw → v.2.2.2.1 p = v'.2.2.2.1 p ∧ v.2.2.2.2.1 p = v'.2.2.2.2.1 p ∧ v.2.2.2.2.2 p = v'.2.2.2.2.2 p
theorem opM_e2 {pw : Nat} {v v' : zVt} (h : zVe2 pw v v') {p : Nat} (hp : p < pw) : opM v p = opM v' p := by
  obtain ⟨⟨a1, a3, a5, a6⟩, b, c, -, d⟩ := h
  obtain ⟨d1, d2, d3⟩ := d p hp
  unfold opM lvM
  rw [a3, a5, a6, d1, d2, d3]
theorem tpM_e2 {pw : Nat} {v v' : zVt} (h : zVe2 pw v v') {cn cn' : Nat → Int32} (hc : cn = cn') {deep : Bool} : tpM v cn deep = tpM v' cn' deep := by
  obtain ⟨⟨a1, -⟩, b, c, e, d⟩ := h
  subst hc
  funext x
  unfold tpM
  have ex := e x
  rw [← c x, a1]
  cases hz : isby (v.2.2.1 x) (v.1 30) with
  | true => rfl
  | false =>
    rw [hz, Bool.not_false, Bool.true_and, Bool.true_and] at ex
    rw [ex]
theorem fsM_e2 {pw : Nat} {v v' : zVt} (h : zVe2 pw v v') {tp : Nat → Bool} {np q : Nat} : ∀ i, i ≤ pw → fsM v tp np q i = fsM v' tp np q i := by
  intro i
  induction i with
  | zero => intro _; rfl
  | succ i ih =>
    intro hi
    rw [fsM, fsM, ih (by omega), opM_e2 h (by omega), h.2.1]
theorem canM_e2 {np pw : Nat} {v v' : zVt} (h : zVe2 pw v v') : ∀ k, canM np pw v k = canM np pw v' k := by
  intro k
  induction k with
  | zero => funext q; rw [canM, canM, tpM_e2 h rfl]; exact fsM_e2 h pw (Nat.le_refl _)
  | succ k ih => funext q; rw [canM, canM, tpM_e2 h ih]; exact fsM_e2 h pw (Nat.le_refl _)
theorem usM_e2 {np pw : Nat} {v v' : zVt} (h : zVe2 pw v v') : ∀ k, usM np pw v k = usM np pw v' k := by
  intro k
  induction k with
  | zero => funext q; rw [usM, usM, canM_e2 h]
  | succ k ih =>
    have e : tpK np pw v (k + 1) = tpK np pw v' (k + 1) := tpM_e2 h (canM_e2 h k)
    funext q; rw [usM, usM, canM_e2 h, e, ih, h.2.1, h.1.1]
def stab (m : Nat) (mem M : zM) : Prop := M.1 182 = mem.1 182 ∧ M.1 180 14 = mem.1 180 14 ∧ (∀ i k, k ≤ m → isby (M.1 185 i) (nI k) = isby (mem.1 185 i) (nI k)) ∧ (∀ i k, k ≤ m → isby (M.1 186 i) (nI k) = isby (mem.1 186 i) (nI k)) ∧ (∀ i k, k ≤ m → isby (M.1 187 i) (nI k) = isby (mem.1 187 i) (nI k)) ∧ ∀ j, j ≤ m → M.1 188 j = mem.1 188 j ∧ M.1 189 j = mem.1 189 j ∧ M.1 190 j = mem.1 190 j
theorem deadM_e {f f' : Nat → Int32} {k : Int32} (h : ∀ i, isby (f i) k = isby (f' i) k) : ∀ i, deadM f k i = deadM f' k i := by
  intro i
  induction i with
  | zero => rfl
  | succ i ih => rw [deadM, deadM, h, ih]
theorem vP_stab {m : Nat} {mem M : zM} (h : stab m mem M) {np k : Nat} (hk : k ≤ m) (pw : Nat) (on wo th ps kd am : Int32) : zVe2 pw (vP M np k on wo th ps kd am) (vP mem np k on wo th ps kd am) := by
  obtain ⟨h2, h14, h5, h6, h7, h8⟩ := h
  have ew : ∀ f : Nat → Int32, f 30 = nI k → whyM np f (mem.1 182) (M.1 185) (M.1 186) (M.1 187) = whyM np f (mem.1 182) (mem.1 185) (mem.1 186) (mem.1 187) := by
    intro f hf
    funext w p
    unfold whyM endedM
    rw [hf, h5 _ k hk, h5 _ k hk, h5 _ k hk, h6 _ k hk, h7 _ k hk, deadM_e (fun i => h7 i k hk)]
  have ewF : ∀ f : Nat → Int32, f 30 = nI k → ∀ s, whyF np f (mem.1 182) (M.1 185) (M.1 186) (M.1 187) s = whyF np f (mem.1 182) (mem.1 185) (mem.1 186) (mem.1 187) s := by
    intro f hf s
    induction s with
    | zero => rfl
    | succ s ih => funext p; rw [whyF, whyF, ih, ew f hf]
  have ek : ∀ p j, j ≤ m → nkF (mem.1 182) (M.1 188) (M.1 189) p j = nkF (mem.1 182) (mem.1 188) (mem.1 189) p j := by
    intro p j
    induction j with
    | zero => intro _; rfl
    | succ j ih => intro hj; rw [nkF, nkF, ih (by omega), (h8 _ hj).1, (h8 _ hj).2.1]
  have em : ∀ p j, j ≤ m → nmF (mem.1 182) (M.1 188) (M.1 190) p j = nmF (mem.1 182) (mem.1 188) (mem.1 190) p j := by
    intro p j
    induction j with
    | zero => intro _; rfl
    | succ j ih => intro hj; rw [nmF, nmF, ih (by omega), (h8 _ hj).1, (h8 _ hj).2.2]
  refine ⟨⟨h14, rfl, rfl, rfl⟩, h2, fun x => h7 x k hk, fun x => rfl, fun p hp => ⟨?_, ?_, ?_⟩⟩
  · show whyP np (fF (M.1 180 14) (nI k) on 0 th ps kd am) (M.1 182) (M.1 185) (M.1 186) (M.1 187) p = whyP np (fF (mem.1 180 14) (nI k) on 0 th ps kd am) (mem.1 182) (mem.1 185) (mem.1 186) (mem.1 187) p
    rw [h14, h2]
    unfold whyP
    rw [ewF _ rfl]
  · show kP (M.1 182) (fun p => nkF (M.1 182) (M.1 188) (M.1 189) p k) p = kP (mem.1 182) (fun p => nkF (mem.1 182) (mem.1 188) (mem.1 189) p k) p
    rw [h2]
    have : (fun p => nkF (mem.1 182) (M.1 188) (M.1 189) p k) = fun p => nkF (mem.1 182) (mem.1 188) (mem.1 189) p k := by funext p; exact ek p k hk
    rw [this]
  · show mP (M.1 182) (fun p => nmF (M.1 182) (M.1 188) (M.1 190) p k) p = mP (mem.1 182) (fun p => nmF (mem.1 182) (mem.1 188) (mem.1 190) p k) p
    rw [h2]
    have : (fun p => nmF (mem.1 182) (M.1 188) (M.1 190) p k) = fun p => nmF (mem.1 182) (mem.1 188) (mem.1 190) p k := by funext p; exact em p k hk
    rw [this]
/-! ===== by which powers, by how much, by whom ===== -/
theorem fsM_ne {v : zVt} {tp : Nat → Bool} {np q : Nat} : ∀ i, i ≤ 100 → (¬ fsM v tp np q i = -1 ↔ ∃ j, j < i ∧ (decide (v.2.1 (8 * j) = nI q) && (opM v j && !decide (nI (cntM (v.2.1 (8 * j + 1)) tp np) < v.2.1 (8 * j + 2)))) = true) := by
  intro i
  induction i with
  | zero => intro _; exact ⟨fun h => absurd rfl h, fun ⟨j, h, _⟩ => by omega⟩
  | succ i ih =>
    intro hi
    rw [fsM]
    by_cases hf : fsM v tp np q i = -1
    · rw [if_pos hf]
      have hno : ∀ j, j < i → ¬ (decide (v.2.1 (8 * j) = nI q) && (opM v j && !decide (nI (cntM (v.2.1 (8 * j + 1)) tp np) < v.2.1 (8 * j + 2)))) = true := fun j hj hc => (ih (by omega)).mpr ⟨j, hj, hc⟩ hf
      by_cases hc : (decide (v.2.1 (8 * i) = nI q) && (opM v i && !decide (nI (cntM (v.2.1 (8 * i + 1)) tp np) < v.2.1 (8 * i + 2)))) = true
      · rw [if_pos hc]; exact ⟨fun _ => ⟨i, by omega, hc⟩, fun _ => nI_m1 (by omega)⟩
      · rw [if_neg hc]
        refine ⟨fun z => absurd rfl z, fun ⟨j, hj, hcj⟩ => ?_⟩
        by_cases e : j = i
        · subst e; exact absurd hcj hc
        · exact absurd hcj (hno j (by omega))
    · rw [if_neg hf]
      refine ⟨fun z => ?_, fun _ => hf⟩
      obtain ⟨j, hj, hc⟩ := (ih (by omega)).mp z
      exact ⟨j, by omega, hc⟩
theorem cntM_le {hold : Int32} {tp tp' : Nat → Bool} : ∀ i, (∀ h, h < i → tp h = true → tp' h = true) → cntM hold tp i ≤ cntM hold tp' i ∧ cntM hold tp' i ≤ i := by
  intro i
  induction i with
  | zero => intro _; exact ⟨Nat.le_refl _, Nat.le_refl _⟩
  | succ i ih =>
    intro h
    have a := ih fun x hx => h x (by omega)
    have b := h i (by omega)
    rw [cntM, cntM]
    have c := Bool.toNat_le (bt hold i && tp' i)
    have d : (bt hold i && tp i).toNat ≤ (bt hold i && tp' i).toNat := by
      cases bt hold i
      · exact Nat.le_refl _
      · cases ht : tp i
        · exact Nat.zero_le _
        · rw [b ht]; exact Nat.le_refl _
    omega
/-- more powers, more who take part: who could still can -/
theorem fsM_mono {v v' : zVt} {tp tp' : Nat → Bool} {np pw q : Nat} (h20 : pw ≤ 20) (h8 : np ≤ 8) (hr : v.2.1 = v'.2.1) (ho : ∀ j, j < pw → opM v j = true → opM v' j = true) (ht : ∀ h, h < np → tp h = true → tp' h = true) (h : ¬ fsM v tp np q pw = -1) : ¬ fsM v' tp' np q pw = -1 := by
  obtain ⟨j, hj, hc⟩ := (fsM_ne pw (by omega)).mp h
  refine (fsM_ne pw (by omega)).mpr ⟨j, hj, ?_⟩
  rw [Bool.and_eq_true, Bool.and_eq_true] at hc ⊢
  rw [← hr]
  refine ⟨hc.1, ho j hj hc.2.1, ?_⟩
  have := cntM_le (hold := v.2.1 (8 * j + 1)) np ht
  have hlt : ¬ nI (cntM (v.2.1 (8 * j + 1)) tp np) < v.2.1 (8 * j + 2) := fun z => by have := hc.2.2; rw [decide_eq_true z] at this; cases this
  rw [decide_eq_false (fun z => hlt (Int32.lt_of_le_of_lt (nI_le this.1 (by omega)) z))]; rfl
theorem canM_mono {v v' : zVt} {np pw : Nat} (h20 : pw ≤ 20) (h8 : np ≤ 8) (hr : v.2.1 = v'.2.1) (ho : ∀ j, j < pw → opM v j = true → opM v' j = true) (h14 : v.1 14 = v'.1 14) (h37 : v.1 37 = v'.1 37) (hd : ∀ h, isby (v.2.2.1 h) (v.1 30) = isby (v'.2.2.1 h) (v'.1 30)) : ∀ k q, ¬ canM np pw v k q = -1 → ¬ canM np pw v' k q = -1 := by
  intro k
  induction k with
  | zero =>
    intro q h
    refine fsM_mono h20 h8 hr ho (fun x _ hx => ?_) h
    unfold tpM at hx ⊢
    rw [hd x, h14, h37] at hx
    exact hx
  | succ k ih =>
    intro q h
    refine fsM_mono h20 h8 hr ho (fun x _ hx => ?_) h
    unfold tpM at hx ⊢
    rw [hd x, h14, h37, Bool.and_eq_true, Bool.or_eq_true, Bool.and_eq_true, Bool.true_and] at hx
    rw [Bool.and_eq_true, Bool.or_eq_true, Bool.and_eq_true, Bool.true_and]
    refine ⟨hx.1, hx.2.imp id fun z => ⟨z.1, ?_⟩⟩
    have hz : ¬ canM np pw v k x = -1 := fun w => by have := z.2; rw [decide_eq_true w] at this; cases this
    rw [decide_eq_false (ih x hz)]; rfl
theorem can_am {mem : zM} {np pw k : Nat} {on wo th ps kd am am' : Int32} {q : Nat} (h20 : pw ≤ 20) (h8 : np ≤ 8) (ha : am ≤ am') (h : ¬ canP mem np pw k on wo th ps kd am' q = -1) : ¬ canP mem np pw k on wo th ps kd am q = -1 := by
  have ew : (vP mem np k on wo th ps kd am').2.2.2.1 = (vP mem np k on wo th ps kd am).2.2.2.1 := whyP_f rfl rfl rfl rfl
  refine canM_mono (v := vP mem np k on wo th ps kd am') (v' := vP mem np k on wo th ps kd am) h20 h8 rfl (fun j _ hj => ?_) rfl rfl (fun _ => rfl) 3 q h
  unfold opM at hj ⊢
  rw [Bool.and_eq_true, Bool.and_eq_true] at hj ⊢
  refine ⟨hj.1, ?_, by have := hj.2.2; unfold lvM at this ⊢; rw [ew] at this; exact this⟩
  have h1 : ¬ mP (mem.1 182) (fun p => nmF (mem.1 182) (mem.1 188) (mem.1 190) p k) j < am' := fun z => by
    have := hj.2.1
    rw [show decide ((vP mem np k on wo th ps kd am').2.2.2.2.2 j < (vP mem np k on wo th ps kd am').1 39) = true from decide_eq_true z] at this; cases this
  show (!decide (mP (mem.1 182) (fun p => nmF (mem.1 182) (mem.1 188) (mem.1 190) p k) j < am)) = true
  rw [decide_eq_false (fun z => h1 (Int32.not_le.mp fun w => absurd z (Int32.not_lt.mpr (Int32.le_trans ha w))))]; rfl
/-- nobody who lives: nobody can -/
theorem fsM_no {v : zVt} {tp : Nat → Bool} {np pw q : Nat} (h20 : pw ≤ 20) (ht : ∀ h, h < np → tp h = false) (hto : ∀ p, p < pw → ∃ a, 1 ≤ a ∧ a < 2 ^ 30 ∧ v.2.1 (8 * p + 2) = nI a) : fsM v tp np q pw = -1 := by
  have hc0 : ∀ hold i, i ≤ np → cntM hold tp i = 0 := by
    intro hold i
    induction i with
    | zero => intro _; rfl
    | succ i ih => intro hi; rw [cntM, ih (by omega), ht i (by omega), Bool.and_false]; rfl
  refine Decidable.not_not.mp fun h => ?_
  obtain ⟨j, hj, hc⟩ := (fsM_ne pw (by omega)).mp h
  obtain ⟨a, h1, h2, e⟩ := hto j hj
  rw [Bool.and_eq_true, Bool.and_eq_true, hc0 _ np (Nat.le_refl _), e, decide_eq_true (nI_lt h1 (by omega))] at hc
  cases hc.2.2
theorem no_can {v : zVt} {np pw : Nat} (h20 : pw ≤ 20) (hl : ∀ h, h < np → (!isby (v.2.2.1 h) (v.1 30) && bt (v.1 37) h) = false) (ht : ∀ p, p < pw → ∃ a, 1 ≤ a ∧ a < 2 ^ 30 ∧ v.2.1 (8 * p + 2) = nI a) : ∀ k q, canM np pw v k q = -1 := by
  intro k
  induction k with
  | zero =>
    intro q
    refine fsM_no h20 (fun x hx => ?_) ht
    have := hl x hx
    unfold tpM
    rw [Bool.false_and, Bool.and_false, Bool.or_false]; exact this
  | succ k ih =>
    intro q
    refine fsM_no h20 (fun x hx => ?_) ht
    have := hl x hx
    unfold tpM
    rw [ih x, decide_eq_true rfl, Bool.not_true, Bool.and_false, Bool.and_false, Bool.or_false]; exact this
/-- the class's judge now: the reference's view now -/
theorem now_mt {n : Nat} {mem : zM} {t np pw m na : Nat} (hB : jB n mem t np pw m na) {c : Nat} (hc : c < 32) {am th ps : Int32} (hth : th = -1 ∨ ∃ q, q < 8 ∧ th = nI q) (hd : ∀ h, h < 8 → bt (mem.1 180 14) h = true → bt ps h = false) :
    zMt (gC mem t) (mem.1 t 3) (opN mem t pw c am th) (deadM (mem.1 113) (mem.1 108 5) 8 ^^^ (-1)) ps np pw (vP mem np m (mem.1 180 28) 0 th ps (nI c) am) := by
  obtain ⟨-, hC, hP, hE, hN⟩ := id hB
  refine ⟨fun p hp => ?_, fun x hx => ?_, hC.2.2.2.2.1, rfl, hC.2.2.1.2.2, hC.2.2.2.1.2.2, fun x hx hb => hd x hx (by rw [← hC.2.2.2.2.1]; exact hb)⟩
  · obtain ⟨hr, v, -⟩ := hP p hp
    refine ⟨hr 0 (by omega), hr 1 (by omega), hr 2 (by omega), core2 hB hc hth p hp, fun i h1 h2 => ?_⟩
    show bt (mem.1 (t + 2 + p) 1) i = false
    rw [hr 1 (by omega)]; exact v.2.1 i h1 h2
  · rw [b_not _ (by omega), dead_bt hE hx, hC.2.2.2.2.2.1.1]; rfl
theorem now_can {n : Nat} {mem : zM} {t np pw m na : Nat} (hB : jB n mem t np pw m na) {c : Nat} (hc : c < 32) {am th ps : Int32} (hth : th = -1 ∨ ∃ q, q < 8 ∧ th = nI q) (hd : ∀ h, h < 8 → bt (mem.1 180 14) h = true → bt ps h = false) {q : Nat} (hq : q < 8) :
    fsN mem t np pw (opN mem t pw c am th) ps (nI q) = canP mem np pw m (mem.1 180 28) 0 th ps (nI c) am q ∧ usN mem t np pw (opN mem t pw c am th) ps (nI q) = usP mem np pw m (mem.1 180 28) 0 th ps (nI c) am q :=
  core1 (now_mt hB hc hth hd) 3 q hq
/-- the reference's view now -/
theorem canN_P {mem : zM} {np pw m : Nat} (hR : zRo (mem.1 180) (mem.1 182) (mem.1 188) np pw) (hm : m ≤ 300) {q : Nat} {ps kd am : Int32} : canN (zNow mem np pw m) np pw q ps kd am = canP mem np pw m (mem.1 180 28) 0 (-1) ps kd am q := by
  have h := view_e (M := mem) (u := zsee mem (nI m) (mem.1 180 28)) (np := np) (pw := pw) (k := m) (on := mem.1 180 28) (th := -1) (ps := ps) (kd := kd) (am := am) (fr_see zfr.rf) hR hm rfl rfl rfl rfl (S := zVw np pw m (zsee mem (nI m) (mem.1 180 28))) zfr.rf
  unfold canN canP
  exact congrFun (canM_e h 3) q
