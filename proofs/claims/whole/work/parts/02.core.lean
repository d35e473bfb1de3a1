
/-! ===== the memory: ints, longs, references by an id and a place; ids below 100 are what stands before the start, 100 + k is the k-th cell that is made ===== -/
abbrev zM : Type := (Nat → Nat → Int32) × (Nat → Nat → Int64) × (Nat → Nat → Nat)
abbrev zG : Type := Nat × (Nat → Nat) × (Nat → ClassId) × (Nat → Nat → Nat) × (Nat → ClassId)
abbrev zKd : Type := Nat ⊕ (Nat × Nat)
abbrev zKt : Type := Nat → List Value → List Value → Nat → zM → Prop
abbrev zOp : Type := zKt → List Value → List Value → Nat → zM → Prop
abbrev zPo : Type := Option Value → Nat → zM → Prop
abbrev zCt : Type := List Value → Nat → zM → zPo → Prop
def zcls : List vw_C := [(RX0, TX0, 12), (RX1, TX1, 8), (RX2, TX2, 6), (RX3, TX3, 2), (RX4, TX4, 7), (RX5, TX5, 15), (RX6, TX6, 2), (RX7, TX7, 7), ("java/util/NoSuchElementException", TX8, 0), (RX9, TX9, 4), (RX10, TX10, 10), (RX11, TX11, 43), ("java/util/NoSuchElementException", TX8, 0)]
def znF (ci : Nat) : Nat := match ci with
  | 0 => 12 | 1 => 8 | 2 => 6 | 3 => 2 | 4 => 7 | 5 => 15 | 6 => 2 | 7 => 7 | 8 => 0 | 9 => 4 | 10 => 10 | 11 => 43 | _ => 0
def zty (ci j : Nat) : FieldType := match ci with
  | 0 => tyX0 j | 1 => tyX1 j | 2 => tyX2 j | 3 => tyX3 j | 4 => tyX4 j | 5 => tyX5 j | 6 => tyX6 j | 7 => tyX7 j | 9 => tyX9 j | 10 => tyX10 j | 11 => tyX11 j | _ => .int
def zat (t : Nat) : FieldType := match t with
  | 0 => .int | 1 => .byte | 2 => .long | 3 => .object RX0 | 4 => .object RX5 | _ => .object RX8
/-- the kinds of the cells, by id: a class, or an array (type, length) -/
def zkd (i : Nat) : zKd :=
  bif Nat.ble i 119 then
    bif Nat.ble i 108 then
      (match i with
        | 100 => .inl 10 | 101 => .inl 6 | 102 => .inr (1, 840) | 103 => .inl 7 | 104 => .inl 2 | 105 => .inr (5, 801) | 106 => .inr (0, 801) | 107 => .inr (0, 801) | 108 => .inl 4 | _ => .inl 12)
    else
      (match i with
        | 109 => .inr (0, 301) | 110 => .inr (0, 301) | 111 => .inr (0, 301) | 112 => .inr (0, 301) | 113 => .inr (0, 8) | 114 => .inl 1 | 115 => .inr (0, 8) | 116 => .inr (0, 8) | 117 => .inl 3 | 118 => .inr (1, 80) | _ => .inr (3, 16))
  else bif Nat.ble i 135 then .inl 0
  else bif Nat.ble i 179 then
    (match i with
      | 136 => .inl 9 | 137 => .inr (4, 20) | 158 => .inl 9 | 159 => .inr (4, 20) | _ => .inl 5)
  else
    (match i with
      | 180 => .inl 11 | 181 => .inr (0, 840) | 182 => .inr (0, 160) | 183 => .inr (0, 160) | 184 => .inr (0, 301) | 185 => .inr (0, 60) | 186 => .inr (0, 160) | 187 => .inr (0, 8) | 188 => .inr (0, 301) | 189 => .inr (0, 301) | 190 => .inr (0, 301) | 191 => .inr (0, 144) | 192 => .inr (0, 20) | 193 => .inr (0, 20) | 194 => .inr (0, 20) | 195 => .inr (0, 32) | 196 => .inr (0, 200) | 197 => .inr (2, 1) | _ => .inl 12)
/-- how many slots the k-th cell has; an exception's are 6 -/
def zsz (i : Nat) : Nat := match zkd i with
  | .inl 12 => 6
  | .inl ci => znF ci
  | .inr (_, len) => len
def zS : Nat → Nat
  | 0 => 0
  | n + 1 => zS n + zsz (100 + n)
theorem zS_mono {a : Nat} : ∀ {b : Nat}, a ≤ b → zS a ≤ zS b := by
  intro b
  induction b with
  | zero => intro h; rw [Nat.le_zero.mp h]; exact Nat.le_refl _
  | succ b ih =>
    intro h
    rcases Nat.lt_or_ge b a with q | q
    · have : a = b + 1 := by omega
      subst this; exact Nat.le_refl _
    · exact Nat.le_trans (ih q) (Nat.le_add_right _ _)
def zAd (G : zG) (i : Nat) : Nat := bif Nat.ble 100 i then G.1 + (i - 100) else G.2.1 i
def zV (G : zG) (v : Value) : Value := match v with
  | .ref i => .ref (zAd G i)
  | v => v
def zro (G : zG) (i : Nat) : Option Nat := match i with
  | 0 => none
  | i + 1 => some (zAd G (i + 1))
def zfv (G : zG) (mem : zM) (t : FieldType) (i j : Nat) : Value := match t with
  | .long => .long (mem.2.1 i j)
  | .object _ => va_rf (zro G (mem.2.2 i j))
  | .array _ => va_rf (zro G (mem.2.2 i j))
  | _ => .int (mem.1 i j)
def zac (G : zG) (mem : zM) (t i : Nat) : (Nat → Int32) ⊕ (Nat → Int64) ⊕ (Nat → UInt32) ⊕ (Nat → UInt64) ⊕ (Nat → Option Nat) := match t with
  | 0 => .inl (mem.1 i)
  | 1 => .inl (mem.1 i)
  | 2 => .inr (.inl (mem.2.1 i))
  | _ => .inr (.inr (.inr (.inr fun j => zro G (mem.2.2 i j))))
def zfs (G : zG) (mem : zM) (ci i : Nat) : List Value := (List.range (znF ci)).map fun j => zfv G mem (zty ci j) i j
def zc (G : zG) (mem : zM) (i : Nat) : va_E := match zkd i with
  | .inl ci => .inr (ci, zfs G mem ci i)
  | .inr (t, len) => .inl (G.2.2.2.2 t, len, zac G mem t i)
def zcells (G : zG) (n : Nat) (mem : zM) : va_W := (List.range n).map fun k => (G.1 + k, zc G mem (100 + k))
abbrev zD (G : zG) : va_G := (G.2.2.1, G.2.2.2.1)
def ztys (G : zG) : List (ClassId × FieldType) := [(G.2.2.2.2 0, .int), (G.2.2.2.2 1, .byte), (G.2.2.2.2 2, .long), (G.2.2.2.2 3, .object RX0), (G.2.2.2.2 4, .object RX5), (G.2.2.2.2 5, .object RX8)]
abbrev zA (G : zG) : Nat → Prop := fun q => G.1 ≤ q
theorem zcells_get {G : zG} {n k : Nat} {mem : zM} (h : k < n) : (zcells G n mem)[k]? = some (G.1 + k, zc G mem (100 + k)) := by
  simp [zcells, h]
theorem zcells_len {G : zG} {n : Nat} {mem : zM} : (zcells G n mem).length = n := by simp [zcells]
theorem zcells_D {G : zG} {n : Nat} {mem : zM} : va_D (zA G) (zcells G n mem) := by
  have key : ∀ (k : Nat) (q : Nat × va_E), (zcells G n mem)[k]? = some q → q.1 = G.1 + k := by
    intro k q h
    have hk : k < n := by have := (List.getElem?_eq_some_iff.mp h).1; rwa [zcells_len] at this
    rw [zcells_get hk] at h
    cases h; rfl
  refine ⟨fun i j p q hp hq h => ?_, fun k q hk => ?_⟩
  · have := key i p hp; have := key j q hq; omega
  · show G.1 ≤ q.1
    rw [key k q hk]; omega
theorem zcells_set {G : zG} {n k : Nat} {mem mem' : zM} (hk : k < n) (h : ∀ i, i ≠ 100 + k → zc G mem i = zc G mem' i) : (zcells G n mem).set k (G.1 + k, zc G mem' (100 + k)) = zcells G n mem' := by
  apply List.ext_getElem?
  intro j
  rcases Nat.lt_or_ge j n with hj | hj
  · rw [zcells_get hj]
    by_cases hjk : k = j
    · subst hjk
      rw [List.getElem?_set_self (by rw [zcells_len]; exact hk)]
    · rw [List.getElem?_set_ne hjk, zcells_get hj, h (100 + j) (by omega)]
  · rw [List.getElem?_eq_none (by rw [List.length_set, zcells_len]; exact hj), List.getElem?_eq_none (by rw [zcells_len]; exact hj)]
theorem zcells_push {G : zG} {n : Nat} {mem : zM} : zcells G (n + 1) mem = zcells G n mem ++ [(G.1 + n, zc G mem (100 + n))] := by
  simp [zcells, List.range_succ]
theorem zc_congr {G : zG} {mem mem' : zM} {i : Nat} (h1 : mem.1 i = mem'.1 i) (h2 : mem.2.1 i = mem'.2.1 i) (h3 : mem.2.2 i = mem'.2.2 i) : zc G mem i = zc G mem' i := by
  unfold zc
  split
  · simp [zfs, zfv, h1, h2, h3]
  · simp only [zac, h1, h2, h3]
-- what is written
def zup {α : Type} (f : Nat → Nat → α) (i j : Nat) (v : α) : Nat → Nat → α := fun a b => if a = i then (if b = j then v else f a b) else f a b
def zI (mem : zM) (i j : Nat) (v : Int32) : zM := (zup mem.1 i j v, mem.2.1, mem.2.2)
def zJ (mem : zM) (i j : Nat) (v : Int64) : zM := (mem.1, zup mem.2.1 i j v, mem.2.2)
def zR (mem : zM) (i j : Nat) (v : Nat) : zM := (mem.1, mem.2.1, zup mem.2.2 i j v)
theorem zup_row {α : Type} {f : Nat → Nat → α} {i j a : Nat} {v : α} (h : a ≠ i) : zup f i j v a = f a := by funext b; simp [zup, h]
theorem zI_other {G : zG} {mem : zM} {i j a : Nat} {v : Int32} (h : a ≠ i) : zc G mem a = zc G (zI mem i j v) a := zc_congr (by simp [zI, zup_row h]) rfl rfl
theorem zJ_other {G : zG} {mem : zM} {i j a : Nat} {v : Int64} (h : a ≠ i) : zc G mem a = zc G (zJ mem i j v) a := zc_congr rfl (by simp [zJ, zup_row h]) rfl
theorem zR_other {G : zG} {mem : zM} {i j a : Nat} {v : Nat} (h : a ≠ i) : zc G mem a = zc G (zR mem i j v) a := zc_congr rfl rfl (by simp [zR, zup_row h])
theorem zfs_get {G : zG} {mem : zM} {ci i j : Nat} (hj : j < znF ci) : (zfs G mem ci i)[j]? = some (zfv G mem (zty ci j) i j) := by simp [zfs, hj]
theorem zfs_len {G : zG} {mem : zM} {ci i : Nat} : (zfs G mem ci i).length = znF ci := by simp [zfs]
theorem zfs_set {G : zG} {mem mem' : zM} {ci i j : Nat} {v : Value} (hj : j < znF ci) (hv : zfv G mem' (zty ci j) i j = v) (ho : ∀ k, k ≠ j → zfv G mem (zty ci k) i k = zfv G mem' (zty ci k) i k) : (zfs G mem ci i).set j v = zfs G mem' ci i := by
  apply List.ext_getElem?
  intro k
  rcases Nat.lt_or_ge k (znF ci) with hk | hk
  · rw [zfs_get hk]
    by_cases h : j = k
    · subst h
      rw [List.getElem?_set_self (by rw [zfs_len]; exact hj), hv]
    · rw [List.getElem?_set_ne h, zfs_get hk, ho k (fun q => h q.symm)]
  · rw [List.getElem?_eq_none (by rw [List.length_set, zfs_len]; exact hk), List.getElem?_eq_none (by rw [zfs_len]; exact hk)]
theorem zfv_I {G : zG} {mem : zM} {t : FieldType} {i j k : Nat} {v : Int32} (h : k ≠ j) : zfv G mem t i k = zfv G (zI mem i j v) t i k := by
  unfold zfv; split <;> simp [zI, zup, h]
theorem zfv_J {G : zG} {mem : zM} {t : FieldType} {i j k : Nat} {v : Int64} (h : k ≠ j) : zfv G mem t i k = zfv G (zJ mem i j v) t i k := by
  unfold zfv; split <;> simp [zJ, zup, h]
theorem zfv_R {G : zG} {mem : zM} {t : FieldType} {i j k : Nat} {v : Nat} (h : k ≠ j) : zfv G mem t i k = zfv G (zR mem i j v) t i k := by
  unfold zfv; split <;> simp [zR, zup, h]
-- a cell of ours: live, of a kind
def zis (n i : Nat) (kd : zKd) : Prop := zkd i = kd ∧ 100 ≤ i ∧ i < 100 + n
theorem zis.ad {G : zG} {n i : Nat} {kd : zKd} (h : zis n i kd) : zAd G i = G.1 + (i - 100) := by
  have : Nat.ble 100 i = true := Nat.ble_eq.mpr h.2.1
  simp [zAd, this]
theorem zis.obj {G : zG} {n i ci : Nat} {mem : zM} (h : zis n i (.inl ci)) : (zcells G n mem)[i - 100]? = some (zAd G i, .inr (ci, zfs G mem ci i)) := by
  have h2 := h.2.1; have h3 := h.2.2
  rw [zcells_get (by omega), h.ad, show 100 + (i - 100) = i by omega]
  simp [zc, h.1]
theorem zis.arr {G : zG} {n i t len : Nat} {mem : zM} (h : zis n i (.inr (t, len))) : (zcells G n mem)[i - 100]? = some (zAd G i, .inl (G.2.2.2.2 t, len, zac G mem t i)) := by
  have h2 := h.2.1; have h3 := h.2.2
  rw [zcells_get (by omega), h.ad, show 100 + (i - 100) = i by omega]
  simp [zc, h.1]
theorem zis.setO {G : zG} {n i ci : Nat} {mem mem' : zM} (h : zis n i (.inl ci)) (ho : ∀ a, a ≠ i → zc G mem a = zc G mem' a) : (zcells G n mem).set (i - 100) (zAd G i, .inr (ci, zfs G mem' ci i)) = zcells G n mem' := by
  have h2 := h.2.1; have h3 := h.2.2
  have e : zc G mem' (100 + (i - 100)) = .inr (ci, zfs G mem' ci i) := by rw [show 100 + (i - 100) = i by omega]; simp [zc, h.1]
  rw [h.ad, ← e]
  exact zcells_set (by omega) fun a ha => ho a (by omega)
theorem zis.setA {G : zG} {n i t len : Nat} {mem mem' : zM} (h : zis n i (.inr (t, len))) (ho : ∀ a, a ≠ i → zc G mem a = zc G mem' a) : (zcells G n mem).set (i - 100) (zAd G i, .inl (G.2.2.2.2 t, len, zac G mem' t i)) = zcells G n mem' := by
  have h2 := h.2.1; have h3 := h.2.2
  have e : zc G mem' (100 + (i - 100)) = .inl (G.2.2.2.2 t, len, zac G mem' t i) := by rw [show 100 + (i - 100) = i by omega]; simp [zc, h.1]
  rw [h.ad, ← e]
  exact zcells_set (by omega) fun a ha => ho a (by omega)
theorem zkd_len {i t len : Nat} (h : zkd i = .inr (t, len)) : len ≤ 1000 := by
  unfold zkd at h
  cases h1 : Nat.ble i 119 <;> rw [h1] at h
  · cases h2 : Nat.ble i 135 <;> rw [h2] at h
    · cases h3 : Nat.ble i 179 <;> rw [h3] at h
      · simp only [cond_false] at h
        split at h <;> first | (cases h; omega) | (cases h)
      · simp only [cond_false, cond_true] at h
        split at h <;> first | (cases h; omega) | (cases h)
    · cases h
  · simp only [cond_true] at h
    cases h2 : Nat.ble i 108 <;> rw [h2] at h
    · simp only [cond_false] at h
      split at h <;> first | (cases h; omega) | (cases h)
    · simp only [cond_true] at h
      split at h <;> first | (cases h; omega) | (cases h)
theorem zix {n a t len j : Nat} (h : zis n a (.inr (t, len))) (hj : j < len) : vp_in (nI j) len ∧ (nI j).toNatClampNeg = j := by
  have := zkd_len h.1
  exact ⟨vp_in_nI hj (by omega), nI_clamp (by omega)⟩
-- locals by their places
def zg : List Value → Nat → Value
  | [], _ => .null
  | v :: _, 0 => v
  | _ :: vs, i + 1 => zg vs i
def zs : List Value → Nat → Value → List Value
  | [], _, _ => []
  | _ :: vs, 0, w => w :: vs
  | v :: vs, i + 1, w => v :: zs vs i w
def zL (G : zG) : Nat → List Value → List (Nat × Value)
  | _, [] => []
  | i, v :: vs => match v with
    | .null => zL G (i + 1) vs
    | v => (i, zV G v) :: zL G (i + 1) vs
theorem zL_mem {G : zG} {q : Nat × Value} : ∀ {vs : List Value} {i : Nat}, q ∈ zL G i vs ↔ ∃ j, zg vs j ≠ .null ∧ q = (i + j, zV G (zg vs j)) := by
  intro vs
  induction vs with
  | nil => intro i; simp [zL, zg]
  | cons v vs ih =>
    intro i
    have step : q ∈ zL G (i + 1) vs ↔ ∃ j, zg (v :: vs) (j + 1) ≠ .null ∧ q = (i + (j + 1), zV G (zg (v :: vs) (j + 1))) := by
      rw [ih]
      constructor
      · rintro ⟨j, h1, h2⟩; exact ⟨j, h1, by rw [h2, show i + 1 + j = i + (j + 1) by omega]; rfl⟩
      · rintro ⟨j, h1, h2⟩; exact ⟨j, h1, by rw [h2, show i + 1 + j = i + (j + 1) by omega]; rfl⟩
    by_cases hv : v = .null
    · subst hv
      show q ∈ zL G (i + 1) vs ↔ _
      rw [step]
      constructor
      · rintro ⟨j, h⟩; exact ⟨j + 1, h⟩
      · rintro ⟨j, h1, h2⟩
        cases j with
        | zero => exact absurd rfl h1
        | succ j => exact ⟨j, h1, h2⟩
    · have e : zL G i (v :: vs) = (i, zV G v) :: zL G (i + 1) vs := by cases v <;> first | rfl | exact absurd rfl hv
      rw [e, List.mem_cons, step]
      constructor
      · rintro (h | ⟨j, h⟩)
        · exact ⟨0, hv, h⟩
        · exact ⟨j + 1, h⟩
      · rintro ⟨j, h1, h2⟩
        cases j with
        | zero => exact Or.inl h2
        | succ j => exact Or.inr ⟨j, h1, h2⟩
theorem zg_zs {w : Value} : ∀ {vs : List Value} {i j : Nat}, zg (zs vs i w) j ≠ .null → (j = i ∧ zg (zs vs i w) j = w) ∨ (j ≠ i ∧ zg (zs vs i w) j = zg vs j) := by
  intro vs
  induction vs with
  | nil => intro i j h; exact absurd rfl h
  | cons v vs ih =>
    intro i j h
    cases i with
    | zero =>
      cases j with
      | zero => exact Or.inl ⟨rfl, rfl⟩
      | succ j => exact Or.inr ⟨by omega, rfl⟩
    | succ i =>
      cases j with
      | zero => exact Or.inr ⟨by omega, rfl⟩
      | succ j =>
        rcases ih (i := i) (j := j) h with ⟨a, b⟩ | ⟨a, b⟩
        · exact Or.inl ⟨by omega, b⟩
        · exact Or.inr ⟨by omega, b⟩
theorem zL_at {G : zG} {lsC : Array Slot} {nL : Nat} {ls : List Value} {i : Nat} {v : Value} (h : lv_has lsC nL (zL G 0 ls)) (hv : zg ls i = v) (hn : v ≠ .null) : lsC[i]? = some (.val (zV G v)) := by
  have := h.2.2 (i, zV G v) (zL_mem.mpr ⟨i, by rw [hv]; exact hn, by rw [hv, Nat.zero_add]⟩)
  exact this
/-- the place ahead holds no long -/
def zok (ls : List Value) : Nat → Bool
  | 0 => true
  | i + 1 => Nat.beq (zg ls i).category 1
theorem zV_cat {G : zG} (v : Value) : (zV G v).category = v.category := by cases v <;> rfl
theorem zL_store {G : zG} {lsC : Array Slot} {nL i : Nat} {ls : List Value} {v : Value} (hk : zok ls i = true) (h : lv_has lsC nL ((i, zV G v) :: (zL G 0 ls).filter (fun q => !(q.1 == i) && !(q.1 + 1 == i && q.2.category == 2)))) : lv_has lsC nL (zL G 0 (zs ls i v)) := by
  refine ⟨h.1, h.2.1, fun q hq => ?_⟩
  obtain ⟨j, h1, h2⟩ := zL_mem.mp hq
  rcases zg_zs h1 with ⟨a, b⟩ | ⟨a, b⟩
  · rw [h2, b, a]; simpa using h.2.2 _ List.mem_cons_self
  · rw [b] at h1 h2
    refine h.2.2 q (List.mem_cons_of_mem _ (List.mem_filter.mpr ⟨zL_mem.mpr ⟨j, h1, h2⟩, ?_⟩))
    subst h2
    have hji : (0 + j == i) = false := by simpa using a
    simp only [hji, Bool.not_false, Bool.true_and, Bool.not_eq_true', Bool.and_eq_false_iff]
    by_cases hj : 0 + j + 1 = i
    · right
      have : i = j + 1 := by omega
      subst this
      have hc : (zg ls j).category = 1 := Nat.eq_of_beq_eq_true hk
      rw [zV_cat, hc]; rfl
    · left; simpa using hj
/-! ===== operations: what an instruction asks of what comes behind it ===== -/
def o_push (v : Value) (nx : Nat) : zOp := fun k ls st n mem => k nx ls (v :: st) n mem
def o_loadI (i nx : Nat) : zOp := fun k ls st n mem => match zg ls i with
  | .int x => k nx ls (.int x :: st) n mem
  | _ => False
def o_loadJ (i nx : Nat) : zOp := fun k ls st n mem => match zg ls i with
  | .long x => k nx ls (.long x :: st) n mem
  | _ => False
def o_loadR (i nx : Nat) : zOp := fun k ls st n mem => match zg ls i with
  | .ref x => k nx ls (.ref x :: st) n mem
  | _ => False
def o_storeI (i nx : Nat) : zOp := fun k ls st n mem => match st with
  | .int x :: st => bif zok ls i then k nx (zs ls i (.int x)) st n mem else False
  | _ => False
def o_storeR (i nx : Nat) : zOp := fun k ls st n mem => match st with
  | .ref x :: st => bif zok ls i then k nx (zs ls i (.ref x)) st n mem else False
  | _ => False
def o_iinc (i : Nat) (d : Int32) (nx : Nat) : zOp := fun k ls st n mem => match zg ls i with
  | .int x => bif zok ls i then k nx (zs ls i (.int (x + d))) st n mem else False
  | _ => False
def o_bin (f : Int32 → Int32 → Int32) (nx : Nat) : zOp := fun k ls st n mem => match st with
  | .int y :: .int x :: st => k nx ls (.int (f x y) :: st) n mem
  | _ => False
def o_div (f : Int32 → Int32 → Int32) (nx : Nat) : zOp := fun k ls st n mem => match st with
  | .int y :: .int x :: st => ¬ y = 0 ∧ k nx ls (.int (f x y) :: st) n mem
  | _ => False
def o_un (f : Int32 → Int32) (nx : Nat) : zOp := fun k ls st n mem => match st with
  | .int x :: st => k nx ls (.int (f x) :: st) n mem
  | _ => False
def o_i2l (nx : Nat) : zOp := fun k ls st n mem => match st with
  | .int x :: st => k nx ls (.long x.toInt64 :: st) n mem
  | _ => False
def o_lbin (f : Int64 → Int64 → Int64) (nx : Nat) : zOp := fun k ls st n mem => match st with
  | .long y :: .long x :: st => k nx ls (.long (f x y) :: st) n mem
  | _ => False
def o_lcmp (nx : Nat) : zOp := fun k ls st n mem => match st with
  | .long y :: .long x :: st => k nx ls (.int (lg_cmp x y) :: st) n mem
  | _ => False
def o_if (q : Int32 → Prop) (tgt nx : Nat) : zOp := fun k ls st n mem => match st with
  | .int x :: st => (q x → k tgt ls st n mem) ∧ (¬ q x → k nx ls st n mem)
  | _ => False
def o_icmp (q : Int32 → Int32 → Prop) (tgt nx : Nat) : zOp := fun k ls st n mem => match st with
  | .int y :: .int x :: st => (q x y → k tgt ls st n mem) ∧ (¬ q x y → k nx ls st n mem)
  | _ => False
def o_goto (tgt : Nat) : zOp := fun k ls st n mem => k tgt ls st n mem
def o_dup (nx : Nat) : zOp := fun k ls st n mem => match st with
  | .int x :: st => k nx ls (.int x :: .int x :: st) n mem
  | .ref x :: st => k nx ls (.ref x :: .ref x :: st) n mem
  | _ => False
def o_dup2 (nx : Nat) : zOp := fun k ls st n mem => match st with
  | .int y :: .ref x :: st => k nx ls (.int y :: .ref x :: .int y :: .ref x :: st) n mem
  | _ => False
def o_dupx1 (nx : Nat) : zOp := fun k ls st n mem => match st with
  | .int y :: .ref x :: st => k nx ls (.int y :: .ref x :: .int y :: st) n mem
  | _ => False
def o_dupx2 (nx : Nat) : zOp := fun k ls st n mem => match st with
  | .int y :: .int z :: .ref x :: st => k nx ls (.int y :: .int z :: .ref x :: .int y :: st) n mem
  | _ => False
def o_pop (nx : Nat) : zOp := fun k ls st n mem => match st with
  | .int _ :: st => k nx ls st n mem
  | .ref _ :: st => k nx ls st n mem
  | _ => False
def o_getI (ci j nx : Nat) : zOp := fun k ls st n mem => match st with
  | .ref i :: st => zis n i (.inl ci) ∧ k nx ls (.int (mem.1 i j) :: st) n mem
  | _ => False
def o_getJ (ci j nx : Nat) : zOp := fun k ls st n mem => match st with
  | .ref i :: st => zis n i (.inl ci) ∧ k nx ls (.long (mem.2.1 i j) :: st) n mem
  | _ => False
def o_getR (ci j nx : Nat) : zOp := fun k ls st n mem => match st with
  | .ref i :: st => zis n i (.inl ci) ∧ ∃ t, mem.2.2 i j = t ∧ t ≠ 0 ∧ k nx ls (.ref t :: st) n mem
  | _ => False
def o_putI (ci j nx : Nat) : zOp := fun k ls st n mem => match st with
  | .int v :: .ref i :: st => zis n i (.inl ci) ∧ k nx ls st n (zI mem i j v)
  | _ => False
def o_putZ (ci j nx : Nat) : zOp := fun k ls st n mem => match st with
  | .int v :: .ref i :: st => (v = 0 ∨ v = 1) ∧ zis n i (.inl ci) ∧ k nx ls st n (zI mem i j v)
  | _ => False
def o_putJ (ci j nx : Nat) : zOp := fun k ls st n mem => match st with
  | .long v :: .ref i :: st => zis n i (.inl ci) ∧ k nx ls st n (zJ mem i j v)
  | _ => False
def o_putR (ci j nx : Nat) : zOp := fun k ls st n mem => match st with
  | .ref (v + 1) :: .ref i :: st => zis n i (.inl ci) ∧ k nx ls st n (zR mem i j (v + 1))
  | _ => False
def o_ald (t : Nat) (nx : Nat) : zOp := fun k ls st n mem => match st with
  | .int i :: .ref a :: st => ∃ len j, zis n a (.inr (t, len)) ∧ i = nI j ∧ j < len ∧ k nx ls (.int (mem.1 a j) :: st) n mem
  | _ => False
def o_aldJ (nx : Nat) : zOp := fun k ls st n mem => match st with
  | .int i :: .ref a :: st => ∃ len j, zis n a (.inr (2, len)) ∧ i = nI j ∧ j < len ∧ k nx ls (.long (mem.2.1 a j) :: st) n mem
  | _ => False
def o_aldR (t : Nat) (nx : Nat) : zOp := fun k ls st n mem => match st with
  | .int i :: .ref a :: st => ∃ len j, zis n a (.inr (t, len)) ∧ i = nI j ∧ j < len ∧ ∃ r, mem.2.2 a j = r ∧ r ≠ 0 ∧ k nx ls (.ref r :: st) n mem
  | _ => False
def o_ast (nx : Nat) : zOp := fun k ls st n mem => match st with
  | .int v :: .int i :: .ref a :: st => ∃ len j, zis n a (.inr (0, len)) ∧ i = nI j ∧ j < len ∧ k nx ls st n (zI mem a j v)
  | _ => False
def o_astB (nx : Nat) : zOp := fun k ls st n mem => match st with
  | .int v :: .int i :: .ref a :: st => ∃ len j, zis n a (.inr (1, len)) ∧ i = nI j ∧ j < len ∧ k nx ls st n (zI mem a j (vp_nar .byte v))
  | _ => False
def o_astJ (nx : Nat) : zOp := fun k ls st n mem => match st with
  | .long v :: .int i :: .ref a :: st => ∃ len j, zis n a (.inr (2, len)) ∧ i = nI j ∧ j < len ∧ k nx ls st n (zJ mem a j v)
  | _ => False
/-- a cell of ours into an array of its class -/
def o_astR (t ci : Nat) (nx : Nat) : zOp := fun k ls st n mem => match st with
  | .ref (v + 1) :: .int i :: .ref a :: st => ∃ len j, zis n a (.inr (t, len)) ∧ i = nI j ∧ j < len ∧ zis n (v + 1) (.inl ci) ∧ k nx ls st n (zR mem a j (v + 1))
  | _ => False
def o_alen (nx : Nat) : zOp := fun k ls st n mem => match st with
  | .ref a :: st => ∃ t len, zis n a (.inr (t, len)) ∧ t < 6 ∧ k nx ls (.int (Int32.ofNat len) :: st) n mem
  | _ => False
