/-! ===== pure rows 41: bits of ints ===== -/
def bi (x : Int32) (i : Nat) : Bool := x.toBitVec.getLsbD i
theorem bi_or (a b : Int32) (i : Nat) : bi (a ||| b) i = (bi a i || bi b i) := by
  unfold bi
  rw [Int32.toBitVec_or, BitVec.getLsbD_or]
theorem bi_and (a b : Int32) (i : Nat) : bi (a &&& b) i = (bi a i && bi b i) := by
  unfold bi
  rw [Int32.toBitVec_and, BitVec.getLsbD_and]
theorem bi_ext {a b : Int32} (h : ∀ i, i < 32 → bi a i = bi b i) : a = b := by
  apply Int32.toBitVec_inj.mp
  apply BitVec.eq_of_getLsbD_eq
  intro i hi
  exact h i hi
theorem bi_0 (i : Nat) : bi 0 i = false := by
  unfold bi
  show (0#32).getLsbD i = false
  simp
theorem bi_hi (x : Int32) {i : Nat} (h : 32 ≤ i) : bi x i = false := BitVec.getLsbD_of_ge _ _ h
theorem bi_lt {x : Int32} {i : Nat} (h : bi x i = true) : i < 32 := by
  apply Nat.not_le.mp
  intro hi
  rw [bi_hi x hi] at h
  cases h
theorem bi_cu : ∀ k : Nat, k < 32 → ((nI k).toUInt32 &&& Int32.toUInt32 31).toNat = k := by decide +kernel
theorem bi_shr (x : Int32) {k : Nat} (hk : k < 32) (i : Nat) : bi (x.toUInt32 >>> ((nI k).toUInt32 &&& Int32.toUInt32 31)).toInt32 i = bi x (k + i) := by
  have e : (x.toUInt32 >>> ((nI k).toUInt32 &&& Int32.toUInt32 31)).toInt32.toBitVec = x.toBitVec >>> k := by
    apply BitVec.eq_of_toNat_eq
    show (x.toUInt32 >>> ((nI k).toUInt32 &&& Int32.toUInt32 31)).toNat = _
    rw [UInt32.toNat_shiftRight, bi_cu k hk, Nat.mod_eq_of_lt hk, BitVec.toNat_ushiftRight]
    rfl
  unfold bi
  rw [e, BitVec.getLsbD_ushiftRight]
theorem bi_b0 (x : Int32) : (x &&& 1) = 0 ↔ bi x 0 = false := by
  constructor
  · intro h
    have t := congrArg (fun z => bi z 0) h
    simp only [bi_and, bi_0] at t
    have e1 : bi 1 0 = true := by decide
    rw [e1, Bool.and_true] at t
    exact t
  · intro h
    apply bi_ext
    intro i hi
    rw [bi_and, bi_0]
    have e1 : bi 1 i = decide (i = 0) := by
      unfold bi
      show (1#32).getLsbD i = _
      rw [BitVec.getLsbD_one]
      by_cases hi0 : i = 0 <;> simp [hi0]
    rw [e1]
    by_cases hi0 : i = 0
    · rw [hi0, h]; rfl
    · simp [hi0]
theorem bi_sh (x : Int32) {k : Nat} (hk : k < 32) : ((x.toUInt32 >>> ((nI k).toUInt32 &&& Int32.toUInt32 31)).toInt32 &&& 1) = 0 ↔ bi x k = false := by
  rw [bi_b0, bi_shr x hk]
  rfl
theorem bi_one : ∀ k : Nat, k < 32 → ((1 : Int32) <<< (nI k &&& 31)).toBitVec = BitVec.twoPow 32 k := by decide +kernel
theorem bi_1 {k : Nat} (hk : k < 32) (i : Nat) : bi ((1 : Int32) <<< (nI k &&& 31)) i = decide (k = i) := by
  unfold bi
  rw [bi_one k hk, BitVec.getLsbD_twoPow]
  by_cases e : k = i
  · subst e; simp [hk]
  · simp [e]
theorem bi_sm : ∀ k : Nat, k < 32 → ((nI k &&& 31).toBitVec.smod 32) = BitVec.ofNat 32 k := by decide +kernel
theorem bi_shl (x : Int32) {k : Nat} (hk : k < 32) {i : Nat} (hi : i < 32) : bi (x <<< (nI k &&& 31)) i = (decide (k ≤ i) && bi x (i - k)) := by
  unfold bi
  rw [Int32.toBitVec_shiftLeft, bi_sm k hk]
  have hk' : (BitVec.ofNat 32 k).toNat = k := Nat.mod_eq_of_lt (by omega)
  rw [BitVec.shiftLeft_eq', hk', BitVec.getLsbD_shiftLeft]
  by_cases h : k ≤ i
  · simp [h, hi, Nat.not_lt.mpr h]
  · simp [h, Nat.lt_of_not_le h]
theorem bi_255 (i : Nat) : bi 255 i = decide (i < 8) := by
  unfold bi
  show (BitVec.ofNat 32 (2 ^ 8 - 1)).getLsbD i = _
  rw [BitVec.getLsbD_ofNat, Nat.testBit_two_pow_sub_one]
  by_cases h : i < 8
  · have : i < 32 := by omega
    simp [h, this]
  · simp [h]
theorem bt_lo (z : Int64) {i : Nat} (hi : i < 32) : bi z.toInt32 i = bt z i := by
  unfold bi bt
  have e : z.toInt32.toBitVec = z.toBitVec.setWidth 32 := by
    apply BitVec.eq_of_toNat_eq
    show (z.toBitVec.signExtend 32).toNat = _
    rw [BitVec.signExtend_eq_setWidth_of_le _ (by decide)]
  rw [e, BitVec.getLsbD_setWidth]
  simp [hi]
theorem bt_shr32 (z : Int64) (i : Nat) : bt (z.toUInt64 >>> ((32 : Int32).toInt64.toUInt64 &&& Int64.toUInt64 63)).toInt64 i = bt z (32 + i) := by
  have h32 : ((32 : Int32).toInt64.toUInt64 &&& Int64.toUInt64 63).toNat = 32 := by decide +kernel
  have e : (z.toUInt64 >>> ((32 : Int32).toInt64.toUInt64 &&& Int64.toUInt64 63)).toInt64.toBitVec = z.toBitVec >>> 32 := by
    apply BitVec.eq_of_toNat_eq
    show (z.toUInt64 >>> ((32 : Int32).toInt64.toUInt64 &&& Int64.toUInt64 63)).toNat = _
    rw [UInt64.toNat_shiftRight, h32, BitVec.toNat_ushiftRight]
    rfl
  unfold bt
  rw [e, BitVec.getLsbD_ushiftRight]
/-! the program as both must see it -/
/-- a point: a statement, 40 out, 41 failed, 42 stopped -/
def pI (p : Nat) : Int32 := if p < 40 then nI p else if p = 40 then -1 else if p = 41 then -2 else -3
/-- a program, as both must see it: G 0 kinds, 1 variables, 2 callees, 3 what a value may be, 4 where it goes on, 5 entries, 6 owners, 7 statements, 8 procedures -/
def cn (G : Nat → Nat → Nat → Nat) (s v st : Nat) : Bool := G 3 s (2 * st + v) == 1
def okPg (G : Nat → Nat → Nat → Nat) : Prop :=
  G 7 0 0 ≤ 40 ∧ 1 ≤ G 8 0 0 ∧ G 8 0 0 ≤ 6 ∧ (∀ p, p < G 8 0 0 → G 5 p 0 = 40 ∨ (G 5 p 0 < G 7 0 0 ∧ G 6 (G 5 p 0) 0 = p)) ∧
    ∀ s, s < G 7 0 0 → G 0 s 0 ≤ 7 ∧ (G 0 s 0 = 0 → G 1 s 0 < 5) ∧ (G 0 s 0 = 3 → G 2 s 0 < G 8 0 0) ∧ G 6 s 0 < G 8 0 0 ∧ (G 0 s 0 = 3 → ∀ st, cn G s 0 st = false ∧ cn G s 1 st = true) ∧ ∀ v, v < 2 → G 4 s v ≤ 42 ∧ (G 4 s v < 40 → G 4 s v < G 7 0 0 ∧ G 6 (G 4 s v) 0 = G 6 s 0) ∧ (G 0 s 0 = 3 → G 4 s v ≤ 40)
/-- the class's rows of the program: C 0 entries, 1 kinds, 2 callees, 3 on0, 4 on1, 5 owners, 6 variables; the values -/
def cPg (G : Nat → Nat → Nat → Nat) (C : Nat → Nat → Int32) (value : Nat → Int64) : Prop :=
  (∀ p, p < G 8 0 0 → C 0 p = pI (G 5 p 0)) ∧ ∀ s, s < G 7 0 0 → C 1 s = nI (G 0 s 0) ∧ (G 0 s 0 = 0 → C 6 s = nI (G 1 s 0)) ∧ (G 0 s 0 = 3 → C 2 s = nI (G 2 s 0)) ∧ C 5 s = nI (G 6 s 0) ∧ C 3 s = pI (G 4 s 0) ∧ C 4 s = pI (G 4 s 1) ∧ ∀ st, st < 32 → bt (value s) st = cn G s 0 st ∧ bt (value s) (32 + st) = cn G s 1 st
/-- the setting behind a statement -/
def sa (G : Nat → Nat → Nat → Nat) (s v st : Nat) : Nat := if G 0 s 0 = 0 then (if v = 0 then (if st.testBit (G 1 s 0) then st - 2 ^ G 1 s 0 else st) else (if st.testBit (G 1 s 0) then st else st + 2 ^ G 1 s 0)) else st
theorem sa_bits : ∀ b : Nat, b < 5 → ∀ st : Nat, st < 32 → (nI st &&& ((1 : Int32) <<< (nI b &&& 31) ^^^ (-1))) = nI (if st.testBit b then st - 2 ^ b else st) ∧ (nI st ||| (1 : Int32) <<< (nI b &&& 31)) = nI (if st.testBit b then st else st + 2 ^ b) ∧ (if st.testBit b then st - 2 ^ b else st) < 32 ∧ (if st.testBit b then st else st + 2 ^ b) < 32 := by decide +kernel
theorem sa_lt {G : Nat → Nat → Nat → Nat} {s v st : Nat} (hv : G 0 s 0 = 0 → G 1 s 0 < 5) (hst : st < 32) : sa G s v st < 32 := by
  unfold sa
  by_cases h : G 0 s 0 = 0
  · rw [if_pos h]
    obtain ⟨-, -, h3, h4⟩ := sa_bits (G 1 s 0) (hv h) st hst
    by_cases h2 : v = 0
    · rw [if_pos h2]; exact h3
    · rw [if_neg h2]; exact h4
  · rw [if_neg h]; exact hst
theorem c_settingAfter {G : Nat → Nat → Nat → Nat} {C : Nat → Nat → Int32} {value : Nat → Int64} (h : okPg G) (hc : cPg G C value) {s v st : Nat} (hs : s < G 7 0 0) (hv : v < 2) (hst : st < 32) :
    fX3_settingAfter (nI s) (nI st) (nI v) (C 1) (C 6) = some (nI (sa G s v st), ()) := by
  have hS := h.1
  obtain ⟨k0, k1, k2, k3, k4, k5⟩ := h.2.2.2.2 s hs
  obtain ⟨c0, c1, c2, c3, c4, c5, c6⟩ := hc.2 s hs
  have bs := inb_nI (j := s) (n := 40) (by omega) (by decide)
  have ks := nI_clamp (n := s) (by omega)
  have z0 : nI (G 0 s 0) = 0 ↔ G 0 s 0 = 0 := nI_eq (a := G 0 s 0) (b := 0) (by omega) (by decide)
  have z1 : nI v = 0 ↔ v = 0 := nI_eq (a := v) (b := 0) (by omega) (by decide)
  unfold fX3_settingAfter fX3_settingAfter_p38 sa
  simp only [bs, bd, nm, ks, c0, z0, z1]
  by_cases h0 : G 0 s 0 = 0
  · simp only [if_pos h0, c1 h0]
    obtain ⟨q1, q2, q3, q4⟩ := sa_bits (G 1 s 0) (k1 h0) st hst
    by_cases h2 : v = 0
    · simp only [if_pos h2, q1]
    · simp only [if_neg h2, q2]
  · simp only [if_neg h0]
theorem c_pointAfter {G : Nat → Nat → Nat → Nat} {C : Nat → Nat → Int32} {value : Nat → Int64} (h : okPg G) (hc : cPg G C value) {s v : Nat} (hs : s < G 7 0 0) (hv : v < 2) :
    fX3_pointAfter (nI s) (nI v) (C 3) (C 4) = some (pI (G 4 s v), ()) := by
  have hS := h.1
  obtain ⟨c0, c1, c2, c3, c4, c5, c6⟩ := hc.2 s hs
  have bs := inb_nI (j := s) (n := 40) (by omega) (by decide)
  have ks := nI_clamp (n := s) (by omega)
  have z1 : nI v = 0 ↔ v = 0 := nI_eq (a := v) (b := 0) (by omega) (by decide)
  unfold fX3_pointAfter fX3_pointAfter_p19
  simp only [bs, bd, nm, ks, z1]
  by_cases h2 : v = 0
  · rw [if_pos h2, c4, h2]
  · have e : v = 1 := by omega
    rw [if_neg h2, c5, e]
theorem c_settingsFor {G : Nat → Nat → Nat → Nat} {C : Nat → Nat → Int32} {value : Nat → Int64} (h : okPg G) (hc : cPg G C value) {s v : Nat} (hs : s < G 7 0 0) (hv : v < 2) :
    ∃ z : Int32, fX3_settingsFor (nI s) (nI v) value = some (z, ()) ∧ ∀ st, st < 32 → bi z st = cn G s v st := by
  have hS := h.1
  obtain ⟨c0, c1, c2, c3, c4, c5, c6⟩ := hc.2 s hs
  have bs := inb_nI (j := s) (n := 40) (by omega) (by decide)
  have ks := nI_clamp (n := s) (by omega)
  have z1 : nI v = 0 ↔ v = 0 := nI_eq (a := v) (b := 0) (by omega) (by decide)
  unfold fX3_settingsFor fX3_settingsFor_p22
  simp only [bs, bd, nm, ks, z1]
  by_cases h2 : v = 0
  · rw [if_pos h2, h2]
    exact ⟨_, rfl, fun st hst => by rw [bt_lo _ hst]; exact (c6 st hst).1⟩
  · have e : v = 1 := by omega
    rw [if_neg h2, e]
    exact ⟨_, rfl, fun st hst => by rw [bt_lo _ hst, bt_shr32]; exact (c6 st hst).2⟩
/-! ===== reached settings ===== -/
def ptD (p st q : Nat) (c e : Nat → Int32) : Prop := (p < 40 → bi (c p) st = true) ∧ (p = 40 → bi (e q) (st % 8) = true)
def okR (c e : Nat → Int32) (f : Int32) (c2 e2 : Nat → Int32) (f2 : Int32) : Prop :=
  ((f = 0 ∨ f = 1) → (f2 = 0 ∨ f2 = 1)) ∧ (∀ j i, bi (c j) i = true → bi (c2 j) i = true) ∧ (∀ j i, bi (e j) i = true → bi (e2 j) i = true) ∧ (f2 = 0 → f = 0 ∧ (∀ j, c2 j = c j) ∧ ∀ j, e2 j = e j) ∧ (f2 ≠ 0 → f ≠ 0 ∨ (∃ j, j < 40 ∧ ¬ c2 j = c j) ∨ ∃ j, j < 6 ∧ ¬ e2 j = e j)
theorem okR_refl (c e : Nat → Int32) (f : Int32) : okR c e f c e f := ⟨id, fun _ _ h => h, fun _ _ h => h, fun h => ⟨h, fun _ => rfl, fun _ => rfl⟩, fun h => Or.inl h⟩
theorem bi_sand {c c1 c2 : Nat → Int32} (m1 : ∀ j i, bi (c j) i = true → bi (c1 j) i = true) (m2 : ∀ j i, bi (c1 j) i = true → bi (c2 j) i = true) {j : Nat} (e : c2 j = c j) : c1 j = c j := by
  apply bi_ext
  intro i _
  cases h1 : bi (c j) i with
  | true => exact m1 j i h1
  | false =>
    cases h2 : bi (c1 j) i with
    | false => rfl
    | true =>
      have h3 := m2 j i h2
      rw [e, h1] at h3
      cases h3
theorem okR_trans {c e c2 e2 c3 e3 : Nat → Int32} {f f2 f3 : Int32} (h1 : okR c e f c2 e2 f2) (h2 : okR c2 e2 f2 c3 e3 f3) : okR c e f c3 e3 f3 := by
  obtain ⟨a1, a2, a3, a4, a5⟩ := h1
  obtain ⟨b1, b2, b3, b4, b5⟩ := h2
  refine ⟨fun h => b1 (a1 h), fun j i h => b2 j i (a2 j i h), fun j i h => b3 j i (a3 j i h), fun h => ?_, fun h => ?_⟩
  · obtain ⟨y1, y2, y3⟩ := b4 h
    obtain ⟨z1, z2, z3⟩ := a4 y1
    exact ⟨z1, fun j => (y2 j).trans (z2 j), fun j => (y3 j).trans (z3 j)⟩
  · rcases b5 h with h | ⟨j, g1, g2⟩ | ⟨j, g1, g2⟩
    · rcases a5 h with h | ⟨j, g1, g2⟩ | ⟨j, g1, g2⟩
      · exact Or.inl h
      · exact Or.inr (Or.inl ⟨j, g1, fun z => g2 (bi_sand a2 b2 z)⟩)
      · exact Or.inr (Or.inr ⟨j, g1, fun z => g2 (bi_sand a3 b3 z)⟩)
    · refine Or.inr (Or.inl ⟨j, g1, fun z => g2 ?_⟩)
      rw [bi_sand a2 b2 z]; exact z
    · refine Or.inr (Or.inr ⟨j, g1, fun z => g2 ?_⟩)
      rw [bi_sand a3 b3 z]; exact z
/-- a part that begins with flag 0, its flag or'ed to f -/
theorem okR_or {c e c2 e2 : Nat → Int32} {f b : Int32} (hf : f = 0 ∨ f = 1) (h : okR c e 0 c2 e2 b) : okR c e f c2 e2 (f ||| b) := by
  obtain ⟨a1, a2, a3, a4, a5⟩ := h
  obtain ⟨o1, o2⟩ := or_bz hf (a1 (Or.inl rfl))
  refine ⟨fun _ => o1, a2, a3, fun h => ?_, fun h => ?_⟩
  · obtain ⟨y1, y2⟩ := o2.mp h
    exact ⟨y1, (a4 y2).2⟩
  · by_cases hf0 : f = 0
    · have hb : b ≠ 0 := fun z => h (o2.mpr ⟨hf0, z⟩)
      rcases a5 hb with z | z
      · exact absurd rfl z
      · exact Or.inr z
    · exact Or.inl hf0
theorem globals_l (a : Int32) : ∃ z : Int32, fX0_globalsOf a = some (z, ()) ∧ ∀ i, bi z i = true ↔ i < 8 ∧ (bi a i = true ∨ bi a (8 + i) = true ∨ bi a (16 + i) = true ∨ bi a (24 + i) = true) := by
  unfold fX0_globalsOf
  refine ⟨_, rfl, fun i => ?_⟩
  have s8 := bi_shr a (k := 8) (by decide) i
  have s16 := bi_shr a (k := 16) (by decide) i
  have s24 := bi_shr a (k := 24) (by decide) i
  have e8 : nI 8 = 8 := rfl
  have e16 : nI 16 = 16 := rfl
  have e24 : nI 24 = 24 := rfl
  rw [e8] at s8
  rw [e16] at s16
  rw [e24] at s24
  rw [bi_and, bi_or, bi_or, bi_or, s8, s16, s24, bi_255]
  simp only [Bool.and_eq_true, Bool.or_eq_true, decide_eq_true_eq]
  constructor
  · rintro ⟨((h | h) | h) | h, h2⟩
    · exact ⟨h2, Or.inl h⟩
    · exact ⟨h2, Or.inr (Or.inl h)⟩
    · exact ⟨h2, Or.inr (Or.inr (Or.inl h))⟩
    · exact ⟨h2, Or.inr (Or.inr (Or.inr h))⟩
  · rintro ⟨h2, h | h | h | h⟩
    · exact ⟨Or.inl (Or.inl (Or.inl h)), h2⟩
    · exact ⟨Or.inl (Or.inl (Or.inr h)), h2⟩
    · exact ⟨Or.inl (Or.inr h), h2⟩
    · exact ⟨Or.inr h, h2⟩
theorem globals_at {a z : Int32} (hz : ∀ i, bi z i = true ↔ i < 8 ∧ (bi a i = true ∨ bi a (8 + i) = true ∨ bi a (16 + i) = true ∨ bi a (24 + i) = true)) {st : Nat} (h : bi a st = true) : bi z (st % 8) = true := by
  have h32 := bi_lt h
  refine (hz _).mpr ⟨by omega, ?_⟩
  have hk : st / 8 = 0 ∨ st / 8 = 1 ∨ st / 8 = 2 ∨ st / 8 = 3 := by omega
  rcases hk with k | k | k | k
  · left; rw [show st % 8 = st by omega]; exact h
  · right; left; rw [show 8 + st % 8 = st by omega]; exact h
  · right; right; left; rw [show 16 + st % 8 = st by omega]; exact h
  · right; right; right; rw [show 24 + st % 8 = st by omega]; exact h
theorem updI_or {c : Nat → Int32} {a j b : Nat} {v : Int32} : bi (upd c a (c a ||| v) j) b = true ↔ bi (c j) b = true ∨ (j = a ∧ bi v b = true) := by
  by_cases e : j = a
  · subst e
    rw [upd_at, bi_or, Bool.or_eq_true]
    exact ⟨fun h => h.imp id (fun k => ⟨rfl, k⟩), fun h => h.imp id (fun k => k.2)⟩
  · rw [upd_ne e]
    exact ⟨Or.inl, fun h => h.elim id (fun k => absurd k.1 e)⟩
theorem pI_lt {p : Nat} (h : p < 40) : pI p = nI p := by unfold pI; rw [if_pos h]
theorem pI_40 : pI 40 = -1 := by decide
theorem pI_41 : pI 41 = -2 := by decide
theorem pI_42 : pI 42 = -3 := by decide
theorem c_reachPoint {p q : Nat} (hp : p ≤ 42) (hq : q < 6) (a : Int32) (c e : Nat → Int32) :
    ∃ (b : Int32) (c2 e2 : Nat → Int32), fX0_reachPoint (pI p) a (nI q) c e = some (b, c2, e2) ∧ okR c e 0 c2 e2 b ∧ ∀ st, bi a st = true → ptD p st q c2 e2 := by
  have bq := inb_nI (j := q) (n := 6) hq (by decide)
  have kq := nI_clamp (n := q) (by omega)
  unfold fX0_reachPoint fX0_reachPoint_p83 fX0_reachPoint_p38
  by_cases h : p < 40
  · have bp := inb_nI (j := p) (n := 40) h (by decide)
    have kp := nI_clamp (n := p) (by omega)
    rw [pI_lt h, if_neg (nI_pos (by omega))]
    simp only [bp, bd, nm, kp, upd_at]
    have main : ∀ b : Int32, (b = 0 ∨ b = 1) → (b = 0 ↔ (c p ||| a) = c p) → okR c e 0 (upd c p (c p ||| a)) e b ∧ ∀ st, bi a st = true → ptD p st q (upd c p (c p ||| a)) e := by
      intro b hb hbe
      refine ⟨⟨fun _ => hb, fun j i h => updI_or.mpr (Or.inl h), fun _ _ h => h, fun h => ⟨rfl, fun j => ?_, fun _ => rfl⟩, fun h => Or.inr (Or.inl ⟨p, by omega, ?_⟩)⟩, fun st hst => ⟨fun _ => updI_or.mpr (Or.inr ⟨rfl, hst⟩), fun z => by omega⟩⟩
      · by_cases ej : j = p
        · rw [ej, upd_at]; exact hbe.mp h
        · exact upd_ne ej
      · rw [upd_at]; exact fun z => h (hbe.mpr z)
    by_cases hz : (c p ||| a) = c p
    · rw [if_pos hz]
      exact ⟨0, _, _, rfl, main 0 (Or.inl rfl) ⟨fun _ => hz, fun _ => rfl⟩⟩
    · rw [if_neg hz]
      exact ⟨1, _, _, rfl, main 1 (Or.inr rfl) ⟨fun z => absurd z n10, fun z => absurd z hz⟩⟩
  · by_cases h40 : p = 40
    · subst h40
      rw [pI_40, if_pos (by decide), if_pos rfl]
      obtain ⟨g, hg1, hg2⟩ := globals_l a
      simp only [bq, bd, nm, kq, hg1, ob_s, upd_at]
      have main : ∀ b : Int32, (b = 0 ∨ b = 1) → (b = 0 ↔ (e q ||| g) = e q) → okR c e 0 c (upd e q (e q ||| g)) b ∧ ∀ st, bi a st = true → ptD 40 st q c (upd e q (e q ||| g)) := by
        intro b hb hbe
        refine ⟨⟨fun _ => hb, fun _ _ h => h, fun j i h => updI_or.mpr (Or.inl h), fun h => ⟨rfl, fun _ => rfl, fun j => ?_⟩, fun h => Or.inr (Or.inr ⟨q, hq, ?_⟩)⟩, fun st hst => ⟨fun z => by omega, fun _ => updI_or.mpr (Or.inr ⟨rfl, globals_at hg2 hst⟩)⟩⟩
        · by_cases ej : j = q
          · rw [ej, upd_at]; exact hbe.mp h
          · exact upd_ne ej
        · rw [upd_at]; exact fun z => h (hbe.mpr z)
      by_cases hz : (e q ||| g) = e q
      · rw [if_pos hz]
        exact ⟨0, _, _, rfl, main 0 (Or.inl rfl) ⟨fun _ => hz, fun _ => rfl⟩⟩
      · rw [if_neg hz]
        exact ⟨1, _, _, rfl, main 1 (Or.inr rfl) ⟨fun z => absurd z n10, fun z => absurd z hz⟩⟩
    · have hneg : pI p < 0 ∧ ¬ pI p = -1 := by
        have : p = 41 ∨ p = 42 := by omega
        rcases this with rfl | rfl <;> decide
      rw [if_pos hneg.1, if_neg hneg.2]
      exact ⟨0, c, e, rfl, okR_refl c e 0, fun st _ => ⟨fun z => absurd z h, fun z => absurd z h40⟩⟩
