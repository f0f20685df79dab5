/-! ===== pure rows 41: bits of ints ===== -/
def bi (x : Int32) (i : Nat) : Bool := x.toBitVec.getLsbD i
theorem bi_or (a b : Int32) (i : Nat) : bi (a ||| b) i = (bi a i || bi b i) := by
  unfold bi
  rw [Int32.toBitVec_or, BitVec.getLsbD_or]
theorem bi_and (a b : Int32) (i : Nat) : bi (a &&& b) i = (bi a i && bi b i) := by
  unfold bi
  rw [Int32.toBitVec_and, BitVec.getLsbD_and]
theorem bi_ext {a b : Int32} (h : ∀ i, i < 32 → bi a i = bi b i) : a = b := by
  apply Int32.toBitVec_inj.mp
  apply BitVec.eq_of_getLsbD_eq
  intro i hi
  exact h i hi
theorem bi_0 (i : Nat) : bi 0 i = false := by
  unfold bi
  show (0#32).getLsbD i = false
  simp
theorem bi_hi (x : Int32) {i : Nat} (h : 32 ≤ i) : bi x i = false := BitVec.getLsbD_of_ge _ _ h
theorem bi_lt {x : Int32} {i : Nat} (h : bi x i = true) : i < 32 := by
  apply Nat.not_le.mp
  intro hi
  rw [bi_hi x hi] at h
  cases h
theorem bi_cu : ∀ k : Nat, k < 32 → ((nI k).toUInt32 &&& Int32.toUInt32 31).toNat = k := by decide +kernel
theorem bi_shr (x : Int32) {k : Nat} (hk : k < 32) (i : Nat) : bi (x.toUInt32 >>> ((nI k).toUInt32 &&& Int32.toUInt32 31)).toInt32 i = bi x (k + i) := by
  have e : (x.toUInt32 >>> ((nI k).toUInt32 &&& Int32.toUInt32 31)).toInt32.toBitVec = x.toBitVec >>> k := by
    apply BitVec.eq_of_toNat_eq
    show (x.toUInt32 >>> ((nI k).toUInt32 &&& Int32.toUInt32 31)).toNat = _
    rw [UInt32.toNat_shiftRight, bi_cu k hk, Nat.mod_eq_of_lt hk, BitVec.toNat_ushiftRight]
    rfl
  unfold bi
  rw [e, BitVec.getLsbD_ushiftRight]
theorem bi_b0 (x : Int32) : (x &&& 1) = 0 ↔ bi x 0 = false := by
  constructor
  · intro h
    have t := congrArg (fun z => bi z 0) h
    simp only [bi_and, bi_0] at t
    have e1 : bi 1 0 = true := by decide
    rw [e1, Bool.and_true] at t
    exact t
  · intro h
    apply bi_ext
    intro i hi
    rw [bi_and, bi_0]
    have e1 : bi 1 i = decide (i = 0) := by
      unfold bi
      show (1#32).getLsbD i = _
      rw [BitVec.getLsbD_one]
      by_cases hi0 : i = 0 <;> simp [hi0]
    rw [e1]
    by_cases hi0 : i = 0
    · rw [hi0, h]; rfl
    · simp [hi0]
theorem bi_sh (x : Int32) {k : Nat} (hk : k < 32) : ((x.toUInt32 >>> ((nI k).toUInt32 &&& Int32.toUInt32 31)).toInt32 &&& 1) = 0 ↔ bi x k = false := by
  rw [bi_b0, bi_shr x hk]
  rfl
theorem bi_one : ∀ k : Nat, k < 32 → ((1 : Int32) <<< (nI k &&& 31)).toBitVec = BitVec.twoPow 32 k := by decide +kernel
theorem bi_1 {k : Nat} (hk : k < 32) (i : Nat) : bi ((1 : Int32) <<< (nI k &&& 31)) i = decide (k = i) := by
  unfold bi
  rw [bi_one k hk, BitVec.getLsbD_twoPow]
  by_cases e : k = i
  · subst e; simp [hk]
  · simp [e]
theorem bi_sm : ∀ k : Nat, k < 32 → ((nI k &&& 31).toBitVec.smod 32) = BitVec.ofNat 32 k := by decide +kernel
theorem bi_shl (x : Int32) {k : Nat} (hk : k < 32) {i : Nat} (hi : i < 32) : bi (x <<< (nI k &&& 31)) i = (decide (k ≤ i) && bi x (i - k)) := by
  unfold bi
  rw [Int32.toBitVec_shiftLeft, bi_sm k hk]
  have hk' : (BitVec.ofNat 32 k).toNat = k := Nat.mod_eq_of_lt (by omega)
  rw [BitVec.shiftLeft_eq', hk', BitVec.getLsbD_shiftLeft]
  by_cases h : k ≤ i
  · simp [h, hi, Nat.not_lt.mpr h]
  · simp [h, Nat.lt_of_not_le h]
theorem bi_255 (i : Nat) : bi 255 i = decide (i < 8) := by
  unfold bi
  show (BitVec.ofNat 32 (2 ^ 8 - 1)).getLsbD i = _
  rw [BitVec.getLsbD_ofNat, Nat.testBit_two_pow_sub_one]
  by_cases h : i < 8
  · have : i < 32 := by omega
    simp [h, this]
  · simp [h]
theorem bt_lo (z : Int64) {i : Nat} (hi : i < 32) : bi z.toInt32 i = bt z i := by
  unfold bi bt
  have e : z.toInt32.toBitVec = z.toBitVec.setWidth 32 := by
    apply BitVec.eq_of_toNat_eq
    show (z.toBitVec.signExtend 32).toNat = _
    rw [BitVec.signExtend_eq_setWidth_of_le _ (by decide)]
  rw [e, BitVec.getLsbD_setWidth]
  simp [hi]
theorem bt_shr32 (z : Int64) (i : Nat) : bt (z.toUInt64 >>> ((32 : Int32).toInt64.toUInt64 &&& Int64.toUInt64 63)).toInt64 i = bt z (32 + i) := by
  have h32 : ((32 : Int32).toInt64.toUInt64 &&& Int64.toUInt64 63).toNat = 32 := by decide +kernel
  have e : (z.toUInt64 >>> ((32 : Int32).toInt64.toUInt64 &&& Int64.toUInt64 63)).toInt64.toBitVec = z.toBitVec >>> 32 := by
    apply BitVec.eq_of_toNat_eq
    show (z.toUInt64 >>> ((32 : Int32).toInt64.toUInt64 &&& Int64.toUInt64 63)).toNat = _
    rw [UInt64.toNat_shiftRight, h32, BitVec.toNat_ushiftRight]
    rfl
  unfold bt
  rw [e, BitVec.getLsbD_ushiftRight]
/-! the program as both must see it -/
/-- a point: a statement, 40 out, 41 failed, 42 stopped -/
def pI (p : Nat) : Int32 := if p < 40 then nI p else if p = 40 then -1 else if p = 41 then -2 else -3
/-- S statements, P procedures, kinds, variables, callees, what a value may be, where it goes on, entries, owners -/
def okPg (S P : Nat) (kd vr cl : Nat → Nat) (cn : Nat → Nat → Nat → Bool) (nx : Nat → Nat → Nat) (en ow : Nat → Nat) : Prop :=
  S ≤ 40 ∧ 1 ≤ P ∧ P ≤ 6 ∧ (∀ p, p < P → en p = 40 ∨ (en p < S ∧ ow (en p) = p)) ∧
    ∀ s, s < S → kd s ≤ 7 ∧ (kd s = 0 → vr s < 5) ∧ (kd s = 3 → cl s < P) ∧ ow s < P ∧ (kd s = 3 → ∀ st, cn s 0 st = false ∧ cn s 1 st = true) ∧ ∀ v, v < 2 → nx s v ≤ 42 ∧ (nx s v < 40 → nx s v < S ∧ ow (nx s v) = ow s) ∧ (kd s = 3 → nx s v ≤ 40)
/-- the class's rows of the program -/
def cPg (S P : Nat) (kd vr cl : Nat → Nat) (cn : Nat → Nat → Nat → Bool) (nx : Nat → Nat → Nat) (en ow : Nat → Nat) (entry kind callee on0 on1 owner : Nat → Int32) (value : Nat → Int64) (vari : Nat → Int32) : Prop :=
  (∀ p, p < P → entry p = pI (en p)) ∧ ∀ s, s < S → kind s = nI (kd s) ∧ (kd s = 0 → vari s = nI (vr s)) ∧ (kd s = 3 → callee s = nI (cl s)) ∧ owner s = nI (ow s) ∧ on0 s = pI (nx s 0) ∧ on1 s = pI (nx s 1) ∧ ∀ st, st < 32 → bt (value s) st = cn s 0 st ∧ bt (value s) (32 + st) = cn s 1 st
/-- the setting behind a statement -/
def sa (kd vr : Nat → Nat) (s v st : Nat) : Nat := if kd s = 0 then (if v = 0 then (if st.testBit (vr s) then st - 2 ^ vr s else st) else (if st.testBit (vr s) then st else st + 2 ^ vr s)) else st
theorem sa_bits : ∀ b : Nat, b < 5 → ∀ st : Nat, st < 32 → (nI st &&& ((1 : Int32) <<< (nI b &&& 31) ^^^ (-1))) = nI (if st.testBit b then st - 2 ^ b else st) ∧ (nI st ||| (1 : Int32) <<< (nI b &&& 31)) = nI (if st.testBit b then st else st + 2 ^ b) ∧ (if st.testBit b then st - 2 ^ b else st) < 32 ∧ (if st.testBit b then st else st + 2 ^ b) < 32 := by decide +kernel
theorem sa_lt {kd vr : Nat → Nat} {s v st : Nat} (hv : kd s = 0 → vr s < 5) (hst : st < 32) : sa kd vr s v st < 32 := by
  unfold sa
  by_cases h : kd s = 0
  · rw [if_pos h]
    obtain ⟨-, -, h3, h4⟩ := sa_bits (vr s) (hv h) st hst
    by_cases h2 : v = 0
    · rw [if_pos h2]; exact h3
    · rw [if_neg h2]; exact h4
  · rw [if_neg h]; exact hst
theorem c_settingAfter {S P : Nat} {kd vr cl : Nat → Nat} {cn : Nat → Nat → Nat → Bool} {nx : Nat → Nat → Nat} {en ow : Nat → Nat} {entry kind callee on0 on1 owner vari : Nat → Int32} {value : Nat → Int64} (h : okPg S P kd vr cl cn nx en ow) (hc : cPg S P kd vr cl cn nx en ow entry kind callee on0 on1 owner value vari) {s v st : Nat} (hs : s < S) (hv : v < 2) (hst : st < 32) :
    fX3_settingAfter (nI s) (nI st) (nI v) kind vari = some (nI (sa kd vr s v st), ()) := by
  have hS := h.1
  obtain ⟨k0, k1, k2, k3, k4, k5⟩ := h.2.2.2.2 s hs
  obtain ⟨c0, c1, c2, c3, c4, c5, c6⟩ := hc.2 s hs
  have bs := inb_nI (j := s) (n := 40) (by omega) (by decide)
  have ks := nI_clamp (n := s) (by omega)
  have z0 : nI (kd s) = 0 ↔ kd s = 0 := nI_eq (a := kd s) (b := 0) (by omega) (by decide)
  have z1 : nI v = 0 ↔ v = 0 := nI_eq (a := v) (b := 0) (by omega) (by decide)
  unfold fX3_settingAfter fX3_settingAfter_p38 sa
  simp only [bs, bd, nm, ks, c0, z0, z1]
  by_cases h0 : kd s = 0
  · simp only [if_pos h0, c1 h0]
    obtain ⟨q1, q2, q3, q4⟩ := sa_bits (vr s) (k1 h0) st hst
    by_cases h2 : v = 0
    · simp only [if_pos h2, q1]
    · simp only [if_neg h2, q2]
  · simp only [if_neg h0]
theorem c_pointAfter {S P : Nat} {kd vr cl : Nat → Nat} {cn : Nat → Nat → Nat → Bool} {nx : Nat → Nat → Nat} {en ow : Nat → Nat} {entry kind callee on0 on1 owner vari : Nat → Int32} {value : Nat → Int64} (h : okPg S P kd vr cl cn nx en ow) (hc : cPg S P kd vr cl cn nx en ow entry kind callee on0 on1 owner value vari) {s v : Nat} (hs : s < S) (hv : v < 2) :
    fX3_pointAfter (nI s) (nI v) on0 on1 = some (pI (nx s v), ()) := by
  have hS := h.1
  obtain ⟨c0, c1, c2, c3, c4, c5, c6⟩ := hc.2 s hs
  have bs := inb_nI (j := s) (n := 40) (by omega) (by decide)
  have ks := nI_clamp (n := s) (by omega)
  have z1 : nI v = 0 ↔ v = 0 := nI_eq (a := v) (b := 0) (by omega) (by decide)
  unfold fX3_pointAfter fX3_pointAfter_p19
  simp only [bs, bd, nm, ks, z1]
  by_cases h2 : v = 0
  · rw [if_pos h2, c4, h2]
  · have e : v = 1 := by omega
    rw [if_neg h2, c5, e]
theorem c_settingsFor {S P : Nat} {kd vr cl : Nat → Nat} {cn : Nat → Nat → Nat → Bool} {nx : Nat → Nat → Nat} {en ow : Nat → Nat} {entry kind callee on0 on1 owner vari : Nat → Int32} {value : Nat → Int64} (h : okPg S P kd vr cl cn nx en ow) (hc : cPg S P kd vr cl cn nx en ow entry kind callee on0 on1 owner value vari) {s v : Nat} (hs : s < S) (hv : v < 2) :
    ∃ z : Int32, fX3_settingsFor (nI s) (nI v) value = some (z, ()) ∧ ∀ st, st < 32 → bi z st = cn s v st := by
  have hS := h.1
  obtain ⟨c0, c1, c2, c3, c4, c5, c6⟩ := hc.2 s hs
  have bs := inb_nI (j := s) (n := 40) (by omega) (by decide)
  have ks := nI_clamp (n := s) (by omega)
  have z1 : nI v = 0 ↔ v = 0 := nI_eq (a := v) (b := 0) (by omega) (by decide)
  unfold fX3_settingsFor fX3_settingsFor_p22
  simp only [bs, bd, nm, ks, z1]
  by_cases h2 : v = 0
  · rw [if_pos h2, h2]
    exact ⟨_, rfl, fun st hst => by rw [bt_lo _ hst]; exact (c6 st hst).1⟩
  · have e : v = 1 := by omega
    rw [if_neg h2, e]
    exact ⟨_, rfl, fun st hst => by rw [bt_lo _ hst, bt_shr32]; exact (c6 st hst).2⟩
