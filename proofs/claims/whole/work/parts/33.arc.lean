theorem nx_and (a b : Nat) : nI a &&& nI b = nI (a &&& b) := by
  apply Int32.toBitVec_inj.1
  show BitVec.ofNat 32 a &&& BitVec.ofNat 32 b = BitVec.ofNat 32 (a &&& b)
  apply BitVec.eq_of_getLsbD_eq
  intro i hi
  simp [hi]
theorem nx_xor (a b : Nat) : nI a ^^^ nI b = nI (a ^^^ b) := by
  apply Int32.toBitVec_inj.1
  show BitVec.ofNat 32 a ^^^ BitVec.ofNat 32 b = BitVec.ofNat 32 (a ^^^ b)
  apply BitVec.eq_of_getLsbD_eq
  intro i hi
  simp [hi]
theorem nx_cnt : ∀ j : Fin 32, (UInt32.ofNat j.val &&& Int32.toUInt32 31).toNat % 32 = j.val := by decide +kernel
theorem nx_ush {k j : Nat} (hk : k < 65536) (hj : j < 32) : ((nI k).toUInt32 >>> ((nI j).toUInt32 &&& Int32.toUInt32 31)).toInt32 = nI (k >>> j) := by
  have hs : k >>> j ≤ k := by
    rw [Nat.shiftRight_eq_div_pow]
    exact Nat.div_le_self _ _
  have e2 : UInt32.ofNat k >>> (UInt32.ofNat j &&& Int32.toUInt32 31) = UInt32.ofNat (k >>> j) := by
    apply UInt32.toNat_inj.1
    have h1 : (UInt32.ofNat k).toNat = k := Nat.mod_eq_of_lt (by omega)
    have h2 : (UInt32.ofNat (k >>> j)).toNat = k >>> j := Nat.mod_eq_of_lt (by omega)
    rw [UInt32.toNat_shiftRight, nx_cnt ⟨j, hj⟩, h1, h2]
  show (UInt32.ofNat k >>> (UInt32.ofNat j &&& Int32.toUInt32 31)).toInt32 = _
  rw [e2]
  rfl
theorem nx_bit {k j : Nat} (hk : k < 65536) (hj : j < 16) : (((nI k).toUInt32 >>> ((nI j).toUInt32 &&& Int32.toUInt32 31)).toInt32 &&& 1) = 0 ↔ k.testBit j = false := by
  rw [nx_ush hk (by omega)]
  show nI (k >>> j) &&& nI 1 = 0 ↔ _
  rw [nx_and, Nat.and_one_is_mod, ← nI_0, nI_eq (by omega) (by omega), Nat.testBit_eq_decide_div_mod_eq, Nat.shiftRight_eq_div_pow, decide_eq_false_iff_not]
  generalize k / 2 ^ j = z
  omega
/-! ===== pure rows 4: bits, arc ===== -/
theorem nx_or (a b : Nat) : nI a ||| nI b = nI (a ||| b) := by
  apply Int32.toBitVec_inj.1
  show BitVec.ofNat 32 a ||| BitVec.ofNat 32 b = BitVec.ofNat 32 (a ||| b)
  apply BitVec.eq_of_getLsbD_eq
  intro i hi
  simp [hi]
theorem nx_one : ∀ j : Nat, j < 16 → (1 : Int32) <<< (nI j &&& 31) = nI (2 ^ j) := by decide +kernel
theorem or_lt {a j : Nat} (ha : a < 65536) (hj : j < 16) : a ||| 2 ^ j < 65536 := by
  have h1 : 2 ^ j < 2 ^ 16 := Nat.pow_lt_pow_right (by omega) hj
  exact Nat.or_lt_two_pow (n := 16) ha h1
theorem tb_or (a j i : Nat) : (a ||| 2 ^ j).testBit i = (a.testBit i || decide (j = i)) := by
  rw [Nat.testBit_or, Nat.testBit_two_pow]
theorem rng {a lo hi : Int32} {l h : Nat} (hl : lo = nI l) (hh : hi = nI h) (hb : h < 2 ^ 31) (hlh : l ≤ h) (k : ¬ (a < lo ∨ hi < a)) : ∃ j : Nat, l ≤ j ∧ j ≤ h ∧ a = nI j := by
  have k1 : ¬ a < lo := fun z => k (Or.inl z)
  have k2 : ¬ hi < a := fun z => k (Or.inr z)
  rw [hl, Int32.lt_iff_toInt_lt, nI_toInt (by omega)] at k1
  rw [hh, Int32.lt_iff_toInt_lt, nI_toInt hb] at k2
  refine ⟨a.toInt.toNat, by omega, by omega, ?_⟩
  apply Int32.toInt_inj.mp
  rw [nI_toInt (by omega)]
  omega
/-- the net: bits of the class, truth values of the reference -/
def relNet (c m : Nat → Int32) : Prop := ∀ i, i < 192 → ∃ k, k < 65536 ∧ c i = nI k ∧ (∀ b, b < 16 → m (16 * i + b) = if k.testBit b then 1 else 0) ∧ ∀ b, b < 8 → k.testBit b = false
theorem pu_arc (a0 a1 a2 chg thr known ws : Int32) {A : Nat} (hA : A ≤ 64) {c m : Nat → Int32} (hr : relNet c m) :
    ∃ (r chg2 known2 ws2 : Int32) (A2 : Nat) (d m2 : Nat → Int32), fX10_arc a0 a1 a2 chg (nI A) c = some (r, chg2, nI A2, d) ∧ fX11_arc a0 a1 a2 thr (nI A) known ws m = some (r, 0, nI A2, known2, ws2, m2) ∧ A2 ≤ 64 ∧ relNet d m2 ∧
      ((chg2 = chg ∧ known2 = known ∧ ws2 = ws ∧ A2 = A ∧ d = c ∧ m2 = m) ∨ (chg2 = chg + 1 ∧ known2 = 0 ∧ ws2 = -1)) := by
  have done : fX10_arc a0 a1 a2 chg (nI A) c = some (-2, chg, nI A, c) → fX11_arc a0 a1 a2 thr (nI A) known ws m = some (-2, 0, nI A, known, ws, m) → ∃ (r chg2 known2 ws2 : Int32) (A2 : Nat) (d m2 : Nat → Int32), fX10_arc a0 a1 a2 chg (nI A) c = some (r, chg2, nI A2, d) ∧ fX11_arc a0 a1 a2 thr (nI A) known ws m = some (r, 0, nI A2, known2, ws2, m2) ∧ A2 ≤ 64 ∧ relNet d m2 ∧
      ((chg2 = chg ∧ known2 = known ∧ ws2 = ws ∧ A2 = A ∧ d = c ∧ m2 = m) ∨ (chg2 = chg + 1 ∧ known2 = 0 ∧ ws2 = -1)) :=
    fun h1 h2 => ⟨_, _, _, _, _, _, _, h1, h2, hA, hr, Or.inl ⟨rfl, rfl, rfl, rfl, rfl, rfl⟩⟩
  by_cases h1 : a0 < 0 ∨ 15 < a0
  · have h1' : a0 < 0 ∨ 16 ≤ a0 := h1.imp id (lt_15_16 a0).mp
    refine done ?_ ?_
    · unfold fX10_arc; rw [e_isNode, if_pos h1', ob_s, if_pos rfl]; rfl
    · unfold fX11_arc; rw [e_in, if_pos h1, ob_s, if_pos rfl]; rfl
  have h1' : ¬ (a0 < 0 ∨ 16 ≤ a0) := fun k => h1 (k.imp id (lt_15_16 a0).mpr)
  by_cases h2 : a1 < 0 ∨ 11 < a1
  · have h2' : a1 < 0 ∨ 12 ≤ a1 := h2.imp id (lt_11_12 a1).mp
    refine done ?_ ?_
    · unfold fX10_arc; rw [e_isNode, if_neg h1', ob_s, if_neg n10, e_isSign, if_pos h2', ob_s, if_pos rfl]; rfl
    · unfold fX11_arc; rw [e_in, if_neg h1, ob_s, if_neg n10, e_in, if_pos h2, ob_s, if_pos rfl]; rfl
  have h2' : ¬ (a1 < 0 ∨ 12 ≤ a1) := fun k => h2 (k.imp id (lt_11_12 a1).mpr)
  by_cases h3 : a2 < 8 ∨ 15 < a2
  · refine done ?_ ?_
    · unfold fX10_arc
      rw [e_isNode, if_neg h1', ob_s, if_neg n10, e_isSign, if_neg h2', ob_s, if_neg n10]
      by_cases h4 : a2 < 0 ∨ 16 ≤ a2
      · rw [e_isNode, if_pos h4, ob_s, if_pos rfl]; rfl
      · rw [e_isNode, if_neg h4, ob_s, if_neg n10]
        have h5 : ¬ 8 ≤ a2 := fun k => h3.elim (fun z => Int32.not_lt.mpr k z) (fun z => h4 (Or.inr ((lt_15_16 a2).mp z)))
        rw [if_neg h5]; rfl
    · unfold fX11_arc; rw [e_in, if_neg h1, ob_s, if_neg n10, e_in, if_neg h2, ob_s, if_neg n10, e_in, if_pos h3, ob_s, if_pos rfl]; rfl
  obtain ⟨f, -, hf, rfl⟩ := rng (l := 0) (h := 15) rfl rfl (by decide) (by omega) h1
  obtain ⟨s, -, hs, rfl⟩ := rng (l := 0) (h := 11) rfl rfl (by decide) (by omega) h2
  obtain ⟨t, ht8, ht, rfl⟩ := rng (l := 8) (h := 15) rfl rfl (by decide) (by omega) h3
  have h4 : ¬ (nI t < 0 ∨ 16 ≤ nI t) := fun k => k.elim (fun z => nI_pos (n := t) (by omega) z) (fun z => absurd ((nI_leI (a := 16) (b := t) (by decide) (by omega)).mp z) (by omega))
  have h5 : (8 : Int32) ≤ nI t := nI_le (a := 8) (b := t) ht8 (by omega)
  obtain ⟨k, hk, ck, mk, lk⟩ := hr (f * 12 + s) (by omega)
  have i1 : nI f * 12 = nI (f * 12) := pk_mul f 12
  have i2 : (192 : Int32) * nI f = nI (192 * f) := pk_mul 192 f
  have i3 : (16 : Int32) * nI s = nI (16 * s) := pk_mul 16 s
  have e10 : fX10_arc (nI f) (nI s) (nI t) chg (nI A) c = ob (fX6_addArc (nI f) (nI s) (nI t) chg (nI A) c) some := by
    unfold fX10_arc
    rw [e_isNode, if_neg h1', ob_s, if_neg n10, e_isSign, if_neg h2', ob_s, if_neg n10, e_isNode, if_neg h4, ob_s, if_neg n10, if_pos h5]
  have hx : 192 * f + 16 * s + t = 16 * (f * 12 + s) + t := by omega
  have mt := mk t (by omega)
  have bit := nx_bit (k := k) (j := t) hk (by omega)
  by_cases hb : k.testBit t = true
  · have hnz : ¬ (((nI k).toUInt32 >>> ((nI t).toUInt32 &&& Int32.toUInt32 31)).toInt32 &&& 1) = 0 := fun z => by rw [bit.mp z] at hb; cases hb
    have eC : fX6_addArc (nI f) (nI s) (nI t) chg (nI A) c = some (nI A, chg, nI A, c) := by
      unfold fX6_addArc
      simp only [nm, i1, nI_add, inb_nI (j := f * 12 + s) (n := 192) (by omega) (by decide), bd, nI_clamp (n := f * 12 + s) (by omega), ck, if_neg hnz]
    have eM : fX11_arc (nI f) (nI s) (nI t) thr (nI A) known ws m = some (nI A, 0, nI A, known, ws, m) := by
      unfold fX11_arc
      rw [e_in, if_neg h1, ob_s, if_neg n10, e_in, if_neg h2, ob_s, if_neg n10, e_in, if_neg h3, ob_s, if_neg n10]
      simp only [nm, i2, i3, nI_add, inb_nI (j := 192 * f + 16 * s + t) (n := 3072) (by omega) (by decide), bd, nI_clamp (n := 192 * f + 16 * s + t) (by omega)]
      rw [hx, mt, if_pos hb, if_neg n10]
    rw [e10, eC]
    exact ⟨_, _, _, _, _, _, _, rfl, eM, hA, hr, Or.inl ⟨rfl, rfl, rfl, rfl, rfl, rfl⟩⟩
  · have hb0 : k.testBit t = false := by simpa using hb
    have hz := bit.mpr hb0
    by_cases hA2 : A = 64
    · subst hA2
      have eC : fX6_addArc (nI f) (nI s) (nI t) chg (nI 64) c = some (-3, chg, nI 64, c) := by
        unfold fX6_addArc
        have n64 : ¬ nI 64 < 64 := by decide
        simp only [nm, i1, nI_add, inb_nI (j := f * 12 + s) (n := 192) (by omega) (by decide), bd, nI_clamp (n := f * 12 + s) (by omega), ck, if_pos hz, if_neg n64]
      have eM : fX11_arc (nI f) (nI s) (nI t) thr (nI 64) known ws m = some (-3, 0, nI 64, known, ws, m) := by
        unfold fX11_arc
        rw [e_in, if_neg h1, ob_s, if_neg n10, e_in, if_neg h2, ob_s, if_neg n10, e_in, if_neg h3, ob_s, if_neg n10]
        have n64 : nI 64 = 64 := by decide
        simp only [nm, i2, i3, nI_add, inb_nI (j := 192 * f + 16 * s + t) (n := 3072) (by omega) (by decide), bd, nI_clamp (n := 192 * f + 16 * s + t) (by omega)]
        rw [hx, mt, if_neg hb, if_pos rfl, if_pos n64]
      rw [e10, eC]
      exact ⟨_, _, _, _, _, _, _, rfl, eM, hA, hr, Or.inl ⟨rfl, rfl, rfl, rfl, rfl, rfl⟩⟩
    · have hA3 : A < 64 := by omega
      have eC : fX6_addArc (nI f) (nI s) (nI t) chg (nI A) c = some (nI (A + 1), chg + 1, nI (A + 1), upd c (f * 12 + s) (nI (k ||| 2 ^ t))) := by
        unfold fX6_addArc
        have lA : nI A < 64 := nI_lt (a := A) (b := 64) hA3 (by decide)
        simp only [nm, i1, nI_add, inb_nI (j := f * 12 + s) (n := 192) (by omega) (by decide), bd, nI_clamp (n := f * 12 + s) (by omega), ck, if_pos hz, if_pos lA, nx_one t (by omega), nx_or, nI_1]
      have eM : fX11_arc (nI f) (nI s) (nI t) thr (nI A) known ws m = some (nI (A + 1), 0, nI (A + 1), 0, -1, upd m (16 * (f * 12 + s) + t) 1) := by
        unfold fX11_arc
        rw [e_in, if_neg h1, ob_s, if_neg n10, e_in, if_neg h2, ob_s, if_neg n10, e_in, if_neg h3, ob_s, if_neg n10]
        have nA : ¬ nI A = 64 := fun z => absurd ((nI_eq (a := A) (b := 64) (by omega) (by decide)).mp z) (by omega)
        simp only [nm, i2, i3, nI_add, inb_nI (j := 192 * f + 16 * s + t) (n := 3072) (by omega) (by decide), bd, nI_clamp (n := 192 * f + 16 * s + t) (by omega)]
        rw [hx, mt, if_neg hb, if_pos rfl, if_neg nA, nI_1]
        rfl
      rw [e10, eC]
      refine ⟨_, _, _, _, _, _, _, rfl, eM, hA3, ?_, Or.inr ⟨rfl, rfl, rfl⟩⟩
      intro i hi
      by_cases e : i = f * 12 + s
      · subst e
        refine ⟨k ||| 2 ^ t, or_lt hk (by omega), by simp [upd], fun b hb9 => ?_, fun b hb9 => by rw [tb_or, lk b hb9, decide_eq_false (by omega)]; rfl⟩
        rw [tb_or]
        by_cases e2 : b = t
        · subst e2; simp [upd]
        · have e3 : ¬ 16 * (f * 12 + s) + b = 16 * (f * 12 + s) + t := by omega
          have e4 : ¬ t = b := fun z => e2 z.symm
          simp only [upd, if_neg e3, mk b hb9, e4, decide_false, Bool.or_false]
      · obtain ⟨k2, hk2, ck2, mk2, lk2⟩ := hr i hi
        refine ⟨k2, hk2, by simp [upd, e, ck2], fun b hb9 => ?_, lk2⟩
        have e3 : ¬ 16 * i + b = 16 * (f * 12 + s) + t := by omega
        simp only [upd, if_neg e3]
        exact mk2 b hb9
