/-! ===== pure rows 10: type ===== -/
theorem b8 (x : Nat) : (nI x).toInt8 = (nI (x % 256)).toInt8 := by
  apply Int8.toBitVec_inj.1
  show (BitVec.ofNat 32 x).signExtend 8 = (BitVec.ofNat 32 (x % 256)).signExtend 8
  apply BitVec.eq_of_getLsbD_eq
  intro i hi
  rw [show (256 : Nat) = 2 ^ 8 from rfl]
  have h32 : i < 32 := by omega
  rw [BitVec.getLsbD_signExtend, BitVec.getLsbD_signExtend, if_pos h32, if_pos h32, BitVec.getLsbD_ofNat, BitVec.getLsbD_ofNat, Nat.testBit_mod_two_pow]
  simp only [hi, h32, decide_true, Bool.true_and]
theorem l_of (x : Int64) : x = lN x.toBitVec.toNat := by
  apply Int64.toBitVec_inj.1
  show x.toBitVec = BitVec.ofNat 64 x.toBitVec.toNat
  simp
theorem sh8 : ∀ i, i < 8 → (((nI (8 * i)).toInt64 &&& 63).toBitVec.smod 64).toNat = 8 * i ∧ ((nI (8 * i)).toInt64.toUInt64 &&& Int64.toUInt64 63) = UInt64.ofNat (8 * i) := by decide +kernel
theorem by_c (w : Int64) {i : Nat} (hi : i < 8) : ((w.toUInt64 >>> ((nI (8 * i)).toInt64.toUInt64 &&& Int64.toUInt64 63)).toInt64.toInt32.toInt8) = (nI (w.toBitVec.toNat / 2 ^ (8 * i) % 256)).toInt8 := by
  rw [(sh8 i hi).2]
  have e : (w.toUInt64 >>> UInt64.ofNat (8 * i)).toInt64 = lN (w.toBitVec.toNat / 2 ^ (8 * i)) := by
    apply Int64.toBitVec_inj.1
    apply BitVec.eq_of_toNat_eq
    show (w.toUInt64 >>> UInt64.ofNat (8 * i)).toNat = (BitVec.ofNat 64 (w.toBitVec.toNat / 2 ^ (8 * i))).toNat
    rw [UInt64.toNat_shiftRight, BitVec.toNat_ofNat]
    have h1 : (UInt64.ofNat (8 * i)).toNat = 8 * i := Nat.mod_eq_of_lt (by omega)
    have h2 : 8 * i % 64 = 8 * i := Nat.mod_eq_of_lt (by omega)
    have h3 : w.toUInt64.toNat = w.toBitVec.toNat := rfl
    rw [h1, h2, h3, Nat.shiftRight_eq_div_pow]
    exact (Nat.mod_eq_of_lt (Nat.lt_of_le_of_lt (Nat.div_le_self _ _) w.toBitVec.isLt)).symm
  rw [e, lN_i, b8]
theorem m255 : ∀ j, j < 64 → (255#64).getLsbD j = decide (j < 8) := by decide +kernel
theorem by_m (w : Int64) {i : Nat} (hi : i < 8) : ((w >>> ((nI (8 * i)).toInt64 &&& 63)) &&& 255).toInt32 = nI (w.toBitVec.toNat / 2 ^ (8 * i) % 256) := by
  have e : (w >>> ((nI (8 * i)).toInt64 &&& 63)) &&& 255 = lN (w.toBitVec.toNat / 2 ^ (8 * i) % 256) := by
    apply Int64.toBitVec_inj.1
    apply BitVec.eq_of_getLsbD_eq
    intro j hj
    show (w.toBitVec.sshiftRight (((nI (8 * i)).toInt64 &&& 63).toBitVec.smod 64).toNat &&& 255#64).getLsbD j = (BitVec.ofNat 64 (w.toBitVec.toNat / 2 ^ (8 * i) % 2 ^ 8)).getLsbD j
    rw [(sh8 i hi).1, BitVec.getLsbD_and, m255 j hj, BitVec.getLsbD_sshiftRight, BitVec.getLsbD_ofNat, Nat.testBit_mod_two_pow, Nat.testBit_div_two_pow]
    by_cases h8 : j < 8
    · have h9 : 8 * i + j < 64 := by omega
      have h10 : ¬ 64 ≤ j := by omega
      rw [if_pos h9]
      simp only [h8, hj, h10, decide_true, decide_false, Bool.not_false, Bool.true_and, Bool.and_true]
      rw [Nat.add_comm]; rfl
    · simp [h8]
  rw [e, lN_i]
/-- the text: bytes of the class with their sign, of the reference without -/
def relText (n : Nat) (c m : Nat → Int32) : Prop := n ≤ 600 ∧ ∀ j, j < n → ∃ b, b < 256 ∧ m j = nI b ∧ c j = (nI b).toInt8.toInt32
theorem type_l (w : Int64) {N : Nat} (hN : N ≤ 8) : ∀ (k i n z : Nat) (c m : Nat → Int32), i + k = N → k < n → z + k ≤ 600 → relText z c m → ∃ d m2, fX4_addBytes_l18 n w (nI N) (nI i) (nI z) c = some (nI (z + k), nI (z + k), d) ∧ fX11_type_l36 n w (nI N) (nI i) 0 (nI z) m = some (nI (z + k), 0, nI (z + k), m2) ∧ relText (z + k) d m2 := by
  intro k
  induction k with
  | zero =>
    intro i n z c m h1 h2 h3 hr
    obtain ⟨n, rfl⟩ : ∃ z, n = z + 1 := ⟨n - 1, by omega⟩
    have h : nI N ≤ nI i := nI_le (by omega) (by omega)
    refine ⟨c, m, ?_, ?_, hr⟩
    · show fX4_addBytes_b18 _ w (nI N) (nI i) (nI z) c = _
      unfold fX4_addBytes_b18; rw [if_pos h]; rfl
    · show fX11_type_b36 _ w (nI N) (nI i) 0 (nI z) m = _
      unfold fX11_type_b36; rw [if_pos h]; rfl
  | succ k ih =>
    intro i n z c m h1 h2 h3 hr
    obtain ⟨n, rfl⟩ : ∃ z, n = z + 1 := ⟨n - 1, by omega⟩
    have h : ¬ nI N ≤ nI i := nI_ge (by omega) (by omega)
    have hi : i < 8 := by omega
    have hb : w.toBitVec.toNat / 2 ^ (8 * i) % 256 < 256 := Nat.mod_lt _ (by decide)
    have i8 : (8 : Int32) * nI i = nI (8 * i) := pk_mul 8 i
    obtain ⟨d, m2, e1, e2, hr2⟩ := ih (i + 1) n (z + 1) (upd c z (nI (w.toBitVec.toNat / 2 ^ (8 * i) % 256)).toInt8.toInt32) (upd m z (nI (w.toBitVec.toNat / 2 ^ (8 * i) % 256))) (by omega) (by omega) (by omega) ⟨by omega, fun j hj => by
      by_cases e : j = z
      · subst e; exact ⟨_, hb, by simp [upd], by simp [upd]⟩
      · obtain ⟨b, g1, g2, g3⟩ := hr.2 j (by omega)
        exact ⟨b, g1, by simp [upd, e, g2], by simp [upd, e, g3]⟩⟩
    rw [show z + (k + 1) = z + 1 + k by omega]
    refine ⟨d, m2, ?_, ?_, hr2⟩
    · show fX4_addBytes_b18 _ w (nI N) (nI i) (nI z) c = _
      unfold fX4_addBytes_b18
      simp only [if_neg h, nm, i8, by_c w hi, inb_nI (j := z) (n := 600) (by omega) (by decide), bd, nI_clamp (n := z) (by omega), pk_vb, nI_1]
      exact e1
    · show fX11_type_b36 _ w (nI N) (nI i) 0 (nI z) m = _
      unfold fX11_type_b36
      simp only [if_neg h, nm, i8, by_m w hi, inb_nI (j := z) (n := 600) (by omega) (by decide), bd, nI_clamp (n := z) (by omega), nI_1]
      exact e2
theorem lt1_0 (a : Int32) : a < 1 ↔ a ≤ 0 := lt_le1 a
theorem pu_type (w : Int64) (a thr : Int32) {z : Nat} {c m : Nat → Int32} (hr : relText z c m) :
    ∃ (r : Int32) (z2 : Nat) (d m2 : Nat → Int32), fX10_type w a (nI z) c = some (r, nI z2, d) ∧ fX11_type w a thr (nI z) m = some (r, 0, nI z2, m2) ∧ relText z2 d m2 := by
  by_cases h : a < 1 ∨ 8 < a
  · refine ⟨-2, z, c, m, ?_, ?_, hr⟩
    · unfold fX10_type fX10_type_p11
      by_cases h1 : a < 1
      · rw [if_pos h1]
      · have h2 : ¬ a ≤ 8 := Int32.not_le.mpr (h.resolve_left h1)
        rw [if_neg h1, if_neg h2]
    · unfold fX11_type; rw [e_in, if_pos h, ob_s, if_pos rfl]
  · have h1 : ¬ a < 1 := fun k => h (Or.inl k)
    have h2 : a ≤ 8 := Int32.not_lt.mp (fun k => h (Or.inr k))
    obtain ⟨N, hN1, hN, rfl⟩ := rng (l := 1) (h := 8) rfl rfl (by decide) (by omega) h
    by_cases h6 : z + N ≤ 600
    · obtain ⟨d, m2, e1, e2, hr2⟩ := type_l w hN N 0 FU z c m (by omega) (FU_gt (by omega)) h6 hr
      have hle : nI z + nI N ≤ 600 := by rw [nI_add]; exact nI_le (a := z + N) (b := 600) h6 (by decide)
      refine ⟨nI (z + N), z + N, d, m2, ?_, ?_, hr2⟩
      · unfold fX10_type fX4_addBytes
        rw [if_neg h1, if_pos h2]
        simp only [nm, if_pos hle]
        have e1' : fX4_addBytes_l18 FU w (nI N) 0 (nI z) c = _ := e1
        rw [e1', ob_s]
      · unfold fX11_type
        rw [e_in, if_neg h, ob_s, if_neg n10]
        simp only [nm, if_pos hle]
        exact e2
    · have hle : ¬ nI z + nI N ≤ 600 := by
        rw [nI_add]
        have := hr.1
        exact nI_ge (a := 600) (b := z + N) (by omega) (by omega)
      refine ⟨-3, z, c, m, ?_, ?_, hr⟩
      · unfold fX10_type fX4_addBytes
        rw [if_neg h1, if_pos h2]
        simp only [nm, if_neg hle, ob_s]
      · unfold fX11_type
        rw [e_in, if_neg h, ob_s, if_neg n10]
        simp only [nm, if_neg hle]
