/-! ===== pure rows 33: bits of longs; nodesBehind, addArcs (class) ===== -/
def bt (x : Int64) (i : Nat) : Bool := x.toBitVec.getLsbD i
theorem bt_or (a b : Int64) (i : Nat) : bt (a ||| b) i = (bt a i || bt b i) := by
  unfold bt
  rw [Int64.toBitVec_or, BitVec.getLsbD_or]
theorem bt_and (a b : Int64) (i : Nat) : bt (a &&& b) i = (bt a i && bt b i) := by
  unfold bt
  rw [Int64.toBitVec_and, BitVec.getLsbD_and]
theorem bt_ext {a b : Int64} (h : ∀ i, i < 64 → bt a i = bt b i) : a = b := by
  apply Int64.toBitVec_inj.mp
  apply BitVec.eq_of_getLsbD_eq
  intro i hi
  exact h i hi
theorem bt_0 (i : Nat) : bt 0 i = false := by
  unfold bt
  show (0#64).getLsbD i = false
  simp
theorem bt_hi (x : Int64) {i : Nat} (h : 64 ≤ i) : bt x i = false := BitVec.getLsbD_of_ge _ _ h
theorem bt_one : ∀ k : Nat, k < 64 → ((1 : Int64) <<< ((nI k).toInt64 &&& 63)).toBitVec = BitVec.twoPow 64 k := by decide +kernel
theorem bt_1 {k : Nat} (hk : k < 64) (i : Nat) : bt ((1 : Int64) <<< ((nI k).toInt64 &&& 63)) i = decide (k = i) := by
  unfold bt
  rw [bt_one k hk, BitVec.getLsbD_twoPow]
  by_cases e : k = i
  · subst e; simp [hk]
  · simp [e]
theorem bt_nI {k : Nat} (hk : k < 2 ^ 31) (i : Nat) : bt (nI k).toInt64 i = k.testBit i := by
  rw [nI_l hk]
  unfold bt
  show (BitVec.ofNat 64 k).getLsbD i = _
  rw [BitVec.getLsbD_ofNat]
  by_cases h : i < 64
  · simp [h]
  · simp only [h, decide_false, Bool.false_and]
    exact (Nat.testBit_lt_two_pow (Nat.lt_of_lt_of_le hk (Nat.pow_le_pow_right (by decide) (by omega)))).symm
theorem bt_cu : ∀ k : Nat, k < 64 → ((nI k).toInt64.toUInt64 &&& Int64.toUInt64 63).toNat = k := by decide +kernel
theorem bt_sh {w : Int64} {s : UInt64} {j : Nat} (hj : j < 64) (hs : s.toNat = j) : ((w.toUInt64 >>> s).toInt64 &&& 1) = 0 ↔ bt w j = false := by
  have e : (w.toUInt64 >>> s).toInt64.toBitVec = w.toBitVec >>> j := by
    apply BitVec.eq_of_toNat_eq
    show (w.toUInt64 >>> s).toNat = _
    rw [UInt64.toNat_shiftRight, hs, Nat.mod_eq_of_lt hj, BitVec.toNat_ushiftRight]
    rfl
  unfold bt
  rw [← Int64.toBitVec_inj, Int64.toBitVec_and, e]
  show w.toBitVec >>> j &&& 1#64 = 0#64 ↔ _
  constructor
  · intro h
    have t := congrArg (fun x => x.getLsbD 0) h
    simpa using t
  · intro h
    apply BitVec.eq_of_getLsbD_eq
    intro i hi
    cases i with
    | zero => simp [h]
    | succ i => simp
/-- what lies behind nodes by a sign: some node of the set has the bit -/
theorem c_nodesB (nodes : Int64) {s : Nat} (hs : s < 12) (c : Nat → Int64) :
    Wq (fX5_nodesBehind nodes (nI s) c) (fun r => ∀ i, bt r.1 i = true ↔ ∃ k, k < 64 ∧ bt nodes k = true ∧ bt (c (12 * k + s)) i = true) := by
  obtain ⟨fu, hfu, hg⟩ := fu_any
  unfold fX5_nodesBehind
  rw [hfu]
  have key : ∀ (k j n : Nat) (acc : Int64), j + k = 64 → k < n → (∀ i, bt acc i = true ↔ ∃ k, k < j ∧ bt nodes k = true ∧ bt (c (12 * k + s)) i = true) → Wq (fX5_nodesBehind_l6 c n nodes (nI s) acc (nI j)) (fun r => ∀ i, bt r.1 i = true ↔ ∃ k, k < 64 ∧ bt nodes k = true ∧ bt (c (12 * k + s)) i = true) := by
    intro k
    induction k with
    | zero =>
      intro j n acc g1 g2 ha
      obtain ⟨n, rfl⟩ : ∃ z, n = z + 1 := ⟨n - 1, by omega⟩
      show Wq (fX5_nodesBehind_b6 c _ nodes (nI s) acc (nI j)) _
      unfold fX5_nodesBehind_b6
      have h64 : (64 : Int32) ≤ nI j := nI_le (a := 64) (b := j) (by omega) (by omega)
      rw [if_pos h64]
      have e : j = 64 := by omega
      subst e
      exact Wq_some ha
    | succ k ih =>
      intro j n acc g1 g2 ha
      obtain ⟨n, rfl⟩ : ∃ z, n = z + 1 := ⟨n - 1, by omega⟩
      show Wq (fX5_nodesBehind_b6 c _ nodes (nI s) acc (nI j)) _
      unfold fX5_nodesBehind_b6 fX5_nodesBehind_p41
      have h64 : ¬ (64 : Int32) ≤ nI j := nI_ge (a := j) (b := 64) (by omega) (by omega)
      have i1 : nI j * 12 = nI (12 * j) := by rw [Nat.mul_comm 12 j]; exact pk_mul j 12
      have hb := bt_sh (w := nodes) (show j < 64 by omega) (bt_cu j (by omega))
      rw [if_neg h64, nm_q, nm_q, nm_q]
      refine Wq_if (fun h0 => ?_) (fun h0 => ?_)
      · rw [nm_q, nI_1]
        have hf := hb.mp ((lg_cmp_eq _ _).mp h0)
        refine ih (j + 1) n acc (by omega) (by omega) (fun i => ⟨fun h => ?_, fun h => ?_⟩)
        · obtain ⟨k, h1, h2⟩ := (ha i).mp h
          exact ⟨k, by omega, h2⟩
        · obtain ⟨k, h1, h2, h3⟩ := h
          refine (ha i).mpr ⟨k, ?_, h2, h3⟩
          have : k ≠ j := fun e => by rw [e, hf] at h2; cases h2
          omega
      · have hf : bt nodes j = true := by
          cases hc : bt nodes j with
          | true => rfl
          | false => exact absurd ((lg_cmp_eq _ _).mpr (hb.mpr hc)) h0
        rw [nm_q, i1, nm_q, nI_add, bd_eq _ (inb_nI (j := 12 * j + s) (n := 768) (by omega) (by decide)), nm_q, nI_clamp (n := 12 * j + s) (by omega), nm_q, nm_q, nI_1]
        refine ih (j + 1) n _ (by omega) (by omega) (fun i => ?_)
        rw [bt_or, Bool.or_eq_true, ha i]
        constructor
        · rintro (⟨k, h1, h2⟩ | h)
          · exact ⟨k, by omega, h2⟩
          · exact ⟨j, by omega, hf, h⟩
        · rintro ⟨k, h1, h2, h3⟩
          by_cases e : k = j
          · subst e; exact Or.inr h3
          · exact Or.inl ⟨k, by omega, h2, h3⟩
  exact key 64 0 fu 0 (by omega) (by omega) (fun i => ⟨fun h => (by rw [bt_0] at h; cases h), fun h => (by obtain ⟨k, h1, _⟩ := h; omega)⟩)
theorem c_addArcs {a : Nat} (ha : a < 768) (v : Int64) (c : Nat → Int64) :
    ∃ b : Int32, fX5_addArcs (nI a) v c = some (b, vp_updL c a (c a ||| v)) ∧ (b = 0 ∨ b = 1) ∧ (b = 0 ↔ (c a ||| v) = c a) := by
  unfold fX5_addArcs fX5_addArcs_p35
  have hi := inb_nI (j := a) (n := 768) ha (by decide)
  have hc := nI_clamp (n := a) (by omega)
  have e : vp_updL c a (c a ||| v) a = c a ||| v := by unfold vp_updL; rw [if_pos rfl]
  simp only [hi, bd, nm, hc, e, lg_cmp_eq]
  by_cases h : (c a ||| v) = c a
  · simp only [if_pos h]
    exact ⟨0, rfl, Or.inl rfl, fun _ => h, fun _ => rfl⟩
  · simp only [if_neg h]
    exact ⟨1, rfl, Or.inr rfl, fun k => absurd k n10, fun k => absurd k h⟩
