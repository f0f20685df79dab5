/-! ===== pure rows 14: the start of the table (class) ===== -/
def x0 (K : Nat → Nat) (j : Nat) : Nat := if (K (j / 16)).testBit (j % 16) then 0 else 536870912
theorem st_l11 {K : Nat → Nat} {c2 : Nat → Int32} (hK : ∀ i, i < 192 → K i < 65536 ∧ c2 i = nI (K i)) (k2 : Int32 → (Nat → Int32) → Option (Nat → Int32)) {a : Nat} (ha : a < 192) :
    ∀ (k i n : Nat) (c : Nat → Int32), i + k = 16 → k < n → ∃ d, fX1_startFromNet_l11 c2 k2 n (nI a) (nI i) c = k2 (nI (a + 1)) d ∧ ∀ j, d j = if 16 * a + i ≤ j ∧ j < 16 * a + 16 then nI (x0 K j) else c j := by
  intro k
  induction k with
  | zero =>
    intro i n c g1 g2
    obtain ⟨n, rfl⟩ : ∃ z, n = z + 1 := ⟨n - 1, by omega⟩
    refine ⟨c, ?_, fun j => by rw [if_neg (by omega)]⟩
    show fX1_startFromNet_b11 c2 k2 _ (nI a) (nI i) c = _
    unfold fX1_startFromNet_b11
    have h16 : (16 : Int32) ≤ nI i := nI_le (a := 16) (b := i) (by omega) (by omega)
    rw [if_pos h16]
    simp only [nm, nI_1]
  | succ k ih =>
    intro i n c g1 g2
    obtain ⟨n, rfl⟩ : ∃ z, n = z + 1 := ⟨n - 1, by omega⟩
    have h16 : ¬ (16 : Int32) ≤ nI i := nI_ge (a := i) (b := 16) (by omega) (by omega)
    obtain ⟨hk1, hk2⟩ := hK a ha
    obtain ⟨d, e, hd⟩ := ih (i + 1) n (upd c (a * 16 + i) (nI (x0 K (16 * a + i)))) (by omega) (by omega)
    have hx : x0 K (16 * a + i) = if (K a).testBit i then 0 else 536870912 := by
      unfold x0
      rw [show (16 * a + i) / 16 = a by omega, show (16 * a + i) % 16 = i by omega]
    refine ⟨d, ?_, fun j => ?_⟩
    · show fX1_startFromNet_b11 c2 k2 _ (nI a) (nI i) c = _
      unfold fX1_startFromNet_b11 fX1_startFromNet_p49
      have i1 : nI a * 16 = nI (a * 16) := pk_mul a 16
      simp only [if_neg h16, nm, i1, nI_add, inb_nI (j := a) (n := 192) ha (by decide), bd, nI_clamp (n := a) (by omega), hk2, nx_val hk1 (show i < 16 by omega), inb_nI (j := a * 16 + i) (n := 3072) (by omega) (by decide), nI_clamp (n := a * 16 + i) (by omega), nI_1]
      rw [hx] at e
      by_cases hb : (K a).testBit i = true
      · simp only [hb, if_true, if_neg n10] at e ⊢
        exact e
      · have hb0 : (K a).testBit i = false := by simpa using hb
        simp only [hb0, Bool.false_eq_true, if_false, if_true] at e ⊢
        exact e
    · rw [hd j]
      by_cases e1 : j = 16 * a + i
      · subst e1
        rw [if_neg (by omega), if_pos (by omega)]
        have e2 : 16 * a + i = a * 16 + i := by omega
        unfold upd
        rw [if_pos e2]
      · have e2 : ¬ j = a * 16 + i := by omega
        by_cases e3 : 16 * a + (i + 1) ≤ j ∧ j < 16 * a + 16
        · rw [if_pos e3, if_pos (by omega)]
        · rw [if_neg e3, if_neg (by omega)]
          unfold upd
          rw [if_neg e2]
theorem st_l2 {K : Nat → Nat} {c2 : Nat → Int32} (hK : ∀ i, i < 192 → K i < 65536 ∧ c2 i = nI (K i)) :
    ∀ (k a n : Nat) (c : Nat → Int32), a + k = 192 → k < n → ∃ d, fX1_startFromNet_l2 c2 n (nI a) c = some d ∧ ∀ j, d j = if 16 * a ≤ j ∧ j < 3072 then nI (x0 K j) else c j := by
  intro k
  induction k with
  | zero =>
    intro a n c g1 g2
    obtain ⟨n, rfl⟩ : ∃ z, n = z + 1 := ⟨n - 1, by omega⟩
    refine ⟨c, ?_, fun j => by rw [if_neg (by omega)]⟩
    show fX1_startFromNet_b2 c2 _ (nI a) c = _
    unfold fX1_startFromNet_b2
    have h : (192 : Int32) ≤ nI a := nI_le (a := 192) (b := a) (by omega) (by omega)
    rw [if_pos h]
  | succ k ih =>
    intro a n c g1 g2
    obtain ⟨n, rfl⟩ : ∃ z, n = z + 1 := ⟨n - 1, by omega⟩
    have h : ¬ (192 : Int32) ≤ nI a := nI_ge (a := a) (b := 192) (by omega) (by omega)
    obtain ⟨d1, e1, h1⟩ := st_l11 hK (fX1_startFromNet_l2 c2 n) (show a < 192 by omega) 16 0 FU c (by omega) (FU_gt (by decide))
    obtain ⟨d, e, hd⟩ := ih (a + 1) n d1 (by omega) (by omega)
    refine ⟨d, ?_, fun j => ?_⟩
    · show fX1_startFromNet_b2 c2 _ (nI a) c = _
      unfold fX1_startFromNet_b2
      rw [if_neg h]
      exact e1.trans e
    · rw [hd j]
      by_cases e3 : 16 * (a + 1) ≤ j ∧ j < 3072
      · rw [if_pos e3, if_pos (by omega)]
      · rw [if_neg e3, h1 j]
        by_cases e4 : 16 * a + 0 ≤ j ∧ j < 16 * a + 16
        · rw [if_pos e4, if_pos (by omega)]
        · rw [if_neg e4, if_neg (by omega)]
theorem e_start {K : Nat → Nat} {c2 : Nat → Int32} (hK : ∀ i, i < 192 → K i < 65536 ∧ c2 i = nI (K i)) (c : Nat → Int32) : ∃ d, fX1_startFromNet c2 c = some d ∧ tb (x0 K) d := by
  obtain ⟨d, e, hd⟩ := st_l2 hK 192 0 FU c (by omega) (FU_gt (by decide))
  refine ⟨d, e, fun j hj => ⟨by rw [hd j, if_pos (by omega)], ?_⟩⟩
  unfold x0
  by_cases h : (K (j / 16)).testBit (j % 16) = true
  · rw [if_pos h]; exact Or.inl (by decide)
  · rw [if_neg h]; exact Or.inr rfl
