/-! ===== pure rows 7: lies ===== -/
/-- the nodes behind: class -/
theorem nb_l {K : Nat → Nat} {c : Nat → Int32} (hK : ∀ i, i < 192 → K i < 65536 ∧ c i = nI (K i)) {N s : Nat} (hN : N < 65536) (hs : s < 12) :
    ∀ (k i n acc : Nat), i + k = 16 → k < n → acc < 65536 → ∃ M, fX6_nodesBehind_l5 c n (nI N) (nI s) (nI acc) (nI i) = some (nI M, ()) ∧ M < 65536 ∧ ∀ b, M.testBit b = true ↔ (acc.testBit b = true ∨ ∃ a, i ≤ a ∧ a < 16 ∧ N.testBit a = true ∧ (K (a * 12 + s)).testBit b = true) := by
  intro k
  induction k with
  | zero =>
    intro i n acc h1 h2 ha
    obtain ⟨n, rfl⟩ : ∃ z, n = z + 1 := ⟨n - 1, by omega⟩
    refine ⟨acc, ?_, ha, fun b => ⟨Or.inl, fun h => h.elim id (fun ⟨a, z1, z2, _⟩ => by omega)⟩⟩
    show fX6_nodesBehind_b5 c _ (nI N) (nI s) (nI acc) (nI i) = _
    unfold fX6_nodesBehind_b5
    have h16 : (16 : Int32) ≤ nI i := nI_le (a := 16) (b := i) (by omega) (by omega)
    rw [if_pos h16]
  | succ k ih =>
    intro i n acc h1 h2 ha
    obtain ⟨n, rfl⟩ : ∃ z, n = z + 1 := ⟨n - 1, by omega⟩
    have h16 : ¬ (16 : Int32) ≤ nI i := nI_ge (a := i) (b := 16) (by omega) (by omega)
    by_cases hb : N.testBit i = true
    · obtain ⟨hk1, hk2⟩ := hK (i * 12 + s) (by omega)
      have hor : acc ||| K (i * 12 + s) < 65536 := Nat.or_lt_two_pow (n := 16) ha hk1
      obtain ⟨M, e, hM, hb2⟩ := ih (i + 1) n (acc ||| K (i * 12 + s)) (by omega) (by omega) hor
      refine ⟨M, ?_, hM, fun b => ?_⟩
      · show fX6_nodesBehind_b5 c _ (nI N) (nI s) (nI acc) (nI i) = _
        unfold fX6_nodesBehind_b5 fX6_nodesBehind_p36
        have i1 : nI i * 12 = nI (i * 12) := pk_mul i 12
        simp only [if_neg h16, nm, nx_val hN (show i < 16 by omega), hb, if_true, if_neg n10, i1, nI_add, inb_nI (j := i * 12 + s) (n := 192) (by omega) (by decide), bd, nI_clamp (n := i * 12 + s) (by omega), hk2, nx_or, nI_1]
        exact e
      · rw [hb2 b, Nat.testBit_or, Bool.or_eq_true]
        constructor
        · rintro ((h | h) | ⟨a, z1, z2, z3, z4⟩)
          · exact Or.inl h
          · exact Or.inr ⟨i, Nat.le_refl _, by omega, hb, h⟩
          · exact Or.inr ⟨a, by omega, z2, z3, z4⟩
        · rintro (h | ⟨a, z1, z2, z3, z4⟩)
          · exact Or.inl (Or.inl h)
          · by_cases e1 : a = i
            · subst e1; exact Or.inl (Or.inr z4)
            · exact Or.inr ⟨a, by omega, z2, z3, z4⟩
    · have hb0 : N.testBit i = false := by simpa using hb
      obtain ⟨M, e, hM, hb2⟩ := ih (i + 1) n acc (by omega) (by omega) ha
      refine ⟨M, ?_, hM, fun b => ?_⟩
      · show fX6_nodesBehind_b5 c _ (nI N) (nI s) (nI acc) (nI i) = _
        unfold fX6_nodesBehind_b5 fX6_nodesBehind_p36
        simp only [if_neg h16, nm, nx_val hN (show i < 16 by omega), hb0, Bool.false_eq_true, if_false, if_true, nI_1]
        exact e
      · rw [hb2 b]
        constructor
        · rintro (h | ⟨a, z1, z2, z3, z4⟩)
          · exact Or.inl h
          · exact Or.inr ⟨a, by omega, z2, z3, z4⟩
        · rintro (h | ⟨a, z1, z2, z3, z4⟩)
          · exact Or.inl h
          · by_cases e1 : a = i
            · subst e1; rw [z3] at hb0; cases hb0
            · exact Or.inr ⟨a, by omega, z2, z3, z4⟩
theorem e_nodesBehind {K : Nat → Nat} {c : Nat → Int32} (hK : ∀ i, i < 192 → K i < 65536 ∧ c i = nI (K i)) {N s : Nat} (hN : N < 65536) (hs : s < 12) :
    ∃ M, fX6_nodesBehind (nI N) (nI s) c = some (nI M, ()) ∧ M < 65536 ∧ ∀ b, M.testBit b = true ↔ ∃ a, a < 16 ∧ N.testBit a = true ∧ (K (a * 12 + s)).testBit b = true := by
  obtain ⟨M, e, hM, hb⟩ := nb_l hK hN hs 16 0 FU 0 (by omega) (FU_gt (by decide)) (by decide)
  refine ⟨M, e, hM, fun b => ?_⟩
  rw [hb b]
  constructor
  · rintro (h | ⟨a, z1, z2, z3, z4⟩)
    · rw [Nat.zero_testBit] at h; cases h
    · exact ⟨a, z2, z3, z4⟩
  · rintro ⟨a, z2, z3, z4⟩
    exact Or.inr ⟨a, Nat.zero_le _, z2, z3, z4⟩
