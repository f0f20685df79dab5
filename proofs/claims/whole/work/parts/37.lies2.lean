/-! ===== pure rows 8: lies of the reference, and both ===== -/
theorem s_l : ∀ n, n < 32 → ((nI n &&& 31).toBitVec.smod 32).toNat = n := by decide +kernel
theorem nx_valS {k j : Nat} (hk : k < 65536) (hj : j < 16) : ((nI k >>> (nI j &&& 31)) &&& 1) = if k.testBit j then 1 else 0 := by
  rw [pk_shrN (n := k) (by omega) _ j (s_l j (by omega))]
  show nI (k / 2 ^ j) &&& nI 1 = _
  rw [nx_and, Nat.and_one_is_mod, Nat.testBit_eq_decide_div_mod_eq]
  have h2 : k / 2 ^ j % 2 = 0 ∨ k / 2 ^ j % 2 = 1 := by omega
  rcases h2 with h | h <;> rw [h] <;> decide
theorem n01 : ¬ (0 : Int32) = 1 := by decide
theorem l50_l {K : Nat → Nat} {c1 c2 c3 : Nat → Int32} {sz : Int32} (hm : ∀ i, i < 192 → ∀ b, b < 16 → c2 (16 * i + b) = if (K i).testBit b then 1 else 0) {N s q a : Nat} (hN : N < 65536) (hs : s < 12) (hq : q < 30) (hc : c1 q = nI s) (ha : a < 16)
    (k29 : Int32 → Int32 → Int32 → Option (Int32 × Int32)) (k39 : Int32 → Int32 → Int32 → Int32 → Int32 → Option (Int32 × Int32)) (t : Int32) :
    ∀ (k b n acc : Nat), b + k = 16 → k < n → acc < 65536 → ∃ M, fX11_lies_l50 sz c1 c2 c3 k29 k39 n (nI N) (nI q) (nI acc) (nI a) (nI b) t = k39 (nI N) (nI q) (nI M) (nI (a + 1)) t ∧ M < 65536 ∧ ∀ x, M.testBit x = true ↔ (acc.testBit x = true ∨ (b ≤ x ∧ x < 16 ∧ N.testBit a = true ∧ (K (a * 12 + s)).testBit x = true)) := by
  intro k
  induction k with
  | zero =>
    intro b n acc h1 h2 hacc
    obtain ⟨n, rfl⟩ : ∃ z, n = z + 1 := ⟨n - 1, by omega⟩
    refine ⟨acc, ?_, hacc, fun x => ⟨Or.inl, fun h => h.elim id (fun ⟨z1, z2, _⟩ => by omega)⟩⟩
    show fX11_lies_b50 sz c1 c2 c3 k29 k39 _ (nI N) (nI q) (nI acc) (nI a) (nI b) t = _
    unfold fX11_lies_b50
    have h16 : (16 : Int32) ≤ nI b := nI_le (a := 16) (b := b) (by omega) (by omega)
    rw [if_pos h16]
    simp only [nm, nI_1]
  | succ k ih =>
    intro b n acc h1 h2 hacc
    obtain ⟨n, rfl⟩ : ∃ z, n = z + 1 := ⟨n - 1, by omega⟩
    have h16 : ¬ (16 : Int32) ≤ nI b := nI_ge (a := b) (b := 16) (by omega) (by omega)
    have hx : 192 * a + 16 * s + b = 16 * (a * 12 + s) + b := by omega
    have i2 : (192 : Int32) * nI a = nI (192 * a) := pk_mul 192 a
    have i3 : (16 : Int32) * nI s = nI (16 * s) := pk_mul 16 s
    have o0 : ∀ z : Nat, nI z ||| 0 = nI z := fun z => by have h := nx_or z 0; rw [Nat.or_zero] at h; exact h
    by_cases hset : N.testBit a = true ∧ (K (a * 12 + s)).testBit b = true
    · have hor := or_lt hacc (show b < 16 by omega)
      obtain ⟨M, e, hM, hb2⟩ := ih (b + 1) n (acc ||| 2 ^ b) (by omega) (by omega) hor
      refine ⟨M, ?_, hM, fun x => ?_⟩
      · show fX11_lies_b50 sz c1 c2 c3 k29 k39 _ (nI N) (nI q) (nI acc) (nI a) (nI b) t = _
        unfold fX11_lies_b50 fX11_lies_p104
        simp only [if_neg h16, nm, nx_valS hN ha, hset.1, if_true, i2, inb_nI (j := q) (n := 30) hq (by decide), bd, nI_clamp (n := q) (by omega), hc, i3, nI_add, inb_nI (j := 192 * a + 16 * s + b) (n := 3072) (by omega) (by decide), nI_clamp (n := 192 * a + 16 * s + b) (by omega)]
        rw [hx, hm _ (by omega) b (by omega), hset.2]
        simp only [if_true, if_neg n10, nx_one b (by omega), nx_or, nI_1]
        exact e
      · rw [hb2 x, tb_or, Bool.or_eq_true, decide_eq_true_eq]
        constructor
        · rintro ((h | h) | ⟨z1, z2, z3, z4⟩)
          · exact Or.inl h
          · subst h; exact Or.inr ⟨Nat.le_refl _, by omega, hset.1, hset.2⟩
          · exact Or.inr ⟨by omega, z2, z3, z4⟩
        · rintro (h | ⟨z1, z2, z3, z4⟩)
          · exact Or.inl (Or.inl h)
          · by_cases e1 : b = x
            · exact Or.inl (Or.inr e1)
            · exact Or.inr ⟨by omega, z2, z3, z4⟩
    · obtain ⟨M, e, hM, hb2⟩ := ih (b + 1) n acc (by omega) (by omega) hacc
      refine ⟨M, ?_, hM, fun x => ?_⟩
      · show fX11_lies_b50 sz c1 c2 c3 k29 k39 _ (nI N) (nI q) (nI acc) (nI a) (nI b) t = _
        unfold fX11_lies_b50 fX11_lies_p103 fX11_lies_p104
        by_cases hn : N.testBit a = true
        · have hk0 : (K (a * 12 + s)).testBit b = false := by
            cases hh : (K (a * 12 + s)).testBit b with
            | false => rfl
            | true => exact absurd ⟨hn, hh⟩ hset
          simp only [if_neg h16, nm, nx_valS hN ha, hn, if_true, i2, inb_nI (j := q) (n := 30) hq (by decide), bd, nI_clamp (n := q) (by omega), hc, i3, nI_add, inb_nI (j := 192 * a + 16 * s + b) (n := 3072) (by omega) (by decide), nI_clamp (n := 192 * a + 16 * s + b) (by omega)]
          rw [hx, hm _ (by omega) b (by omega), hk0]
          simp only [Bool.false_eq_true, if_false, if_true, o0, nI_1]
          exact e
        · have hn0 : N.testBit a = false := by simpa using hn
          simp only [if_neg h16, nm, nx_valS hN ha, hn0, Bool.false_eq_true, if_false, if_neg n01, o0, nI_1]
          exact e
      · rw [hb2 x]
        constructor
        · rintro (h | ⟨z1, z2, z3, z4⟩)
          · exact Or.inl h
          · exact Or.inr ⟨by omega, z2, z3, z4⟩
        · rintro (h | ⟨z1, z2, z3, z4⟩)
          · exact Or.inl h
          · by_cases e1 : b = x
            · subst e1; exact absurd ⟨z3, z4⟩ hset
            · exact Or.inr ⟨by omega, z2, z3, z4⟩
theorem l39_l {K : Nat → Nat} {c1 c2 c3 : Nat → Int32} {sz : Int32} (hm : ∀ i, i < 192 → ∀ b, b < 16 → c2 (16 * i + b) = if (K i).testBit b then 1 else 0) {N s q : Nat} (hN : N < 65536) (hs : s < 12) (hq : q < 30) (hc : c1 q = nI s)
    (k29 : Int32 → Int32 → Int32 → Option (Int32 × Int32)) (t : Int32) :
    ∀ (k a n acc : Nat), a + k = 16 → k < n → acc < 65536 → ∃ M, fX11_lies_l39 sz c1 c2 c3 k29 n (nI N) (nI q) (nI acc) (nI a) t = k29 (nI M) (nI q + (-1)) t ∧ M < 65536 ∧ ∀ x, M.testBit x = true ↔ (acc.testBit x = true ∨ (8 ≤ x ∧ x < 16 ∧ ∃ a2, a ≤ a2 ∧ a2 < 16 ∧ N.testBit a2 = true ∧ (K (a2 * 12 + s)).testBit x = true)) := by
  intro k
  induction k with
  | zero =>
    intro a n acc h1 h2 hacc
    obtain ⟨n, rfl⟩ : ∃ z, n = z + 1 := ⟨n - 1, by omega⟩
    refine ⟨acc, ?_, hacc, fun x => ⟨Or.inl, fun h => h.elim id (fun ⟨_, _, a2, z1, z2, _⟩ => by omega)⟩⟩
    show fX11_lies_b39 sz c1 c2 c3 k29 _ (nI N) (nI q) (nI acc) (nI a) t = _
    unfold fX11_lies_b39
    have h16 : (16 : Int32) ≤ nI a := nI_le (a := 16) (b := a) (by omega) (by omega)
    rw [if_pos h16]
    simp only [nm]
  | succ k ih =>
    intro a n acc h1 h2 hacc
    obtain ⟨n, rfl⟩ : ∃ z, n = z + 1 := ⟨n - 1, by omega⟩
    have h16 : ¬ (16 : Int32) ≤ nI a := nI_ge (a := a) (b := 16) (by omega) (by omega)
    obtain ⟨M1, e1, hM1, hb1⟩ := l50_l (sz := sz) (c3 := c3) hm hN hs hq hc (show a < 16 by omega) k29 (fX11_lies_l39 sz c1 c2 c3 k29 n) t 8 8 FU acc (by omega) (FU_gt (by decide)) hacc
    obtain ⟨M, e, hM, hb2⟩ := ih (a + 1) n M1 (by omega) (by omega) hM1
    refine ⟨M, ?_, hM, fun x => ?_⟩
    · show fX11_lies_b39 sz c1 c2 c3 k29 _ (nI N) (nI q) (nI acc) (nI a) t = _
      unfold fX11_lies_b39
      rw [if_neg h16]
      exact e1.trans e
    · rw [hb2 x, hb1 x]
      constructor
      · rintro ((h | ⟨z1, z2, z3, z4⟩) | ⟨z1, z2, a2, z3, z4, z5, z6⟩)
        · exact Or.inl h
        · exact Or.inr ⟨z1, z2, a, Nat.le_refl _, by omega, z3, z4⟩
        · exact Or.inr ⟨z1, z2, a2, by omega, z4, z5, z6⟩
      · rintro (h | ⟨z1, z2, a2, z3, z4, z5, z6⟩)
        · exact Or.inl (Or.inl h)
        · by_cases e3 : a2 = a
          · subst e3; exact Or.inl (Or.inr ⟨z1, z2, z5, z6⟩)
          · exact Or.inr ⟨z1, z2, a2, by omega, z4, z5, z6⟩
