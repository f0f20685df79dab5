/-! ===== pure rows 6: end ===== -/
theorem nx_val {k j : Nat} (hk : k < 65536) (hj : j < 16) : (((nI k).toUInt32 >>> ((nI j).toUInt32 &&& Int32.toUInt32 31)).toInt32 &&& 1) = if k.testBit j then 1 else 0 := by
  rw [nx_ush hk (by omega)]
  show nI (k >>> j) &&& nI 1 = _
  rw [nx_and, Nat.and_one_is_mod, Nat.testBit_eq_decide_div_mod_eq, Nat.shiftRight_eq_div_pow]
  have h2 : k / 2 ^ j % 2 = 0 ∨ k / 2 ^ j % 2 = 1 := by omega
  rcases h2 with h | h <;> rw [h] <;> decide
theorem xor_lt {a j : Nat} (ha : a < 65536) (hj : j < 16) : a ^^^ 2 ^ j < 65536 := by
  have h1 : 2 ^ j < 2 ^ 16 := Nat.pow_lt_pow_right (by omega) hj
  exact Nat.xor_lt_two_pow (n := 16) ha h1
theorem tb_xor (a j i : Nat) : (a ^^^ 2 ^ j).testBit i = (a.testBit i ^^ decide (j = i)) := by
  rw [Nat.testBit_xor, Nat.testBit_two_pow]
theorem e6_setEnd {E f i : Nat} (hE : E < 65536) (hf : f < 16) (hi : i ≤ 1) (chg : Int32) :
    ∃ E2 chg2, fX6_setEnd (nI f) (nI i) (nI E) chg = some ((if E.testBit f then 1 else 0), nI E2, chg2) ∧ E2 < 65536 ∧ (∀ b, b < 16 → E2.testBit b = if b = f then decide (i = 1) else E.testBit b) ∧ ((chg2 = chg ∧ E2 = E) ∨ chg2 = chg + 1) := by
  unfold fX6_setEnd fX6_setEnd_p36
  simp only [nm, nx_val hE hf]
  by_cases hb : E.testBit f = true
  · simp only [hb, if_true]
    by_cases h1 : i = 1
    · subst h1
      rw [if_pos (by decide)]
      refine ⟨E, chg, rfl, hE, fun b _ => ?_, Or.inl ⟨rfl, rfl⟩⟩
      by_cases e : b = f
      · subst e; simp [hb]
      · simp [e]
    · have h0 : i = 0 := by omega
      subst h0
      rw [if_neg (by decide), nx_one f hf, nx_xor]
      refine ⟨E ^^^ 2 ^ f, chg + 1, rfl, xor_lt hE hf, fun b _ => ?_, Or.inr rfl⟩
      rw [tb_xor]
      by_cases e : b = f
      · subst e; simp [hb]
      · have e2 : ¬ f = b := fun z => e z.symm
        simp [e, e2]
  · have hb0 : E.testBit f = false := by simpa using hb
    simp only [hb0, Bool.false_eq_true, if_false]
    by_cases h1 : i = 0
    · subst h1
      rw [if_pos (by decide)]
      refine ⟨E, chg, rfl, hE, fun b _ => ?_, Or.inl ⟨rfl, rfl⟩⟩
      by_cases e : b = f
      · subst e; simp [hb0]
      · simp [e]
    · have h0 : i = 1 := by omega
      subst h0
      rw [if_neg (by decide), nx_one f hf, nx_xor]
      refine ⟨E ^^^ 2 ^ f, chg + 1, rfl, xor_lt hE hf, fun b _ => ?_, Or.inr rfl⟩
      rw [tb_xor]
      by_cases e : b = f
      · subst e; simp [hb0]
      · have e2 : ¬ f = b := fun z => e z.symm
        simp [e, e2]
theorem lt1_le (a : Int32) : (1 : Int32) < a ↔ ¬ a ≤ 1 := Int32.not_le.symm
theorem pu_end (a0 a1 chg thr known ws : Int32) {E : Nat} {m : Nat → Int32} (hr : relEnds E m) :
    ∃ (r chg2 known2 ws2 : Int32) (E2 : Nat) (m2 : Nat → Int32), fX10_end a0 a1 (nI E) chg = some (r, nI E2, chg2) ∧ fX11_end a0 a1 thr known ws m = some (r, 0, known2, ws2, m2) ∧ relEnds E2 m2 ∧
      ((chg2 = chg ∧ E2 = E ∧ ((known2 = known ∧ ws2 = ws) ∨ (known2 = 0 ∧ ws2 = -1))) ∨ (chg2 = chg + 1 ∧ known2 = 0 ∧ ws2 = -1)) := by
  by_cases h1 : a0 < 0 ∨ 15 < a0
  · have h1' : a0 < 0 ∨ 16 ≤ a0 := h1.imp id (lt_15_16 a0).mp
    refine ⟨-2, chg, known, ws, E, m, ?_, ?_, hr, Or.inl ⟨rfl, rfl, Or.inl ⟨rfl, rfl⟩⟩⟩
    · unfold fX10_end; rw [e_isNode, if_pos h1', ob_s, if_pos rfl]; rfl
    · unfold fX11_end; rw [e_in, if_pos h1, ob_s, if_pos rfl]; rfl
  have h1' : ¬ (a0 < 0 ∨ 16 ≤ a0) := fun k => h1 (k.imp id (lt_15_16 a0).mpr)
  by_cases h2 : a1 < 0 ∨ 1 < a1
  · refine ⟨-2, chg, known, ws, E, m, ?_, ?_, hr, Or.inl ⟨rfl, rfl, Or.inl ⟨rfl, rfl⟩⟩⟩
    · unfold fX10_end; rw [e_isNode, if_neg h1', ob_s, if_neg n10]
      by_cases h3 : a1 < 0
      · rw [if_pos h3]; rfl
      · have h4 : ¬ a1 ≤ 1 := (lt1_le a1).mp (h2.resolve_left h3)
        rw [if_neg h3, if_neg h4]; rfl
    · unfold fX11_end; rw [e_in, if_neg h1, ob_s, if_neg n10, e_in, if_pos h2, ob_s, if_pos rfl]; rfl
  have h20 : ¬ a1 < 0 := fun k => h2 (Or.inl k)
  have h21 : a1 ≤ 1 := Int32.not_lt.mp (fun k => h2 (Or.inr k))
  obtain ⟨f, -, hf, rfl⟩ := rng (l := 0) (h := 15) rfl rfl (by decide) (by omega) h1
  obtain ⟨i, -, hi, rfl⟩ := rng (l := 0) (h := 1) rfl rfl (by decide) (by omega) h2
  obtain ⟨E2, chg2, eC, hE2, hb, hch⟩ := e6_setEnd (f := f) (i := i) hr.1 (by omega) hi chg
  have e10 : fX10_end (nI f) (nI i) (nI E) chg = some ((if E.testBit f then 1 else 0), nI E2, chg2) := by
    unfold fX10_end
    rw [e_isNode, if_neg h1', ob_s, if_neg n10, if_neg h20, if_pos h21, eC, ob_s]
  have e11 : fX11_end (nI f) (nI i) thr known ws m = some ((if E.testBit f then 1 else 0), 0, 0, -1, upd m f (if i = 1 then 1 else 0)) := by
    unfold fX11_end
    rw [e_in, if_neg h1, ob_s, if_neg n10, e_in, if_neg h2, ob_s, if_neg n10, inb_nI (n := 16) (by omega) (by decide)]
    simp only [bd, nm, nI_clamp (n := f) (by omega), hr.2 f (by omega)]
    have p41 : ∀ z : Int32, fX11_end_p41 (nI f) (nI i) z 0 known ws m = some (z, 0, 0, -1, upd m f (if i = 1 then 1 else 0)) := by
      intro z
      unfold fX11_end_p41 fX11_end_p57
      have hi2 : i = 0 ∨ i = 1 := by omega
      rcases hi2 with rfl | rfl
      · rw [if_neg (by decide), inb_nI (n := 16) (by omega) (by decide)]
        simp only [bd, nm, nI_clamp (n := f) (by omega), nb0]
        rfl
      · rw [if_pos (by decide), inb_nI (n := 16) (by omega) (by decide)]
        simp only [bd, nm, nI_clamp (n := f) (by omega), nb1]
        rfl
    by_cases hbf : E.testBit f = true
    · simp only [hbf, if_true, if_neg n10]; exact p41 1
    · have hb0 : E.testBit f = false := by simpa using hbf
      simp only [hb0, Bool.false_eq_true, if_false, if_true]; exact p41 0
  refine ⟨_, _, _, _, E2, _, e10, e11, ⟨hE2, fun b hb9 => ?_⟩, ?_⟩
  · rw [hb b hb9]
    by_cases e : b = f
    · subst e; simp [upd]
    · simp only [upd, if_neg e]; exact hr.2 b hb9
  · rcases hch with ⟨c1, c2⟩ | c1
    · exact Or.inl ⟨c1, c2, Or.inr ⟨rfl, rfl⟩⟩
    · exact Or.inr ⟨c1, rfl, rfl⟩
