/-! ===== pure rows 2: rule ===== -/
def okRule (p g q n w1 w2 : Int32) : Prop := ¬ (p < 0 ∨ 8 ≤ p) ∧ ¬ (g < 0 ∨ 12 ≤ g) ∧ ¬ (q < 0 ∨ 8 ≤ q) ∧ ¬ (n < 0 ∨ ¬ n ≤ 2) ∧ (¬ n < 1 → ¬ (w1 < 0 ∨ 12 ≤ w1)) ∧ (n = 2 → ¬ (w2 < 0 ∨ 12 ≤ w2))
theorem ob_s {α β : Type} (a : α) (k : α → Option β) : ob (some a) k = k a := rfl
theorem n10 : ¬ (1 : Int32) = 0 := by decide
theorem e6_addRule {R : Nat} (hR : R < 48) (p g q n w1 w2 chg : Int32) (c1 c2 c3 c4 c5 c6 : Nat → Int32) :
    fX6_addRule p g q n w1 w2 (nI R) chg c1 c2 c3 c4 c5 c6 = some (nI R, nI (R + 1), chg + 1, upd c1 R p, upd c2 R g, upd c3 R q, upd c4 R n, upd c5 R (if n < 1 then 0 else w1), upd c6 R (if n = 2 then w2 else 0)) := by
  have e2 : nI R < 48 := nI_lt (a := R) (b := 48) hR (by decide)
  have e4 := inb_nI hR (by decide)
  have e5 := nI_clamp (n := R) (by omega)
  unfold fX6_addRule fX6_addRule_p73 fX6_addRule_p94
  simp only [if_pos e2, e4, bd, nm, e5, nI_1, nI_pred]
  by_cases h1 : n < 1 <;> by_cases h2 : n = 2 <;> simp [h1, h2]
theorem e6_addRule_full (p g q n w1 w2 chg : Int32) (c1 c2 c3 c4 c5 c6 : Nat → Int32) :
    fX6_addRule p g q n w1 w2 (nI 48) chg c1 c2 c3 c4 c5 c6 = some (-3, nI 48, chg, c1, c2, c3, c4, c5, c6) := by
  have e2 : ¬ nI 48 < 48 := by decide
  unfold fX6_addRule
  simp only [if_neg e2]
theorem e10_rule_bad {p g q n w1 w2 : Int32} (h : ¬ okRule p g q n w1 w2) (R chg : Int32) (c2 c3 c4 c5 c6 c7 : Nat → Int32) :
    fX10_rule p g q n w1 w2 R chg c2 c3 c4 c5 c6 c7 = some (-2, R, chg, c2, c3, c4, c5, c6, c7) := by
  unfold fX10_rule fX10_rule_p49 fX10_rule_p63 fX10_rule_p32
  simp only [e_isState, e_isSign, ob]
  by_cases h1 : p < 0 ∨ 8 ≤ p
  · simp only [if_pos h1, if_true]
  simp only [if_neg h1, if_neg n10]
  by_cases h2 : g < 0 ∨ 12 ≤ g
  · simp only [if_pos h2, if_true]
  simp only [if_neg h2, if_neg n10]
  by_cases h3 : q < 0 ∨ 8 ≤ q
  · simp only [if_pos h3, if_true]
  simp only [if_neg h3, if_neg n10]
  by_cases h4 : n < 0
  · simp only [if_pos h4]
  simp only [if_neg h4]
  by_cases h5 : n ≤ 2
  · simp only [if_pos h5]
    by_cases h6 : n < 1
    · simp only [if_pos h6]
      by_cases h7 : n = 2
      · simp only [if_pos h7]
        by_cases h8 : w2 < 0 ∨ 12 ≤ w2
        · simp only [if_pos h8, if_true]
        · exact absurd ⟨h1, h2, h3, fun k => k.elim h4 (fun k => k h5), fun k => absurd h6 k, fun _ => h8⟩ h
      · exact absurd ⟨h1, h2, h3, fun k => k.elim h4 (fun k => k h5), fun k => absurd h6 k, fun k => absurd k h7⟩ h
    · simp only [if_neg h6]
      by_cases h9 : w1 < 0 ∨ 12 ≤ w1
      · simp only [if_pos h9, if_true]
      simp only [if_neg h9, if_neg n10]
      by_cases h7 : n = 2
      · simp only [if_pos h7]
        by_cases h8 : w2 < 0 ∨ 12 ≤ w2
        · simp only [if_pos h8, if_true]
        · exact absurd ⟨h1, h2, h3, fun k => k.elim h4 (fun k => k h5), fun _ => h9, fun _ => h8⟩ h
      · exact absurd ⟨h1, h2, h3, fun k => k.elim h4 (fun k => k h5), fun _ => h9, fun k => absurd k h7⟩ h
  · simp only [if_neg h5]
theorem e10_rule_ok {p g q n w1 w2 : Int32} (h : okRule p g q n w1 w2) (R chg : Int32) (c2 c3 c4 c5 c6 c7 : Nat → Int32) :
    fX10_rule p g q n w1 w2 R chg c2 c3 c4 c5 c6 c7 = ob (fX6_addRule p g q n w1 w2 R chg c2 c3 c4 c5 c6 c7) some := by
  obtain ⟨h1, h2, h3, h4, h5, h6⟩ := h
  have h7 : ¬ n < 0 := fun k => h4 (Or.inl k)
  have h8 : n ≤ 2 := Decidable.byContradiction (fun k => h4 (Or.inr k))
  have b1 : fX10_rule_p66 p g q n w1 w2 R chg c2 c3 c4 c5 c6 c7 = ob (fX6_addRule p g q n w1 w2 R chg c2 c3 c4 c5 c6 c7) some := by
    unfold fX10_rule_p66
    cases fX6_addRule p g q n w1 w2 R chg c2 c3 c4 c5 c6 c7 <;> rfl
  have b2 : fX10_rule_p49 p g q n w1 w2 R chg c2 c3 c4 c5 c6 c7 = ob (fX6_addRule p g q n w1 w2 R chg c2 c3 c4 c5 c6 c7) some := by
    unfold fX10_rule_p49
    by_cases a2 : n = 2
    · rw [if_pos a2, e_isSign, if_neg (h6 a2), ob_s, if_neg n10]; exact b1
    · rw [if_neg a2]; exact b1
  unfold fX10_rule
  rw [e_isState, if_neg h1, ob_s, if_neg n10, e_isSign, if_neg h2, ob_s, if_neg n10, e_isState, if_neg h3, ob_s, if_neg n10, if_neg h7, if_pos h8]
  by_cases a1 : n < 1
  · rw [if_pos a1]; exact b2
  · rw [if_neg a1, e_isSign, if_neg (h5 a1), ob_s, if_neg n10]; exact b2
theorem lt_le1 (n : Int32) : n < 1 ↔ n ≤ 0 := by
  rw [Int32.lt_iff_toInt_lt, Int32.le_iff_toInt_le]
  have h1 : (1 : Int32).toInt = 1 := by decide
  have h2 : (0 : Int32).toInt = 0 := by decide
  omega
theorem e11_rule_ok {p g q n w1 w2 : Int32} (h : okRule p g q n w1 w2) (thr known ws : Int32) {R : Nat} (hR : R < 48) (c1 : Nat → Int32) :
    fX11_rule p g q n w1 w2 thr (nI R) known ws c1 = some (nI R, 0, nI (R + 1), 0, -1, upd (upd (upd (upd (upd (upd c1 (6 * R) p) (6 * R + 1) g) (6 * R + 2) q) (6 * R + 3) n) (6 * R + 4) w1) (6 * R + 5) w2) := by
  have key : fX11_rule_p81 p g q n w1 w2 0 (nI R) known ws c1 = some (nI R, 0, nI (R + 1), 0, -1, upd (upd (upd (upd (upd (upd c1 (6 * R) p) (6 * R + 1) g) (6 * R + 2) q) (6 * R + 3) n) (6 * R + 4) w1) (6 * R + 5) w2) := by
    have e0 : ¬ nI R = 48 := fun k => absurd ((nI_eq (a := R) (b := 48) (by omega) (by decide)).mp k) (by omega)
    have e6 : (6 : Int32) * nI R = nI (6 * R) := pk_mul 6 R
    have a1 : nI (6 * R) + 1 = nI (6 * R + 1) := nI_add _ 1
    have a2 : nI (6 * R) + 2 = nI (6 * R + 2) := nI_add _ 2
    have a3 : nI (6 * R) + 3 = nI (6 * R + 3) := nI_add _ 3
    have a4 : nI (6 * R) + 4 = nI (6 * R + 4) := nI_add _ 4
    have a5 : nI (6 * R) + 5 = nI (6 * R + 5) := nI_add _ 5
    unfold fX11_rule_p81 fX11_forget
    simp only [if_neg e0, nm, e6, a1, a2, a3, a4, a5, nI_1, nI_pred, ob]
    rw [inb_nI (j := 6 * R) (n := 288) (by omega) (by decide), inb_nI (j := 6 * R + 1) (n := 288) (by omega) (by decide), inb_nI (j := 6 * R + 2) (n := 288) (by omega) (by decide), inb_nI (j := 6 * R + 3) (n := 288) (by omega) (by decide), inb_nI (j := 6 * R + 4) (n := 288) (by omega) (by decide), inb_nI (j := 6 * R + 5) (n := 288) (by omega) (by decide)]
    rw [nI_clamp (n := 6 * R) (by omega), nI_clamp (n := 6 * R + 1) (by omega), nI_clamp (n := 6 * R + 2) (by omega), nI_clamp (n := 6 * R + 3) (by omega), nI_clamp (n := 6 * R + 4) (by omega), nI_clamp (n := 6 * R + 5) (by omega)]
    rfl
  have i1 : ¬ (p < 0 ∨ 7 < p) := fun k => h.1 (k.imp id (lt_7_8 p).mp)
  have i2 : ¬ (g < 0 ∨ 11 < g) := fun k => h.2.1 (k.imp id (lt_11_12 g).mp)
  have i3 : ¬ (q < 0 ∨ 7 < q) := fun k => h.2.2.1 (k.imp id (lt_7_8 q).mp)
  have i4 : ¬ (n < 0 ∨ 2 < n) := fun k => h.2.2.2.1 (k.imp id (fun z => Int32.not_le.mpr z))
  have k2 : fX11_rule_p61 p g q n w1 w2 0 (nI R) known ws c1 = fX11_rule_p81 p g q n w1 w2 0 (nI R) known ws c1 := by
    unfold fX11_rule_p61
    by_cases a : n ≤ 1
    · rw [if_pos a]
    · have a2 : n = 2 := by
        have z1 : n ≤ 2 := Decidable.byContradiction (fun k => h.2.2.2.1 (Or.inr k))
        rw [Int32.le_iff_toInt_le] at a z1
        have z2 : (1 : Int32).toInt = 1 := by decide
        have z3 : (2 : Int32).toInt = 2 := by decide
        exact Int32.toInt_inj.mp (by omega)
      have i6 : ¬ (w2 < 0 ∨ 11 < w2) := fun k => h.2.2.2.2.2 a2 (k.imp id (lt_11_12 w2).mp)
      rw [if_neg a, e_in, if_neg i6, ob_s, if_neg n10]
  unfold fX11_rule
  rw [e_in, if_neg i1, ob_s, if_neg n10, e_in, if_neg i2, ob_s, if_neg n10, e_in, if_neg i3, ob_s, if_neg n10, e_in, if_neg i4, ob_s, if_neg n10]
  by_cases a : n ≤ 0
  · rw [if_pos a, k2]; exact key
  · have i5 : ¬ (w1 < 0 ∨ 11 < w1) := fun k => h.2.2.2.2.1 (fun z => a ((lt_le1 n).mp z)) (k.imp id (lt_11_12 w1).mp)
    rw [if_neg a, e_in, if_neg i5, ob_s, if_neg n10, k2]; exact key
