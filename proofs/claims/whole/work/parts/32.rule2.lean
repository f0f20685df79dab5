/-! ===== pure rows 3: rule refused by the reference; arc, end, drop ===== -/
theorem two_le (n : Int32) (h0 : ¬ n < 0) (h : n ≤ 2) (h1 : ¬ n ≤ 1) : n = 2 := by
  rw [Int32.le_iff_toInt_le] at h h1
  have z2 : (1 : Int32).toInt = 1 := by decide
  have z3 : (2 : Int32).toInt = 2 := by decide
  exact Int32.toInt_inj.mp (by omega)
theorem n2_1 : ¬ (2 : Int32) ≤ 1 := by decide
theorem e11_rule_bad {p g q n w1 w2 : Int32} (h : ¬ okRule p g q n w1 w2) (thr R known ws : Int32) (c1 : Nat → Int32) :
    fX11_rule p g q n w1 w2 thr R known ws c1 = some (-2, 0, R, known, ws, c1) := by
  unfold fX11_rule
  by_cases h1 : p < 0 ∨ 7 < p
  · rw [e_in, if_pos h1, ob_s, if_pos rfl]; rfl
  rw [e_in, if_neg h1, ob_s, if_neg n10]
  by_cases h2 : g < 0 ∨ 11 < g
  · rw [e_in, if_pos h2, ob_s, if_pos rfl]; rfl
  rw [e_in, if_neg h2, ob_s, if_neg n10]
  by_cases h3 : q < 0 ∨ 7 < q
  · rw [e_in, if_pos h3, ob_s, if_pos rfl]; rfl
  rw [e_in, if_neg h3, ob_s, if_neg n10]
  by_cases h4 : n < 0 ∨ 2 < n
  · rw [e_in, if_pos h4, ob_s, if_pos rfl]; rfl
  rw [e_in, if_neg h4, ob_s, if_neg n10]
  have a1 : ¬ (p < 0 ∨ 8 ≤ p) := fun k => h1 (k.imp id (lt_7_8 p).mpr)
  have a2 : ¬ (g < 0 ∨ 12 ≤ g) := fun k => h2 (k.imp id (lt_11_12 g).mpr)
  have a3 : ¬ (q < 0 ∨ 8 ≤ q) := fun k => h3 (k.imp id (lt_7_8 q).mpr)
  have a40 : ¬ n < 0 := fun k => h4 (Or.inl k)
  have a41 : n ≤ 2 := Int32.not_lt.mp (fun k => h4 (Or.inr k))
  have a4 : ¬ (n < 0 ∨ ¬ n ≤ 2) := fun k => k.elim a40 (fun z => z a41)
  have p61 : (¬ n < 1 → ¬ (w1 < 0 ∨ 12 ≤ w1)) → fX11_rule_p61 p g q n w1 w2 0 R known ws c1 = some (-2, 0, R, known, ws, c1) := by
    intro a5
    unfold fX11_rule_p61
    by_cases b : n ≤ 1
    · refine absurd ⟨a1, a2, a3, a4, a5, fun k => ?_⟩ h
      rw [k] at b; exact absurd b n2_1
    · have b2 := two_le n a40 a41 b
      rw [if_neg b]
      by_cases h6 : w2 < 0 ∨ 11 < w2
      · rw [e_in, if_pos h6, ob_s, if_pos rfl]; rfl
      · exact absurd ⟨a1, a2, a3, a4, a5, fun _ => fun k => h6 (k.imp id (lt_11_12 w2).mpr)⟩ h
  by_cases b : n ≤ 0
  · rw [if_pos b]
    exact p61 (fun k => absurd ((lt_le1 n).mpr b) k)
  · rw [if_neg b]
    by_cases h5 : w1 < 0 ∨ 11 < w1
    · rw [e_in, if_pos h5, ob_s, if_pos rfl]; rfl
    · rw [e_in, if_neg h5, ob_s, if_neg n10]
      exact p61 (fun _ k => h5 (k.imp id (lt_11_12 w1).mpr))
theorem e11_rule_full {p g q n w1 w2 : Int32} (h : okRule p g q n w1 w2) (thr known ws : Int32) (c1 : Nat → Int32) :
    fX11_rule p g q n w1 w2 thr (nI 48) known ws c1 = some (-3, 0, nI 48, known, ws, c1) := by
  have key : fX11_rule_p81 p g q n w1 w2 0 (nI 48) known ws c1 = some (-3, 0, nI 48, known, ws, c1) := by
    unfold fX11_rule_p81
    rw [if_pos (by decide)]
  have i1 : ¬ (p < 0 ∨ 7 < p) := fun k => h.1 (k.imp id (lt_7_8 p).mp)
  have i2 : ¬ (g < 0 ∨ 11 < g) := fun k => h.2.1 (k.imp id (lt_11_12 g).mp)
  have i3 : ¬ (q < 0 ∨ 7 < q) := fun k => h.2.2.1 (k.imp id (lt_7_8 q).mp)
  have i40 : ¬ n < 0 := fun k => h.2.2.2.1 (Or.inl k)
  have i41 : n ≤ 2 := Decidable.byContradiction (fun k => h.2.2.2.1 (Or.inr k))
  have i4 : ¬ (n < 0 ∨ 2 < n) := fun k => k.elim i40 (fun z => Int32.not_lt.mpr i41 z)
  have k2 : fX11_rule_p61 p g q n w1 w2 0 (nI 48) known ws c1 = some (-3, 0, nI 48, known, ws, c1) := by
    unfold fX11_rule_p61
    by_cases a : n ≤ 1
    · rw [if_pos a]; exact key
    · have i6 : ¬ (w2 < 0 ∨ 11 < w2) := fun k => h.2.2.2.2.2 (two_le n i40 i41 a) (k.imp id (lt_11_12 w2).mp)
      rw [if_neg a, e_in, if_neg i6, ob_s, if_neg n10]; exact key
  unfold fX11_rule
  rw [e_in, if_neg i1, ob_s, if_neg n10, e_in, if_neg i2, ob_s, if_neg n10, e_in, if_neg i3, ob_s, if_neg n10, e_in, if_neg i4, ob_s, if_neg n10]
  by_cases a : n ≤ 0
  · rw [if_pos a]; exact k2
  · have i5 : ¬ (w1 < 0 ∨ 11 < w1) := fun k => h.2.2.2.2.1 (fun z => a ((lt_le1 n).mp z)) (k.imp id (lt_11_12 w1).mp)
    rw [if_neg a, e_in, if_neg i5, ob_s, if_neg n10]; exact k2
/-- the rules of class and reference agree -/
def relRules (R : Nat) (c2 c3 c4 c5 c6 c7 m : Nat → Int32) : Prop := R ≤ 48 ∧ ∀ k, k < R → okRule (c2 k) (c3 k) (c4 k) (c5 k) (c6 k) (c7 k) ∧ (c5 k < 1 → c6 k = 0) ∧ (¬ c5 k = 2 → c7 k = 0) ∧ m (6 * k) = c2 k ∧ m (6 * k + 1) = c3 k ∧ m (6 * k + 2) = c4 k ∧ m (6 * k + 3) = c5 k ∧ (¬ c5 k < 1 → m (6 * k + 4) = c6 k) ∧ (c5 k = 2 → m (6 * k + 5) = c7 k)
theorem pu_rule (p g q n w1 w2 chg thr known ws : Int32) {R : Nat} {c2 c3 c4 c5 c6 c7 m : Nat → Int32} (hr : relRules R c2 c3 c4 c5 c6 c7 m) :
    ∃ (r chg2 known2 ws2 : Int32) (R2 : Nat) (d2 d3 d4 d5 d6 d7 m2 : Nat → Int32), fX10_rule p g q n w1 w2 (nI R) chg c2 c3 c4 c5 c6 c7 = some (r, nI R2, chg2, d2, d3, d4, d5, d6, d7) ∧ fX11_rule p g q n w1 w2 thr (nI R) known ws m = some (r, 0, nI R2, known2, ws2, m2) ∧ relRules R2 d2 d3 d4 d5 d6 d7 m2 ∧
      ((chg2 = chg ∧ known2 = known ∧ ws2 = ws ∧ R2 = R ∧ d2 = c2 ∧ d3 = c3 ∧ d4 = c4 ∧ d5 = c5 ∧ d6 = c6 ∧ d7 = c7 ∧ m2 = m) ∨ (chg2 = chg + 1 ∧ known2 = 0 ∧ ws2 = -1 ∧ R2 = R + 1)) := by
  by_cases h : okRule p g q n w1 w2
  · by_cases hR : R < 48
    · have eC := e10_rule_ok h (nI R) chg c2 c3 c4 c5 c6 c7
      rw [e6_addRule hR, ob_s] at eC
      refine ⟨nI R, chg + 1, 0, -1, R + 1, _, _, _, _, _, _, _, eC, e11_rule_ok h thr known ws hR m, ?_, Or.inr ⟨rfl, rfl, rfl, rfl⟩⟩
      · refine ⟨hR, fun k hk => ?_⟩
        by_cases e : k = R
        · subst e
          obtain ⟨o1, o2, o3, o4, o5, o6⟩ := h
          have u : ∀ (f : Nat → Int32) (x : Int32), upd f k x k = x := fun f x => by simp [upd]
          simp only [u]
          refine ⟨⟨o1, o2, o3, o4, fun z => ?_, fun z => ?_⟩, fun z => if_pos z, fun z => if_neg z, ?_, ?_, ?_, ?_, fun z => ?_, fun z => ?_⟩
          · rw [if_neg z]; exact o5 z
          · rw [if_pos z]; exact o6 z
          · simp [upd]
          · simp [upd]
          · simp [upd]
          · simp [upd]
          · rw [if_neg z]; simp [upd]
          · rw [if_pos z]; simp [upd]
        · have hk2 : k < R := by omega
          have u : ∀ (f : Nat → Int32) (x : Int32), upd f R x k = f k := fun f x => by simp [upd, e]
          obtain ⟨a1, a2, a3, a4, a5, a6, a7, a8, a9⟩ := hr.2 k hk2
          have v : ∀ i, i < 6 → upd (upd (upd (upd (upd (upd m (6 * R) p) (6 * R + 1) g) (6 * R + 2) q) (6 * R + 3) n) (6 * R + 4) w1) (6 * R + 5) w2 (6 * k + i) = m (6 * k + i) := by
            intro i hi
            have n0 : ¬ 6 * k + i = 6 * R := by omega
            have n1 : ¬ 6 * k + i = 6 * R + 1 := by omega
            have n2 : ¬ 6 * k + i = 6 * R + 2 := by omega
            have n3 : ¬ 6 * k + i = 6 * R + 3 := by omega
            have n4 : ¬ 6 * k + i = 6 * R + 4 := by omega
            have n5 : ¬ 6 * k + i = 6 * R + 5 := by omega
            simp only [upd, if_neg n0, if_neg n1, if_neg n2, if_neg n3, if_neg n4, if_neg n5]
          have v0 := v 0 (by omega)
          simp only [u]
          rw [Nat.add_zero] at v0
          refine ⟨a1, a2, a3, v0.trans a4, (v 1 (by omega)).trans a5, (v 2 (by omega)).trans a6, (v 3 (by omega)).trans a7, fun z => (v 4 (by omega)).trans (a8 z), fun z => (v 5 (by omega)).trans (a9 z)⟩
    · have hR2 : R = 48 := by have := hr.1; omega
      subst hR2
      have eC := e10_rule_ok h (nI 48) chg c2 c3 c4 c5 c6 c7
      rw [e6_addRule_full, ob_s] at eC
      exact ⟨-3, chg, known, ws, 48, _, _, _, _, _, _, _, eC, e11_rule_full h thr known ws m, hr, Or.inl ⟨rfl, rfl, rfl, rfl, rfl, rfl, rfl, rfl, rfl, rfl, rfl⟩⟩
  · exact ⟨-2, chg, known, ws, R, _, _, _, _, _, _, _, e10_rule_bad h _ _ _ _ _ _ _ _, e11_rule_bad h _ _ _ _ _, hr, Or.inl ⟨rfl, rfl, rfl, rfl, rfl, rfl, rfl, rfl, rfl, rfl, rfl⟩⟩
