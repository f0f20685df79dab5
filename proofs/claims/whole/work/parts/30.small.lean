/-! ===== pure rows 1: range tests, push and drop ===== -/
theorem e_isState (a : Int32) : fX10_isState a = some (if a < 0 ∨ 8 ≤ a then 0 else 1, ()) := by
  unfold fX10_isState fX10_isState_p14 fX10_isState_p15
  by_cases h : a < 0 <;> by_cases h2 : 8 ≤ a <;> simp [h, h2, bd, bz]
theorem e_isSign (a : Int32) : fX10_isSign a = some (if a < 0 ∨ 12 ≤ a then 0 else 1, ()) := by
  unfold fX10_isSign fX10_isSign_p14 fX10_isSign_p15
  by_cases h : a < 0 <;> by_cases h2 : 12 ≤ a <;> simp [h, h2, bd, bz]
theorem e_isNode (a : Int32) : fX10_isNode a = some (if a < 0 ∨ 16 ≤ a then 0 else 1, ()) := by
  unfold fX10_isNode fX10_isNode_p14 fX10_isNode_p15
  by_cases h : a < 0 <;> by_cases h2 : 16 ≤ a <;> simp [h, h2, bd, bz]
theorem e_in (a lo hi : Int32) : fX11_in a lo hi = some (if a < lo ∨ hi < a then 0 else 1, ()) := by
  unfold fX11_in fX11_in_p14 fX11_in_p15
  by_cases h : a < lo <;> by_cases h2 : hi < a <;> simp [h, h2, bd, bz]
theorem inb_nI {j n : Nat} (h : j < n) (hn : n < 2 ^ 31) : inb (nI j) n = true := by
  have h1 := nI_pos (n := j) (by omega)
  have h2 := nI_clamp (n := j) (by omega)
  simp [inb, h1, h2, h]
theorem lt_11_12 (a : Int32) : (11 : Int32) < a ↔ (12 : Int32) ≤ a := by
  rw [Int32.lt_iff_toInt_lt, Int32.le_iff_toInt_le]
  have h1 : (11 : Int32).toInt = 11 := by decide
  have h2 : (12 : Int32).toInt = 12 := by decide
  omega
theorem lt_7_8 (a : Int32) : (7 : Int32) < a ↔ (8 : Int32) ≤ a := by
  rw [Int32.lt_iff_toInt_lt, Int32.le_iff_toInt_le]
  have h1 : (7 : Int32).toInt = 7 := by decide
  have h2 : (8 : Int32).toInt = 8 := by decide
  omega
theorem lt_15_16 (a : Int32) : (15 : Int32) < a ↔ (16 : Int32) ≤ a := by
  rw [Int32.lt_iff_toInt_lt, Int32.le_iff_toInt_le]
  have h1 : (15 : Int32).toInt = 15 := by decide
  have h2 : (16 : Int32).toInt = 16 := by decide
  omega
/-- push: class and reference, from words that agree -/
theorem pu_push (a : Int32) {n : Nat} (hn : n ≤ 30) {cw cm : Nat → Int32} (hw : ∀ j, j < n → cw j = cm j) (chg thr ws : Int32) :
    ∃ (r chg2 ws2 : Int32) (n2 : Nat) (cw2 cm2 : Nat → Int32), fX10_push a (nI n) chg cw = some (r, nI n2, chg2, cw2) ∧ fX11_push a thr (nI n) ws cm = some (r, 0, nI n2, ws2, cm2) ∧ n2 ≤ 30 ∧ (∀ j, j < n2 → cw2 j = cm2 j) ∧
      (n2 = n → chg2 = chg ∧ ws2 = ws ∧ cw2 = cw) ∧ (n2 ≠ n → chg2 = chg + 1 ∧ ws2 = -1 ∧ n2 = n + 1 ∧ ¬ a < 0 ∧ ¬ 12 ≤ a ∧ cw2 n = a ∧ cm2 n = a ∧ (∀ j, j < n → cw2 j = cw j)) := by
  unfold fX10_push fX11_push
  rw [e_isSign, e_in]
  by_cases h : a < 0 ∨ 12 ≤ a
  · have h2 : a < 0 ∨ 11 < a := h.imp id (lt_11_12 a).mpr
    simp only [ob, if_pos h, if_pos h2, fX10_push_p20]
    exact ⟨_, _, _, n, _, _, rfl, rfl, hn, hw, fun _ => ⟨rfl, rfl, rfl⟩, fun h => absurd rfl h⟩
  · have h2 : ¬ (a < 0 ∨ 11 < a) := fun k => h (k.imp id (lt_11_12 a).mp)
    simp only [ob, if_neg h, if_neg h2, fX10_push_p20, fX6_addToWord]
    have e1 : ¬ (1 : Int32) = 0 := by decide
    simp only [if_neg e1]
    by_cases h3 : n = 30
    · subst h3
      have e2 : ¬ nI 30 < 30 := by decide
      have e3 : nI 30 = 30 := by decide
      simp only [if_neg e2, if_pos e3]
      exact ⟨_, _, _, 30, _, _, rfl, rfl, hn, hw, fun _ => ⟨rfl, rfl, rfl⟩, fun h => absurd rfl h⟩
    · have h4 : n < 30 := by omega
      have e2 : nI n < 30 := nI_lt (a := n) (b := 30) h4 (by decide)
      have e3 : ¬ nI n = 30 := fun k => h3 ((nI_eq (a := n) (b := 30) (by omega) (by decide)).mp k)
      have e4 := inb_nI h4 (by decide)
      have e5 := nI_clamp (n := n) (by omega)
      simp only [if_pos e2, if_neg e3, e4, bd, nm, e5, nI_1]
      refine ⟨_, _, _, n + 1, _, _, rfl, rfl, h4, ?_, fun k => absurd k (by omega), fun _ => ⟨rfl, rfl, rfl, fun k => h (Or.inl k), fun k => h (Or.inr k), by simp [upd], by simp [upd], fun j hj => by simp [upd, Nat.ne_of_lt hj]⟩⟩
      intro j hj
      by_cases hjn : j = n
      · subst hjn; simp [upd]
      · simp only [upd, if_neg hjn]; exact hw j (by omega)
