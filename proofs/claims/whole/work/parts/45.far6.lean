/-! ===== pure rows 16: a round that lowers settles one more entry ===== -/
def vals (z : Nat → Nat) : Prop := ∀ j, j < 3072 → z j ≤ 1000000 ∨ z j = 536870912
theorem grow {D x x2 y0 : Nat → Nat} {R : Nat} {pr : Nat → Nat → Nat} (hb : ∀ r, r < R → pr 0 r < 8 ∧ pr 1 r < 12 ∧ pr 2 r < 8 ∧ pr 3 r ≤ 2 ∧ pr 4 r < 12 ∧ pr 5 r < 12) (vD : vals D) (vx : vals x) (v2 : vals x2)
    (h1 : ∀ j, j < 3072 → D j ≤ x2 j) (h2 : ∀ j, x2 j ≤ x j) (h3 : ∀ j, j < 3072 → x j ≤ y0 j) (hs : sup y0 D R pr) (hp : ∀ r, r < R → prR x x2 (pr 0 r) (pr 1 r) (pr 2 r) (pr 3 r) (pr 4 r) (pr 5 r)) (hl : ∃ j, j < 3072 ∧ x2 j < x j) :
    ∃ j, j < 3072 ∧ ¬ x j = D j ∧ x2 j = D j := by
  obtain ⟨j0, k1, k2⟩ := hl
  obtain ⟨v, ⟨j, hj, hv, hlt⟩, hmin⟩ := pk_least (fun v => ∃ j, j < 3072 ∧ D j = v ∧ D j < x j) ⟨D j0, j0, k1, rfl, Nat.lt_of_le_of_lt (h1 j0 k1) k2⟩
  have small : ∀ i, i < 3072 → D i < v → x i = D i := by
    intro i hi hd
    refine Nat.le_antisymm (Nat.not_lt.mp (fun h => hmin (D i) hd ⟨i, hi, rfl, h⟩)) (Nat.le_trans (h1 i hi) (h2 i))
  by_cases hM : D j < 1000000
  · refine ⟨j, hj, fun h => by omega, Nat.le_antisymm ?_ (h1 j hj)⟩
    obtain ⟨r, hr, hd⟩ := hs j (Nat.lt_of_lt_of_le hlt (h3 j hj))
    obtain ⟨b0, b1, b2, b3, b4, b5⟩ := hb r hr
    obtain ⟨p0, p1, p2⟩ := hp r hr
    have hB := rw16_le (a := pr 2 r) (s := pr 4 r) (by omega) b4
    rcases hd with ⟨e, q1, q2⟩ | ⟨e, t, q1, q2, q3, q4⟩ | ⟨e, m, t, q1, q2, q3, q4, q5, q6⟩
    · have := p0 e
      rw [q1] at q2 ⊢
      exact Nat.le_trans this q2
    · have q5 : D (rw16 (pr 2 r) (pr 4 r) + t) + 1 ≤ D j := by
        rcases Nat.le_total (D (rw16 (pr 2 r) (pr 4 r) + t) + 1) 1000000 with h | h
        · rw [Nat.min_eq_left h] at q4; exact q4
        · rw [Nat.min_eq_right h] at q4; omega
      have e1 := small (rw16 (pr 2 r) (pr 4 r) + t) (by omega) (by omega)
      have := p1 e t q1 (by rw [e1]; exact q3)
      rw [e1] at this
      rw [q2] at q4 ⊢
      exact Nat.le_trans this q4
    · have hC := rw16_le (a := m) (s := pr 5 r) q1 b5
      have q7 : D (rw16 m (pr 5 r) + t) + (D (rw16 (pr 2 r) (pr 4 r) + m) + 1) ≤ D j := by
        rcases Nat.le_total (D (rw16 m (pr 5 r) + t) + (D (rw16 (pr 2 r) (pr 4 r) + m) + 1)) 1000000 with h | h
        · rw [Nat.min_eq_left h] at q6; exact q6
        · rw [Nat.min_eq_right h] at q6; omega
      have e1 := small (rw16 (pr 2 r) (pr 4 r) + m) (by omega) (by omega)
      have e2 := small (rw16 m (pr 5 r) + t) (by omega) (by omega)
      have := p2 e m q1 (by rw [e1]; exact q4) t q2 (by rw [e2]; exact q5)
      rw [e1, e2] at this
      rw [q3] at q6 ⊢
      exact Nat.le_trans this q6
  · have hD0 : ¬ D j0 < v := fun h => by have := small j0 k1 h; have := h1 j0 k1; omega
    have a1 := h1 j0 k1
    have a2 := vx j0 k1
    have a3 := v2 j0 k1
    refine ⟨j0, k1, fun h => by omega, ?_⟩
    omega
