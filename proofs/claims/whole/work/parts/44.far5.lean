/-! ===== pure rows 15: entries below their start are supported ===== -/
/-- a rule derives no more than v at j from the table x -/
def dvR (p g q n w1 w2 : Nat) (x : Nat → Nat) (j v : Nat) : Prop := (n = 0 ∧ j = rw16 p g + q ∧ 1 ≤ v) ∨ (n = 1 ∧ ∃ t, t < 16 ∧ j = rw16 p g + t ∧ x (rw16 q w1 + t) < 536870912 ∧ min (x (rw16 q w1 + t) + 1) 1000000 ≤ v) ∨
  (n = 2 ∧ ∃ m t, m < 16 ∧ t < 16 ∧ j = rw16 p g + t ∧ x (rw16 q w1 + m) < 536870912 ∧ x (rw16 m w2 + t) < 536870912 ∧ min (x (rw16 m w2 + t) + (x (rw16 q w1 + m) + 1)) 1000000 ≤ v)
theorem min_mono {a b c : Nat} (h : a ≤ b) : min a c ≤ min b c := Nat.le_min.mpr ⟨Nat.le_trans (Nat.min_le_left _ _) h, Nat.min_le_right _ _⟩
theorem dvR_mono {p g q n w1 w2 : Nat} {x x2 : Nat → Nat} {j v : Nat} (h : ∀ j, x2 j ≤ x j) (hd : dvR p g q n w1 w2 x j v) : dvR p g q n w1 w2 x2 j v := by
  rcases hd with h0 | ⟨h1, t, a1, a2, a3, a4⟩ | ⟨h2, m, t, a1, a2, a3, a4, a5, a6⟩
  · exact Or.inl h0
  · exact Or.inr (Or.inl ⟨h1, t, a1, a2, Nat.lt_of_le_of_lt (h _) a3, Nat.le_trans (min_mono (Nat.add_le_add_right (h _) 1)) a4⟩)
  · exact Or.inr (Or.inr ⟨h2, m, t, a1, a2, a3, Nat.lt_of_le_of_lt (h _) a4, Nat.lt_of_le_of_lt (h _) a5, Nat.le_trans (min_mono (Nat.add_le_add (h _) (Nat.add_le_add_right (h _) 1))) a6⟩)
def sup (y0 x : Nat → Nat) (R : Nat) (pr : Nat → Nat → Nat) : Prop := ∀ j, x j < y0 j → ∃ r, r < R ∧ dvR (pr 0 r) (pr 1 r) (pr 2 r) (pr 3 r) (pr 4 r) (pr 5 r) x j (x j)
theorem sup_low {y0 x : Nat → Nat} {R : Nat} {pr : Nat → Nat → Nat} {at' v : Nat} (hs : sup y0 x R pr) (hd : ∃ r, r < R ∧ dvR (pr 0 r) (pr 1 r) (pr 2 r) (pr 3 r) (pr 4 r) (pr 5 r) x at' (min v 1000000)) : sup y0 (lowA x at' v) R pr := by
  intro j hj
  have hle : ∀ j, lowA x at' v j ≤ x j := lowA_le x at' v
  by_cases e : j = at'
  · subst e
    by_cases h : min v 1000000 < x j
    · have e1 : lowA x j v j = min v 1000000 := by unfold lowA; rw [if_pos rfl]; exact Nat.min_eq_right (Nat.le_of_lt h)
      obtain ⟨r, hr, hd⟩ := hd
      rw [e1]
      exact ⟨r, hr, dvR_mono hle hd⟩
    · have e1 : lowA x j v j = x j := by unfold lowA; rw [if_pos rfl]; exact Nat.min_eq_left (Nat.not_lt.mp h)
      rw [e1] at hj ⊢
      obtain ⟨r, hr, hd⟩ := hs j hj
      exact ⟨r, hr, dvR_mono hle hd⟩
  · have e1 : lowA x at' v j = x j := by unfold lowA; rw [if_neg e]
    rw [e1] at hj ⊢
    obtain ⟨r, hr, hd⟩ := hs j hj
    exact ⟨r, hr, dvR_mono hle hd⟩
theorem sup_step {y0 : Nat → Nat} {R : Nat} {pr : Nat → Nat → Nat} : ∀ r x x2, r < R → stR (pr 0 r) (pr 1 r) (pr 2 r) (pr 3 r) (pr 4 r) (pr 5 r) x x2 → sup y0 x R pr → sup y0 x2 R pr := by
  intro r x x2 hr hst hs
  rcases hst with ⟨h0, rfl⟩ | ⟨h1, t, a1, a2, rfl⟩ | ⟨h2, m, t, v, a1, a2, a3, a4, a5, rfl⟩
  · exact sup_low hs ⟨r, hr, Or.inl ⟨h0, rfl, by decide⟩⟩
  · exact sup_low hs ⟨r, hr, Or.inr (Or.inl ⟨h1, t, a1, rfl, a2, Nat.le_refl _⟩)⟩
  · exact sup_low hs ⟨r, hr, Or.inr (Or.inr ⟨h2, m, t, a1, a2, rfl, Nat.lt_of_le_of_lt a3 a4, a5, min_mono (Nat.add_le_add_left (Nat.add_le_add_right a3 1) _)⟩)⟩
theorem sup_start (y0 : Nat → Nat) (R : Nat) (pr : Nat → Nat → Nat) : sup y0 y0 R pr := fun _ h => absurd h (Nat.lt_irrefl _)
