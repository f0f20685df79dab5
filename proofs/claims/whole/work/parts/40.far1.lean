/-! ===== pure rows 11: lower, lowerRow (class): tables of numbers ===== -/
def tb (x : Nat → Nat) (c : Nat → Int32) : Prop := ∀ j, j < 3072 → c j = nI (x j) ∧ (x j ≤ 1000000 ∨ x j = 536870912)
def lowA (x : Nat → Nat) (at' v : Nat) : Nat → Nat := fun j => if j = at' then min (x j) (min v 1000000) else x j
theorem lowA_le (x : Nat → Nat) (at' v j : Nat) : lowA x at' v j ≤ x j := by
  unfold lowA
  by_cases h : j = at'
  · rw [if_pos h]; exact Nat.min_le_left _ _
  · rw [if_neg h]; exact Nat.le_refl _
theorem capI {v : Nat} (hv : v < 2 ^ 30) : (if (1000000 : Int32) < nI v then (1000000 : Int32) else nI v) = nI (min v 1000000) := by
  by_cases h : 1000000 < v
  · have h1 : (1000000 : Int32) < nI v := nI_lt (a := 1000000) (b := v) h (by omega)
    rw [if_pos h1, Nat.min_eq_right (by omega)]; rfl
  · have h1 : ¬ (1000000 : Int32) < nI v := nI_nlt (a := 1000000) (b := v) (by omega) (by decide)
    rw [if_neg h1, Nat.min_eq_left (by omega)]
theorem e1_lower {at' v : Nat} (hat : at' < 3072) (hv : v < 2 ^ 30) {x : Nat → Nat} {c : Nat → Int32} (ht : tb x c) :
    ∃ (b : Int32) (d : Nat → Int32), fX1_lower (nI at') (nI v) c = some (b, d) ∧ tb (lowA x at' v) d ∧ (b = 0 ∨ b = 1) ∧ (b = 0 ↔ x at' ≤ min v 1000000) := by
  obtain ⟨h1, h2⟩ := ht at' hat
  unfold fX1_lower
  simp only [nm, capI hv, inb_nI hat (by decide), bd, nI_clamp (n := at') (by omega), h1]
  have hm : min v 1000000 ≤ 1000000 := Nat.min_le_right _ _
  by_cases h : min v 1000000 < x at'
  · have h3 : nI (min v 1000000) < nI (x at') := nI_lt h (by omega)
    rw [if_pos h3]
    refine ⟨1, _, rfl, fun j hj => ?_, Or.inr rfl, ⟨fun k => absurd k n10, fun k => by omega⟩⟩
    by_cases e : j = at'
    · subst e
      have e1 : lowA x j v j = min v 1000000 := by unfold lowA; rw [if_pos rfl]; omega
      rw [e1]
      exact ⟨by simp [upd], Or.inl hm⟩
    · have e1 : lowA x at' v j = x j := by unfold lowA; rw [if_neg e]
      rw [e1]
      exact ⟨by simp [upd, e, (ht j hj).1], (ht j hj).2⟩
  · have h3 : ¬ nI (min v 1000000) < nI (x at') := nI_nlt (by omega) (by omega)
    rw [if_neg h3]
    refine ⟨0, _, rfl, fun j hj => ?_, Or.inl rfl, ⟨fun _ => by omega, fun _ => rfl⟩⟩
    have e1 : lowA x at' v j = x j := by
      unfold lowA
      by_cases e : j = at'
      · subst e; rw [if_pos rfl]; omega
      · rw [if_neg e]
    rw [e1]; exact ht j hj
theorem or_bz {a b : Int32} (ha : a = 0 ∨ a = 1) (hb : b = 0 ∨ b = 1) : ((a ||| b) = 0 ∨ (a ||| b) = 1) ∧ ((a ||| b) = 0 ↔ a = 0 ∧ b = 0) := by
  rcases ha with rfl | rfl <;> rcases hb with rfl | rfl <;> decide
/-- what a lowering may do: no entry rises; nothing that is closed is passed -/
def okLow (x x2 : Nat → Nat) (b : Int32) : Prop := (∀ j, x2 j ≤ x j) ∧ (b = 0 ∨ b = 1) ∧ (b = 0 ↔ ∀ j, j < 3072 → x2 j = x j)
theorem lowerRow_l {tgt src more : Nat} (h1 : tgt + 16 ≤ 3072) (h2 : src + 16 ≤ 3072) (hm : more ≤ 1000001) :
    ∀ (k i n : Nat) (f : Int32) (x : Nat → Nat) (c : Nat → Int32), i + k = 16 → k < n → (f = 0 ∨ f = 1) → tb x c →
      ∃ (b : Int32) (x2 : Nat → Nat) (d : Nat → Int32), fX1_lowerRow_l6 n (nI tgt) (nI src) (nI more) f (nI i) c = some (b, d) ∧ tb x2 d ∧ (∀ j, x2 j ≤ x j) ∧ (b = 0 ∨ b = 1) ∧ (b = 0 ↔ (f = 0 ∧ ∀ j, j < 3072 → x2 j = x j)) ∧
        (b = 0 → ∀ t, i ≤ t → t < 16 → x (src + t) < 536870912 → x (tgt + t) ≤ min (x (src + t) + more) 1000000) ∧
        (∀ y : Nat → Nat, (∀ j, j < 3072 → y j ≤ x j) → (∀ t v, t < 16 → y (src + t) ≤ v → v < 536870912 → y (tgt + t) ≤ min (v + more) 1000000) → ∀ j, j < 3072 → y j ≤ x2 j) ∧
        (∀ I : (Nat → Nat) → Prop, I x → (∀ (x' : Nat → Nat) (t : Nat), t < 16 → (∀ j, x' j ≤ x j) → x' (src + t) < 536870912 → I x' → I (lowA x' (tgt + t) (x' (src + t) + more))) → I x2) ∧
        (∀ t, i ≤ t → t < 16 → x (src + t) < 536870912 → x2 (tgt + t) ≤ min (x (src + t) + more) 1000000) := by
  intro k
  induction k with
  | zero =>
    intro i n f x c g1 g2 hf ht
    obtain ⟨n, rfl⟩ : ∃ z, n = z + 1 := ⟨n - 1, by omega⟩
    refine ⟨f, x, c, ?_, ht, fun j => Nat.le_refl _, hf, ⟨fun k => ⟨k, fun _ _ => rfl⟩, fun k => k.1⟩, fun _ t z1 z2 => by omega, fun y hy _ => hy, fun I hI _ => hI, fun t z1 z2 => by omega⟩
    show fX1_lowerRow_b6 _ (nI tgt) (nI src) (nI more) f (nI i) c = _
    unfold fX1_lowerRow_b6
    have h16 : (16 : Int32) ≤ nI i := nI_le (a := 16) (b := i) (by omega) (by omega)
    rw [if_pos h16]
    rcases hf with rfl | rfl <;> rfl
  | succ k ih =>
    intro i n f x c g1 g2 hf ht
    obtain ⟨n, rfl⟩ : ∃ z, n = z + 1 := ⟨n - 1, by omega⟩
    have h16 : ¬ (16 : Int32) ≤ nI i := nI_ge (a := i) (b := 16) (by omega) (by omega)
    obtain ⟨s1, s2⟩ := ht (src + i) (by omega)
    by_cases hE : x (src + i) < 536870912
    · have hE2 : ¬ (536870912 : Int32) ≤ nI (x (src + i)) := nI_ge (a := x (src + i)) (b := 536870912) hE (by decide)
      obtain ⟨b1, d1, e1, t1, z1, w1⟩ := e1_lower (at' := tgt + i) (v := x (src + i) + more) (by omega) (by omega) ht
      obtain ⟨o1, o2⟩ := or_bz hf z1
      obtain ⟨b, x2, d, e2, t2, le2, hb, hb0, hcl, hsd, hinv, hpr⟩ := ih (i + 1) n (f ||| b1) (lowA x (tgt + i) (x (src + i) + more)) d1 (by omega) (by omega) o1 t1
      refine ⟨b, x2, d, ?_, t2, fun j => Nat.le_trans (le2 j) (lowA_le _ _ _ _), hb, ?_, ?_, ?_, fun I hI hs => hinv I (hs x i (by omega) (fun j => Nat.le_refl _) hE hI) (fun x' t q1 q2 q3 q4 => hs x' t q1 (fun j => Nat.le_trans (q2 j) (lowA_le _ _ _ _)) q3 q4), ?_⟩
      · show fX1_lowerRow_b6 _ (nI tgt) (nI src) (nI more) f (nI i) c = _
        unfold fX1_lowerRow_b6 fX1_lowerRow_p51
        simp only [if_neg h16, nm, nI_add, inb_nI (j := src + i) (n := 3072) (by omega) (by decide), bd, nI_clamp (n := src + i) (by omega), s1, if_neg hE2, e1, ob_s, nI_1]
        exact e2
      · have same : b1 = 0 → ∀ j, lowA x (tgt + i) (x (src + i) + more) j = x j := by
          intro hb1 j
          have := w1.mp hb1
          unfold lowA
          by_cases e : j = tgt + i
          · subst e; rw [if_pos rfl]; omega
          · rw [if_neg e]
        constructor
        · intro h0
          obtain ⟨q1, q2⟩ := hb0.mp h0
          obtain ⟨q3, q4⟩ := o2.mp q1
          exact ⟨q3, fun j hj => (q2 j hj).trans (same q4 j)⟩
        · rintro ⟨q3, q4⟩
          have hq : b1 = 0 := by
            apply w1.mpr
            have hl := le2 (tgt + i)
            rw [q4 (tgt + i) (by omega)] at hl
            unfold lowA at hl
            rw [if_pos rfl] at hl
            omega
          exact hb0.mpr ⟨o2.mpr ⟨q3, hq⟩, fun j hj => (q4 j hj).trans (same hq j).symm⟩
      · intro h0 t z2 z3 z4
        obtain ⟨q1, q2⟩ := hb0.mp h0
        obtain ⟨q3, q4⟩ := o2.mp q1
        have same : ∀ j, lowA x (tgt + i) (x (src + i) + more) j = x j := by
          intro j
          have := w1.mp q4
          unfold lowA
          by_cases e : j = tgt + i
          · subst e; rw [if_pos rfl]; omega
          · rw [if_neg e]
        by_cases e : t = i
        · subst e; exact w1.mp q4
        · have := hcl h0 t (by omega) z3 (by rw [same]; exact z4)
          rw [same, same] at this
          exact this
      · intro y hy hcy
        refine hsd y (fun j hj => ?_) hcy
        unfold lowA
        by_cases e : j = tgt + i
        · subst e
          rw [if_pos rfl]
          have := hcy i (x (src + i)) (by omega) (hy _ (by omega)) hE
          have := hy (tgt + i) hj
          omega
        · rw [if_neg e]; exact hy j hj
      · intro t z2 z3 z4
        by_cases e : t = i
        · subst e
          refine Nat.le_trans (le2 _) ?_
          unfold lowA
          rw [if_pos rfl]
          exact Nat.min_le_right _ _
        · have hl := lowA_le x (tgt + i) (x (src + i) + more) (src + t)
          exact Nat.le_trans (hpr t (by omega) z3 (Nat.lt_of_le_of_lt hl z4)) (Nat.le_min.mpr ⟨Nat.le_trans (Nat.min_le_left _ _) (Nat.add_le_add_right hl _), Nat.min_le_right _ _⟩)
    · have hE2 : (536870912 : Int32) ≤ nI (x (src + i)) := nI_le (a := 536870912) (b := x (src + i)) (by omega) (by omega)
      obtain ⟨b, x2, d, e2, t2, le2, hb, hb0, hcl, hsd, hinv, hpr⟩ := ih (i + 1) n f x c (by omega) (by omega) hf ht
      refine ⟨b, x2, d, ?_, t2, le2, hb, hb0, ?_, hsd, hinv, fun t z2 z3 z4 => ?_⟩
      · show fX1_lowerRow_b6 _ (nI tgt) (nI src) (nI more) f (nI i) c = _
        unfold fX1_lowerRow_b6 fX1_lowerRow_p51
        simp only [if_neg h16, nm, nI_add, inb_nI (j := src + i) (n := 3072) (by omega) (by decide), bd, nI_clamp (n := src + i) (by omega), s1, if_pos hE2, nI_1]
        exact e2
      · intro h0 t z2 z3 z4
        by_cases e : t = i
        · subst e; exact absurd z4 hE
        · exact hcl h0 t (by omega) z3 z4
      · by_cases e : t = i
        · subst e; exact absurd z4 hE
        · exact hpr t (by omega) z3 z4
