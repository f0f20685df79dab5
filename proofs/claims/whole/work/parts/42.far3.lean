/-! ===== pure rows 13: a round over all rules (class) ===== -/
/-- the rules as numbers -/
def ruN (R : Nat) (c4 c5 c6 c7 c8 c9 : Nat → Int32) (pr : Nat → Nat → Nat) : Prop := R ≤ 48 ∧ ∀ r, r < R → (pr 0 r < 8 ∧ pr 1 r < 12 ∧ pr 2 r < 8 ∧ pr 3 r ≤ 2 ∧ pr 4 r < 12 ∧ pr 5 r < 12) ∧ c4 r = nI (pr 0 r) ∧ c5 r = nI (pr 1 r) ∧ c7 r = nI (pr 2 r) ∧ c6 r = nI (pr 3 r) ∧ c8 r = nI (pr 4 r) ∧ c9 r = nI (pr 5 r)
def clAll (x : Nat → Nat) (R : Nat) (pr : Nat → Nat → Nat) : Prop := ∀ r, r < R → clR x (pr 0 r) (pr 1 r) (pr 2 r) (pr 3 r) (pr 4 r) (pr 5 r)
theorem clR_congr {x x2 : Nat → Nat} {p g q n w1 w2 : Nat} (hp : p < 8) (hg : g < 12) (hq : q < 8) (hw1 : w1 < 12) (hw2 : w2 < 12) (h : ∀ j, j < 3072 → x2 j = x j) (hc : clR x2 p g q n w1 w2) : clR x p g q n w1 w2 := by
  have hA := rw16_le (a := p) (s := g) (by omega) hg
  have hB := rw16_le (a := q) (s := w1) (by omega) hw1
  obtain ⟨h0, h1, h2⟩ := hc
  refine ⟨fun k => ?_, fun k t z1 z2 => ?_, fun k m z1 z2 t z3 z4 => ?_⟩
  · have := h0 k
    rw [h _ (by omega)] at this; exact this
  · have := h1 k t z1 (by rw [h _ (by omega)]; exact z2)
    rw [h _ (by omega), h _ (by omega)] at this; exact this
  · have hC := rw16_le (a := m) (s := w2) z1 hw2
    have := h2 k m z1 (by rw [h _ (by omega)]; exact z2) t z3 (by rw [h _ (by omega)]; exact z4)
    rw [h _ (by omega), h _ (by omega), h _ (by omega)] at this; exact this
theorem prR_mono {x x1 x2 y2 : Nat → Nat} {p g q n w1 w2 : Nat} (h : ∀ j, x1 j ≤ x j) (h2 : ∀ j, x2 j ≤ y2 j) (hp : prR x1 y2 p g q n w1 w2) : prR x x2 p g q n w1 w2 := by
  obtain ⟨a, b, c⟩ := hp
  refine ⟨fun k => Nat.le_trans (h2 _) (a k), fun k t z1 z2 => Nat.le_trans (h2 _) (Nat.le_trans (b k t z1 (Nat.lt_of_le_of_lt (h _) z2)) ?_), fun k m z1 z2 t z3 z4 => Nat.le_trans (h2 _) (Nat.le_trans (c k m z1 (Nat.lt_of_le_of_lt (h _) z2) t z3 (Nat.lt_of_le_of_lt (h _) z4)) ?_)⟩
  · exact Nat.le_min.mpr ⟨Nat.le_trans (Nat.min_le_left _ _) (Nat.add_le_add_right (h _) 1), Nat.min_le_right _ _⟩
  · exact Nat.le_min.mpr ⟨Nat.le_trans (Nat.min_le_left _ _) (Nat.add_le_add (h _) (Nat.add_le_add_right (h _) 1)), Nat.min_le_right _ _⟩
theorem l48_l {R : Nat} {chg : Int32} {c2 c4 c5 c6 c7 c8 c9 : Nat → Int32} {pr : Nat → Nat → Nat} (hR : ruN R c4 c5 c6 c7 c8 c9 pr) (k34 : Int32 → Int32 → Int32 → (Nat → Int32) → Option (Int32 × (Nat → Int32))) (y2 sa : Int32) :
    ∀ (k i n : Nat) (f : Int32) (x : Nat → Nat) (c : Nat → Int32), i + k = R → k < n → (f = 0 ∨ f = 1) → tb x c →
      ∃ (b : Int32) (x2 : Nat → Nat) (d : Nat → Int32), fX1_bringUpToDate_l48 (nI R) chg c2 c4 c5 c6 c7 c8 c9 k34 n f y2 (nI i) sa c = k34 b (y2 + 1) sa d ∧ tb x2 d ∧ (∀ j, x2 j ≤ x j) ∧ (b = 0 ∨ b = 1) ∧ (b = 0 ↔ (f = 0 ∧ ∀ j, j < 3072 → x2 j = x j)) ∧
        (b = 0 → ∀ r, i ≤ r → r < R → clR x (pr 0 r) (pr 1 r) (pr 2 r) (pr 3 r) (pr 4 r) (pr 5 r)) ∧ (∀ y : Nat → Nat, (∀ j, j < 3072 → y j ≤ x j) → clAll y R pr → ∀ j, j < 3072 → y j ≤ x2 j) ∧
        (∀ I : (Nat → Nat) → Prop, I x → (∀ r x' x'', r < R → stR (pr 0 r) (pr 1 r) (pr 2 r) (pr 3 r) (pr 4 r) (pr 5 r) x' x'' → I x' → I x'') → I x2) ∧ (∀ r, i ≤ r → r < R → prR x x2 (pr 0 r) (pr 1 r) (pr 2 r) (pr 3 r) (pr 4 r) (pr 5 r)) := by
  have hR48 := hR.1
  intro k
  induction k with
  | zero =>
    intro i n f x c g1 g2 hf ht
    obtain ⟨n, rfl⟩ : ∃ z, n = z + 1 := ⟨n - 1, by omega⟩
    refine ⟨f, x, c, ?_, ht, fun j => Nat.le_refl _, hf, ⟨fun k => ⟨k, fun _ _ => rfl⟩, fun k => k.1⟩, fun _ t z1 z2 => by omega, fun y hy _ => hy, fun I hI _ => hI, fun r z1 z2 => by omega⟩
    show fX1_bringUpToDate_b48 (nI R) chg c2 c4 c5 c6 c7 c8 c9 k34 _ f y2 (nI i) sa c = _
    unfold fX1_bringUpToDate_b48
    rw [if_pos (nI_le (by omega) (by omega))]
    simp only [nm]
  | succ k ih =>
    intro i n f x c g1 g2 hf ht
    obtain ⟨n, rfl⟩ : ∃ z, n = z + 1 := ⟨n - 1, by omega⟩
    obtain ⟨⟨p1, p2, p3, p4, p5, p6⟩, a1, a2, a3, a4, a5, a6⟩ := hR.2 i (by omega)
    obtain ⟨b1, x1, d1, e1, t1, le1, z1, w1, cl1, sd1, iv1, pr1⟩ := e1_useRule (show i < 48 by omega) p1 p2 p3 p4 p5 p6 a1 a2 a4 a3 a5 a6 ht
    obtain ⟨o1, o2⟩ := or_bz hf z1
    obtain ⟨b, x2, d, e2, t2, le2, hb, hb0, hcl, hsd, hinv, hpr⟩ := ih (i + 1) n (f ||| b1) x1 d1 (by omega) (by omega) o1 t1
    refine ⟨b, x2, d, ?_, t2, fun j => Nat.le_trans (le2 j) (le1 j), hb, ?_, ?_, ?_, fun I hI hs => hinv I (iv1 I hI (fun x' x'' q1 q2 => hs i x' x'' (by omega) q1 q2)) hs, fun r z2 z3 => ?_⟩
    · show fX1_bringUpToDate_b48 (nI R) chg c2 c4 c5 c6 c7 c8 c9 k34 _ f y2 (nI i) sa c = _
      unfold fX1_bringUpToDate_b48
      rw [if_neg (nI_ge (by omega) (by omega)), e1, ob_s]
      simp only [nm, nI_1]
      exact e2
    · constructor
      · intro h0
        obtain ⟨q1, q2⟩ := hb0.mp h0
        obtain ⟨q3, q4⟩ := o2.mp q1
        exact ⟨q3, fun j hj => (q2 j hj).trans (w1.mp q4 j hj)⟩
      · rintro ⟨q3, q4⟩
        have hs : ∀ j, j < 3072 → x1 j = x j := fun j hj => Nat.le_antisymm (le1 j) (by rw [← q4 j hj]; exact le2 j)
        exact hb0.mpr ⟨o2.mpr ⟨q3, w1.mpr hs⟩, fun j hj => (q4 j hj).trans (hs j hj).symm⟩
    · intro h0 r z2 z3
      obtain ⟨q1, q2⟩ := hb0.mp h0
      obtain ⟨q3, q4⟩ := o2.mp q1
      by_cases e : r = i
      · subst e; exact cl1 q4
      · obtain ⟨⟨r1, r2, r3, r4, r5, r6⟩, -⟩ := hR.2 r z3
        exact clR_congr r1 r2 r3 r5 r6 (fun j hj => w1.mp q4 j hj) (hcl h0 r (by omega) z3)
    · intro y hy hcy
      exact hsd y (sd1 y hy (hcy i (by omega))) hcy
    · by_cases e : r = i
      · subst e; exact prR_mono (fun j => Nat.le_refl _) le2 pr1
      · exact prR_mono le1 (fun j => Nat.le_refl _) (hpr r (by omega) z3)
